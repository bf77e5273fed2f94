section
-- ===== PART A: goes FIRST, ahead of the names: the tables' words, and 'selects' of the private methods out of them =====
/-- a private method of a class that the tables say can be made, by its rows of tables_1 -/
def lw_okq (q : MethodName × Nat) : Prop := (q.1.cls ≠ "java/lang/invoke/MethodHandle" ∧ q.1.cls ≠ "java/lang/invoke/VarHandle") ∧ Cond.instantiable q.1.cls q.2 ∈ tables_1 ∧ Cond.privateMethod q.1 ∈ tables_1 ∧ Cond.instanceMethod q.1 ∈ tables_1
theorem lw_p0 : lw_okq (⟨"PureGroups", "refused", "(I)I"⟩, 16) := ⟨⟨by decide +kernel, by decide +kernel⟩, List.mem_of_getElem? (i := 15) (by decide +kernel), List.mem_of_getElem? (i := 335) (by decide +kernel), List.mem_of_getElem? (i := 336) (by decide +kernel)⟩
theorem lw_p1 : lw_okq (⟨"PureGroups$Elimination", "bringUp", "(I)Z"⟩, 6) := ⟨⟨by decide +kernel, by decide +kernel⟩, List.mem_of_getElem? (i := 97) (by decide +kernel), List.mem_of_getElem? (i := 384) (by decide +kernel), List.mem_of_getElem? (i := 385) (by decide +kernel)⟩
theorem lw_p2 : lw_okq (⟨"PureGroups$Elimination", "clearOthers", "(I)V"⟩, 6) := ⟨⟨by decide +kernel, by decide +kernel⟩, List.mem_of_getElem? (i := 97) (by decide +kernel), List.mem_of_getElem? (i := 388) (by decide +kernel), List.mem_of_getElem? (i := 389) (by decide +kernel)⟩
theorem lw_p3 : lw_okq (⟨"PureGroups", "isQuantity", "(I)Z"⟩, 16) := ⟨⟨by decide +kernel, by decide +kernel⟩, List.mem_of_getElem? (i := 15) (by decide +kernel), List.mem_of_getElem? (i := 396) (by decide +kernel), List.mem_of_getElem? (i := 397) (by decide +kernel)⟩
theorem lw_p4 : lw_okq (⟨"PureGroups", "refusedFar", "(I)I"⟩, 16) := ⟨⟨by decide +kernel, by decide +kernel⟩, List.mem_of_getElem? (i := 15) (by decide +kernel), List.mem_of_getElem? (i := 403) (by decide +kernel), List.mem_of_getElem? (i := 404) (by decide +kernel)⟩
theorem lw_p5 : lw_okq (⟨"PureGroups", "isGroup", "(I)Z"⟩, 16) := ⟨⟨by decide +kernel, by decide +kernel⟩, List.mem_of_getElem? (i := 15) (by decide +kernel), List.mem_of_getElem? (i := 453) (by decide +kernel), List.mem_of_getElem? (i := 454) (by decide +kernel)⟩
theorem lw_p6 : lw_okq (⟨"PureGroups", "isMissing", "(I)Z"⟩, 16) := ⟨⟨by decide +kernel, by decide +kernel⟩, List.mem_of_getElem? (i := 15) (by decide +kernel), List.mem_of_getElem? (i := 482) (by decide +kernel), List.mem_of_getElem? (i := 483) (by decide +kernel)⟩
theorem lw_p7 : lw_okq (⟨"PureGroups", "takeNumbers", "(II[I)Z"⟩, 16) := ⟨⟨by decide +kernel, by decide +kernel⟩, List.mem_of_getElem? (i := 15) (by decide +kernel), List.mem_of_getElem? (i := 486) (by decide +kernel), List.mem_of_getElem? (i := 487) (by decide +kernel)⟩
theorem lw_p8 : lw_okq (⟨"PureGroups", "isPlace", "(II)Z"⟩, 16) := ⟨⟨by decide +kernel, by decide +kernel⟩, List.mem_of_getElem? (i := 15) (by decide +kernel), List.mem_of_getElem? (i := 490) (by decide +kernel), List.mem_of_getElem? (i := 491) (by decide +kernel)⟩
theorem lw_p9 : lw_okq (⟨"PureGroups", "refusedFarLong", "(I)J"⟩, 16) := ⟨⟨by decide +kernel, by decide +kernel⟩, List.mem_of_getElem? (i := 15) (by decide +kernel), List.mem_of_getElem? (i := 509) (by decide +kernel), List.mem_of_getElem? (i := 510) (by decide +kernel)⟩
theorem lw_p10 : lw_okq (⟨"PureGroups", "isSet", "(I)Z"⟩, 16) := ⟨⟨by decide +kernel, by decide +kernel⟩, List.mem_of_getElem? (i := 15) (by decide +kernel), List.mem_of_getElem? (i := 550) (by decide +kernel), List.mem_of_getElem? (i := 551) (by decide +kernel)⟩
theorem lw_p11 : lw_okq (⟨"PureGroups", "isOutside", "(II)Z"⟩, 16) := ⟨⟨by decide +kernel, by decide +kernel⟩, List.mem_of_getElem? (i := 15) (by decide +kernel), List.mem_of_getElem? (i := 569) (by decide +kernel), List.mem_of_getElem? (i := 570) (by decide +kernel)⟩
theorem lw_p12 : lw_okq (⟨"PureGroups$Choice", "lookAtOne", "(I)V"⟩, 9) := ⟨⟨by decide +kernel, by decide +kernel⟩, List.mem_of_getElem? (i := 158) (by decide +kernel), List.mem_of_getElem? (i := 582) (by decide +kernel), List.mem_of_getElem? (i := 583) (by decide +kernel)⟩
theorem lw_p13 : lw_okq (⟨"PureGroups", "isUnbalanced", "([I)Z"⟩, 16) := ⟨⟨by decide +kernel, by decide +kernel⟩, List.mem_of_getElem? (i := 15) (by decide +kernel), List.mem_of_getElem? (i := 630) (by decide +kernel), List.mem_of_getElem? (i := 631) (by decide +kernel)⟩
theorem lw_p14 : lw_okq (⟨"PureGroups$Search", "findRow", "([I)I"⟩, 7) := ⟨⟨by decide +kernel, by decide +kernel⟩, List.mem_of_getElem? (i := 199) (by decide +kernel), List.mem_of_getElem? (i := 667) (by decide +kernel), List.mem_of_getElem? (i := 668) (by decide +kernel)⟩
theorem lw_p15 : lw_okq (⟨"PureGroups$Reading", "readSum", "(I)V"⟩, 13) := ⟨⟨by decide +kernel, by decide +kernel⟩, List.mem_of_getElem? (i := 229) (by decide +kernel), List.mem_of_getElem? (i := 706) (by decide +kernel), List.mem_of_getElem? (i := 707) (by decide +kernel)⟩
def lw_privs_1 : List (MethodName × Nat) := [(⟨"PureGroups", "refused", "(I)I"⟩, 16), (⟨"PureGroups$Elimination", "bringUp", "(I)Z"⟩, 6), (⟨"PureGroups$Elimination", "clearOthers", "(I)V"⟩, 6), (⟨"PureGroups", "isQuantity", "(I)Z"⟩, 16), (⟨"PureGroups", "refusedFar", "(I)I"⟩, 16), (⟨"PureGroups", "isGroup", "(I)Z"⟩, 16), (⟨"PureGroups", "isMissing", "(I)Z"⟩, 16), (⟨"PureGroups", "takeNumbers", "(II[I)Z"⟩, 16), (⟨"PureGroups", "isPlace", "(II)Z"⟩, 16), (⟨"PureGroups", "refusedFarLong", "(I)J"⟩, 16), (⟨"PureGroups", "isSet", "(I)Z"⟩, 16), (⟨"PureGroups", "isOutside", "(II)Z"⟩, 16), (⟨"PureGroups$Choice", "lookAtOne", "(I)V"⟩, 9), (⟨"PureGroups", "isUnbalanced", "([I)Z"⟩, 16), (⟨"PureGroups$Search", "findRow", "([I)I"⟩, 7), (⟨"PureGroups$Reading", "readSum", "(I)V"⟩, 13)]
theorem lw_r1 : ∀ q ∈ lw_privs_1, lw_okq q := List.forall_mem_cons.mpr ⟨lw_p0, List.forall_mem_cons.mpr ⟨lw_p1, List.forall_mem_cons.mpr ⟨lw_p2, List.forall_mem_cons.mpr ⟨lw_p3, List.forall_mem_cons.mpr ⟨lw_p4, List.forall_mem_cons.mpr ⟨lw_p5, List.forall_mem_cons.mpr ⟨lw_p6, List.forall_mem_cons.mpr ⟨lw_p7, List.forall_mem_cons.mpr ⟨lw_p8, List.forall_mem_cons.mpr ⟨lw_p9, List.forall_mem_cons.mpr ⟨lw_p10, List.forall_mem_cons.mpr ⟨lw_p11, List.forall_mem_cons.mpr ⟨lw_p12, List.forall_mem_cons.mpr ⟨lw_p13, List.forall_mem_cons.mpr ⟨lw_p14, List.forall_mem_cons.mpr ⟨lw_p15, fun _ h => absurd h List.not_mem_nil⟩⟩⟩⟩⟩⟩⟩⟩⟩⟩⟩⟩⟩⟩⟩⟩
theorem lw_p16 : lw_okq (⟨"PureGroups$Reading", "readTerm", "(I)V"⟩, 13) := ⟨⟨by decide +kernel, by decide +kernel⟩, List.mem_of_getElem? (i := 229) (by decide +kernel), List.mem_of_getElem? (i := 710) (by decide +kernel), List.mem_of_getElem? (i := 711) (by decide +kernel)⟩
theorem lw_p17 : lw_okq (⟨"PureGroups$Reading", "readPart", "(II)V"⟩, 13) := ⟨⟨by decide +kernel, by decide +kernel⟩, List.mem_of_getElem? (i := 229) (by decide +kernel), List.mem_of_getElem? (i := 714) (by decide +kernel), List.mem_of_getElem? (i := 715) (by decide +kernel)⟩
theorem lw_p18 : lw_okq (⟨"PureGroups$Reading", "readAtom", "(I)[I"⟩, 13) := ⟨⟨by decide +kernel, by decide +kernel⟩, List.mem_of_getElem? (i := 229) (by decide +kernel), List.mem_of_getElem? (i := 718) (by decide +kernel), List.mem_of_getElem? (i := 719) (by decide +kernel)⟩
theorem lw_p19 : lw_okq (⟨"PureGroups$Reading", "next", "()I"⟩, 13) := ⟨⟨by decide +kernel, by decide +kernel⟩, List.mem_of_getElem? (i := 229) (by decide +kernel), List.mem_of_getElem? (i := 722) (by decide +kernel), List.mem_of_getElem? (i := 723) (by decide +kernel)⟩
theorem lw_p20 : lw_okq (⟨"PureGroups$Reading", "readNumber", "()V"⟩, 13) := ⟨⟨by decide +kernel, by decide +kernel⟩, List.mem_of_getElem? (i := 229) (by decide +kernel), List.mem_of_getElem? (i := 729) (by decide +kernel), List.mem_of_getElem? (i := 730) (by decide +kernel)⟩
theorem lw_p21 : lw_okq (⟨"PureGroups$Reading", "readInner", "(II)[I"⟩, 13) := ⟨⟨by decide +kernel, by decide +kernel⟩, List.mem_of_getElem? (i := 229) (by decide +kernel), List.mem_of_getElem? (i := 733) (by decide +kernel), List.mem_of_getElem? (i := 734) (by decide +kernel)⟩
theorem lw_p22 : lw_okq (⟨"PureGroups$Reading", "expect", "(I)V"⟩, 13) := ⟨⟨by decide +kernel, by decide +kernel⟩, List.mem_of_getElem? (i := 229) (by decide +kernel), List.mem_of_getElem? (i := 737) (by decide +kernel), List.mem_of_getElem? (i := 738) (by decide +kernel)⟩
theorem lw_p23 : lw_okq (⟨"PureGroups$Reading", "failHere", "()V"⟩, 13) := ⟨⟨by decide +kernel, by decide +kernel⟩, List.mem_of_getElem? (i := 229) (by decide +kernel), List.mem_of_getElem? (i := 741) (by decide +kernel), List.mem_of_getElem? (i := 742) (by decide +kernel)⟩
theorem lw_p24 : lw_okq (⟨"PureGroups$Reading", "markWrong", "(I)V"⟩, 13) := ⟨⟨by decide +kernel, by decide +kernel⟩, List.mem_of_getElem? (i := 229) (by decide +kernel), List.mem_of_getElem? (i := 746) (by decide +kernel), List.mem_of_getElem? (i := 747) (by decide +kernel)⟩
theorem lw_p25 : lw_okq (⟨"PureGroups$Reading", "readPower", "()I"⟩, 13) := ⟨⟨by decide +kernel, by decide +kernel⟩, List.mem_of_getElem? (i := 229) (by decide +kernel), List.mem_of_getElem? (i := 750) (by decide +kernel), List.mem_of_getElem? (i := 751) (by decide +kernel)⟩
theorem lw_p26 : lw_okq (⟨"PureGroups$Reading", "isNext", "(II)Z"⟩, 13) := ⟨⟨by decide +kernel, by decide +kernel⟩, List.mem_of_getElem? (i := 229) (by decide +kernel), List.mem_of_getElem? (i := 754) (by decide +kernel), List.mem_of_getElem? (i := 755) (by decide +kernel)⟩
theorem lw_p27 : lw_okq (⟨"PureGroupsModel", "refuse", "(I)I"⟩, 27) := ⟨⟨by decide +kernel, by decide +kernel⟩, List.mem_of_getElem? (i := 854) (by decide +kernel), List.mem_of_getElem? (i := 947) (by decide +kernel), List.mem_of_getElem? (i := 948) (by decide +kernel)⟩
theorem lw_p28 : lw_okq (⟨"PureGroupsModel", "isOne", "(I)Z"⟩, 27) := ⟨⟨by decide +kernel, by decide +kernel⟩, List.mem_of_getElem? (i := 854) (by decide +kernel), List.mem_of_getElem? (i := 963) (by decide +kernel), List.mem_of_getElem? (i := 964) (by decide +kernel)⟩
theorem lw_p29 : lw_okq (⟨"PureGroupsModel", "refuseFar", "(I)I"⟩, 27) := ⟨⟨by decide +kernel, by decide +kernel⟩, List.mem_of_getElem? (i := 854) (by decide +kernel), List.mem_of_getElem? (i := 971) (by decide +kernel), List.mem_of_getElem? (i := 972) (by decide +kernel)⟩
theorem lw_p30 : lw_okq (⟨"PureGroupsModel", "changes", "(II)V"⟩, 27) := ⟨⟨by decide +kernel, by decide +kernel⟩, List.mem_of_getElem? (i := 854) (by decide +kernel), List.mem_of_getElem? (i := 976) (by decide +kernel), List.mem_of_getElem? (i := 977) (by decide +kernel)⟩
theorem lw_p31 : lw_okq (⟨"PureGroupsModel", "firm", "()I"⟩, 27) := ⟨⟨by decide +kernel, by decide +kernel⟩, List.mem_of_getElem? (i := 854) (by decide +kernel), List.mem_of_getElem? (i := 988) (by decide +kernel), List.mem_of_getElem? (i := 989) (by decide +kernel)⟩
def lw_privs_2 : List (MethodName × Nat) := [(⟨"PureGroups$Reading", "readTerm", "(I)V"⟩, 13), (⟨"PureGroups$Reading", "readPart", "(II)V"⟩, 13), (⟨"PureGroups$Reading", "readAtom", "(I)[I"⟩, 13), (⟨"PureGroups$Reading", "next", "()I"⟩, 13), (⟨"PureGroups$Reading", "readNumber", "()V"⟩, 13), (⟨"PureGroups$Reading", "readInner", "(II)[I"⟩, 13), (⟨"PureGroups$Reading", "expect", "(I)V"⟩, 13), (⟨"PureGroups$Reading", "failHere", "()V"⟩, 13), (⟨"PureGroups$Reading", "markWrong", "(I)V"⟩, 13), (⟨"PureGroups$Reading", "readPower", "()I"⟩, 13), (⟨"PureGroups$Reading", "isNext", "(II)Z"⟩, 13), (⟨"PureGroupsModel", "refuse", "(I)I"⟩, 27), (⟨"PureGroupsModel", "isOne", "(I)Z"⟩, 27), (⟨"PureGroupsModel", "refuseFar", "(I)I"⟩, 27), (⟨"PureGroupsModel", "changes", "(II)V"⟩, 27), (⟨"PureGroupsModel", "firm", "()I"⟩, 27)]
theorem lw_r2 : ∀ q ∈ lw_privs_2, lw_okq q := List.forall_mem_cons.mpr ⟨lw_p16, List.forall_mem_cons.mpr ⟨lw_p17, List.forall_mem_cons.mpr ⟨lw_p18, List.forall_mem_cons.mpr ⟨lw_p19, List.forall_mem_cons.mpr ⟨lw_p20, List.forall_mem_cons.mpr ⟨lw_p21, List.forall_mem_cons.mpr ⟨lw_p22, List.forall_mem_cons.mpr ⟨lw_p23, List.forall_mem_cons.mpr ⟨lw_p24, List.forall_mem_cons.mpr ⟨lw_p25, List.forall_mem_cons.mpr ⟨lw_p26, List.forall_mem_cons.mpr ⟨lw_p27, List.forall_mem_cons.mpr ⟨lw_p28, List.forall_mem_cons.mpr ⟨lw_p29, List.forall_mem_cons.mpr ⟨lw_p30, List.forall_mem_cons.mpr ⟨lw_p31, fun _ h => absurd h List.not_mem_nil⟩⟩⟩⟩⟩⟩⟩⟩⟩⟩⟩⟩⟩⟩⟩⟩
theorem lw_p32 : lw_okq (⟨"PureGroupsModel", "isHad", "(II)Z"⟩, 27) := ⟨⟨by decide +kernel, by decide +kernel⟩, List.mem_of_getElem? (i := 854) (by decide +kernel), List.mem_of_getElem? (i := 992) (by decide +kernel), List.mem_of_getElem? (i := 993) (by decide +kernel)⟩
theorem lw_p33 : lw_okq (⟨"PureGroupsModel", "lays", "(II)I"⟩, 27) := ⟨⟨by decide +kernel, by decide +kernel⟩, List.mem_of_getElem? (i := 854) (by decide +kernel), List.mem_of_getElem? (i := 996) (by decide +kernel), List.mem_of_getElem? (i := 997) (by decide +kernel)⟩
theorem lw_p34 : lw_okq (⟨"PureGroupsModel", "powerOf", "(II)I"⟩, 27) := ⟨⟨by decide +kernel, by decide +kernel⟩, List.mem_of_getElem? (i := 854) (by decide +kernel), List.mem_of_getElem? (i := 1003) (by decide +kernel), List.mem_of_getElem? (i := 1004) (by decide +kernel)⟩
theorem lw_p35 : lw_okq (⟨"PureGroupsModel", "clears", "(II)J"⟩, 27) := ⟨⟨by decide +kernel, by decide +kernel⟩, List.mem_of_getElem? (i := 854) (by decide +kernel), List.mem_of_getElem? (i := 1007) (by decide +kernel), List.mem_of_getElem? (i := 1008) (by decide +kernel)⟩
theorem lw_p36 : lw_okq (⟨"PureGroupsModel", "swapRows", "(II)V"⟩, 27) := ⟨⟨by decide +kernel, by decide +kernel⟩, List.mem_of_getElem? (i := 854) (by decide +kernel), List.mem_of_getElem? (i := 1011) (by decide +kernel), List.mem_of_getElem? (i := 1012) (by decide +kernel)⟩
theorem lw_p37 : lw_okq (⟨"PureGroupsModel", "isPure", "(I)Z"⟩, 27) := ⟨⟨by decide +kernel, by decide +kernel⟩, List.mem_of_getElem? (i := 854) (by decide +kernel), List.mem_of_getElem? (i := 1018) (by decide +kernel), List.mem_of_getElem? (i := 1019) (by decide +kernel)⟩
theorem lw_p38 : lw_okq (⟨"PureGroupsModel", "twinOf", "(I)I"⟩, 27) := ⟨⟨by decide +kernel, by decide +kernel⟩, List.mem_of_getElem? (i := 854) (by decide +kernel), List.mem_of_getElem? (i := 1030) (by decide +kernel), List.mem_of_getElem? (i := 1031) (by decide +kernel)⟩
theorem lw_p39 : lw_okq (⟨"PureGroupsModel", "isLike", "(II)Z"⟩, 27) := ⟨⟨by decide +kernel, by decide +kernel⟩, List.mem_of_getElem? (i := 854) (by decide +kernel), List.mem_of_getElem? (i := 1034) (by decide +kernel), List.mem_of_getElem? (i := 1035) (by decide +kernel)⟩
theorem lw_p40 : lw_okq (⟨"PureGroupsModel", "loose", "()I"⟩, 27) := ⟨⟨by decide +kernel, by decide +kernel⟩, List.mem_of_getElem? (i := 854) (by decide +kernel), List.mem_of_getElem? (i := 1052) (by decide +kernel), List.mem_of_getElem? (i := 1053) (by decide +kernel)⟩
theorem lw_p41 : lw_okq (⟨"PureGroupsModel", "different", "()I"⟩, 27) := ⟨⟨by decide +kernel, by decide +kernel⟩, List.mem_of_getElem? (i := 854) (by decide +kernel), List.mem_of_getElem? (i := 1056) (by decide +kernel), List.mem_of_getElem? (i := 1057) (by decide +kernel)⟩
theorem lw_p42 : lw_okq (⟨"PureGroupsModel", "ownOf", "(I)I"⟩, 27) := ⟨⟨by decide +kernel, by decide +kernel⟩, List.mem_of_getElem? (i := 854) (by decide +kernel), List.mem_of_getElem? (i := 1064) (by decide +kernel), List.mem_of_getElem? (i := 1065) (by decide +kernel)⟩
theorem lw_p43 : lw_okq (⟨"PureGroupsModel", "groups", "(I)V"⟩, 27) := ⟨⟨by decide +kernel, by decide +kernel⟩, List.mem_of_getElem? (i := 854) (by decide +kernel), List.mem_of_getElem? (i := 1068) (by decide +kernel), List.mem_of_getElem? (i := 1069) (by decide +kernel)⟩
theorem lw_p44 : lw_okq (⟨"PureGroupsModel", "tells", "(II)Z"⟩, 27) := ⟨⟨by decide +kernel, by decide +kernel⟩, List.mem_of_getElem? (i := 854) (by decide +kernel), List.mem_of_getElem? (i := 1080) (by decide +kernel), List.mem_of_getElem? (i := 1081) (by decide +kernel)⟩
theorem lw_p45 : lw_okq (⟨"PureGroupsModel", "isToldPure", "()Z"⟩, 27) := ⟨⟨by decide +kernel, by decide +kernel⟩, List.mem_of_getElem? (i := 854) (by decide +kernel), List.mem_of_getElem? (i := 1086) (by decide +kernel), List.mem_of_getElem? (i := 1087) (by decide +kernel)⟩
theorem lw_p46 : lw_okq (⟨"PureGroupsModel", "refuseFarther", "(I)J"⟩, 27) := ⟨⟨by decide +kernel, by decide +kernel⟩, List.mem_of_getElem? (i := 854) (by decide +kernel), List.mem_of_getElem? (i := 1094) (by decide +kernel), List.mem_of_getElem? (i := 1095) (by decide +kernel)⟩
theorem lw_p47 : lw_okq (⟨"PureGroupsModel", "isLeast", "(II)Z"⟩, 27) := ⟨⟨by decide +kernel, by decide +kernel⟩, List.mem_of_getElem? (i := 854) (by decide +kernel), List.mem_of_getElem? (i := 1110) (by decide +kernel), List.mem_of_getElem? (i := 1111) (by decide +kernel)⟩
def lw_privs_3 : List (MethodName × Nat) := [(⟨"PureGroupsModel", "isHad", "(II)Z"⟩, 27), (⟨"PureGroupsModel", "lays", "(II)I"⟩, 27), (⟨"PureGroupsModel", "powerOf", "(II)I"⟩, 27), (⟨"PureGroupsModel", "clears", "(II)J"⟩, 27), (⟨"PureGroupsModel", "swapRows", "(II)V"⟩, 27), (⟨"PureGroupsModel", "isPure", "(I)Z"⟩, 27), (⟨"PureGroupsModel", "twinOf", "(I)I"⟩, 27), (⟨"PureGroupsModel", "isLike", "(II)Z"⟩, 27), (⟨"PureGroupsModel", "loose", "()I"⟩, 27), (⟨"PureGroupsModel", "different", "()I"⟩, 27), (⟨"PureGroupsModel", "ownOf", "(I)I"⟩, 27), (⟨"PureGroupsModel", "groups", "(I)V"⟩, 27), (⟨"PureGroupsModel", "tells", "(II)Z"⟩, 27), (⟨"PureGroupsModel", "isToldPure", "()Z"⟩, 27), (⟨"PureGroupsModel", "refuseFarther", "(I)J"⟩, 27), (⟨"PureGroupsModel", "isLeast", "(II)Z"⟩, 27)]
theorem lw_r3 : ∀ q ∈ lw_privs_3, lw_okq q := List.forall_mem_cons.mpr ⟨lw_p32, List.forall_mem_cons.mpr ⟨lw_p33, List.forall_mem_cons.mpr ⟨lw_p34, List.forall_mem_cons.mpr ⟨lw_p35, List.forall_mem_cons.mpr ⟨lw_p36, List.forall_mem_cons.mpr ⟨lw_p37, List.forall_mem_cons.mpr ⟨lw_p38, List.forall_mem_cons.mpr ⟨lw_p39, List.forall_mem_cons.mpr ⟨lw_p40, List.forall_mem_cons.mpr ⟨lw_p41, List.forall_mem_cons.mpr ⟨lw_p42, List.forall_mem_cons.mpr ⟨lw_p43, List.forall_mem_cons.mpr ⟨lw_p44, List.forall_mem_cons.mpr ⟨lw_p45, List.forall_mem_cons.mpr ⟨lw_p46, List.forall_mem_cons.mpr ⟨lw_p47, fun _ h => absurd h List.not_mem_nil⟩⟩⟩⟩⟩⟩⟩⟩⟩⟩⟩⟩⟩⟩⟩⟩
theorem lw_p48 : lw_okq (⟨"PureGroupsModel", "isSet", "(I)Z"⟩, 27) := ⟨⟨by decide +kernel, by decide +kernel⟩, List.mem_of_getElem? (i := 854) (by decide +kernel), List.mem_of_getElem? (i := 1118) (by decide +kernel), List.mem_of_getElem? (i := 1119) (by decide +kernel)⟩
theorem lw_p49 : lw_okq (⟨"PureGroupsModel", "isChosen", "(I)Z"⟩, 27) := ⟨⟨by decide +kernel, by decide +kernel⟩, List.mem_of_getElem? (i := 854) (by decide +kernel), List.mem_of_getElem? (i := 1122) (by decide +kernel), List.mem_of_getElem? (i := 1123) (by decide +kernel)⟩
theorem lw_p50 : lw_okq (⟨"PureGroupsModel", "isFree", "(I)Z"⟩, 27) := ⟨⟨by decide +kernel, by decide +kernel⟩, List.mem_of_getElem? (i := 854) (by decide +kernel), List.mem_of_getElem? (i := 1126) (by decide +kernel), List.mem_of_getElem? (i := 1127) (by decide +kernel)⟩
theorem lw_p51 : lw_okq (⟨"PureGroupsModel", "sizesOf", "(I)J"⟩, 27) := ⟨⟨by decide +kernel, by decide +kernel⟩, List.mem_of_getElem? (i := 854) (by decide +kernel), List.mem_of_getElem? (i := 1138) (by decide +kernel), List.mem_of_getElem? (i := 1139) (by decide +kernel)⟩
theorem lw_p52 : lw_okq (⟨"PureGroupsModel", "chosen", "()I"⟩, 27) := ⟨⟨by decide +kernel, by decide +kernel⟩, List.mem_of_getElem? (i := 854) (by decide +kernel), List.mem_of_getElem? (i := 1146) (by decide +kernel), List.mem_of_getElem? (i := 1147) (by decide +kernel)⟩
theorem lw_p53 : lw_okq (⟨"PureGroupsModel", "bestSet", "(Z)I"⟩, 27) := ⟨⟨by decide +kernel, by decide +kernel⟩, List.mem_of_getElem? (i := 854) (by decide +kernel), List.mem_of_getElem? (i := 1150) (by decide +kernel), List.mem_of_getElem? (i := 1151) (by decide +kernel)⟩
theorem lw_p54 : lw_okq (⟨"PureGroupsModel", "areScaled", "()Z"⟩, 27) := ⟨⟨by decide +kernel, by decide +kernel⟩, List.mem_of_getElem? (i := 854) (by decide +kernel), List.mem_of_getElem? (i := 1170) (by decide +kernel), List.mem_of_getElem? (i := 1171) (by decide +kernel)⟩
theorem lw_p55 : lw_okq (⟨"PureGroupsModel", "isAlike", "()Z"⟩, 27) := ⟨⟨by decide +kernel, by decide +kernel⟩, List.mem_of_getElem? (i := 854) (by decide +kernel), List.mem_of_getElem? (i := 1174) (by decide +kernel), List.mem_of_getElem? (i := 1175) (by decide +kernel)⟩
theorem lw_p56 : lw_okq (⟨"PureGroupsModel", "weighs", "(II)J"⟩, 27) := ⟨⟨by decide +kernel, by decide +kernel⟩, List.mem_of_getElem? (i := 854) (by decide +kernel), List.mem_of_getElem? (i := 1182) (by decide +kernel), List.mem_of_getElem? (i := 1183) (by decide +kernel)⟩
theorem lw_p57 : lw_okq (⟨"PureGroupsModel", "powerIn", "(II)I"⟩, 27) := ⟨⟨by decide +kernel, by decide +kernel⟩, List.mem_of_getElem? (i := 854) (by decide +kernel), List.mem_of_getElem? (i := 1186) (by decide +kernel), List.mem_of_getElem? (i := 1187) (by decide +kernel)⟩
theorem lw_p58 : lw_okq (⟨"PureGroupsModel", "wrongMust", "(II)I"⟩, 27) := ⟨⟨by decide +kernel, by decide +kernel⟩, List.mem_of_getElem? (i := 854) (by decide +kernel), List.mem_of_getElem? (i := 1197) (by decide +kernel), List.mem_of_getElem? (i := 1198) (by decide +kernel)⟩
theorem lw_p59 : lw_okq (⟨"PureGroupsModel", "isScaled", "(I)Z"⟩, 27) := ⟨⟨by decide +kernel, by decide +kernel⟩, List.mem_of_getElem? (i := 854) (by decide +kernel), List.mem_of_getElem? (i := 1201) (by decide +kernel), List.mem_of_getElem? (i := 1202) (by decide +kernel)⟩
theorem lw_p60 : lw_okq (⟨"PureGroupsModel", "fewestOf", "(I)I"⟩, 27) := ⟨⟨by decide +kernel, by decide +kernel⟩, List.mem_of_getElem? (i := 854) (by decide +kernel), List.mem_of_getElem? (i := 1217) (by decide +kernel), List.mem_of_getElem? (i := 1218) (by decide +kernel)⟩
theorem lw_p61 : lw_okq (⟨"PureGroupsModel", "fills", "(II)Z"⟩, 27) := ⟨⟨by decide +kernel, by decide +kernel⟩, List.mem_of_getElem? (i := 854) (by decide +kernel), List.mem_of_getElem? (i := 1221) (by decide +kernel), List.mem_of_getElem? (i := 1222) (by decide +kernel)⟩
theorem lw_p62 : lw_okq (⟨"PureGroupsModel", "isWanted", "(I)Z"⟩, 27) := ⟨⟨by decide +kernel, by decide +kernel⟩, List.mem_of_getElem? (i := 854) (by decide +kernel), List.mem_of_getElem? (i := 1225) (by decide +kernel), List.mem_of_getElem? (i := 1226) (by decide +kernel)⟩
theorem lw_p63 : lw_okq (⟨"PureGroupsModel", "powerBy", "(II)I"⟩, 27) := ⟨⟨by decide +kernel, by decide +kernel⟩, List.mem_of_getElem? (i := 854) (by decide +kernel), List.mem_of_getElem? (i := 1229) (by decide +kernel), List.mem_of_getElem? (i := 1230) (by decide +kernel)⟩
def lw_privs_4 : List (MethodName × Nat) := [(⟨"PureGroupsModel", "isSet", "(I)Z"⟩, 27), (⟨"PureGroupsModel", "isChosen", "(I)Z"⟩, 27), (⟨"PureGroupsModel", "isFree", "(I)Z"⟩, 27), (⟨"PureGroupsModel", "sizesOf", "(I)J"⟩, 27), (⟨"PureGroupsModel", "chosen", "()I"⟩, 27), (⟨"PureGroupsModel", "bestSet", "(Z)I"⟩, 27), (⟨"PureGroupsModel", "areScaled", "()Z"⟩, 27), (⟨"PureGroupsModel", "isAlike", "()Z"⟩, 27), (⟨"PureGroupsModel", "weighs", "(II)J"⟩, 27), (⟨"PureGroupsModel", "powerIn", "(II)I"⟩, 27), (⟨"PureGroupsModel", "wrongMust", "(II)I"⟩, 27), (⟨"PureGroupsModel", "isScaled", "(I)Z"⟩, 27), (⟨"PureGroupsModel", "fewestOf", "(I)I"⟩, 27), (⟨"PureGroupsModel", "fills", "(II)Z"⟩, 27), (⟨"PureGroupsModel", "isWanted", "(I)Z"⟩, 27), (⟨"PureGroupsModel", "powerBy", "(II)I"⟩, 27)]
theorem lw_r4 : ∀ q ∈ lw_privs_4, lw_okq q := List.forall_mem_cons.mpr ⟨lw_p48, List.forall_mem_cons.mpr ⟨lw_p49, List.forall_mem_cons.mpr ⟨lw_p50, List.forall_mem_cons.mpr ⟨lw_p51, List.forall_mem_cons.mpr ⟨lw_p52, List.forall_mem_cons.mpr ⟨lw_p53, List.forall_mem_cons.mpr ⟨lw_p54, List.forall_mem_cons.mpr ⟨lw_p55, List.forall_mem_cons.mpr ⟨lw_p56, List.forall_mem_cons.mpr ⟨lw_p57, List.forall_mem_cons.mpr ⟨lw_p58, List.forall_mem_cons.mpr ⟨lw_p59, List.forall_mem_cons.mpr ⟨lw_p60, List.forall_mem_cons.mpr ⟨lw_p61, List.forall_mem_cons.mpr ⟨lw_p62, List.forall_mem_cons.mpr ⟨lw_p63, fun _ h => absurd h List.not_mem_nil⟩⟩⟩⟩⟩⟩⟩⟩⟩⟩⟩⟩⟩⟩⟩⟩
theorem lw_p64 : lw_okq (⟨"PureGroupsModel", "adds", "(III)I"⟩, 27) := ⟨⟨by decide +kernel, by decide +kernel⟩, List.mem_of_getElem? (i := 854) (by decide +kernel), List.mem_of_getElem? (i := 1237) (by decide +kernel), List.mem_of_getElem? (i := 1238) (by decide +kernel)⟩
theorem lw_p65 : lw_okq (⟨"PureGroupsModel", "keyOf", "(I)J"⟩, 27) := ⟨⟨by decide +kernel, by decide +kernel⟩, List.mem_of_getElem? (i := 854) (by decide +kernel), List.mem_of_getElem? (i := 1241) (by decide +kernel), List.mem_of_getElem? (i := 1242) (by decide +kernel)⟩
theorem lw_p66 : lw_okq (⟨"PureGroupsModel", "differs", "(IJ)I"⟩, 27) := ⟨⟨by decide +kernel, by decide +kernel⟩, List.mem_of_getElem? (i := 854) (by decide +kernel), List.mem_of_getElem? (i := 1246) (by decide +kernel), List.mem_of_getElem? (i := 1247) (by decide +kernel)⟩
theorem lw_p67 : lw_okq (⟨"PureGroupsModel", "readsBoth", "()Z"⟩, 27) := ⟨⟨by decide +kernel, by decide +kernel⟩, List.mem_of_getElem? (i := 854) (by decide +kernel), List.mem_of_getElem? (i := 1254) (by decide +kernel), List.mem_of_getElem? (i := 1255) (by decide +kernel)⟩
theorem lw_p68 : lw_okq (⟨"PureGroupsModel", "readsSum", "()Z"⟩, 27) := ⟨⟨by decide +kernel, by decide +kernel⟩, List.mem_of_getElem? (i := 854) (by decide +kernel), List.mem_of_getElem? (i := 1258) (by decide +kernel), List.mem_of_getElem? (i := 1259) (by decide +kernel)⟩
theorem lw_p69 : lw_okq (⟨"PureGroupsModel", "readsTerm", "()Z"⟩, 27) := ⟨⟨by decide +kernel, by decide +kernel⟩, List.mem_of_getElem? (i := 854) (by decide +kernel), List.mem_of_getElem? (i := 1262) (by decide +kernel), List.mem_of_getElem? (i := 1263) (by decide +kernel)⟩
theorem lw_p70 : lw_okq (⟨"PureGroupsModel", "readsPart", "()Z"⟩, 27) := ⟨⟨by decide +kernel, by decide +kernel⟩, List.mem_of_getElem? (i := 854) (by decide +kernel), List.mem_of_getElem? (i := 1266) (by decide +kernel), List.mem_of_getElem? (i := 1267) (by decide +kernel)⟩
theorem lw_p71 : lw_okq (⟨"PureGroupsModel", "readsAtom", "()Z"⟩, 27) := ⟨⟨by decide +kernel, by decide +kernel⟩, List.mem_of_getElem? (i := 854) (by decide +kernel), List.mem_of_getElem? (i := 1270) (by decide +kernel), List.mem_of_getElem? (i := 1271) (by decide +kernel)⟩
theorem lw_p72 : lw_okq (⟨"PureGroupsModel", "here", "()I"⟩, 27) := ⟨⟨by decide +kernel, by decide +kernel⟩, List.mem_of_getElem? (i := 854) (by decide +kernel), List.mem_of_getElem? (i := 1274) (by decide +kernel), List.mem_of_getElem? (i := 1275) (by decide +kernel)⟩
theorem lw_p73 : lw_okq (⟨"PureGroupsModel", "isDigit", "()Z"⟩, 27) := ⟨⟨by decide +kernel, by decide +kernel⟩, List.mem_of_getElem? (i := 854) (by decide +kernel), List.mem_of_getElem? (i := 1279) (by decide +kernel), List.mem_of_getElem? (i := 1280) (by decide +kernel)⟩
theorem lw_p74 : lw_okq (⟨"PureGroupsModel", "readsClosed", "()Z"⟩, 27) := ⟨⟨by decide +kernel, by decide +kernel⟩, List.mem_of_getElem? (i := 854) (by decide +kernel), List.mem_of_getElem? (i := 1285) (by decide +kernel), List.mem_of_getElem? (i := 1286) (by decide +kernel)⟩
theorem lw_p75 : lw_okq (⟨"PureGroupsModel", "isSigned", "(II)Z"⟩, 27) := ⟨⟨by decide +kernel, by decide +kernel⟩, List.mem_of_getElem? (i := 854) (by decide +kernel), List.mem_of_getElem? (i := 1289) (by decide +kernel), List.mem_of_getElem? (i := 1290) (by decide +kernel)⟩
theorem lw_p76 : lw_okq (⟨"PureGroupsModel", "goesThrough", "()V"⟩, 27) := ⟨⟨by decide +kernel, by decide +kernel⟩, List.mem_of_getElem? (i := 854) (by decide +kernel), List.mem_of_getElem? (i := 1297) (by decide +kernel), List.mem_of_getElem? (i := 1298) (by decide +kernel)⟩
theorem lw_p77 : lw_okq (⟨"PureGroupsModel", "sum", "(I)V"⟩, 27) := ⟨⟨by decide +kernel, by decide +kernel⟩, List.mem_of_getElem? (i := 854) (by decide +kernel), List.mem_of_getElem? (i := 1301) (by decide +kernel), List.mem_of_getElem? (i := 1302) (by decide +kernel)⟩
theorem lw_p78 : lw_okq (⟨"PureGroupsModel", "term", "(I)V"⟩, 27) := ⟨⟨by decide +kernel, by decide +kernel⟩, List.mem_of_getElem? (i := 854) (by decide +kernel), List.mem_of_getElem? (i := 1305) (by decide +kernel), List.mem_of_getElem? (i := 1306) (by decide +kernel)⟩
theorem lw_p79 : lw_okq (⟨"PureGroupsModel", "part", "(I)V"⟩, 27) := ⟨⟨by decide +kernel, by decide +kernel⟩, List.mem_of_getElem? (i := 854) (by decide +kernel), List.mem_of_getElem? (i := 1309) (by decide +kernel), List.mem_of_getElem? (i := 1310) (by decide +kernel)⟩
def lw_privs_5 : List (MethodName × Nat) := [(⟨"PureGroupsModel", "adds", "(III)I"⟩, 27), (⟨"PureGroupsModel", "keyOf", "(I)J"⟩, 27), (⟨"PureGroupsModel", "differs", "(IJ)I"⟩, 27), (⟨"PureGroupsModel", "readsBoth", "()Z"⟩, 27), (⟨"PureGroupsModel", "readsSum", "()Z"⟩, 27), (⟨"PureGroupsModel", "readsTerm", "()Z"⟩, 27), (⟨"PureGroupsModel", "readsPart", "()Z"⟩, 27), (⟨"PureGroupsModel", "readsAtom", "()Z"⟩, 27), (⟨"PureGroupsModel", "here", "()I"⟩, 27), (⟨"PureGroupsModel", "isDigit", "()Z"⟩, 27), (⟨"PureGroupsModel", "readsClosed", "()Z"⟩, 27), (⟨"PureGroupsModel", "isSigned", "(II)Z"⟩, 27), (⟨"PureGroupsModel", "goesThrough", "()V"⟩, 27), (⟨"PureGroupsModel", "sum", "(I)V"⟩, 27), (⟨"PureGroupsModel", "term", "(I)V"⟩, 27), (⟨"PureGroupsModel", "part", "(I)V"⟩, 27)]
theorem lw_r5 : ∀ q ∈ lw_privs_5, lw_okq q := List.forall_mem_cons.mpr ⟨lw_p64, List.forall_mem_cons.mpr ⟨lw_p65, List.forall_mem_cons.mpr ⟨lw_p66, List.forall_mem_cons.mpr ⟨lw_p67, List.forall_mem_cons.mpr ⟨lw_p68, List.forall_mem_cons.mpr ⟨lw_p69, List.forall_mem_cons.mpr ⟨lw_p70, List.forall_mem_cons.mpr ⟨lw_p71, List.forall_mem_cons.mpr ⟨lw_p72, List.forall_mem_cons.mpr ⟨lw_p73, List.forall_mem_cons.mpr ⟨lw_p74, List.forall_mem_cons.mpr ⟨lw_p75, List.forall_mem_cons.mpr ⟨lw_p76, List.forall_mem_cons.mpr ⟨lw_p77, List.forall_mem_cons.mpr ⟨lw_p78, List.forall_mem_cons.mpr ⟨lw_p79, fun _ h => absurd h List.not_mem_nil⟩⟩⟩⟩⟩⟩⟩⟩⟩⟩⟩⟩⟩⟩⟩⟩
theorem lw_p80 : lw_okq (⟨"PureGroupsModel", "atom", "(I)V"⟩, 27) := ⟨⟨by decide +kernel, by decide +kernel⟩, List.mem_of_getElem? (i := 854) (by decide +kernel), List.mem_of_getElem? (i := 1313) (by decide +kernel), List.mem_of_getElem? (i := 1314) (by decide +kernel)⟩
theorem lw_p81 : lw_okq (⟨"PureGroupsModel", "sign", "()I"⟩, 27) := ⟨⟨by decide +kernel, by decide +kernel⟩, List.mem_of_getElem? (i := 854) (by decide +kernel), List.mem_of_getElem? (i := 1317) (by decide +kernel), List.mem_of_getElem? (i := 1318) (by decide +kernel)⟩
theorem lw_p82 : lw_okq (⟨"PureGroupsModel", "sets", "(II)V"⟩, 27) := ⟨⟨by decide +kernel, by decide +kernel⟩, List.mem_of_getElem? (i := 854) (by decide +kernel), List.mem_of_getElem? (i := 1321) (by decide +kernel), List.mem_of_getElem? (i := 1322) (by decide +kernel)⟩
theorem lw_p83 : lw_okq (⟨"PureGroupsModel", "isPureAt", "(I)Z"⟩, 27) := ⟨⟨by decide +kernel, by decide +kernel⟩, List.mem_of_getElem? (i := 854) (by decide +kernel), List.mem_of_getElem? (i := 1326) (by decide +kernel), List.mem_of_getElem? (i := 1327) (by decide +kernel)⟩
theorem lw_p84 : lw_okq (⟨"PureGroupsModel", "draws", "(I)I"⟩, 27) := ⟨⟨by decide +kernel, by decide +kernel⟩, List.mem_of_getElem? (i := 854) (by decide +kernel), List.mem_of_getElem? (i := 1342) (by decide +kernel), List.mem_of_getElem? (i := 1343) (by decide +kernel)⟩
theorem lw_p85 : lw_okq (⟨"PureGroupsModel", "wrongCell", "(II)I"⟩, 27) := ⟨⟨by decide +kernel, by decide +kernel⟩, List.mem_of_getElem? (i := 854) (by decide +kernel), List.mem_of_getElem? (i := 1357) (by decide +kernel), List.mem_of_getElem? (i := 1358) (by decide +kernel)⟩
theorem lw_p86 : lw_okq (⟨"PureGroupsModel", "isCell", "(II)Z"⟩, 27) := ⟨⟨by decide +kernel, by decide +kernel⟩, List.mem_of_getElem? (i := 854) (by decide +kernel), List.mem_of_getElem? (i := 1361) (by decide +kernel), List.mem_of_getElem? (i := 1362) (by decide +kernel)⟩
theorem lw_p87 : lw_okq (⟨"PureGroupsModel", "scales", "()I"⟩, 27) := ⟨⟨by decide +kernel, by decide +kernel⟩, List.mem_of_getElem? (i := 854) (by decide +kernel), List.mem_of_getElem? (i := 1393) (by decide +kernel), List.mem_of_getElem? (i := 1394) (by decide +kernel)⟩
def lw_privs_6 : List (MethodName × Nat) := [(⟨"PureGroupsModel", "atom", "(I)V"⟩, 27), (⟨"PureGroupsModel", "sign", "()I"⟩, 27), (⟨"PureGroupsModel", "sets", "(II)V"⟩, 27), (⟨"PureGroupsModel", "isPureAt", "(I)Z"⟩, 27), (⟨"PureGroupsModel", "draws", "(I)I"⟩, 27), (⟨"PureGroupsModel", "wrongCell", "(II)I"⟩, 27), (⟨"PureGroupsModel", "isCell", "(II)Z"⟩, 27), (⟨"PureGroupsModel", "scales", "()I"⟩, 27)]
theorem lw_r6 : ∀ q ∈ lw_privs_6, lw_okq q := List.forall_mem_cons.mpr ⟨lw_p80, List.forall_mem_cons.mpr ⟨lw_p81, List.forall_mem_cons.mpr ⟨lw_p82, List.forall_mem_cons.mpr ⟨lw_p83, List.forall_mem_cons.mpr ⟨lw_p84, List.forall_mem_cons.mpr ⟨lw_p85, List.forall_mem_cons.mpr ⟨lw_p86, List.forall_mem_cons.mpr ⟨lw_p87, fun _ h => absurd h List.not_mem_nil⟩⟩⟩⟩⟩⟩⟩⟩
def lw_privs : List (MethodName × Nat) := lw_privs_1 ++ (lw_privs_2 ++ (lw_privs_3 ++ (lw_privs_4 ++ (lw_privs_5 ++ (lw_privs_6)))))
def lw_tbl : List Cond := k2_sels lw_privs ++ tables_1
theorem lw_privs_ok : ∀ q ∈ lw_privs, lw_okq q := by
  show ∀ q ∈ lw_privs_1 ++ (lw_privs_2 ++ (lw_privs_3 ++ (lw_privs_4 ++ (lw_privs_5 ++ (lw_privs_6))))), lw_okq q
  exact List.forall_mem_append.mpr ⟨lw_r1, List.forall_mem_append.mpr ⟨lw_r2, List.forall_mem_append.mpr ⟨lw_r3, List.forall_mem_append.mpr ⟨lw_r4, List.forall_mem_append.mpr ⟨lw_r5, lw_r6⟩⟩⟩⟩⟩
end
section
def RX0 : String := "PureGroups$Choice"
def TX0 : u_T := fun k => match k with
  | 0 => ("PureGroups$Choice", "space", "LPureGroups$Space;", true)
  | 1 => ("PureGroups$Choice", "chosen", "LPureGroups$Elimination;", true)
  | 2 => ("PureGroups$Choice", "powers", "[I", true)
  | 3 => ("PureGroups$Choice", "lookedAt", "I", false)
  | 4 => ("PureGroups$Choice", "count", "I", false)
  | 5 => ("PureGroups$Choice", "tried", "I", false)
  | 6 => ("PureGroups$Choice", "first", "I", false)
  | 7 => ("PureGroups$Choice", "best", "I", false)
  | _ => ("PureGroups$Choice", "leastSizes", "J", false)
def tyX0 : Nat → FieldType := fun k => match k with
  | 0 => .object "PureGroups$Space"
  | 1 => .object "PureGroups$Elimination"
  | 2 => .array .int
  | 3 => .int
  | 4 => .int
  | 5 => .int
  | 6 => .int
  | 7 => .int
  | _ => .long
theorem nmX0 : ∀ a, a < 9 → ∀ b, b < 9 → a ≠ b → (TX0 a).2.1 ≠ (TX0 b).2.1 := by decide +kernel
theorem tyX0_ok : ∀ k, k < 9 → parseFieldDescriptor (TX0 k).2.2.1 = some (tyX0 k) := by decide +kernel
def RX1 : String := "PureGroups$Elimination"
def TX1 : u_T := fun k => match k with
  | 0 => ("PureGroups$Elimination", "cell", "[[J", true)
  | 1 => ("PureGroups$Elimination", "rowOf", "[I", true)
  | 2 => ("PureGroups$Elimination", "size", "I", false)
  | 3 => ("PureGroups$Elimination", "rank", "I", false)
  | 4 => ("PureGroups$Elimination", "pivots", "I", false)
  | _ => ("PureGroups$Elimination", "scale", "J", false)
def tyX1 : Nat → FieldType := fun k => match k with
  | 0 => .array (.array .long)
  | 1 => .array .int
  | 2 => .int
  | 3 => .int
  | 4 => .int
  | _ => .long
theorem nmX1 : ∀ a, a < 6 → ∀ b, b < 6 → a ≠ b → (TX1 a).2.1 ≠ (TX1 b).2.1 := by decide +kernel
theorem tyX1_ok : ∀ k, k < 6 → parseFieldDescriptor (TX1 k).2.2.1 = some (tyX1 k) := by decide +kernel
def RX2 : String := "PureGroups$History"
def TX2 : u_T := fun k => match k with
  | 0 => ("PureGroups$History", "rows", "[[I", true)
  | 1 => ("PureGroups$History", "next", "I", false)
  | _ => ("PureGroups$History", "size", "I", false)
def tyX2 : Nat → FieldType := fun k => match k with
  | 0 => .array (.array .int)
  | 1 => .int
  | _ => .int
theorem nmX2 : ∀ a, a < 3 → ∀ b, b < 3 → a ≠ b → (TX2 a).2.1 ≠ (TX2 b).2.1 := by decide +kernel
theorem tyX2_ok : ∀ k, k < 3 → parseFieldDescriptor (TX2 k).2.2.1 = some (tyX2 k) := by decide +kernel
def RX3 : String := "PureGroups$Model"
def TX3 : u_T := fun k => match k with
  | 0 => ("PureGroups$Model", "size", "I", false)
  | 1 => ("PureGroups$Model", "kind", "[I", true)
  | 2 => ("PureGroups$Model", "told", "[[I", true)
  | 3 => ("PureGroups$Model", "above", "[I", true)
  | 4 => ("PureGroups$Model", "below", "[I", true)
  | 5 => ("PureGroups$Model", "letters", "[I", true)
  | 6 => ("PureGroups$Model", "length", "I", false)
  | _ => ("PureGroups$Model", "terms", "I", false)
def tyX3 : Nat → FieldType := fun k => match k with
  | 0 => .int
  | 1 => .array .int
  | 2 => .array (.array .int)
  | 3 => .array .int
  | 4 => .array .int
  | 5 => .array .int
  | 6 => .int
  | _ => .int
theorem nmX3 : ∀ a, a < 8 → ∀ b, b < 8 → a ≠ b → (TX3 a).2.1 ≠ (TX3 b).2.1 := by decide +kernel
theorem tyX3_ok : ∀ k, k < 8 → parseFieldDescriptor (TX3 k).2.2.1 = some (tyX3 k) := by decide +kernel
def RX4 : String := "PureGroups$Reading"
def TX4 : u_T := fun k => match k with
  | 0 => ("PureGroups$Reading", "space", "LPureGroups$Space;", true)
  | 1 => ("PureGroups$Reading", "text", "[I", true)
  | 2 => ("PureGroups$Reading", "length", "I", false)
  | 3 => ("PureGroups$Reading", "place", "I", false)
  | 4 => ("PureGroups$Reading", "fault", "I", false)
  | 5 => ("PureGroups$Reading", "terms", "I", false)
  | 6 => ("PureGroups$Reading", "quantities", "I", false)
  | 7 => ("PureGroups$Reading", "wrongAt", "[I", true)
  | 8 => ("PureGroups$Reading", "sums", "[[I", true)
  | 9 => ("PureGroups$Reading", "products", "[[I", true)
  | 10 => ("PureGroups$Reading", "none", "[I", true)
  | 11 => ("PureGroups$Reading", "ahead", "[I", true)
  | _ => ("PureGroups$Reading", "behind", "[I", true)
def tyX4 : Nat → FieldType := fun k => match k with
  | 0 => .object "PureGroups$Space"
  | 1 => .array .int
  | 2 => .int
  | 3 => .int
  | 4 => .int
  | 5 => .int
  | 6 => .int
  | 7 => .array .int
  | 8 => .array (.array .int)
  | 9 => .array (.array .int)
  | 10 => .array .int
  | 11 => .array .int
  | _ => .array .int
theorem nmX4 : ∀ a, a < 13 → ∀ b, b < 13 → a ≠ b → (TX4 a).2.1 ≠ (TX4 b).2.1 := by decide +kernel
theorem tyX4_ok : ∀ k, k < 13 → parseFieldDescriptor (TX4 k).2.2.1 = some (tyX4 k) := by decide +kernel
def RX5 : String := "PureGroups$Search"
def TX5 : u_T := fun k => match k with
  | 0 => ("PureGroups$Search", "space", "LPureGroups$Space;", true)
  | 1 => ("PureGroups$Search", "leastPowers", "[I", true)
  | 2 => ("PureGroups$Search", "leastSize", "I", false)
  | 3 => ("PureGroups$Search", "leastOf", "I", false)
  | 4 => ("PureGroups$Search", "factorKeys", "[J", true)
  | 5 => ("PureGroups$Search", "row", "[I", true)
  | _ => ("PureGroups$Search", "seen", "[J", true)
def tyX5 : Nat → FieldType := fun k => match k with
  | 0 => .object "PureGroups$Space"
  | 1 => .array .int
  | 2 => .int
  | 3 => .int
  | 4 => .array .long
  | 5 => .array .int
  | _ => .array .long
theorem nmX5 : ∀ a, a < 7 → ∀ b, b < 7 → a ≠ b → (TX5 a).2.1 ≠ (TX5 b).2.1 := by decide +kernel
theorem tyX5_ok : ∀ k, k < 7 → parseFieldDescriptor (TX5 k).2.2.1 = some (tyX5 k) := by decide +kernel
def RX6 : String := "PureGroups$Space"
def TX6 : u_T := fun k => match k with
  | 0 => ("PureGroups$Space", "size", "I", false)
  | 1 => ("PureGroups$Space", "version", "I", false)
  | 2 => ("PureGroups$Space", "power", "[[I", true)
  | 3 => ("PureGroups$Space", "key", "[J", true)
  | _ => ("PureGroups$Space", "all", "LPureGroups$Elimination;", true)
def tyX6 : Nat → FieldType := fun k => match k with
  | 0 => .int
  | 1 => .int
  | 2 => .array (.array .int)
  | 3 => .array .long
  | _ => .object "PureGroups$Elimination"
theorem nmX6 : ∀ a, a < 5 → ∀ b, b < 5 → a ≠ b → (TX6 a).2.1 ≠ (TX6 b).2.1 := by decide +kernel
theorem tyX6_ok : ∀ k, k < 5 → parseFieldDescriptor (TX6 k).2.2.1 = some (tyX6 k) := by decide +kernel
def RX7 : String := "PureGroups"
def TX7 : u_T := fun k => match k with
  | 0 => ("PureGroups", "model", "LPureGroups$Model;", true)
  | 1 => ("PureGroups", "image", "LPureGroups$Model;", true)
  | 2 => ("PureGroups", "imageTaken", "Z", false)
  | 3 => ("PureGroups", "history", "LPureGroups$History;", true)
  | 4 => ("PureGroups", "space", "LPureGroups$Space;", true)
  | 5 => ("PureGroups", "choice", "LPureGroups$Choice;", true)
  | 6 => ("PureGroups", "search", "LPureGroups$Search;", true)
  | 7 => ("PureGroups", "reading", "LPureGroups$Reading;", true)
  | 8 => ("PureGroups", "letters", "[I", true)
  | 9 => ("PureGroups", "letterCount", "I", false)
  | 10 => ("PureGroups", "lists", "[[I", true)
  | 11 => ("PureGroups", "listSizes", "[I", true)
  | 12 => ("PureGroups", "powers", "[I", true)
  | 13 => ("PureGroups", "product", "[I", true)
  | 14 => ("PureGroups", "dimension", "[I", true)
  | _ => ("PureGroups", "refusals", "[I", true)
def tyX7 : Nat → FieldType := fun k => match k with
  | 0 => .object "PureGroups$Model"
  | 1 => .object "PureGroups$Model"
  | 2 => .boolean
  | 3 => .object "PureGroups$History"
  | 4 => .object "PureGroups$Space"
  | 5 => .object "PureGroups$Choice"
  | 6 => .object "PureGroups$Search"
  | 7 => .object "PureGroups$Reading"
  | 8 => .array .int
  | 9 => .int
  | 10 => .array (.array .int)
  | 11 => .array .int
  | 12 => .array .int
  | 13 => .array .int
  | 14 => .array .int
  | _ => .array .int
theorem nmX7 : ∀ a, a < 16 → ∀ b, b < 16 → a ≠ b → (TX7 a).2.1 ≠ (TX7 b).2.1 := by decide +kernel
theorem tyX7_ok : ∀ k, k < 16 → parseFieldDescriptor (TX7 k).2.2.1 = some (tyX7 k) := by decide +kernel
def RX8 : String := "PureGroupsModel"
def TX8 : u_T := fun k => match k with
  | 0 => ("PureGroupsModel", "g", "[I", true)
  | 1 => ("PureGroupsModel", "kept", "[I", true)
  | 2 => ("PureGroupsModel", "isKept", "Z", false)
  | 3 => ("PureGroupsModel", "refused", "[I", true)
  | 4 => ("PureGroupsModel", "come", "[I", true)
  | 5 => ("PureGroupsModel", "comes", "I", false)
  | 6 => ("PureGroupsModel", "step", "[I", true)
  | 7 => ("PureGroupsModel", "steps", "I", false)
  | 8 => ("PureGroupsModel", "table", "[J", true)
  | 9 => ("PureGroupsModel", "power", "[J", true)
  | 10 => ("PureGroupsModel", "rowOf", "[I", true)
  | 11 => ("PureGroupsModel", "size", "[I", true)
  | 12 => ("PureGroupsModel", "cell", "[I", true)
  | 13 => ("PureGroupsModel", "told", "[I", true)
  | 14 => ("PureGroupsModel", "factor", "[I", true)
  | 15 => ("PureGroupsModel", "want", "[I", true)
  | 16 => ("PureGroupsModel", "row", "[J", true)
  | 17 => ("PureGroupsModel", "place", "I", false)
  | 18 => ("PureGroupsModel", "open", "I", false)
  | 19 => ("PureGroupsModel", "terms", "I", false)
  | 20 => ("PureGroupsModel", "comesTo", "[I", true)
  | 21 => ("PureGroupsModel", "side", "[I", true)
  | 22 => ("PureGroupsModel", "isWrong", "[Z", true)
  | 23 => ("PureGroupsModel", "at", "I", false)
  | 24 => ("PureGroupsModel", "stands", "I", false)
  | 25 => ("PureGroupsModel", "equals", "I", false)
  | _ => ("PureGroupsModel", "z", "I", false)
def tyX8 : Nat → FieldType := fun k => match k with
  | 0 => .array .int
  | 1 => .array .int
  | 2 => .boolean
  | 3 => .array .int
  | 4 => .array .int
  | 5 => .int
  | 6 => .array .int
  | 7 => .int
  | 8 => .array .long
  | 9 => .array .long
  | 10 => .array .int
  | 11 => .array .int
  | 12 => .array .int
  | 13 => .array .int
  | 14 => .array .int
  | 15 => .array .int
  | 16 => .array .long
  | 17 => .int
  | 18 => .int
  | 19 => .int
  | 20 => .array .int
  | 21 => .array .int
  | 22 => .array .boolean
  | 23 => .int
  | 24 => .int
  | 25 => .int
  | _ => .int
theorem nmX8 : ∀ a, a < 27 → ∀ b, b < 27 → a ≠ b → (TX8 a).2.1 ≠ (TX8 b).2.1 := by decide +kernel
theorem tyX8_ok : ∀ k, k < 27 → parseFieldDescriptor (TX8 k).2.2.1 = some (tyX8 k) := by decide +kernel
/-- the classes whose objects the world holds -/
def cl : List vw_C := [(RX0, TX0, 9), (RX1, TX1, 6), (RX2, TX2, 3), (RX3, TX3, 8), (RX4, TX4, 13), (RX5, TX5, 7), (RX6, TX6, 5), (RX7, TX7, 16), (RX8, TX8, 27)]
/-- how many fields; the kind of a field: 0 int, 1 long, 2 reference, 3 boolean -/
def nfL : List Nat := [9, 6, 3, 8, 13, 7, 5, 16, 27]
def ftL : List (List Nat) := [[2, 2, 2, 0, 0, 0, 0, 0, 1], [2, 2, 0, 0, 0, 1], [2, 0, 0], [0, 2, 2, 2, 2, 2, 0, 0], [2, 2, 0, 0, 0, 0, 0, 2, 2, 2, 2, 2, 2], [2, 2, 0, 0, 2, 2, 2], [0, 0, 2, 2, 2], [2, 2, 3, 2, 2, 2, 2, 2, 2, 0, 2, 2, 2, 2, 2, 2], [2, 2, 3, 2, 2, 0, 2, 0, 2, 2, 2, 2, 2, 2, 2, 2, 2, 0, 0, 0, 2, 2, 2, 0, 0, 0, 0]]
/-- the cells: ck 0 int[], 1 long[], 2 boolean[], 3 int[][], 4 long[][], 5 + n an object of the n-th class; al the length; rf what a reference leads to -/
def NC : Nat := 135
def ckT (c : Nat) : Nat := (bif Nat.blt c 67 then (bif Nat.blt c 33 then (bif Nat.blt c 16 then (bif Nat.blt c 8 then (bif Nat.blt c 4 then (bif Nat.blt c 2 then (bif Nat.blt c 1 then 12 else 8) else (bif Nat.blt c 3 then 0 else 3)) else 0) else (bif Nat.blt c 12 then 0 else (bif Nat.blt c 14 then 0 else (bif Nat.blt c 15 then 0 else 8)))) else (bif Nat.blt c 24 then (bif Nat.blt c 20 then (bif Nat.blt c 18 then (bif Nat.blt c 17 then 0 else 3) else 0) else 0) else (bif Nat.blt c 28 then 0 else (bif Nat.blt c 30 then (bif Nat.blt c 29 then 0 else 7) else (bif Nat.blt c 31 then 3 else 0))))) else (bif Nat.blt c 50 then 0 else (bif Nat.blt c 58 then (bif Nat.blt c 54 then (bif Nat.blt c 52 then (bif Nat.blt c 51 then 0 else 11) else (bif Nat.blt c 53 then 3 else 0)) else 0) else (bif Nat.blt c 62 then (bif Nat.blt c 60 then 0 else (bif Nat.blt c 61 then 0 else 1)) else (bif Nat.blt c 64 then (bif Nat.blt c 63 then 6 else 4) else 1))))) else (bif Nat.blt c 101 then (bif Nat.blt c 84 then (bif Nat.blt c 75 then (bif Nat.blt c 71 then (bif Nat.blt c 69 then 1 else (bif Nat.blt c 70 then 0 else 5)) else (bif Nat.blt c 73 then (bif Nat.blt c 72 then 6 else 4) else 1)) else (bif Nat.blt c 79 then (bif Nat.blt c 77 then 1 else (bif Nat.blt c 78 then 1 else 0)) else (bif Nat.blt c 81 then (bif Nat.blt c 80 then 0 else 10) else (bif Nat.blt c 82 then 0 else (bif Nat.blt c 83 then 1 else 0))))) else (bif Nat.blt c 92 then (bif Nat.blt c 88 then (bif Nat.blt c 86 then (bif Nat.blt c 85 then 1 else 9) else 0) else (bif Nat.blt c 90 then (bif Nat.blt c 89 then 3 else 0) else 0)) else (bif Nat.blt c 96 then 0 else (bif Nat.blt c 98 then (bif Nat.blt c 97 then 3 else 0) else 0)))) else (bif Nat.blt c 118 then (bif Nat.blt c 109 then (bif Nat.blt c 105 then 0 else (bif Nat.blt c 107 then 0 else (bif Nat.blt c 108 then 0 else 3))) else (bif Nat.blt c 113 then 0 else (bif Nat.blt c 115 then 0 else (bif Nat.blt c 116 then 0 else (bif Nat.blt c 117 then 0 else 13))))) else (bif Nat.blt c 126 then (bif Nat.blt c 122 then 0 else (bif Nat.blt c 124 then (bif Nat.blt c 123 then 0 else 1) else (bif Nat.blt c 125 then 1 else 0))) else (bif Nat.blt c 130 then 0 else (bif Nat.blt c 132 then (bif Nat.blt c 131 then 0 else 1) else (bif Nat.blt c 133 then 0 else (bif Nat.blt c 134 then 0 else 2))))))))
def ck (c : Nat) : Nat := bif Nat.blt c NC then ckT c else 99
def alT (c : Nat) : Nat := (bif Nat.blt c 67 then (bif Nat.blt c 33 then (bif Nat.blt c 16 then (bif Nat.blt c 8 then (bif Nat.blt c 4 then (bif Nat.blt c 2 then (bif Nat.blt c 1 then 16 else 8) else 8) else 5) else (bif Nat.blt c 12 then 5 else (bif Nat.blt c 14 then 8 else (bif Nat.blt c 15 then 72 else 8)))) else (bif Nat.blt c 24 then (bif Nat.blt c 20 then (bif Nat.blt c 18 then 8 else 5) else 5) else (bif Nat.blt c 28 then (bif Nat.blt c 26 then 5 else 8) else (bif Nat.blt c 30 then (bif Nat.blt c 29 then 72 else 3) else (bif Nat.blt c 31 then 20 else 4))))) else (bif Nat.blt c 50 then 4 else (bif Nat.blt c 58 then (bif Nat.blt c 54 then (bif Nat.blt c 52 then (bif Nat.blt c 51 then 4 else 5) else (bif Nat.blt c 53 then 8 else 5)) else 5) else (bif Nat.blt c 62 then (bif Nat.blt c 60 then 5 else (bif Nat.blt c 61 then 5 else 8)) else (bif Nat.blt c 64 then (bif Nat.blt c 63 then 6 else 5) else 8))))) else (bif Nat.blt c 101 then (bif Nat.blt c 84 then (bif Nat.blt c 75 then (bif Nat.blt c 71 then (bif Nat.blt c 69 then 8 else (bif Nat.blt c 70 then 8 else 9)) else (bif Nat.blt c 73 then (bif Nat.blt c 72 then 6 else 5) else 8)) else (bif Nat.blt c 79 then 8 else (bif Nat.blt c 81 then (bif Nat.blt c 80 then 8 else 7) else (bif Nat.blt c 82 then 8 else (bif Nat.blt c 83 then 16 else 3))))) else (bif Nat.blt c 92 then (bif Nat.blt c 88 then (bif Nat.blt c 86 then (bif Nat.blt c 85 then 1024 else 13) else 72) else (bif Nat.blt c 90 then (bif Nat.blt c 89 then 7 else 5) else 5)) else (bif Nat.blt c 96 then 5 else (bif Nat.blt c 98 then (bif Nat.blt c 97 then 7 else 5) else 5)))) else (bif Nat.blt c 118 then (bif Nat.blt c 109 then (bif Nat.blt c 105 then 5 else (bif Nat.blt c 107 then 5 else (bif Nat.blt c 108 then 72 else 3))) else (bif Nat.blt c 113 then (bif Nat.blt c 111 then 40 else (bif Nat.blt c 112 then 40 else 3)) else (bif Nat.blt c 115 then 8 else (bif Nat.blt c 116 then 5 else (bif Nat.blt c 117 then 7 else 27))))) else (bif Nat.blt c 126 then (bif Nat.blt c 122 then (bif Nat.blt c 120 then 139 else (bif Nat.blt c 121 then 7 else 72)) else (bif Nat.blt c 124 then (bif Nat.blt c 123 then 100 else 45) else (bif Nat.blt c 125 then 8 else 9))) else (bif Nat.blt c 130 then (bif Nat.blt c 128 then (bif Nat.blt c 127 then 3 else 120) else (bif Nat.blt c 129 then 8 else 3)) else (bif Nat.blt c 132 then (bif Nat.blt c 131 then 5 else 969) else (bif Nat.blt c 133 then 200 else (bif Nat.blt c 134 then 10 else 72))))))))
def al (c : Nat) : Nat := bif Nat.blt c NC then alT c else 0
def rfT (c : Nat) : List Nat := (bif Nat.blt c 59 then (bif Nat.blt c 29 then (bif Nat.blt c 14 then (bif Nat.blt c 7 then (bif Nat.blt c 3 then (bif Nat.blt c 1 then [1, 15, 0, 29, 51, 70, 80, 85, 107, 0, 108, 112, 113, 114, 115, 116] else (bif Nat.blt c 2 then [0, 2, 3, 12, 13, 14, 0, 0] else [])) else []) else []) else (bif Nat.blt c 21 then (bif Nat.blt c 17 then (bif Nat.blt c 15 then [] else (bif Nat.blt c 16 then [0, 16, 17, 26, 27, 28, 0, 0] else [])) else []) else [])) else (bif Nat.blt c 44 then (bif Nat.blt c 36 then (bif Nat.blt c 32 then (bif Nat.blt c 30 then [30, 0, 0] else []) else []) else []) else (bif Nat.blt c 51 then [] else (bif Nat.blt c 55 then (bif Nat.blt c 53 then (bif Nat.blt c 52 then [0, 0, 52, 61, 62] else []) else []) else [])))) else (bif Nat.blt c 88 then (bif Nat.blt c 73 then (bif Nat.blt c 66 then (bif Nat.blt c 62 then [] else (bif Nat.blt c 64 then (bif Nat.blt c 63 then [63, 69, 0, 0, 0, 0] else []) else [])) else (bif Nat.blt c 69 then [] else (bif Nat.blt c 71 then (bif Nat.blt c 70 then [] else [51, 71, 79, 0, 0, 0, 0, 0, 0]) else (bif Nat.blt c 72 then [72, 78, 0, 0, 0, 0] else [])))) else (bif Nat.blt c 80 then [] else (bif Nat.blt c 84 then (bif Nat.blt c 82 then (bif Nat.blt c 81 then [51, 81, 0, 0, 82, 83, 84] else []) else []) else (bif Nat.blt c 86 then (bif Nat.blt c 85 then [] else [51, 86, 0, 0, 0, 0, 0, 87, 88, 96, 104, 105, 106]) else [])))) else (bif Nat.blt c 103 then [] else (bif Nat.blt c 110 then [] else (bif Nat.blt c 114 then [] else (bif Nat.blt c 116 then [] else (bif Nat.blt c 117 then [] else [118, 119, 0, 120, 121, 0, 122, 0, 123, 124, 125, 126, 127, 128, 129, 130, 131, 0, 0, 0, 132, 133, 134, 0, 0, 0, 0])))))))
def nf (c : Nat) : Nat := nfL.getD c 0
def ft (c k : Nat) : Nat := (ftL.getD c []).getD k 0
def rf (c j : Nat) : Nat := bif (ck c == 3 || ck c == 4) then c + 1 + j else (rfT c).getD j 0
/-- static arrays that nobody writes: cells from 1000 on -/
def stL : List (String × List Int32) := [("UNDER", [-1, 0, 0, 1, 0, 2]), ("LESS_OF_UNIT_1", [0, 0, 1, 2, 0, 1]), ("LESS_OF_UNIT_2", [0, 1, 0, 1, 0, 0]), ("TIMES", [1, 1, 1, 1, 0, 2]), ("PRIMES", [2, 3, 5, 7, 11, 13, 17, 19, 23, 29, 31, 37, 41, 43, 47, 53, 59, 61, 67, 71, 73, 79, 83, 89, 97])]
def sq (c : Nat) : String × List Int32 := stL.getD (c - 1000) ("", [])
def sn (c : Nat) : Nat := (sq c).2.length
def sv (c j : Nat) : Int32 := (sq c).2.getD j 0
end
section
/-! ===== THE SMALL MACHINE: bytecode over a store of numbers; cells by their numbers, references are cells' numbers ===== -/
abbrev Sg : Type := (Nat → Nat → Int32) × (Nat → Nat → Int64)
abbrev LV : Type := List (Nat × Value)
/-- pc, instruction, length, three numbers that say what it links to, constants or targets -/
abbrev Ent : Type := Nat × Instr × Nat × Nat × Nat × Nat × List Int
abbrev PS : Type := Nat × LV × List Value × Sg
/-- an array that is only read: the law's script -/
abbrev RO : Type := Option (Nat × (Nat → Int32))
def si (σ : Sg) (c j : Nat) (x : Int32) : Sg := (fun c' => if c' = c then upd (σ.1 c) j x else σ.1 c', σ.2)
def sl (σ : Sg) (c j : Nat) (x : Int64) : Sg := (σ.1, fun c' => if c' = c then vp_updL (σ.2 c) j x else σ.2 c')
def scp (σ : Sg) (c0 c1 sp dp n : Nat) : Sg := (fun c' => if c' = c1 then va_cpy (σ.1 c0) (σ.1 c1) sp dp n else σ.1 c', σ.2)
def lget : LV → Nat → Option Value
  | [], _ => none
  | (i, v) :: r, k => bif i == k then some v else lget r k
def lset1 (lv : LV) (i : Nat) (v : Value) : LV := (i, v) :: lv.filter (fun q => !(q.1 == i) && !(q.1 + 1 == i && q.2.category == 2))
def lset2 (lv : LV) (i : Nat) (v : Value) : LV := (i, v) :: lv.filter (fun q => !(q.1 == i) && (!(q.1 == i + 1) && !(q.1 + 1 == i && q.2.category == 2)))
def conj : List Prop → Prop
  | [] => True
  | p :: l => p ∧ conj l
def nb (x : Int32) : Prop := x = 0 ∨ x = 1
def swt (x : Int32) (d : Nat) : Int → List Int → Nat
  | _, [] => d
  | k, t :: r => if x = Int32.ofInt k then t.toNat else swt x d (k + 1) r
abbrev Res : Type := Option (List Prop × PS)
def nx (pc : Nat) (lv : LV) (st : List Value) (σ : Sg) : Res := some ([], pc, lv, st, σ)
def cx (c : Prop) (pc : Nat) (lv : LV) (st : List Value) (σ : Sg) : Res := some ([c], pc, lv, st, σ)
def xld (v : Option Value) (pc : Nat) (lv : LV) (st : List Value) (σ : Sg) : Res := match v with
  | some w => nx pc lv (w :: st) σ
  | none => none
def isI : Option Value → Option Value
  | some (.int x) => some (.int x)
  | _ => none
def isJ : Option Value → Option Value
  | some (.long x) => some (.long x)
  | _ => none
def isR : Option Value → Option Value
  | some (.ref x) => some (.ref x)
  | _ => none
def xst (i : Nat) (pc : Nat) (lv : LV) (st : List Value) (σ : Sg) : Res := match st with
  | .int x :: r => nx pc (lset1 lv i (.int x)) r σ
  | _ => none
def xsta (i : Nat) (pc : Nat) (lv : LV) (st : List Value) (σ : Sg) : Res := match st with
  | .ref x :: r => nx pc (lset1 lv i (.ref x)) r σ
  | _ => none
def xstl (i : Nat) (pc : Nat) (lv : LV) (st : List Value) (σ : Sg) : Res := match st with
  | .long x :: r => nx pc (lset2 lv i (.long x)) r σ
  | _ => none
def x2i (f : Int32 → Int32 → Int32) (pc : Nat) (lv : LV) (st : List Value) (σ : Sg) : Res := match st with
  | .int y :: .int x :: r => nx pc lv (.int (f x y) :: r) σ
  | _ => none
def x2ic (f : Int32 → Int32 → Int32) (pc : Nat) (lv : LV) (st : List Value) (σ : Sg) : Res := match st with
  | .int y :: .int x :: r => cx (¬ y = 0) pc lv (.int (f x y) :: r) σ
  | _ => none
def x2l (f : Int64 → Int64 → Int64) (pc : Nat) (lv : LV) (st : List Value) (σ : Sg) : Res := match st with
  | .long y :: .long x :: r => nx pc lv (.long (f x y) :: r) σ
  | _ => none
def x2lc (f : Int64 → Int64 → Int64) (pc : Nat) (lv : LV) (st : List Value) (σ : Sg) : Res := match st with
  | .long y :: .long x :: r => cx (¬ y = 0) pc lv (.long (f x y) :: r) σ
  | _ => none
def xif (f : Int32 → Nat) (lv : LV) (st : List Value) (σ : Sg) : Res := match st with
  | .int x :: r => nx (f x) lv r σ
  | _ => none
def xif2 (f : Int32 → Int32 → Nat) (lv : LV) (st : List Value) (σ : Sg) : Res := match st with
  | .int y :: .int x :: r => nx (f x y) lv r σ
  | _ => none
def iush (x y : Int32) : Int32 := (x.toUInt32 >>> (y.toUInt32 &&& Int32.toUInt32 31)).toInt32
def lush (x : Int64) (y : Int32) : Int64 := (x.toUInt64 >>> (y.toInt64.toUInt64 &&& Int64.toUInt64 63)).toInt64
def irm (x y : Int32) : Int32 := x - x / y * y
def lrm (x y : Int64) : Int64 := x - x / y * y
def iabs (x : Int32) : Int32 := if 0 ≤ x then x else 0 - x
def labs (x : Int64) : Int64 := if 0 < x then x else -x
def imax (x y : Int32) : Int32 := if x < y then y else x
def imin (x y : Int32) : Int32 := if y < x then y else x
/-- what one instruction does, and on what conditions; none: nothing is said -/
def exec1 (X : RO) (e : Ent) (lv : LV) (st : List Value) (σ : Sg) : Res :=
  match e with
  | (pc, ins, len, a, b, d, zs) =>
  match ins with
  | .iload i => xld (isI (lget lv i)) (pc + len) lv st σ
  | .iload_n k => xld (isI (lget lv k.val)) (pc + len) lv st σ
  | .lload i => xld (isJ (lget lv i)) (pc + len) lv st σ
  | .lload_n k => xld (isJ (lget lv k.val)) (pc + len) lv st σ
  | .aload i => xld (isR (lget lv i)) (pc + len) lv st σ
  | .aload_n k => xld (isR (lget lv k.val)) (pc + len) lv st σ
  | .istore i => xst i (pc + len) lv st σ
  | .istore_n k => xst k.val (pc + len) lv st σ
  | .lstore i => xstl i (pc + len) lv st σ
  | .lstore_n k => xstl k.val (pc + len) lv st σ
  | .astore i => xsta i (pc + len) lv st σ
  | .astore_n k => xsta k.val (pc + len) lv st σ
  | .iinc i n => (match lget lv i with
    | some (.int x) => nx (pc + len) (lset1 lv i (.int (x + Int32.ofInt n))) st σ
    | _ => none)
  | .iconst n => nx (pc + len) lv (.int (Int32.ofInt n) :: st) σ
  | .bipush n => nx (pc + len) lv (.int (Int32.ofInt n) :: st) σ
  | .sipush n => nx (pc + len) lv (.int (Int32.ofInt n) :: st) σ
  | .ldc _ => (match zs with
    | z :: _ => nx (pc + len) lv (.int (Int32.ofInt z) :: st) σ
    | _ => none)
  | .ldc_w _ => (match zs with
    | z :: _ => nx (pc + len) lv (.int (Int32.ofInt z) :: st) σ
    | _ => none)
  | .ldc2_w _ => (match zs with
    | z :: _ => nx (pc + len) lv (.long (Int64.ofInt z) :: st) σ
    | _ => none)
  | .lconst n => nx (pc + len) lv (.long (Int64.ofNat n.val) :: st) σ
  | .iadd => x2i (fun x y => x + y) (pc + len) lv st σ
  | .isub => x2i (fun x y => x - y) (pc + len) lv st σ
  | .imul => x2i (fun x y => x * y) (pc + len) lv st σ
  | .iand => x2i (fun x y => x &&& y) (pc + len) lv st σ
  | .ior => x2i (fun x y => x ||| y) (pc + len) lv st σ
  | .ixor => x2i (fun x y => x ^^^ y) (pc + len) lv st σ
  | .ishl => x2i (fun x y => x <<< (y &&& 31)) (pc + len) lv st σ
  | .ishr => x2i (fun x y => x >>> (y &&& 31)) (pc + len) lv st σ
  | .iushr => x2i iush (pc + len) lv st σ
  | .idiv => x2ic (fun x y => x / y) (pc + len) lv st σ
  | .irem => x2ic irm (pc + len) lv st σ
  | .ineg => (match st with
    | .int x :: r => nx (pc + len) lv (.int (-x) :: r) σ
    | _ => none)
  | .ladd => x2l (fun x y => x + y) (pc + len) lv st σ
  | .lsub => x2l (fun x y => x - y) (pc + len) lv st σ
  | .lmul => x2l (fun x y => x * y) (pc + len) lv st σ
  | .ldiv => x2lc (fun x y => x / y) (pc + len) lv st σ
  | .lrem => x2lc lrm (pc + len) lv st σ
  | .lneg => (match st with
    | .long x :: r => nx (pc + len) lv (.long (-x) :: r) σ
    | _ => none)
  | .lushr => (match st with
    | .int y :: .long x :: r => nx (pc + len) lv (.long (lush x y) :: r) σ
    | _ => none)
  | .lcmp => (match st with
    | .long y :: .long x :: r => nx (pc + len) lv (.int (lg_cmp x y) :: r) σ
    | _ => none)
  | .i2l => (match st with
    | .int x :: r => nx (pc + len) lv (.long x.toInt64 :: r) σ
    | _ => none)
  | .l2i => (match st with
    | .long x :: r => nx (pc + len) lv (.int x.toInt32 :: r) σ
    | _ => none)
  | .ifCond .eq _ => xif (fun x => if x = 0 then a else pc + 3) lv st σ
  | .ifCond .ne _ => xif (fun x => if ¬ x = 0 then a else pc + 3) lv st σ
  | .ifCond .lt _ => xif (fun x => if x < 0 then a else pc + 3) lv st σ
  | .ifCond .ge _ => xif (fun x => if 0 ≤ x then a else pc + 3) lv st σ
  | .ifCond .gt _ => xif (fun x => if 0 < x then a else pc + 3) lv st σ
  | .ifCond .le _ => xif (fun x => if x ≤ 0 then a else pc + 3) lv st σ
  | .if_icmp .eq _ => xif2 (fun x y => if x = y then a else pc + 3) lv st σ
  | .if_icmp .ne _ => xif2 (fun x y => if ¬ x = y then a else pc + 3) lv st σ
  | .if_icmp .lt _ => xif2 (fun x y => if x < y then a else pc + 3) lv st σ
  | .if_icmp .ge _ => xif2 (fun x y => if y ≤ x then a else pc + 3) lv st σ
  | .if_icmp .gt _ => xif2 (fun x y => if y < x then a else pc + 3) lv st σ
  | .if_icmp .le _ => xif2 (fun x y => if x ≤ y then a else pc + 3) lv st σ
  | .goto _ => nx a lv st σ
  | .tableswitch _ lo _ _ => xif (fun x => swt x a lo zs) lv st σ
  | .dup => (match st with
    | v :: r => cx (v.category = 1) (pc + len) lv (v :: v :: r) σ
    | _ => none)
  | .dup2 => (match st with
    | v :: w :: r => cx (v.category = 1 ∧ w.category = 1) (pc + len) lv (v :: w :: v :: w :: r) σ
    | _ => none)
  | .iaload => (match st with
    | .int i :: .ref c :: r => bif d == 0 then cx (ck c = 0 ∧ vp_in i (al c)) (pc + len) lv (.int (σ.1 c i.toNatClampNeg) :: r) σ
        else bif d == 1 then cx ((1000 ≤ c ∧ c < 1005) ∧ vp_in i (sn c)) (pc + len) lv (.int (sv c i.toNatClampNeg) :: r) σ
        else (match X with
          | some x => cx (c = 2000 ∧ vp_in i x.1) (pc + len) lv (.int (x.2 i.toNatClampNeg) :: r) σ
          | none => none)
    | _ => none)
  | .laload => (match st with
    | .int i :: .ref c :: r => cx (ck c = 1 ∧ vp_in i (al c)) (pc + len) lv (.long (σ.2 c i.toNatClampNeg) :: r) σ
    | _ => none)
  | .baload => (match st with
    | .int i :: .ref c :: r => cx (ck c = 2 ∧ vp_in i (al c)) (pc + len) lv (.int (σ.1 c i.toNatClampNeg) :: r) σ
    | _ => none)
  | .aaload => (match st with
    | .int i :: .ref c :: r => cx ((ck c = 3 ∨ ck c = 4) ∧ vp_in i (al c)) (pc + len) lv (.ref (c + 1 + i.toNatClampNeg) :: r) σ
    | _ => none)
  | .iastore => (match st with
    | .int x :: .int i :: .ref c :: r => cx (ck c = 0 ∧ vp_in i (al c)) (pc + len) lv r (si σ c i.toNatClampNeg x)
    | _ => none)
  | .lastore => (match st with
    | .long x :: .int i :: .ref c :: r => cx (ck c = 1 ∧ vp_in i (al c)) (pc + len) lv r (sl σ c i.toNatClampNeg x)
    | _ => none)
  | .bastore => (match st with
    | .int x :: .int i :: .ref c :: r => cx (ck c = 2 ∧ vp_in i (al c)) (pc + len) lv r (si σ c i.toNatClampNeg (x &&& 1))
    | _ => none)
  | .arraylength => (match st with
    | .ref c :: r => bif d == 0 then cx (ck c < 5) (pc + len) lv (.int (Int32.ofNat (al c)) :: r) σ
        else bif d == 1 then cx (1000 ≤ c ∧ c < 1005) (pc + len) lv (.int (Int32.ofNat (sn c)) :: r) σ
        else (match X with
          | some x => cx (c = 2000) (pc + len) lv (.int (Int32.ofNat x.1) :: r) σ
          | none => none)
    | _ => none)
  | .getfield _ => (match st with
    | .ref c :: r => bif d == 1 then cx (ck c = 5 + a) (pc + len) lv (.long (σ.2 c b) :: r) σ
        else bif d == 2 then cx (ck c = 5 + a) (pc + len) lv (.ref (rf c b) :: r) σ
        else cx (ck c = 5 + a) (pc + len) lv (.int (σ.1 c b) :: r) σ
    | _ => none)
  | .putfield _ => (match st with
    | .int x :: .ref c :: r => bif d == 0 then cx (ck c = 5 + a) (pc + len) lv r (si σ c b x)
        else bif d == 3 then cx (ck c = 5 + a ∧ nb x) (pc + len) lv r (si σ c b x) else none
    | .long x :: .ref c :: r => bif d == 1 then cx (ck c = 5 + a) (pc + len) lv r (sl σ c b x) else none
    | _ => none)
  | .getstatic _ => nx (pc + len) lv (.ref a :: st) σ
  | .invokestatic _ => bif d == 7 then (match st with
      | .int n :: .int dp :: .ref c1 :: .int sp :: .ref c0 :: r => cx ((ck c0 = 0 ∧ ck c1 = 0 ∧ (r.map fun v => v.category).sum ≤ 8) ∧ (¬ sp < 0 ∧ ¬ dp < 0 ∧ ¬ n < 0) ∧ sp.toNatClampNeg + n.toNatClampNeg ≤ al c0 ∧ dp.toNatClampNeg + n.toNatClampNeg ≤ al c1) (pc + len) lv r (scp σ c0 c1 sp.toNatClampNeg dp.toNatClampNeg n.toNatClampNeg)
      | _ => none)
    else bif d == 8 then (match st with
      | .int x :: r => cx ((r.map fun v => v.category).sum ≤ 8) (pc + len) lv (.int (iabs x) :: r) σ
      | _ => none)
    else bif d == 9 then (match st with
      | .long x :: r => cx ((r.map fun v => v.category).sum ≤ 8) (pc + len) lv (.long (labs x) :: r) σ
      | _ => none)
    else bif d == 10 then (match st with
      | .int y :: .int x :: r => cx ((r.map fun v => v.category).sum ≤ 8) (pc + len) lv (.int (imax x y) :: r) σ
      | _ => none)
    else bif d == 11 then (match st with
      | .int y :: .int x :: r => cx ((r.map fun v => v.category).sum ≤ 8) (pc + len) lv (.int (imin x y) :: r) σ
      | _ => none)
    else none
  | _ => none
/-- a row of instructions, one behind the other -/
def blk (X : RO) : List Ent → PS → Res
  | [], s => some ([], s)
  | e :: l, (pc, lv, st, σ) => bif e.1 == pc then
      (match exec1 X e lv st σ with
      | none => none
      | some (c1, s1) => (match blk X l s1 with
        | none => none
        | some (c2, s2) => some (c1 ++ c2, s2)))
    else none
/-- what a return gives back, and on what condition (a = 1: a boolean) -/
def retv (e : Ent) (st : List Value) : Option (Prop × Option Value) :=
  match e with
  | (_, ins, _, a, _, _, _) =>
  match ins with
  | .ireturn => (match st with
    | [.int x] => bif a == 1 then some (nb x, some (.int x)) else some (True, some (.int x))
    | _ => none)
  | .lreturn => (match st with
    | [.long x] => some (True, some (.long x))
    | _ => none)
  | .areturn => (match st with
    | [.ref x] => some (True, some (.ref x))
    | _ => none)
  | .return_ => (match st with
    | [] => some (True, none)
    | _ => none)
  | _ => none
/-- the arguments of a call (the object first), what is left, on what condition: n values; k: the object's class, 0 for a static one -/
def popn : Nat → List Value → List Value → Option (List Value × List Value)
  | 0, acc, st => some (acc, st)
  | n + 1, acc, v :: st => popn n (v :: acc) st
  | _ + 1, _, [] => none
def icall (e : Ent) (st : List Value) : Option (Prop × List Value × List Value) :=
  match e with
  | (_, ins, _, _, b, d, _) =>
  match ins with
  | .invokestatic _ => bif Nat.blt 6 d then none else (match popn b [] st with
    | some (as, r) => some ((r.map fun v => v.category).sum ≤ 8, as, r)
    | none => none)
  | .invokevirtual _ => (match popn b [] st with
    | some (as, .ref c :: r) => some (ck c = 5 + d ∧ (r.map fun v => v.category).sum ≤ 8, .ref c :: as, r)
    | _ => none)
  | _ => none
abbrev Env1 : Type := Nat → List Value → Sg → (Option Value → Sg → Prop) → Prop
/-- from here the method returns, with Q; G: what its calls do; cs: its rows -/
def Rch (X : RO) (G : Env1) (cs : List (List Ent)) (Q : Option Value → Sg → Prop) : Nat → PS → Prop
  | 0, _ => False
  | n + 1, (pc, lv, st, σ) =>
    (∃ (k : Nat) (l : List Ent) (c : List Prop) (s2 : PS), cs[k]? = some l ∧ blk X l (pc, lv, st, σ) = some (c, s2) ∧ conj c ∧ Rch X G cs Q n s2) ∨
    (∃ (ks : List Nat) (lv2 : LV), lv_pick lv ks = lv2 ∧ Rch X G cs Q n (pc, lv2, st, σ)) ∨
    (∃ (k : Nat) (e : Ent) (c : Prop) (as r : List Value), cs[k]? = some [e] ∧ e.1 = pc ∧ icall e st = some (c, as, r) ∧ c ∧ G e.2.2.2.1 as σ (fun v σ2 => Rch X G cs Q n (pc + 3, lv, v.toList ++ r, σ2))) ∨
    (∃ (k : Nat) (e : Ent) (c : Prop) (v : Option Value), cs[k]? = some [e] ∧ e.1 = pc ∧ retv e st = some (c, v) ∧ c ∧ Q v σ)
theorem Rch.mono {X : RO} {G G2 : Env1} {cs : List (List Ent)} {Q Q2 : Option Value → Sg → Prop} (hQ : ∀ v σ, Q v σ → Q2 v σ) (hG : ∀ m as σ P P2, (∀ v σ, P v σ → P2 v σ) → G m as σ P → G2 m as σ P2) : ∀ (n : Nat) (s : PS), Rch X G cs Q n s → Rch X G2 cs Q2 n s := by
  intro n
  induction n with
  | zero => intro s h; exact h.elim
  | succ n ih =>
    intro s h
    obtain ⟨pc, lv, st, σ⟩ := s
    rcases h with ⟨k, l, c, s2, h1, h2, h3, h4⟩ | ⟨ks, lv2, h1, h2⟩ | ⟨k, e, c, as, r, h1, h2, h3, h4, h5⟩ | ⟨k, e, c, v, h1, h2, h3, h4, h5⟩
    · exact Or.inl ⟨k, l, c, s2, h1, h2, h3, ih _ h4⟩
    · exact Or.inr (Or.inl ⟨ks, lv2, h1, ih _ h2⟩)
    · exact Or.inr (Or.inr (Or.inl ⟨k, e, c, as, r, h1, h2, h3, h4, hG _ _ _ _ _ (fun v σ2 h => ih _ h) h5⟩))
    · exact Or.inr (Or.inr (Or.inr ⟨k, e, c, v, h1, h2, h3, h4, hQ _ _ h5⟩))
theorem Rch.up {X : RO} {G : Env1} {cs : List (List Ent)} {Q : Option Value → Sg → Prop} (hG : ∀ m as σ P P2, (∀ v σ, P v σ → P2 v σ) → G m as σ P → G m as σ P2) : ∀ (n : Nat) (s : PS), Rch X G cs Q n s → Rch X G cs Q (n + 1) s := by
  intro n
  induction n with
  | zero => intro s h; exact h.elim
  | succ n ih =>
    intro s h
    obtain ⟨pc, lv, st, σ⟩ := s
    rcases h with ⟨k, l, c, s2, h1, h2, h3, h4⟩ | ⟨ks, lv2, h1, h2⟩ | ⟨k, e, c, as, r, h1, h2, h3, h4, h5⟩ | ⟨k, e, c, v, h1, h2, h3, h4, h5⟩
    · exact Or.inl ⟨k, l, c, s2, h1, h2, h3, ih _ h4⟩
    · exact Or.inr (Or.inl ⟨ks, lv2, h1, ih _ h2⟩)
    · exact Or.inr (Or.inr (Or.inl ⟨k, e, c, as, r, h1, h2, h3, h4, hG _ _ _ _ _ (fun v σ2 h => ih _ h) h5⟩))
    · exact Or.inr (Or.inr (Or.inr ⟨k, e, c, v, h1, h2, h3, h4, h5⟩))
/-- somehow, in some number of steps -/
def Rc (X : RO) (G : Env1) (cs : List (List Ent)) (s : PS) (Q : Option Value → Sg → Prop) : Prop := ∃ n, Rch X G cs Q n s
theorem Rc.blk {X : RO} {G : Env1} {cs : List (List Ent)} {Q : Option Value → Sg → Prop} {pc : Nat} {lv : LV} {st : List Value} {σ : Sg} (k : Nat) {l : List Ent} {c : List Prop} {s2 : PS} (h1 : cs[k]? = some l) (h2 : blk X l (pc, lv, st, σ) = some (c, s2)) (h3 : conj c) (h4 : Rc X G cs s2 Q) : Rc X G cs (pc, lv, st, σ) Q := by
  obtain ⟨n, h⟩ := h4
  exact ⟨n + 1, Or.inl ⟨k, l, c, s2, h1, h2, h3, h⟩⟩
theorem Rc.pick {X : RO} {G : Env1} {cs : List (List Ent)} {Q : Option Value → Sg → Prop} {pc : Nat} {lv lv2 : LV} {st : List Value} {σ : Sg} (ks : List Nat) (h1 : lv_pick lv ks = lv2) (h2 : Rc X G cs (pc, lv2, st, σ) Q) : Rc X G cs (pc, lv, st, σ) Q := by
  obtain ⟨n, h⟩ := h2
  exact ⟨n + 1, Or.inr (Or.inl ⟨ks, lv2, h1, h⟩)⟩
theorem Rc.ret {X : RO} {G : Env1} {cs : List (List Ent)} {Q : Option Value → Sg → Prop} {pc : Nat} {lv : LV} {st : List Value} {σ : Sg} (k : Nat) {e : Ent} {c : Prop} {v : Option Value} (h1 : cs[k]? = some [e]) (h2 : e.1 = pc) (h3 : retv e st = some (c, v)) (h4 : c) (h5 : Q v σ) : Rc X G cs (pc, lv, st, σ) Q := ⟨1, Or.inr (Or.inr (Or.inr ⟨k, e, c, v, h1, h2, h3, h4, h5⟩))⟩
/-- a call whose answer is known -/
theorem Rc.call {X : RO} {G : Env1} {cs : List (List Ent)} {Q : Option Value → Sg → Prop} (hG : ∀ m as σ P P2, (∀ v σ, P v σ → P2 v σ) → G m as σ P → G m as σ P2) {pc : Nat} {lv : LV} {st : List Value} {σ : Sg} (k : Nat) {e : Ent} {c : Prop} {as r : List Value} {mi : Nat} {v : Option Value} {σ2 : Sg} (h1 : cs[k]? = some [e]) (h2 : e.1 = pc) (hm : e.2.2.2.1 = mi) (h3 : icall e st = some (c, as, r)) (h4 : c) (h5 : G mi as σ (fun v' σ' => v' = v ∧ σ' = σ2)) (h6 : Rc X G cs (pc + 3, lv, v.toList ++ r, σ2) Q) : Rc X G cs (pc, lv, st, σ) Q := by
  obtain ⟨n, h⟩ := h6
  subst hm
  exact ⟨n + 1, Or.inr (Or.inr (Or.inl ⟨k, e, c, as, r, h1, h2, h3, h4, hG _ _ _ _ _ (fun v' σ' hh => by obtain ⟨rfl, rfl⟩ := hh; exact h) h5⟩))⟩
end
section
/-! ===== the small machine's store as a world of cells ===== -/
def TB : List Cond := lw_tbl.filter goodWord
theorem tb_good {w : Cond} (h : w ∈ TB) : w ∈ lw_tbl ∧ goodWord w = true := by
  simpa [TB, List.mem_filter] using h
theorem tb_at (i : Nat) {w : Cond} (h : lw_tbl[i]? = some w) (g : goodWord w = true) : w ∈ TB := List.mem_filter.mpr ⟨List.mem_of_getElem? h, g⟩
theorem tb_p (i : Nat) {w : Cond} (h : (k2_sels lw_privs)[i]? = some w) (g : goodWord w = true) : w ∈ TB := List.mem_filter.mpr ⟨List.mem_append_left _ (List.mem_of_getElem? h), g⟩
theorem lw_1 (i : Nat) {w : Cond} (h : tables_1_1[i]? = some w) : w ∈ lw_tbl := List.mem_append_right _ (List.mem_append_left _ (List.mem_of_getElem? h))
theorem lw_2 (i : Nat) {w : Cond} (h : tables_1_2[i]? = some w) : w ∈ lw_tbl := List.mem_append_right _ (List.mem_append_right _ (List.mem_append_left _ (List.mem_of_getElem? h)))
theorem lw_3 (i : Nat) {w : Cond} (h : tables_1_3[i]? = some w) : w ∈ lw_tbl := List.mem_append_right _ (List.mem_append_right _ (List.mem_append_right _ (List.mem_append_left _ (List.mem_of_getElem? h))))
theorem lw_4 (i : Nat) {w : Cond} (h : tables_1_4[i]? = some w) : w ∈ lw_tbl := List.mem_append_right _ (List.mem_append_right _ (List.mem_append_right _ (List.mem_append_right _ (List.mem_append_left _ (List.mem_of_getElem? h)))))
theorem lw_5 (i : Nat) {w : Cond} (h : tables_1_5[i]? = some w) : w ∈ lw_tbl := List.mem_append_right _ (List.mem_append_right _ (List.mem_append_right _ (List.mem_append_right _ (List.mem_append_right _ (List.mem_append_left _ (List.mem_of_getElem? h))))))
theorem lw_6 (i : Nat) {w : Cond} (h : tables_1_6[i]? = some w) : w ∈ lw_tbl := List.mem_append_right _ (List.mem_append_right _ (List.mem_append_right _ (List.mem_append_right _ (List.mem_append_right _ (List.mem_append_right _ (List.mem_of_getElem? h))))))
theorem tb_1 (i : Nat) {w : Cond} (h : tables_1_1[i]? = some w) (g : goodWord w = true) : w ∈ TB := List.mem_filter.mpr ⟨lw_1 i h, g⟩
theorem tb_2 (i : Nat) {w : Cond} (h : tables_1_2[i]? = some w) (g : goodWord w = true) : w ∈ TB := List.mem_filter.mpr ⟨lw_2 i h, g⟩
theorem tb_3 (i : Nat) {w : Cond} (h : tables_1_3[i]? = some w) (g : goodWord w = true) : w ∈ TB := List.mem_filter.mpr ⟨lw_3 i h, g⟩
theorem tb_4 (i : Nat) {w : Cond} (h : tables_1_4[i]? = some w) (g : goodWord w = true) : w ∈ TB := List.mem_filter.mpr ⟨lw_4 i h, g⟩
theorem tb_5 (i : Nat) {w : Cond} (h : tables_1_5[i]? = some w) (g : goodWord w = true) : w ∈ TB := List.mem_filter.mpr ⟨lw_5 i h, g⟩
theorem tb_6 (i : Nat) {w : Cond} (h : tables_1_6[i]? = some w) (g : goodWord w = true) : w ∈ TB := List.mem_filter.mpr ⟨lw_6 i h, g⟩
theorem tb_goodIn {w : Cond} (h : w ∈ TB) : GoodIn TB (w :: TB) := by
  intro v hv
  rcases List.mem_cons.mp hv with rfl | hv
  · exact ⟨h, good_of_word (tb_good h).2⟩
  · exact ⟨hv, good_of_word (tb_good hv).2⟩
def enc (ad : Nat → Nat) : Value → Value
  | .ref k => .ref (ad k)
  | .int x => .int x
  | .long x => .long x
  | .float x => .float x
  | .double x => .double x
  | .null => .null
  | .retAddr x => .retAddr x
def elv (ad : Nat → Nat) (lv : LV) : LV := lv.map fun q => (q.1, enc ad q.2)
def est (ad : Nat → Nat) (st : List Value) : List Value := st.map (enc ad)
theorem enc_cat (ad : Nat → Nat) (v : Value) : (enc ad v).category = v.category := by cases v <;> rfl
theorem est_cat (ad : Nat → Nat) (st : List Value) : ((est ad st).map fun v => v.category).sum = (st.map fun v => v.category).sum := by
  simp [est, Function.comp_def, enc_cat]
theorem elv_lset1 (ad : Nat → Nat) (lv : LV) (i : Nat) (v : Value) : (i, enc ad v) :: (elv ad lv).filter (fun q => !(q.1 == i) && !(q.1 + 1 == i && q.2.category == 2)) = elv ad (lset1 lv i v) := by
  simp [elv, lset1, List.filter_map, Function.comp_def, enc_cat]
theorem elv_lset2 (ad : Nat → Nat) (lv : LV) (i : Nat) (v : Value) : (i, enc ad v) :: (elv ad lv).filter (fun q => !(q.1 == i) && (!(q.1 == i + 1) && !(q.1 + 1 == i && q.2.category == 2))) = elv ad (lset2 lv i v) := by
  simp [elv, lset2, List.filter_map, Function.comp_def, enc_cat]
theorem lget_mem : ∀ {lv : LV} {i : Nat} {v : Value}, lget lv i = some v → (i, v) ∈ lv
  | [], _, _, h => by cases h
  | (j, w) :: r, i, v, h => by
    unfold lget at h
    by_cases hj : j = i
    · subst hj
      simp at h
      rw [h]
      exact List.mem_cons_self
    · have hb : (j == i) = false := by simpa using hj
      rw [hb] at h
      exact List.mem_cons_of_mem _ (lget_mem h)
theorem lget_has {ad : Nat → Nat} {ls : Array Slot} {nL : Nat} {lv : LV} {i : Nat} {v : Value} (h : lv_has ls nL (elv ad lv)) (hg : lget lv i = some v) : ls[i]? = some (.val (enc ad v)) := h.2.2 (i, enc ad v) (List.mem_map.mpr ⟨(i, v), lget_mem hg, rfl⟩)
theorem elv_pick {ad : Nat → Nat} {ls : Array Slot} {nL : Nat} {lv : LV} (ks : List Nat) (h : lv_has ls nL (elv ad lv)) : lv_has ls nL (elv ad (lv_pick lv ks)) := by
  refine lv_sub h ks ?_
  induction ks with
  | nil => rfl
  | cons k ks ih =>
    unfold lv_pick at ih ⊢
    unfold elv at ih ⊢
    simp only [List.filterMap_cons, List.getElem?_map]
    cases lv[k]? with
    | none => simpa using ih
    | some q => simpa using ih
theorem elv_idx {ad : Nat → Nat} {lv : LV} {i : Nat} {v : Value} (h : lget lv i = some v) : ∃ k : Nat, (elv ad lv)[k]? = some (i, enc ad v) := by
  have h1 : (i, enc ad v) ∈ elv ad lv := List.mem_map.mpr ⟨(i, v), lget_mem h, rfl⟩
  obtain ⟨k, hk, e⟩ := List.getElem_of_mem h1
  exact ⟨k, by rw [List.getElem?_eq_getElem hk, e]⟩
/-! the world -/
def fvl (ad : Nat → Nat) (σ : Sg) (ci k j : Nat) : Value := match ft ci j with
  | 1 => .long (σ.2 k j)
  | 2 => .ref (ad (rf k j))
  | _ => .int (σ.1 k j)
def cel (tc : Nat → ClassId) (ad : Nat → Nat) (σ : Sg) (k : Nat) : va_E := match ck k with
  | 0 => .inl (tc 0, al k, .inl (σ.1 k))
  | 1 => .inl (tc 1, al k, .inr (.inl (σ.2 k)))
  | 2 => .inl (tc 2, al k, .inl (σ.1 k))
  | 3 => .inl (tc 3, al k, .inr (.inr (.inr (.inr fun j => some (ad (k + 1 + j))))))
  | 4 => .inl (tc 4, al k, .inr (.inr (.inr (.inr fun j => some (ad (k + 1 + j))))))
  | n + 5 => .inr (n, (List.range (nf n)).map (fvl ad σ n k))
def tys (tc : Nat → ClassId) : List (ClassId × FieldType) := [(tc 0, .int), (tc 1, .long), (tc 2, .boolean), (tc 3, .array .int), (tc 4, .array .long)]
def wld (tc : Nat → ClassId) (ad : Nat → Nat) (σ : Sg) : va_W := (List.range NC).map fun k => (ad k, cel tc ad σ k)
def inA (ad : Nat → Nat) (q : Nat) : Prop := ∃ k, k < NC ∧ q = ad k
theorem ck_ge {c : Nat} (h : NC ≤ c) : ck c = 99 := by
  have hb : Nat.blt c NC = false := by
    cases hq : Nat.blt c NC with
    | false => rfl
    | true => exact absurd (Nat.blt_eq.mp hq) (by omega)
  unfold ck
  rw [hb]
  rfl
theorem ck_lt {c n : Nat} (h : ck c = n) (hn : n ≠ 99) : c < NC := by
  rcases Nat.lt_or_ge c NC with q | q
  · exact q
  · exact absurd (h.symm.trans (ck_ge q)) hn
theorem wld_get {tc : Nat → ClassId} {ad : Nat → Nat} {σ : Sg} {k : Nat} (h : k < NC) : (wld tc ad σ)[k]? = some (ad k, cel tc ad σ k) := by
  unfold wld
  rw [List.getElem?_map, List.getElem?_range h]
  rfl
theorem wld_set {tc : Nat → ClassId} {ad : Nat → Nat} {σ σ2 : Sg} {k : Nat} (h : k < NC) (hs : ∀ j, j ≠ k → cel tc ad σ2 j = cel tc ad σ j) : (wld tc ad σ).set k (ad k, cel tc ad σ2 k) = wld tc ad σ2 := by
  refine List.ext_getElem? fun i => ?_
  rw [List.getElem?_set]
  by_cases hk : k = i
  · subst hk
    rw [if_pos rfl, wld_get h]
    simp [wld, h]
  · rw [if_neg hk]
    rcases Nat.lt_or_ge i NC with q | q
    · rw [wld_get q, wld_get q, hs i (fun z => hk z.symm)]
    · rw [List.getElem?_eq_none (by simp [wld]; exact q), List.getElem?_eq_none (by simp [wld]; exact q)]
theorem cel_si {tc : Nat → ClassId} {ad : Nat → Nat} {σ : Sg} {c j k : Nat} {x : Int32} (h : k ≠ c) : cel tc ad (si σ c j x) k = cel tc ad σ k := by
  have e : fvl ad (si σ c j x) = fun ci k' => if k' = k then fvl ad σ ci k' else fvl ad (si σ c j x) ci k' := by
    funext ci k' j'
    by_cases hk : k' = k
    · rw [if_pos hk]
      subst hk
      unfold fvl si
      simp [h]
    · rw [if_neg hk]
  unfold cel
  rw [e]
  simp [si, h]
theorem cel_sl {tc : Nat → ClassId} {ad : Nat → Nat} {σ : Sg} {c j k : Nat} {x : Int64} (h : k ≠ c) : cel tc ad (sl σ c j x) k = cel tc ad σ k := by
  have e : fvl ad (sl σ c j x) = fun ci k' => if k' = k then fvl ad σ ci k' else fvl ad (sl σ c j x) ci k' := by
    funext ci k' j'
    by_cases hk : k' = k
    · rw [if_pos hk]
      subst hk
      unfold fvl sl
      simp [h]
    · rw [if_neg hk]
  unfold cel
  rw [e]
  simp [sl, h]
theorem cel_scp {tc : Nat → ClassId} {ad : Nat → Nat} {σ : Sg} {c0 c sp dp n k : Nat} (h : k ≠ c) : cel tc ad (scp σ c0 c sp dp n) k = cel tc ad σ k := by
  have e : fvl ad (scp σ c0 c sp dp n) = fun ci k' => if k' = k then fvl ad σ ci k' else fvl ad (scp σ c0 c sp dp n) ci k' := by
    funext ci k' j'
    by_cases hk : k' = k
    · rw [if_pos hk]
      subst hk
      unfold fvl scp
      simp [h]
    · rw [if_neg hk]
  unfold cel
  rw [e]
  simp [scp, h]
theorem wld_D {tc : Nat → ClassId} {ad : Nat → Nat} {A : Nat → Prop} (hi : ∀ i j, i < NC → j < NC → ad i = ad j → i = j) (hA : ∀ q, inA ad q → A q) (σ : Sg) : va_D A (wld tc ad σ) := by
  have key : ∀ (i : Nat) (p : Nat × va_E), (wld tc ad σ)[i]? = some p → i < NC ∧ p.1 = ad i := by
    intro i p h
    have hl : i < NC := by
      have := (List.getElem?_eq_some_iff.mp h).1
      simpa [wld] using this
    rw [wld_get hl] at h
    cases h
    exact ⟨hl, rfl⟩
  refine ⟨fun i j p q hp hq e => ?_, fun k q hk => ?_⟩
  · obtain ⟨a1, a2⟩ := key i p hp
    obtain ⟨b1, b2⟩ := key j q hq
    exact hi i j a1 b1 (by rw [← a2, ← b2]; exact e)
  · obtain ⟨a1, a2⟩ := key k q hk
    exact hA _ ⟨k, a1, a2⟩
/-- the static arrays, as the Statement has them -/
def Stc (A : Nat → Prop) (ad : Nat → Nat) (U : State) (H : Heap) : Prop := ∀ i, i < 5 → va_Z "PureGroups" (sq (1000 + i)).1 "[I" (.ref (ad (1000 + i))) A U H ∧ va_T .int (ad (1000 + i)) (sn (1000 + i)) (fun j => .int (sv (1000 + i) j)) A U H
theorem Stc.moved {A : Nat → Prop} {ad : Nat → Nat} {u U : State} {H : Heap} (hvm : u.vm.Alike U.vm) (h : Stc A ad u H) : Stc A ad U H := fun i hi => ⟨(h i hi).1.moved hvm, (h i hi).2.moved hvm⟩
theorem Stc.narrow {A B : Nat → Prop} {ad : Nat → Nat} {U : State} {H : Heap} (h : Stc A ad U H) (hAB : ∀ q, B q → A q) : Stc B ad U H := fun i hi => ⟨(h i hi).1.narrow hAB, (h i hi).2.narrow hAB⟩
theorem Stc.kept {A : Nat → Prop} {ad : Nat → Nat} {U : State} {H H1 : Heap} (h : Stc A ad U H) (hq : ∀ a : Nat, a < H.size → ¬ A a → H1[a]? = H[a]?) : Stc A ad U H1 := fun i hi => ⟨(h i hi).1.kept hq, (h i hi).2.kept hq⟩
/-- links to nest mates: they are carried from state to state -/
def isNst : Cond → Bool
  | .fieldLinkNest _ _ _ _ _ _ => true
  | .methodLinkNest _ _ _ _ => true
  | _ => false
def Nst (U : State) : Prop := ∀ w, w ∈ lw_tbl → isNst w = true → va_Nw w U
theorem Nst.warm {s U : State} (hW : s.WarmedH U.vm) (h : Nst s) : Nst U := by
  intro w hw hn
  have h1 := h w hw hn
  cases w with
  | fieldLinkNest a b c d e f => exact va_Nw.warmF hW h1
  | methodLinkNest a b c d => exact va_Nw.warmM hW h1
  | _ => cases hn
theorem Nst.same {u U : State} (hvm : u.vm = U.vm) (h : Nst u) : Nst U := by
  intro w hw hn
  have h1 := h w hw hn
  cases w with
  | fieldLinkNest a b c d e f => exact va_Nw.same rfl hvm h1
  | methodLinkNest a b c d => exact va_Nw.same rfl hvm h1
  | _ => cases hn
/-! what the tables must say of an instruction -/
abbrev MI : Type := MethodName × ByteArray × Nat × Option FieldType
def ilen : Instr → Nat
  | .iload _ | .lload _ | .aload _ | .istore _ | .lstore _ | .astore _ | .bipush _ | .ldc _ => 2
  | .iinc _ _ | .sipush _ | .ldc_w _ | .ldc2_w _ | .ifCond _ _ | .if_icmp _ _ | .goto _ | .getfield _ | .putfield _ | .getstatic _ | .invokestatic _ | .invokevirtual _ => 3
  | _ => 1
def dty : Nat → FieldType
  | 0 => .int
  | 1 => .long
  | _ => .boolean
def FldOK (own : String) (idx ci k d : Nat) (put : Bool) : Prop := ∃ (C : String) (T : u_T) (N : Nat) (ty0 : Nat → FieldType), cl[ci]? = some (C, T, N) ∧ N = nf ci ∧ k < N ∧ ft ci k = d ∧ (∀ w ∈ u_ws C T N, w ∈ TB) ∧ Cond.fieldLink own idx (T k).1 (T k).2.1 (T k).2.2.1 ∈ TB ∧ (∀ k, k < N → parseFieldDescriptor (T k).2.2.1 = some (ty0 k)) ∧ (∀ a, a < N → ∀ b, b < N → a ≠ b → (T a).2.1 ≠ (T b).2.1) ∧ (put = true → (T k).2.2.2 = false ∧ ty0 k = dty d)
def StaOK (own : String) (idx a : Nat) : Prop := ∃ i, i < 5 ∧ a = 1000 + i ∧ (Cond.fieldLink own idx "PureGroups" (sq a).1 "[I" ∈ TB ∨ ∃ host, Cond.fieldLinkNest own idx "PureGroups" (sq a).1 "[I" host ∈ lw_tbl)
def CalOK (M : Nat → MI) (mid b : Nat) : Prop := (M mid).2.2.1 ≤ 45 ∧ Cond.code (M mid).1 (M mid).2.1 (M mid).2.2.1 (M mid).2.2.2 ∈ TB ∧ Cond.initialized (M mid).1.cls ∈ TB ∧ ((M mid).1.cls ≠ "java/lang/invoke/MethodHandle" ∧ (M mid).1.cls ≠ "java/lang/invoke/VarHandle") ∧ (parseMethodDescriptor (M mid).1.desc).map (fun d => d.parameters.length) = some b
def VirOK (M : Nat → MI) (own : String) (idx mid b d : Nat) : Prop := CalOK M mid b ∧ Cond.methodLink own idx (M mid).1 ∈ TB ∧ Cond.instanceMethod (M mid).1 ∈ TB ∧ Cond.selects (M mid).1.cls (M mid).1 (M mid).1 ∈ TB ∧ ∃ q : vw_C, cl[d]? = some q ∧ q.1 = (M mid).1.cls
def StmOK (M : Nat → MI) (own : String) (idx mid b : Nat) : Prop := CalOK M mid b ∧ (Cond.methodLink own idx (M mid).1 ∈ TB ∨ ∃ host, Cond.methodLinkNest own idx (M mid).1 host ∈ lw_tbl) ∧ Cond.static (M mid).1 ∈ TB
def ArcOK (own : String) (idx : Nat) : Prop := Cond.methodLink own idx arraycopyName ∈ TB ∧ Cond.native arraycopyName ∈ TB ∧ Cond.static arraycopyName ∈ TB ∧ Cond.initialized "java/lang/System" ∈ TB
def MabOK (own : String) (idx : Nat) : Prop := Cond.methodLink own idx Lib.Math.abs.name ∈ TB ∧ Cond.static Lib.Math.abs.name ∈ TB ∧ Cond.initialized "java/lang/Math" ∈ TB ∧ Cond.code Lib.Math.abs.name Lib.Math.abs.code 1 (some .int) ∈ TB
def MalOK (own : String) (idx : Nat) : Prop := Cond.methodLink own idx Lib.MathLoose.abs_long.x ∈ TB ∧ Cond.static Lib.MathLoose.abs_long.x ∈ TB ∧ Cond.initialized "java/lang/Math" ∈ TB ∧ Cond.code Lib.MathLoose.abs_long.x Lib.MathLoose.abs_long.code 2 (some .long) ∈ TB
def MaxOK (own : String) (idx : Nat) : Prop := Cond.methodLink own idx Lib.Math.max.name ∈ TB ∧ Cond.static Lib.Math.max.name ∈ TB ∧ Cond.initialized "java/lang/Math" ∈ TB ∧ Cond.code Lib.Math.max.name Lib.Math.max.code 2 (some .int) ∈ TB
def MinOK (own : String) (idx : Nat) : Prop := Cond.methodLink own idx Lib.Math.min.name ∈ TB ∧ Cond.static Lib.Math.min.name ∈ TB ∧ Cond.initialized "java/lang/Math" ∈ TB ∧ Cond.code Lib.Math.min.name Lib.Math.min.code 2 (some .int) ∈ TB
def SwOK (pc a : Nat) (df lo hi : Int) (offs : Array Int) (zs : List Int) : Prop := (pc : Int) + df = (a : Int) ∧ hi = lo + zs.length - 1 ∧ (-2147483648 ≤ lo ∧ hi ≤ 2147483647) ∧ ∀ i, i < zs.length → ∃ off, offs[i]? = some off ∧ (pc : Int) + off = ((zs.getD i 0).toNat : Int)
def EntOK (M : Nat → MI) (own : String) (cc : ByteArray) (nL : Nat) (e : Ent) : Prop :=
  decode cc e.1 = .ok (e.2.1, e.2.2.1) ∧ (match e with
  | (pc, ins, len, a, b, d, zs) => (match ins with
    | .istore i => i < nL
    | .istore_n k => k.val < nL
    | .astore i => i < nL
    | .astore_n k => k.val < nL
    | .lstore i => i + 1 < nL
    | .lstore_n k => k.val + 1 < nL
    | .iinc i _ => i < nL
    | .bipush n => (Int8.ofInt n).toInt32 = Int32.ofInt n
    | .sipush n => (Int16.ofInt n).toInt32 = Int32.ofInt n
    | .ldc idx => ∃ z r, zs = z :: r ∧ Cond.constant own idx (Int32.ofInt z) ∈ TB
    | .ldc_w idx => ∃ z r, zs = z :: r ∧ Cond.constant own idx (Int32.ofInt z) ∈ TB
    | .ldc2_w idx => ∃ z r, zs = z :: r ∧ Cond.constantLong own idx (Int64.ofInt z) ∈ TB
    | .ifCond _ off => (pc : Int) + off = (a : Int)
    | .if_icmp _ off => (pc : Int) + off = (a : Int)
    | .goto off => (pc : Int) + off = (a : Int)
    | .tableswitch df lo hi offs => SwOK pc a df lo hi offs zs
    | .getfield idx => FldOK own idx a b d false
    | .putfield idx => FldOK own idx a b d true
    | .getstatic idx => StaOK own idx a
    | .invokevirtual idx => VirOK M own idx a b d
    | .invokestatic idx => (d = 7 → ArcOK own idx) ∧ (¬ 6 < d → StmOK M own idx a b) ∧ (d = 8 → MabOK own idx) ∧ (d = 9 → MalOK own idx) ∧ (d = 10 → MaxOK own idx) ∧ (d = 11 → MinOK own idx)
    | _ => True)) ∧ ((∀ a b c d, e.2.1 ≠ .tableswitch a b c d) → e.2.2.1 = ilen e.2.1)
end
section
/-! ===== what the small machine does, the machine does ===== -/
theorem nx_inv {q : Nat} {lv : LV} {st : List Value} {σ : Sg} {cs : List Prop} {pc2 : Nat} {lv2 : LV} {st2 : List Value} {σ2 : Sg} (h : nx q lv st σ = some (cs, pc2, lv2, st2, σ2)) : pc2 = q ∧ lv2 = lv ∧ st2 = st ∧ σ2 = σ := by
  simp only [nx, Option.some.injEq, Prod.mk.injEq] at h
  exact ⟨h.2.1.symm, h.2.2.1.symm, h.2.2.2.1.symm, h.2.2.2.2.symm⟩
theorem cx_inv {c : Prop} {q : Nat} {lv : LV} {st : List Value} {σ : Sg} {cs : List Prop} {pc2 : Nat} {lv2 : LV} {st2 : List Value} {σ2 : Sg} (h : cx c q lv st σ = some (cs, pc2, lv2, st2, σ2)) (hc : conj cs) : c ∧ pc2 = q ∧ lv2 = lv ∧ st2 = st ∧ σ2 = σ := by
  simp only [cx, Option.some.injEq, Prod.mk.injEq] at h
  rw [← h.1] at hc
  exact ⟨hc.1, h.2.1.symm, h.2.2.1.symm, h.2.2.2.1.symm, h.2.2.2.2.symm⟩
section INV
variable {q : Nat} {lv : LV} {st : List Value} {σ : Sg} {cs : List Prop} {pc2 : Nat} {lv2 : LV} {st2 : List Value} {σ2 : Sg}
theorem xldI_inv {o : Option Value} (h : xld (isI o) q lv st σ = some (cs, pc2, lv2, st2, σ2)) : ∃ x, o = some (.int x) ∧ pc2 = q ∧ lv2 = lv ∧ st2 = .int x :: st ∧ σ2 = σ := by
  match o, h with
  | some (.int x), h => obtain ⟨h1, h2, h3, h4⟩ := nx_inv h; exact ⟨x, rfl, h1, h2, h3, h4⟩
theorem xldJ_inv {o : Option Value} (h : xld (isJ o) q lv st σ = some (cs, pc2, lv2, st2, σ2)) : ∃ x, o = some (.long x) ∧ pc2 = q ∧ lv2 = lv ∧ st2 = .long x :: st ∧ σ2 = σ := by
  match o, h with
  | some (.long x), h => obtain ⟨h1, h2, h3, h4⟩ := nx_inv h; exact ⟨x, rfl, h1, h2, h3, h4⟩
theorem xldR_inv {o : Option Value} (h : xld (isR o) q lv st σ = some (cs, pc2, lv2, st2, σ2)) : ∃ x, o = some (.ref x) ∧ pc2 = q ∧ lv2 = lv ∧ st2 = .ref x :: st ∧ σ2 = σ := by
  match o, h with
  | some (.ref x), h => obtain ⟨h1, h2, h3, h4⟩ := nx_inv h; exact ⟨x, rfl, h1, h2, h3, h4⟩
theorem xst_inv {i : Nat} (h : xst i q lv st σ = some (cs, pc2, lv2, st2, σ2)) : ∃ x r, st = .int x :: r ∧ pc2 = q ∧ lv2 = lset1 lv i (.int x) ∧ st2 = r ∧ σ2 = σ := by
  match st, h with
  | .int x :: r, h => obtain ⟨h1, h2, h3, h4⟩ := nx_inv h; exact ⟨x, r, rfl, h1, h2, h3, h4⟩
theorem xsta_inv {i : Nat} (h : xsta i q lv st σ = some (cs, pc2, lv2, st2, σ2)) : ∃ x r, st = .ref x :: r ∧ pc2 = q ∧ lv2 = lset1 lv i (.ref x) ∧ st2 = r ∧ σ2 = σ := by
  match st, h with
  | .ref x :: r, h => obtain ⟨h1, h2, h3, h4⟩ := nx_inv h; exact ⟨x, r, rfl, h1, h2, h3, h4⟩
theorem xstl_inv {i : Nat} (h : xstl i q lv st σ = some (cs, pc2, lv2, st2, σ2)) : ∃ x r, st = .long x :: r ∧ pc2 = q ∧ lv2 = lset2 lv i (.long x) ∧ st2 = r ∧ σ2 = σ := by
  match st, h with
  | .long x :: r, h => obtain ⟨h1, h2, h3, h4⟩ := nx_inv h; exact ⟨x, r, rfl, h1, h2, h3, h4⟩
theorem x2i_inv {f : Int32 → Int32 → Int32} (h : x2i f q lv st σ = some (cs, pc2, lv2, st2, σ2)) : ∃ x y r, st = .int y :: .int x :: r ∧ pc2 = q ∧ lv2 = lv ∧ st2 = .int (f x y) :: r ∧ σ2 = σ := by
  match st, h with
  | .int y :: .int x :: r, h => obtain ⟨h1, h2, h3, h4⟩ := nx_inv h; exact ⟨x, y, r, rfl, h1, h2, h3, h4⟩
theorem x2ic_inv {f : Int32 → Int32 → Int32} (h : x2ic f q lv st σ = some (cs, pc2, lv2, st2, σ2)) (hc : conj cs) : ∃ x y r, st = .int y :: .int x :: r ∧ ¬ y = 0 ∧ pc2 = q ∧ lv2 = lv ∧ st2 = .int (f x y) :: r ∧ σ2 = σ := by
  match st, h with
  | .int y :: .int x :: r, h => obtain ⟨h0, h1, h2, h3, h4⟩ := cx_inv h hc; exact ⟨x, y, r, rfl, h0, h1, h2, h3, h4⟩
theorem x2l_inv {f : Int64 → Int64 → Int64} (h : x2l f q lv st σ = some (cs, pc2, lv2, st2, σ2)) : ∃ x y r, st = .long y :: .long x :: r ∧ pc2 = q ∧ lv2 = lv ∧ st2 = .long (f x y) :: r ∧ σ2 = σ := by
  match st, h with
  | .long y :: .long x :: r, h => obtain ⟨h1, h2, h3, h4⟩ := nx_inv h; exact ⟨x, y, r, rfl, h1, h2, h3, h4⟩
theorem x2lc_inv {f : Int64 → Int64 → Int64} (h : x2lc f q lv st σ = some (cs, pc2, lv2, st2, σ2)) (hc : conj cs) : ∃ x y r, st = .long y :: .long x :: r ∧ ¬ y = 0 ∧ pc2 = q ∧ lv2 = lv ∧ st2 = .long (f x y) :: r ∧ σ2 = σ := by
  match st, h with
  | .long y :: .long x :: r, h => obtain ⟨h0, h1, h2, h3, h4⟩ := cx_inv h hc; exact ⟨x, y, r, rfl, h0, h1, h2, h3, h4⟩
theorem xif_inv {f : Int32 → Nat} (h : xif f lv st σ = some (cs, pc2, lv2, st2, σ2)) : ∃ x r, st = .int x :: r ∧ pc2 = f x ∧ lv2 = lv ∧ st2 = r ∧ σ2 = σ := by
  match st, h with
  | .int x :: r, h => obtain ⟨h1, h2, h3, h4⟩ := nx_inv h; exact ⟨x, r, rfl, h1, h2, h3, h4⟩
theorem xif2_inv {f : Int32 → Int32 → Nat} (h : xif2 f lv st σ = some (cs, pc2, lv2, st2, σ2)) : ∃ x y r, st = .int y :: .int x :: r ∧ pc2 = f x y ∧ lv2 = lv ∧ st2 = r ∧ σ2 = σ := by
  match st, h with
  | .int y :: .int x :: r, h => obtain ⟨h1, h2, h3, h4⟩ := nx_inv h; exact ⟨x, y, r, rfl, h1, h2, h3, h4⟩
end INV
theorem ofInt_eq_iff {x : Int32} {k : Int} (h1 : -2147483648 ≤ k) (h2 : k ≤ 2147483647) : x = Int32.ofInt k ↔ x.toInt = k := by
  constructor
  · intro h
    rw [h]
    exact Int32.toInt_ofInt_of_le h1 (by omega)
  · intro h
    apply Int32.toInt_inj.mp
    rw [h]
    exact (Int32.toInt_ofInt_of_le h1 (by omega)).symm
theorem swt_out {x : Int32} {d : Nat} : ∀ (zs : List Int) (lo : Int), -2147483648 ≤ lo → lo + zs.length - 1 ≤ 2147483647 → (x.toInt < lo ∨ lo + zs.length - 1 < x.toInt) → swt x d lo zs = d
  | [], lo, _, _, _ => rfl
  | t :: r, lo, h1, h2, h => by
    unfold swt
    simp only [List.length_cons] at h2 h
    rw [if_neg (by rw [ofInt_eq_iff h1 (by omega)]; omega)]
    exact swt_out r (lo + 1) (by omega) (by omega) (by omega)
theorem swt_in {x : Int32} {d : Nat} : ∀ (zs : List Int) (lo : Int), -2147483648 ≤ lo → lo + zs.length - 1 ≤ 2147483647 → ¬ x.toInt < lo → ¬ lo + zs.length - 1 < x.toInt → swt x d lo zs = (zs.getD (x.toInt - lo).toNat 0).toNat
  | [], lo, h1, h2, h3, h4 => by simp only [List.length_nil] at h4; omega
  | t :: r, lo, h1, h2, h3, h4 => by
    unfold swt
    simp only [List.length_cons] at h2 h4
    by_cases hx : x.toInt = lo
    · rw [if_pos ((ofInt_eq_iff h1 (by omega)).mpr hx), hx]
      simp
    · rw [if_neg (fun q => hx ((ofInt_eq_iff h1 (by omega)).mp q)), swt_in r (lo + 1) (by omega) (by omega) (by omega) (by omega)]
      have e : (x.toInt - lo).toNat = (x.toInt - (lo + 1)).toNat + 1 := by omega
      rw [e, List.getD_cons_succ]
theorem stc_at {A : Nat → Prop} {ad : Nat → Nat} {U : State} {H : Heap} (h : Stc A ad U H) {c : Nat} (g1 : 1000 ≤ c) (g2 : c < 1005) : va_T .int (ad c) (sn c) (fun j => .int (sv c j)) A U H := by
  have hz := (h (c - 1000) (by omega)).2
  rw [show 1000 + (c - 1000) = c by omega] at hz
  exact hz
theorem ck_nc {c : Nat} (h : ck c ≠ 99) : c < NC := by
  rcases Nat.lt_or_ge c NC with q | q
  · exact q
  · exact absurd (ck_ge q) h
theorem map_set {f g : Nat → Value} {n b : Nat} {v : Value} (hb : b < n) (h : g b = v) (ho : ∀ j, j ≠ b → g j = f j) : (List.range n).map g = ((List.range n).map f).set b v := by
  refine List.ext_getElem? fun i => ?_
  rw [List.getElem?_set]
  by_cases hk : b = i
  · subst hk
    rw [if_pos rfl, List.getElem?_map, List.getElem?_range hb]
    simp [h, hb]
  · rw [if_neg hk, List.getElem?_map, List.getElem?_map]
    rcases Nat.lt_or_ge i n with q | q
    · rw [List.getElem?_range q]
      simp [ho i (fun z => hk z.symm)]
    · rw [List.getElem?_eq_none (by simpa using q)]
      rfl
theorem cel_obj {tc : Nat → ClassId} {ad : Nat → Nat} {σ : Sg} {c a : Nat} (h : ck c = 5 + a) : cel tc ad σ c = .inr (a, (List.range (nf a)).map (fvl ad σ a c)) := by
  unfold cel
  rw [show ck c = a + 5 by omega]
theorem fvl_si {ad : Nat → Nat} {σ : Sg} {a c b : Nat} {x : Int32} (hb : b < nf a) (h1 : ft a b ≠ 1) (h2 : ft a b ≠ 2) : (List.range (nf a)).map (fvl ad (si σ c b x) a c) = ((List.range (nf a)).map (fvl ad σ a c)).set b (.int x) := by
  refine map_set hb ?_ (fun j hj => ?_)
  · unfold fvl
    split
    · contradiction
    · contradiction
    · simp [si, upd]
  · unfold fvl
    simp [si, upd, hj]
theorem fvl_sl {ad : Nat → Nat} {σ : Sg} {a c b : Nat} {x : Int64} (hb : b < nf a) (h1 : ft a b = 1) : (List.range (nf a)).map (fvl ad (sl σ c b x) a c) = ((List.range (nf a)).map (fvl ad σ a c)).set b (.long x) := by
  refine map_set hb ?_ (fun j hj => ?_)
  · unfold fvl
    rw [h1]
    simp [sl, vp_updL]
  · unfold fvl
    simp [sl, vp_updL, hj]
theorem nb_fit {x : Int32} (h : nb x) : narrow .boolean (.int x) = .int x ∧ fits .boolean (.int x) = true := by
  rcases h with rfl | rfl <;> exact ⟨by decide, by decide⟩
section SND
variable {p : Program} {l : Launch} {e : Env} {R : Room} {s : State} {m : MethodId} {args : Array Value} {below : List Frame} {meth : Method} {c : Code} {cells slots : Nat} {Qs : State → Prop}
variable {D : va_G} {tc : Nat → ClassId} {ad : Nat → Nat} {A : Nat → Prop} {own : String} {cc : ByteArray} {nL : Nat} {X : RO} {M : Nat → MI}
/-- what stands while a method runs -/
def Fx (p : Program) (R : Room) (s : State) (m : MethodId) (args : Array Value) (c : Code) (D : va_G) (tc : Nat → ClassId) (ad : Nat → Nat) (A : Nat → Prop) (own : String) (cc : ByteArray) (nL : Nat) (X : RO) : Prop :=
  p.tables.exec = Jvm.exec ∧ c.code = cc ∧ c.maxLocals = nL ∧ s.vm.findClass own = some m.cls ∧ (∀ w ∈ TB, w.before args s = true) ∧ va_K D cl (tys tc) s ∧ (∀ i j, i < NC → j < NC → ad i = ad j → i = j) ∧ (∀ q, inA ad q → A q) ∧ (Stc A ad s s.heap ∧ Nst s) ∧ (1 ≤ R.frames ∧ 64 ≤ R.locals) ∧ (∀ x : Nat × (Nat → Int32), X = some x → x.1 < 2 ^ 31 ∧ va_X (ad 2000) x.1 x.2 s s.heap ∧ ad 2000 < s.heap.size ∧ ¬ A (ad 2000))
abbrev Wk (p : Program) (l : Launch) (e : Env) (R : Room) (s : State) (m : MethodId) (args : Array Value) (below : List Frame) (meth : Method) (c : Code) (cells slots : Nat) (Qs : State → Prop) (tc : Nat → ClassId) (ad : Nat → Nat) (A : Nat → Prop) (nL : Nat) (q : PS) : Prop :=
  ∀ (H : Heap) (locs : List Loc) (ls : Array Slot), lv_has ls nL (elv ad q.2.1) → va_P D cl (wld tc ad q.2.2.2) H → va_S A s.heap H locs → W p l e R s m args below meth c H locs cells slots Qs (F0 m q.1 ls (est ad q.2.2.1))
theorem exec1_ok (F : Fx p R s m args c D tc ad A own cc nL X) (hbud : cells ≤ R.cells ∧ slots ≤ R.slots) {en : Ent} (hok : EntOK M own cc nL en) {lv : LV} {st : List Value} {σ : Sg} {cs : List Prop} {pc2 : Nat} {lv2 : LV} {st2 : List Value} {σ2 : Sg} (h : exec1 X en lv st σ = some (cs, pc2, lv2, st2, σ2)) (hc : conj cs)
    (kk : Wk (D := D) p l e R s m args below meth c cells slots Qs tc ad A nL (pc2, lv2, st2, σ2)) : Wk (D := D) p l e R s m args below meth c cells slots Qs tc ad A nL (en.1, lv, st, σ) := by
  obtain ⟨hx, hb, hml, hown, hts, hK, hinj, hAd, ⟨hSt, hNs⟩, hRm, hX⟩ := F
  obtain ⟨pc, ins, len, a, b, d, zs⟩ := en
  obtain ⟨hdec, hok, hlen⟩ := hok
  intro H locs ls hl hP hS
  have hD : va_D A (wld tc ad σ) := wld_D hinj hAd σ
  dsimp only at hdec hlen hok hl hP hS ⊢
  cases ins with
  | iload i =>
    obtain rfl : len = 2 := hlen (fun _ _ _ _ h => by cases h)
    obtain ⟨x, h1, rfl, rfl, rfl, rfl⟩ := xldI_inv h
    exact lv_iload hx hb hdec (lget_has hl h1) (kk H locs ls hl hP hS)
  | iload_n k =>
    obtain rfl : len = 1 := hlen (fun _ _ _ _ h => by cases h)
    obtain ⟨x, h1, rfl, rfl, rfl, rfl⟩ := xldI_inv h
    exact lv_iload_n hx hb hdec rfl (lget_has hl h1) (kk H locs ls hl hP hS)
  | lload i =>
    obtain rfl : len = 2 := hlen (fun _ _ _ _ h => by cases h)
    obtain ⟨x, h1, rfl, rfl, rfl, rfl⟩ := xldJ_inv h
    exact lv_lload hx hb hdec (lget_has hl h1) (kk H locs ls hl hP hS)
  | lload_n k =>
    obtain rfl : len = 1 := hlen (fun _ _ _ _ h => by cases h)
    obtain ⟨x, h1, rfl, rfl, rfl, rfl⟩ := xldJ_inv h
    exact lv_lload_n hx hb hdec rfl (lget_has hl h1) (kk H locs ls hl hP hS)
  | aload i =>
    obtain rfl : len = 2 := hlen (fun _ _ _ _ h => by cases h)
    obtain ⟨x, h1, rfl, rfl, rfl, rfl⟩ := xldR_inv h
    exact lv_aload hx hb hdec (lget_has hl h1) (kk H locs ls hl hP hS)
  | aload_n k =>
    obtain rfl : len = 1 := hlen (fun _ _ _ _ h => by cases h)
    obtain ⟨x, h1, rfl, rfl, rfl, rfl⟩ := xldR_inv h
    exact lv_aload_n hx hb hdec rfl (lget_has hl h1) (kk H locs ls hl hP hS)
  | istore i =>
    obtain rfl : len = 2 := hlen (fun _ _ _ _ h => by cases h)
    obtain ⟨x, r, rfl, rfl, rfl, rfl, rfl⟩ := xst_inv h
    exact lv_istore hx hb hdec hl hok (elv_lset1 ad lv i (.int x)) (fun ls' hl' => kk H locs ls' hl' hP hS)
  | istore_n k =>
    obtain rfl : len = 1 := hlen (fun _ _ _ _ h => by cases h)
    obtain ⟨x, r, rfl, rfl, rfl, rfl, rfl⟩ := xst_inv h
    exact lv_istore_n hx hb hdec rfl hl hok (elv_lset1 ad lv k.val (.int x)) (fun ls' hl' => kk H locs ls' hl' hP hS)
  | astore i =>
    obtain rfl : len = 2 := hlen (fun _ _ _ _ h => by cases h)
    obtain ⟨x, r, rfl, rfl, rfl, rfl, rfl⟩ := xsta_inv h
    exact lv_astore hx hb hdec hl hok (elv_lset1 ad lv i (.ref x)) (fun ls' hl' => kk H locs ls' hl' hP hS)
  | astore_n k =>
    obtain rfl : len = 1 := hlen (fun _ _ _ _ h => by cases h)
    obtain ⟨x, r, rfl, rfl, rfl, rfl, rfl⟩ := xsta_inv h
    exact lv_astore_n hx hb hdec rfl hl hok (elv_lset1 ad lv k.val (.ref x)) (fun ls' hl' => kk H locs ls' hl' hP hS)
  | lstore i =>
    obtain rfl : len = 2 := hlen (fun _ _ _ _ h => by cases h)
    obtain ⟨x, r, rfl, rfl, rfl, rfl, rfl⟩ := xstl_inv h
    exact lv_lstore hx hb hdec hl hok (elv_lset2 ad lv i (.long x)) (fun ls' hl' => kk H locs ls' hl' hP hS)
  | lstore_n k =>
    obtain rfl : len = 1 := hlen (fun _ _ _ _ h => by cases h)
    obtain ⟨x, r, rfl, rfl, rfl, rfl, rfl⟩ := xstl_inv h
    exact lv_lstore_n hx hb hdec rfl hl hok (elv_lset2 ad lv k.val (.long x)) (fun ls' hl' => kk H locs ls' hl' hP hS)
  | iinc i n =>
    obtain rfl : len = 3 := hlen (fun _ _ _ _ h => by cases h)
    simp only [exec1] at h
    split at h
    · rename_i x hg
      obtain ⟨rfl, rfl, rfl, rfl⟩ := nx_inv h
      obtain ⟨k, hk⟩ := elv_idx (ad := ad) hg
      exact lv_iinc hx hb hdec hl hk rfl hok (elv_lset1 ad lv i (.int (x + Int32.ofInt n))) (fun ls' hl' => kk H locs ls' hl' hP hS)
    · cases h
  | iconst n =>
    obtain rfl : len = 1 := hlen (fun _ _ _ _ h => by cases h)
    obtain ⟨rfl, rfl, rfl, rfl⟩ := nx_inv h
    exact lv_iconst hx hb hdec rfl (kk H locs ls hl hP hS)
  | bipush n =>
    obtain rfl : len = 2 := hlen (fun _ _ _ _ h => by cases h)
    obtain ⟨rfl, rfl, rfl, rfl⟩ := nx_inv h
    exact lv_bipush hx hb hdec hok (kk H locs ls hl hP hS)
  | sipush n =>
    obtain rfl : len = 3 := hlen (fun _ _ _ _ h => by cases h)
    obtain ⟨rfl, rfl, rfl, rfl⟩ := nx_inv h
    exact lv_sipush hx hb hdec hok (kk H locs ls hl hP hS)
  | ldc idx =>
    obtain rfl : len = 2 := hlen (fun _ _ _ _ h => by cases h)
    obtain ⟨z, r, rfl, hw⟩ := hok
    obtain ⟨rfl, rfl, rfl, rfl⟩ := nx_inv h
    exact lv_ldc hx hb hown (hts _ hw) hdec (kk H locs ls hl hP hS)
  | ldc_w idx =>
    obtain rfl : len = 3 := hlen (fun _ _ _ _ h => by cases h)
    obtain ⟨z, r, rfl, hw⟩ := hok
    obtain ⟨rfl, rfl, rfl, rfl⟩ := nx_inv h
    exact lv_ldcw hx hb hown (hts _ hw) hdec (kk H locs ls hl hP hS)
  | ldc2_w idx =>
    obtain rfl : len = 3 := hlen (fun _ _ _ _ h => by cases h)
    obtain ⟨z, r, rfl, hw⟩ := hok
    obtain ⟨rfl, rfl, rfl, rfl⟩ := nx_inv h
    exact lv_ldc2 hx hb hown (hts _ hw) hdec (kk H locs ls hl hP hS)
  | lconst n =>
    obtain rfl : len = 1 := hlen (fun _ _ _ _ h => by cases h)
    obtain ⟨rfl, rfl, rfl, rfl⟩ := nx_inv h
    exact lv_lconst hx hb hdec rfl (kk H locs ls hl hP hS)
  | iadd =>
    obtain rfl : len = 1 := hlen (fun _ _ _ _ h => by cases h)
    obtain ⟨x, y, r, rfl, rfl, rfl, rfl, rfl⟩ := x2i_inv h
    exact lv_iadd hx hb hdec (kk H locs ls hl hP hS)
  | isub =>
    obtain rfl : len = 1 := hlen (fun _ _ _ _ h => by cases h)
    obtain ⟨x, y, r, rfl, rfl, rfl, rfl, rfl⟩ := x2i_inv h
    exact lv_isub hx hb hdec (kk H locs ls hl hP hS)
  | imul =>
    obtain rfl : len = 1 := hlen (fun _ _ _ _ h => by cases h)
    obtain ⟨x, y, r, rfl, rfl, rfl, rfl, rfl⟩ := x2i_inv h
    exact lv_imul hx hb hdec (kk H locs ls hl hP hS)
  | iand =>
    obtain rfl : len = 1 := hlen (fun _ _ _ _ h => by cases h)
    obtain ⟨x, y, r, rfl, rfl, rfl, rfl, rfl⟩ := x2i_inv h
    exact lv_iand hx hb hdec (kk H locs ls hl hP hS)
  | ior =>
    obtain rfl : len = 1 := hlen (fun _ _ _ _ h => by cases h)
    obtain ⟨x, y, r, rfl, rfl, rfl, rfl, rfl⟩ := x2i_inv h
    exact lv_ior hx hb hdec (kk H locs ls hl hP hS)
  | ixor =>
    obtain rfl : len = 1 := hlen (fun _ _ _ _ h => by cases h)
    obtain ⟨x, y, r, rfl, rfl, rfl, rfl, rfl⟩ := x2i_inv h
    exact lv_ixor hx hb hdec (kk H locs ls hl hP hS)
  | ishl =>
    obtain rfl : len = 1 := hlen (fun _ _ _ _ h => by cases h)
    obtain ⟨x, y, r, rfl, rfl, rfl, rfl, rfl⟩ := x2i_inv h
    exact lv_ishl hx hb hdec (kk H locs ls hl hP hS)
  | ishr =>
    obtain rfl : len = 1 := hlen (fun _ _ _ _ h => by cases h)
    obtain ⟨x, y, r, rfl, rfl, rfl, rfl, rfl⟩ := x2i_inv h
    exact lv_ishr hx hb hdec (kk H locs ls hl hP hS)
  | iushr =>
    obtain rfl : len = 1 := hlen (fun _ _ _ _ h => by cases h)
    obtain ⟨x, y, r, rfl, rfl, rfl, rfl, rfl⟩ := x2i_inv h
    exact lv_iushr hx hb hdec rfl (kk H locs ls hl hP hS)
  | idiv =>
    obtain rfl : len = 1 := hlen (fun _ _ _ _ h => by cases h)
    obtain ⟨x, y, r, rfl, h0, rfl, rfl, rfl, rfl⟩ := x2ic_inv h hc
    exact lv_idiv hx hb hdec h0 (kk H locs ls hl hP hS)
  | irem =>
    obtain rfl : len = 1 := hlen (fun _ _ _ _ h => by cases h)
    obtain ⟨x, y, r, rfl, h0, rfl, rfl, rfl, rfl⟩ := x2ic_inv h hc
    exact lv_irem hx hb hdec h0 (kk H locs ls hl hP hS)
  | ladd =>
    obtain rfl : len = 1 := hlen (fun _ _ _ _ h => by cases h)
    obtain ⟨x, y, r, rfl, rfl, rfl, rfl, rfl⟩ := x2l_inv h
    exact lv_ladd hx hb hdec (kk H locs ls hl hP hS)
  | lsub =>
    obtain rfl : len = 1 := hlen (fun _ _ _ _ h => by cases h)
    obtain ⟨x, y, r, rfl, rfl, rfl, rfl, rfl⟩ := x2l_inv h
    exact lv_lsub hx hb hdec (kk H locs ls hl hP hS)
  | lmul =>
    obtain rfl : len = 1 := hlen (fun _ _ _ _ h => by cases h)
    obtain ⟨x, y, r, rfl, rfl, rfl, rfl, rfl⟩ := x2l_inv h
    exact lv_lmul hx hb hdec (kk H locs ls hl hP hS)
  | ldiv =>
    obtain rfl : len = 1 := hlen (fun _ _ _ _ h => by cases h)
    obtain ⟨x, y, r, rfl, h0, rfl, rfl, rfl, rfl⟩ := x2lc_inv h hc
    exact lv_ldiv hx hb hdec h0 (kk H locs ls hl hP hS)
  | lrem =>
    obtain rfl : len = 1 := hlen (fun _ _ _ _ h => by cases h)
    obtain ⟨x, y, r, rfl, h0, rfl, rfl, rfl, rfl⟩ := x2lc_inv h hc
    exact lv_lrem hx hb hdec h0 (kk H locs ls hl hP hS)
  | ineg =>
    obtain rfl : len = 1 := hlen (fun _ _ _ _ h => by cases h)
    match st, h with
    | .int x :: r, h =>
      obtain ⟨rfl, rfl, rfl, rfl⟩ := nx_inv h
      exact lv_ineg hx hb hdec (kk H locs ls hl hP hS)
  | lneg =>
    obtain rfl : len = 1 := hlen (fun _ _ _ _ h => by cases h)
    match st, h with
    | .long x :: r, h =>
      obtain ⟨rfl, rfl, rfl, rfl⟩ := nx_inv h
      exact lv_lneg hx hb hdec (kk H locs ls hl hP hS)
  | lushr =>
    obtain rfl : len = 1 := hlen (fun _ _ _ _ h => by cases h)
    match st, h with
    | .int y :: .long x :: r, h =>
      obtain ⟨rfl, rfl, rfl, rfl⟩ := nx_inv h
      exact lv_lushr hx hb hdec rfl (kk H locs ls hl hP hS)
  | lcmp =>
    obtain rfl : len = 1 := hlen (fun _ _ _ _ h => by cases h)
    match st, h with
    | .long y :: .long x :: r, h =>
      obtain ⟨rfl, rfl, rfl, rfl⟩ := nx_inv h
      exact W.lcmp hx hb hdec (kk H locs ls hl hP hS)
  | i2l =>
    obtain rfl : len = 1 := hlen (fun _ _ _ _ h => by cases h)
    match st, h with
    | .int x :: r, h =>
      obtain ⟨rfl, rfl, rfl, rfl⟩ := nx_inv h
      exact lv_i2l hx hb hdec rfl (kk H locs ls hl hP hS)
  | l2i =>
    obtain rfl : len = 1 := hlen (fun _ _ _ _ h => by cases h)
    match st, h with
    | .long x :: r, h =>
      obtain ⟨rfl, rfl, rfl, rfl⟩ := nx_inv h
      exact lv_l2i hx hb hdec rfl (kk H locs ls hl hP hS)
  | ifCond cd off =>
    obtain rfl : len = 3 := hlen (fun _ _ _ _ h => by cases h)
    have kk' := kk H locs ls
    cases cd with
    | eq =>
      obtain ⟨x, r, rfl, rfl, rfl, rfl, rfl⟩ := xif_inv h
      exact lv_if_eq hx hb hdec hok (fun t => by have := kk' hl hP hS; dsimp only at this; rwa [if_pos t] at this) (fun t => by have := kk' hl hP hS; dsimp only at this; rwa [if_neg t] at this)
    | ne =>
      obtain ⟨x, r, rfl, rfl, rfl, rfl, rfl⟩ := xif_inv h
      exact lv_if_ne hx hb hdec hok (fun t => by have := kk' hl hP hS; dsimp only at this; rwa [if_pos t] at this) (fun t => by have := kk' hl hP hS; dsimp only at this; rwa [if_neg (fun q => q t)] at this)
    | lt =>
      obtain ⟨x, r, rfl, rfl, rfl, rfl, rfl⟩ := xif_inv h
      exact lv_if_lt hx hb hdec hok (fun t => by have := kk' hl hP hS; dsimp only at this; rwa [if_pos t] at this) (fun t => by have := kk' hl hP hS; dsimp only at this; rwa [if_neg t] at this)
    | ge =>
      obtain ⟨x, r, rfl, rfl, rfl, rfl, rfl⟩ := xif_inv h
      exact lv_if_ge hx hb hdec hok (fun t => by have := kk' hl hP hS; dsimp only at this; rwa [if_pos t] at this) (fun t => by have := kk' hl hP hS; dsimp only at this; rwa [if_neg t] at this)
    | gt =>
      obtain ⟨x, r, rfl, rfl, rfl, rfl, rfl⟩ := xif_inv h
      exact lv_if_gt hx hb hdec hok (fun t => by have := kk' hl hP hS; dsimp only at this; rwa [if_pos t] at this) (fun t => by have := kk' hl hP hS; dsimp only at this; rwa [if_neg t] at this)
    | le =>
      obtain ⟨x, r, rfl, rfl, rfl, rfl, rfl⟩ := xif_inv h
      exact lv_if_le hx hb hdec hok (fun t => by have := kk' hl hP hS; dsimp only at this; rwa [if_pos t] at this) (fun t => by have := kk' hl hP hS; dsimp only at this; rwa [if_neg t] at this)
  | if_icmp cd off =>
    obtain rfl : len = 3 := hlen (fun _ _ _ _ h => by cases h)
    have kk' := kk H locs ls
    cases cd with
    | eq =>
      obtain ⟨x, y, r, rfl, rfl, rfl, rfl, rfl⟩ := xif2_inv h
      exact lv_icmp_eq hx hb hdec hok (fun t => by have := kk' hl hP hS; dsimp only at this; rwa [if_pos t] at this) (fun t => by have := kk' hl hP hS; dsimp only at this; rwa [if_neg t] at this)
    | ne =>
      obtain ⟨x, y, r, rfl, rfl, rfl, rfl, rfl⟩ := xif2_inv h
      exact lv_icmp_ne hx hb hdec hok (fun t => by have := kk' hl hP hS; dsimp only at this; rwa [if_pos t] at this) (fun t => by have := kk' hl hP hS; dsimp only at this; rwa [if_neg (fun q => q t)] at this)
    | lt =>
      obtain ⟨x, y, r, rfl, rfl, rfl, rfl, rfl⟩ := xif2_inv h
      exact lv_icmp_lt hx hb hdec hok (fun t => by have := kk' hl hP hS; dsimp only at this; rwa [if_pos t] at this) (fun t => by have := kk' hl hP hS; dsimp only at this; rwa [if_neg t] at this)
    | ge =>
      obtain ⟨x, y, r, rfl, rfl, rfl, rfl, rfl⟩ := xif2_inv h
      exact lv_icmp_ge hx hb hdec hok (fun t => by have := kk' hl hP hS; dsimp only at this; rwa [if_pos t] at this) (fun t => by have := kk' hl hP hS; dsimp only at this; rwa [if_neg t] at this)
    | gt =>
      obtain ⟨x, y, r, rfl, rfl, rfl, rfl, rfl⟩ := xif2_inv h
      exact lv_icmp_gt hx hb hdec hok (fun t => by have := kk' hl hP hS; dsimp only at this; rwa [if_pos t] at this) (fun t => by have := kk' hl hP hS; dsimp only at this; rwa [if_neg t] at this)
    | le =>
      obtain ⟨x, y, r, rfl, rfl, rfl, rfl, rfl⟩ := xif2_inv h
      exact lv_icmp_le hx hb hdec hok (fun t => by have := kk' hl hP hS; dsimp only at this; rwa [if_pos t] at this) (fun t => by have := kk' hl hP hS; dsimp only at this; rwa [if_neg t] at this)
  | goto off =>
    obtain rfl : len = 3 := hlen (fun _ _ _ _ h => by cases h)
    obtain ⟨rfl, rfl, rfl, rfl⟩ := nx_inv h
    exact lv_goto hx hb hdec hok (kk H locs ls hl hP hS)
  | tableswitch df lo hi offs =>
    obtain ⟨x, r, rfl, rfl, rfl, rfl, rfl⟩ := xif_inv h
    obtain ⟨w1, w2, ⟨w3, w4⟩, w5⟩ := hok
    have k1 := kk H locs ls hl hP hS
    dsimp only at k1
    subst w2
    by_cases hz : x.toInt < lo ∨ lo + zs.length - 1 < x.toInt
    · rw [swt_out zs lo w3 w4 hz] at k1
      exact lv_tableOut hx hb hdec hz w1 k1
    · have z1 : ¬ x.toInt < lo := fun t => hz (Or.inl t)
      have z2 : ¬ lo + zs.length - 1 < x.toInt := fun t => hz (Or.inr t)
      rw [swt_in zs lo w3 w4 z1 z2] at k1
      obtain ⟨off, o1, o2⟩ := w5 (x.toInt - lo).toNat (by omega)
      exact lv_tableIn hx hb hdec z1 z2 o1 o2 k1
  | dup =>
    obtain rfl : len = 1 := hlen (fun _ _ _ _ h => by cases h)
    match st, h with
    | v :: r, h =>
      obtain ⟨h0, rfl, rfl, rfl, rfl⟩ := cx_inv h hc
      exact lv_dup hx hb hdec ((enc_cat ad v).trans h0) (kk H locs ls hl hP hS)
  | dup2 =>
    obtain rfl : len = 1 := hlen (fun _ _ _ _ h => by cases h)
    match st, h with
    | v :: w :: r, h =>
      obtain ⟨h0, rfl, rfl, rfl, rfl⟩ := cx_inv h hc
      exact lv_dup2_11 hx hb hdec ((enc_cat ad v).trans h0.1) ((enc_cat ad w).trans h0.2) (kk H locs ls hl hP hS)
  | iaload =>
    obtain rfl : len = 1 := hlen (fun _ _ _ _ h => by cases h)
    match st, h with
    | .int i :: .ref c9 :: r, h =>
      simp only [exec1] at h
      cases hd0 : (d == 0) with
      | true =>
        rw [hd0] at h
        obtain ⟨⟨h0, h1⟩, rfl, rfl, rfl, rfl⟩ := cx_inv h hc
        have hk : c9 < NC := ck_lt h0 (by decide)
        exact va_iald hx hb hK hP c9 0 (by rw [wld_get hk]; simp only [cel, h0]) rfl h1 hdec (kk H locs ls hl hP hS)
      | false =>
        rw [hd0] at h
        cases hd1 : (d == 1) with
        | true =>
          rw [hd1] at h
          obtain ⟨⟨⟨g1, g2⟩, h1⟩, rfl, rfl, rfl, rfl⟩ := cx_inv h hc
          have hz := stc_at hSt g1 g2
          exact va_ti hx hb hz hS h1 rfl hdec (kk H locs ls hl hP hS)
        | false =>
          rw [hd1] at h
          match X, hX, h with
          | some x, hX, h =>
            obtain ⟨⟨rfl, h1⟩, rfl, rfl, rfl, rfl⟩ := cx_inv h hc
            obtain ⟨g1, g2, g3, g4⟩ := hX x rfl
            exact va_sld hx hb g2 g3 g4 hS h1 hdec (kk H locs ls hl hP hS)
  | laload =>
    obtain rfl : len = 1 := hlen (fun _ _ _ _ h => by cases h)
    match st, h with
    | .int i :: .ref c9 :: r, h =>
      obtain ⟨⟨h0, h1⟩, rfl, rfl, rfl, rfl⟩ := cx_inv h hc
      have hk : c9 < NC := ck_lt h0 (by decide)
      exact va_lald hx hb hK hP c9 1 (by rw [wld_get hk]; simp only [cel, h0]) rfl h1 hdec (kk H locs ls hl hP hS)
  | baload =>
    obtain rfl : len = 1 := hlen (fun _ _ _ _ h => by cases h)
    match st, h with
    | .int i :: .ref c9 :: r, h =>
      obtain ⟨⟨h0, h1⟩, rfl, rfl, rfl, rfl⟩ := cx_inv h hc
      have hk : c9 < NC := ck_lt h0 (by decide)
      exact va_zald hx hb hK hP c9 2 (by rw [wld_get hk]; simp only [cel, h0]) rfl h1 hdec (kk H locs ls hl hP hS)
  | aaload =>
    obtain rfl : len = 1 := hlen (fun _ _ _ _ h => by cases h)
    match st, h with
    | .int i :: .ref c9 :: r, h =>
      obtain ⟨⟨h0, h1⟩, rfl, rfl, rfl, rfl⟩ := cx_inv h hc
      have hlt : i.toNatClampNeg < al c9 := Nat.not_le.mp fun q => h1 (Or.inr q)
      rcases h0 with h0 | h0
      · have hk : c9 < NC := ck_lt h0 (by decide)
        have hcell := hP c9 _ (wld_get hk)
        simp only [va_at, cel, h0] at hcell
        exact W.aald (v := .ref (ad (c9 + 1 + i.toNatClampNeg))) (ty := .array .int) hx hb hcell ((hK.2 3 _ rfl).1 (al c9) (fun j => va_rf (some (ad (c9 + 1 + j))))) rfl (fun q => by cases q) (by show ¬ (i < 0 ∨ (arrV _ _ _).slots.size ≤ _); rw [arrV_size]; exact h1) (by show (arrV _ _ _).slots[_]? = _; rw [arrV_read _ _ hlt]; rfl) rfl rfl hdec (kk H locs ls hl hP hS)
      · have hk : c9 < NC := ck_lt h0 (by decide)
        have hcell := hP c9 _ (wld_get hk)
        simp only [va_at, cel, h0] at hcell
        exact W.aald (v := .ref (ad (c9 + 1 + i.toNatClampNeg))) (ty := .array .long) hx hb hcell ((hK.2 4 _ rfl).1 (al c9) (fun j => va_rf (some (ad (c9 + 1 + j))))) rfl (fun q => by cases q) (by show ¬ (i < 0 ∨ (arrV _ _ _).slots.size ≤ _); rw [arrV_size]; exact h1) (by show (arrV _ _ _).slots[_]? = _; rw [arrV_read _ _ hlt]; rfl) rfl rfl hdec (kk H locs ls hl hP hS)
  | iastore =>
    obtain rfl : len = 1 := hlen (fun _ _ _ _ h => by cases h)
    match st, h with
    | .int x :: .int i :: .ref c9 :: r, h =>
      obtain ⟨⟨h0, h1⟩, rfl, rfl, rfl, rfl⟩ := cx_inv h hc
      have hk : c9 < NC := ck_lt h0 (by decide)
      refine va_iast (f := σ.1 c9) hx hb hK hP hD hS c9 0 (by rw [wld_get hk]; simp only [cel, h0]) rfl h1 hdec (fun H1 locs1 hP1 hD1 hS1 => kk H1 locs1 ls hl ?_ hS1)
      have e := wld_set (tc := tc) (ad := ad) (σ := σ) (σ2 := si σ c9 i.toNatClampNeg x) hk (fun j hj => cel_si hj)
      rw [show cel tc ad (si σ c9 i.toNatClampNeg x) c9 = .inl (tc 0, al c9, .inl (upd (σ.1 c9) i.toNatClampNeg x)) by simp only [cel, h0]; simp [si]] at e
      rw [← e]
      exact hP1
  | lastore =>
    obtain rfl : len = 1 := hlen (fun _ _ _ _ h => by cases h)
    match st, h with
    | .long x :: .int i :: .ref c9 :: r, h =>
      obtain ⟨⟨h0, h1⟩, rfl, rfl, rfl, rfl⟩ := cx_inv h hc
      have hk : c9 < NC := ck_lt h0 (by decide)
      refine va_last (f := σ.2 c9) hx hb hK hP hD hS c9 1 (by rw [wld_get hk]; simp only [cel, h0]) rfl h1 hdec (fun H1 locs1 hP1 hD1 hS1 => kk H1 locs1 ls hl ?_ hS1)
      have e := wld_set (tc := tc) (ad := ad) (σ := σ) (σ2 := sl σ c9 i.toNatClampNeg x) hk (fun j hj => cel_sl hj)
      rw [show cel tc ad (sl σ c9 i.toNatClampNeg x) c9 = .inl (tc 1, al c9, .inr (.inl (vp_updL (σ.2 c9) i.toNatClampNeg x))) by simp only [cel, h0]; simp [sl]] at e
      rw [← e]
      exact hP1
  | bastore =>
    obtain rfl : len = 1 := hlen (fun _ _ _ _ h => by cases h)
    match st, h with
    | .int x :: .int i :: .ref c9 :: r, h =>
      obtain ⟨⟨h0, h1⟩, rfl, rfl, rfl, rfl⟩ := cx_inv h hc
      have hk : c9 < NC := ck_lt h0 (by decide)
      refine va_zast (f := σ.1 c9) hx hb hK hP hD hS c9 2 (by rw [wld_get hk]; simp only [cel, h0]) rfl h1 hdec (fun H1 locs1 hP1 hD1 hS1 => kk H1 locs1 ls hl ?_ hS1)
      have e := wld_set (tc := tc) (ad := ad) (σ := σ) (σ2 := si σ c9 i.toNatClampNeg (x &&& 1)) hk (fun j hj => cel_si hj)
      rw [show cel tc ad (si σ c9 i.toNatClampNeg (x &&& 1)) c9 = .inl (tc 2, al c9, .inl (upd (σ.1 c9) i.toNatClampNeg (x &&& 1))) by simp only [cel, h0]; simp [si]] at e
      rw [← e]
      exact hP1
  | arraylength =>
    obtain rfl : len = 1 := hlen (fun _ _ _ _ h => by cases h)
    match st, h with
    | .ref c9 :: r, h =>
      simp only [exec1] at h
      cases hd0 : (d == 0) with
      | true =>
        rw [hd0] at h
        obtain ⟨h0, rfl, rfl, rfl, rfl⟩ := cx_inv h hc
        have hk : c9 < NC := ck_lt rfl (by omega)
        have k1 := kk H locs ls hl hP hS
        have h5 : ck c9 = 0 ∨ ck c9 = 1 ∨ ck c9 = 2 ∨ ck c9 = 3 ∨ ck c9 = 4 := by omega
        rcases h5 with h5 | h5 | h5 | h5 | h5
        · exact va_alen (x := (al c9, .inl (σ2.1 c9))) hx hb hK hP c9 0 (by rw [wld_get hk]; simp only [cel, h5]) rfl rfl hdec k1
        · exact va_alen (x := (al c9, .inr (.inl (σ2.2 c9)))) hx hb hK hP c9 1 (by rw [wld_get hk]; simp only [cel, h5]) rfl rfl hdec k1
        · exact va_alen (x := (al c9, .inl (σ2.1 c9))) hx hb hK hP c9 2 (by rw [wld_get hk]; simp only [cel, h5]) rfl rfl hdec k1
        · exact va_alen (x := (al c9, .inr (.inr (.inr (.inr fun j => some (ad (c9 + 1 + j))))))) hx hb hK hP c9 3 (by rw [wld_get hk]; simp only [cel, h5]) rfl rfl hdec k1
        · exact va_alen (x := (al c9, .inr (.inr (.inr (.inr fun j => some (ad (c9 + 1 + j))))))) hx hb hK hP c9 4 (by rw [wld_get hk]; simp only [cel, h5]) rfl rfl hdec k1
      | false =>
        rw [hd0] at h
        cases hd1 : (d == 1) with
        | true =>
          rw [hd1] at h
          obtain ⟨⟨g1, g2⟩, rfl, rfl, rfl, rfl⟩ := cx_inv h hc
          have hz := stc_at hSt g1 g2
          exact va_tlen hx hb hz hS rfl hdec (kk H locs ls hl hP hS)
        | false =>
          rw [hd1] at h
          match X, hX, h with
          | some x, hX, h =>
            obtain ⟨rfl, rfl, rfl, rfl, rfl⟩ := cx_inv h hc
            obtain ⟨g1, g2, g3, g4⟩ := hX x rfl
            exact va_slen hx hb g2 g3 g4 hS hdec (kk H locs ls hl hP hS)
  | getfield idx =>
    obtain rfl : len = 3 := hlen (fun _ _ _ _ h => by cases h)
    obtain ⟨C, T, N, ty0, w1, rfl, w3, w4, w5, w6, w7, w8, -⟩ := hok
    match st, h with
    | .ref c9 :: r, h =>
      simp only [exec1] at h
      have fin : ∀ v : Value, ck c9 = 5 + a → fvl ad σ a c9 b = v → W p l e R s m args below meth c H locs cells slots Qs (F0 m (pc + 3) ls (v :: est ad r)) → W p l e R s m args below meth c H locs cells slots Qs (F0 m pc ls (est ad (.ref c9 :: r))) := by
        intro v h0 hv k1
        have hk : c9 < NC := ck_nc (by have h1 : a < 9 := (List.getElem?_eq_some_iff.mp w1).1; omega)
        exact va_get hx hb hts w5 hown hK hP c9 (fs := (List.range (nf a)).map (fvl ad σ a c9)) (by rw [wld_get hk]; simp only [cel]; rw [show ck c9 = a + 5 by omega]) w1 b w3 (hts _ w6) (fun _ h9 => h9) (v := v) (by rw [List.getElem?_map, List.getElem?_range w3, ← hv]; rfl) hdec k1
      cases hd1 : (d == 1) with
      | true =>
        rw [hd1] at h
        obtain ⟨h0, rfl, rfl, rfl, rfl⟩ := cx_inv h hc
        have hd : d = 1 := by simpa using hd1
        exact fin (.long (σ2.2 c9 b)) h0 (by unfold fvl; rw [w4, hd]; rfl) (kk H locs ls hl hP hS)
      | false =>
        rw [hd1] at h
        cases hd2 : (d == 2) with
        | true =>
          rw [hd2] at h
          obtain ⟨h0, rfl, rfl, rfl, rfl⟩ := cx_inv h hc
          have hd : d = 2 := by simpa using hd2
          exact fin (.ref (ad (rf c9 b))) h0 (by unfold fvl; rw [w4, hd]; rfl) (kk H locs ls hl hP hS)
        | false =>
          rw [hd2] at h
          obtain ⟨h0, rfl, rfl, rfl, rfl⟩ := cx_inv h hc
          have n1 : d ≠ 1 := by simpa using hd1
          have n2 : d ≠ 2 := by simpa using hd2
          exact fin (.int (σ2.1 c9 b)) h0 (by unfold fvl; rw [w4]; split <;> first | rfl | (exfalso; omega)) (kk H locs ls hl hP hS)
  | putfield idx =>
    obtain rfl : len = 3 := hlen (fun _ _ _ _ h => by cases h)
    obtain ⟨C, T, N, ty0, w1, rfl, w3, w4, w5, w6, w7, w8, w9⟩ := hok
    obtain ⟨wf, wt⟩ := w9 rfl
    have fin : ∀ (v : Value) (c9 : Nat) (r : List Value) (σ3 : Sg), ck c9 = 5 + a → narrow (ty0 b) v = v → fits (ty0 b) v = true → (List.range (nf a)).map (fvl ad σ3 a c9) = ((List.range (nf a)).map (fvl ad σ a c9)).set b v → (∀ j, j ≠ c9 → cel tc ad σ3 j = cel tc ad σ j) →
        Wk (D := D) p l e R s m args below meth c cells slots Qs tc ad A nL (pc + 3, lv, r, σ3) → W p l e R s m args below meth c H locs cells slots Qs (F0 m pc ls (v :: .ref (ad c9) :: est ad r)) := by
      intro v c9 r σ3 h0 hn hf hs ho k1
      have hk : c9 < NC := ck_nc (by have h1 : a < 9 := (List.getElem?_eq_some_iff.mp w1).1; omega)
      refine va_put hx hb hts w5 ty0 w7 w8 hown hK hP hD hS c9 (fs := (List.range (nf a)).map (fvl ad σ a c9)) (by rw [wld_get hk, cel_obj h0]) w1 b w3 (hts _ w6) (fun _ h9 => h9) wf (w7 b w3) hn hf (by simpa using w3) hdec (fun H1 locs1 hP1 hD1 hS1 => k1 H1 locs1 ls hl ?_ hS1)
      have e := wld_set (tc := tc) (ad := ad) (σ := σ) (σ2 := σ3) hk ho
      rw [cel_obj h0, hs] at e
      rw [← e]
      exact hP1
    match st, h with
    | .int x :: .ref c9 :: r, h =>
      simp only [exec1] at h
      cases hd0 : (d == 0) with
      | true =>
        rw [hd0] at h
        obtain ⟨h0, rfl, rfl, rfl, rfl⟩ := cx_inv h hc
        obtain rfl : d = 0 := by simpa using hd0
        exact fin (.int x) c9 st2 _ h0 (by rw [wt]; rfl) (by rw [wt]; rfl) (fvl_si w3 (by omega) (by omega)) (fun j hj => cel_si hj) kk
      | false =>
        rw [hd0] at h
        cases hd3 : (d == 3) with
        | true =>
          rw [hd3] at h
          obtain ⟨⟨h0, h1⟩, rfl, rfl, rfl, rfl⟩ := cx_inv h hc
          obtain rfl : d = 3 := by simpa using hd3
          exact fin (.int x) c9 st2 _ h0 (by rw [wt]; exact (nb_fit h1).1) (by rw [wt]; exact (nb_fit h1).2) (fvl_si w3 (by omega) (by omega)) (fun j hj => cel_si hj) kk
        | false =>
          rw [hd3] at h
          cases h
    | .long x :: .ref c9 :: r, h =>
      simp only [exec1] at h
      cases hd1 : (d == 1) with
      | true =>
        rw [hd1] at h
        obtain ⟨h0, rfl, rfl, rfl, rfl⟩ := cx_inv h hc
        obtain rfl : d = 1 := by simpa using hd1
        exact fin (.long x) c9 st2 _ h0 (by rw [wt]; rfl) (by rw [wt]; rfl) (fvl_sl w3 w4) (fun j hj => cel_sl hj) kk
      | false =>
        rw [hd1] at h
        cases h
  | getstatic idx =>
    obtain rfl : len = 3 := hlen (fun _ _ _ _ h => by cases h)
    obtain ⟨i, h1, rfl, hw⟩ := hok
    obtain ⟨rfl, rfl, rfl, rfl⟩ := nx_inv h
    rcases hw with hw | ⟨host, hw⟩
    · exact va_gets hx hb (hSt i h1).1 hS hown (hts _ hw) (fun _ h9 => h9) hdec (kk H locs ls hl hP hS)
    · exact va_getsN hx hb (hSt i h1).1 hS hown (va_Nw.use rfl (hNs _ hw rfl)) (fun _ h9 => h9) hdec (kk H locs ls hl hP hS)
  | invokestatic idx =>
    obtain rfl : len = 3 := hlen (fun _ _ _ _ h => by cases h)
    simp only [exec1] at h
    cases hd7 : (d == 7) with
    | false =>
      rw [hd7] at h
      have hcatx : ∀ r : List Value, (r.map fun v => v.category).sum ≤ 8 → ((r.map (enc ad)).map fun v => v.category).sum + 13 ≤ R.locals := fun r h8 => by
        have h1 := est_cat ad r
        unfold est at h1
        rw [h1]
        have := hRm.2
        omega
      cases hd8 : (d == 8) with
      | true =>
        rw [hd8] at h
        obtain ⟨w1, w2, w3, w4⟩ := hok.2.2.1 (by simpa using hd8)
        match st, h with
        | .int x :: r, h =>
          obtain ⟨g, rfl, rfl, rfl, rfl⟩ := cx_inv h hc
          exact va_mabs hx hb (hml.trans hl.1.symm) hown (hts _ w1) (hts _ w2) (hts _ w3) (hts _ w4) hRm.1 (hcatx _ g) hbud.1 hbud.2 hdec (kk H locs ls hl hP hS)
      | false =>
        rw [hd8] at h
        cases hd9 : (d == 9) with
        | true =>
          rw [hd9] at h
          obtain ⟨w1, w2, w3, w4⟩ := hok.2.2.2.1 (by simpa using hd9)
          match st, h with
          | .long x :: r, h =>
            obtain ⟨g, rfl, rfl, rfl, rfl⟩ := cx_inv h hc
            exact va_mabs_long hx hb (hml.trans hl.1.symm) hown (hts _ w1) (hts _ w2) (hts _ w3) (hts _ w4) hRm.1 (hcatx _ g) hbud.1 hbud.2 hdec (kk H locs ls hl hP hS)
        | false =>
          rw [hd9] at h
          cases hd10 : (d == 10) with
          | true =>
            rw [hd10] at h
            obtain ⟨w1, w2, w3, w4⟩ := hok.2.2.2.2.1 (by simpa using hd10)
            match st, h with
            | .int y :: .int x :: r, h =>
              obtain ⟨g, rfl, rfl, rfl, rfl⟩ := cx_inv h hc
              exact va_mmax hx hb (hml.trans hl.1.symm) hown (hts _ w1) (hts _ w2) (hts _ w3) (hts _ w4) hRm.1 (hcatx _ g) hbud.1 hbud.2 hdec (kk H locs ls hl hP hS)
          | false =>
            rw [hd10] at h
            cases hd11 : (d == 11) with
            | true =>
              rw [hd11] at h
              obtain ⟨w1, w2, w3, w4⟩ := hok.2.2.2.2.2 (by simpa using hd11)
              match st, h with
              | .int y :: .int x :: r, h =>
                obtain ⟨g, rfl, rfl, rfl, rfl⟩ := cx_inv h hc
                exact va_mmin hx hb (hml.trans hl.1.symm) hown (hts _ w1) (hts _ w2) (hts _ w3) (hts _ w4) hRm.1 (hcatx _ g) hbud.1 hbud.2 hdec (kk H locs ls hl hP hS)
            | false =>
              rw [hd11] at h
              cases h
    | true =>
      rw [hd7] at h
      obtain rfl : d = 7 := by simpa using hd7
      obtain ⟨w1, w2, w3, w4⟩ := hok.1 rfl
      match st, h with
      | .int n :: .int dp :: .ref c1 :: .int sp :: .ref c0 :: r, h =>
        obtain ⟨⟨⟨g0, g1, g2⟩, ⟨g3, g4, g5⟩, g6, g7⟩, rfl, rfl, rfl, rfl⟩ := cx_inv h hc
        have hk0 : c0 < NC := ck_lt g0 (by decide)
        have hk1 : c1 < NC := ck_lt g1 (by decide)
        refine va_copyi (f := σ.1 c0) (g := σ.1 c1) (c1 := tc 0) (n1 := al c1) hx hb (hml.trans hl.1.symm) hown (hts _ w1) (hts _ w2) (hts _ w3) (hts _ w4) hK hP hD hS c0 c1 0 0 (by rw [wld_get hk0]; simp only [cel, g0]) (by rw [wld_get hk1]; simp only [cel, g1]) rfl rfl rfl g3 g4 g5 g6 g7 (fun _ _ => rfl) hRm.1 ?_ hdec (fun H1 locs1 hP1 hD1 hS1 => kk H1 locs1 ls hl ?_ hS1)
        · have hcat := est_cat ad st2
          unfold est at hcat
          rw [hcat]
          have : nativeFrameWords "java/lang/System" "arraycopy" 5 + 11 ≤ 56 := by decide +kernel
          have h64 := hRm.2
          omega
        · have e := wld_set (tc := tc) (ad := ad) (σ := σ) (σ2 := scp σ c0 c1 sp.toNatClampNeg dp.toNatClampNeg n.toNatClampNeg) hk1 (fun j hj => cel_scp hj)
          rw [show cel tc ad (scp σ c0 c1 sp.toNatClampNeg dp.toNatClampNeg n.toNatClampNeg) c1 = .inl (tc 0, al c1, .inl (va_cpy (σ.1 c0) (σ.1 c1) sp.toNatClampNeg dp.toNatClampNeg n.toNatClampNeg)) by simp only [cel, g1]; simp [scp]] at e
          rw [← e]
          exact hP1
  | _ => first | (simp [exec1] at h; done) | cases h
end SND
end
section
/-! ===== calls, returns, a method's contract out of the small machine ===== -/
def rmL (d : Nat) : Room := { frames := d, cells := 0, slots := 0, locals := 64 * d }
theorem conj_app : ∀ {a b : List Prop}, conj (a ++ b) → conj a ∧ conj b
  | [], _, h => ⟨trivial, h⟩
  | _ :: _, _, h => ⟨⟨h.1, (conj_app h.2).1⟩, (conj_app h.2).2⟩
theorem popn_spec : ∀ (n : Nat) (acc st as r : List Value), popn n acc st = some (as, r) → ∃ zs, zs.length = n ∧ st = zs ++ r ∧ as = zs.reverse ++ acc
  | 0, acc, st, as, r, h => by
    simp only [popn, Option.some.injEq, Prod.mk.injEq] at h
    obtain ⟨rfl, rfl⟩ := h
    exact ⟨[], rfl, rfl, rfl⟩
  | n + 1, acc, [], as, r, h => by cases h
  | n + 1, acc, v :: st, as, r, h => by
    obtain ⟨zs, h1, h2, h3⟩ := popn_spec n (v :: acc) st as r h
    exact ⟨v :: zs, by simp [h1], by rw [h2]; rfl, by rw [h3]; simp⟩
theorem popn_nil {n : Nat} {st as r : List Value} (h : popn n [] st = some (as, r)) : as.length = n ∧ st = as.reverse ++ r := by
  obtain ⟨zs, h1, h2, h3⟩ := popn_spec n [] st as r h
  simp only [List.append_nil] at h3
  subst h3
  exact ⟨by simpa using h1, by simpa using h2⟩
def PcM (D : va_G) (tc : Nat → ClassId) (ad : Nat → Nat) (as : List Value) (σ : Sg) : Array Value → State → Prop := va_Pc (est ad as) (fun U => va_P D cl (wld tc ad σ) U.heap ∧ va_K D cl (tys tc) U ∧ Stc (inA ad) ad U U.heap ∧ Nst U)
def QcM (D : va_G) (tc : Nat → ClassId) (ad : Nat → Nat) (P : Option Value → Sg → Prop) : Array Value → State → Outcome → State → Prop := fun _ st oc t => (∃ v σ2, oc = .returned (v.map (enc ad)) ∧ P v σ2 ∧ va_P D cl (wld tc ad σ2) t.heap) ∧ va_F (inA ad) st t
theorem PcM.blind (D : va_G) (tc : Nat → ClassId) (ad : Nat → Nat) (as : List Value) (σ : Sg) : FrameBlind (PcM D tc ad as σ) := fun a U g mk q => by
  obtain ⟨q0, q1, q2, q3, q4⟩ := q
  exact ⟨q0, q1, va_K.moved (u := U) (U := U.calling g mk a) (Vm.Alike.refl U.vm) q2, Stc.moved (u := U) (U := U.calling g mk a) (Vm.Alike.refl U.vm) q3, Nst.same (u := U) (U := U.calling g mk a) rfl q4⟩
def MetM (M : Nat → MI) (l : Launch) (D : va_G) (tc : Nat → ClassId) (ad : Nat → Nat) (d mid : Nat) (as : List Value) (σ : Sg) (P : Option Value → Sg → Prop) : Prop :=
  Met l (M mid).1 (Cond.code (M mid).1 (M mid).2.1 (M mid).2.2.1 (M mid).2.2.2 :: TB) (rmL d) (PcM D tc ad as σ) (QcM D tc ad P) 0 0 (inA ad)
section SND2
variable {p : Program} {l : Launch} {e : Env} {R : Room} {s : State} {m : MethodId} {args : Array Value} {below : List Frame} {meth : Method} {c : Code} {cells slots : Nat} {Qs : State → Prop}
variable {D : va_G} {tc : Nat → ClassId} {ad : Nat → Nat} {A : Nat → Prop} {own : String} {cc : ByteArray} {nL : Nat} {X : RO} {M : Nat → MI}
theorem blk_ok (F : Fx p R s m args c D tc ad A own cc nL X) (hbud : cells ≤ R.cells ∧ slots ≤ R.slots) : ∀ (L : List Ent), (∀ en ∈ L, EntOK M own cc nL en) → ∀ (q : PS) (cs : List Prop) (q2 : PS), blk X L q = some (cs, q2) → conj cs →
    Wk (D := D) p l e R s m args below meth c cells slots Qs tc ad A nL q2 → Wk (D := D) p l e R s m args below meth c cells slots Qs tc ad A nL q
  | [], _, q, cs, q2, h, _, kk => by
    simp only [blk, Option.some.injEq, Prod.mk.injEq] at h
    rw [h.2]
    exact kk
  | en :: L, hok, (pc, lv, st, σ), cs, q2, h, hc, kk => by
    simp only [blk] at h
    cases hb : (en.1 == pc) with
    | false => rw [hb] at h; cases h
    | true =>
      rw [hb] at h
      have hpc : en.1 = pc := by simpa using hb
      simp only [cond_true] at h
      split at h
      · cases h
      · rename_i c1 s1 h1
        split at h
        · cases h
        · rename_i c2 s2 h2
          simp only [Option.some.injEq, Prod.mk.injEq] at h
          obtain ⟨rfl, rfl⟩ := h
          obtain ⟨hc1, hc2⟩ := conj_app hc
          have k2 := blk_ok F hbud L (fun en hen => hok en (List.mem_cons_of_mem _ hen)) s1 c2 s2 h2 hc2 kk
          obtain ⟨pc1, lv1, st1, σ1⟩ := s1
          rw [← hpc]
          exact exec1_ok F hbud (hok en List.mem_cons_self) h1 hc1 k2
theorem run_ok {H : Heap} {locs : List Loc} {pc : Nat} {lv : LV} {ls : Array Slot} {st0 r : List Value} {P : Option Value → Sg → Prop} {a : Array Value} (hAd : ∀ q, inA ad q → A q) (hl : lv_has ls nL (elv ad lv)) (hr : va_Run p l e R s m args below meth c H locs cells slots 0 0 (F0 m pc ls st0) (est ad r) (QcM D tc ad P a) (inA ad)) (hS : va_S A s.heap H locs)
    (kk : ∀ v σ2, P v σ2 → Wk (D := D) p l e R s m args below meth c cells slots Qs tc ad A nL (pc + 3, lv, v.toList ++ r, σ2)) : W p l e R s m args below meth c H locs cells slots Qs (F0 m pc ls st0) := by
  intro T hT X
  obtain ⟨v, st₀, t, T', L, h0, X', hL, e1, e2, ⟨⟨v2, σ2, hv, hp, hP⟩, hz, hk⟩, st⟩ := hr T hT X
  cases hv
  rw [h0] at hz hk
  have k1 := kk v2 σ2 hp T'.heap (locs ++ L) ls hl (by rw [e1]; exact hP) ⟨Nat.le_trans hS.1 (by rw [e1]; exact hz), fun q h1 h2 => by rw [e1, hk q (Nat.lt_of_lt_of_le h1 hS.1) (fun z => h2 (hAd q z))]; exact hS.2.1 q h1 h2, fun q hq => by
      rcases List.mem_append.mp hq with h | h
      · exact hS.2.2 q h
      · exact hAd _ (hL q h)⟩
  obtain ⟨t2, a1, b1⟩ := k1 T' rfl X'
  refine ⟨t2, st t2 ?_, b1⟩
  have es : est ad (v2.toList ++ r) = (v2.map (enc ad)).toList ++ est ad r := by cases v2 <;> simp [est]
  dsimp only at a1
  rw [es] at a1
  exact a1
theorem call_ok (F : Fx p R s m args c D tc ad A own cc nL X) {en : Ent} (hok : EntOK M own cc nL en) {lv : LV} {st : List Value} {σ : Sg} {cp : Prop} {as r : List Value} {P : Option Value → Sg → Prop} {d0 : Nat} (h : icall en st = some (cp, as, r)) (hc : cp) (hM : MetM M l D tc ad d0 en.2.2.2.1 as σ P) (hd : d0 + 1 ≤ R.frames ∧ 64 * (d0 + 1) ≤ R.locals) (hbud : cells ≤ R.cells ∧ slots ≤ R.slots)
    (kk : ∀ v σ2, P v σ2 → Wk (D := D) p l e R s m args below meth c cells slots Qs tc ad A nL (en.1 + 3, lv, v.toList ++ r, σ2)) : Wk (D := D) p l e R s m args below meth c cells slots Qs tc ad A nL (en.1, lv, st, σ) := by
  obtain ⟨hx, hb, hml, hown, hts, hK, hinj, hAd, ⟨hSt, hNs⟩, hRm, hX⟩ := F
  obtain ⟨pc, ins, len, a, b, d, zs⟩ := en
  obtain ⟨hdec, hok, hlen⟩ := hok
  intro H locs ls hl hP hS
  dsimp only at hdec hlen hok hl hP hS hM kk ⊢
  have hpre : ∀ U : State, U.heap = H → s.WarmedH U.vm → va_P D cl (wld tc ad σ) U.heap ∧ va_K D cl (tys tc) U ∧ Stc (inA ad) ad U U.heap ∧ Nst U := fun U hU hW => ⟨by rw [hU]; exact hP, va_K.moved hW.alike hK, by
    rw [hU]
    exact Stc.narrow (Stc.moved hW.alike (hSt.kept (fun q h1 h2 => hS.2.1 q h1 h2))) hAd, Nst.warm hW hNs⟩
  have hlo : (M a).2.2.1 ≤ 45 → 8 + ((M a).2.2.1 + 11) + (rmL d0).locals ≤ R.locals := fun h => by
    show 8 + ((M a).2.2.1 + 11) + 64 * d0 ≤ R.locals
    omega
  cases ins with
  | invokevirtual idx =>
    obtain rfl : len = 3 := hlen (fun _ _ _ _ h => by cases h)
    obtain ⟨⟨w0, w1, w2, w3, w4⟩, w5, w6, w7, q, w8, w9⟩ := hok
    simp only [icall] at h
    split at h
    · rename_i as2 c9 r2 hp
      simp only [Option.some.injEq, Prod.mk.injEq] at h
      obtain ⟨rfl, rfl, rfl⟩ := h
      obtain ⟨h0, h1⟩ := hc
      obtain ⟨e1, rfl⟩ := popn_nil hp
      have hk : c9 < NC := ck_nc (by have h1 : d < 9 := (List.getElem?_eq_some_iff.mp w8).1; omega)
      have hrecv := va_recv hK hP (q0 := c9) (ci := d) w8 (by rw [wld_get hk, cel_obj h0])
      rw [w9] at hrecv
      refine run_ok hAd hl (va_runV (As := est ad as2) (rest := est ad r2) (n := b) ⟨hx, hb, hml, hown, hts⟩ hM ⟨callB_of b hts (tb_goodIn w1) rfl rfl rfl (hts _ w2) (hts _ w5) ⟨w3.1, w3.2, w4⟩ ⟨hd.1, hlo w0⟩, hts _ w6, hts _ w7⟩ ⟨PcM.blind _ _ _ _ _, hrecv, fun U hU hW => ⟨rfl, hpre U hU hW⟩⟩ rfl (by simpa [est] using e1) hl.1 ?_ (lv_room (by rw [est_cat]; exact h1)) hdec ⟨hbud.1, hbud.2⟩) hS kk
      simp [est, enc, F0]
    · cases h
  | invokestatic idx =>
    obtain rfl : len = 3 := hlen (fun _ _ _ _ h => by cases h)
    simp only [icall] at h
    cases hd7 : (Nat.blt 6 d) with
    | true => rw [hd7] at h; cases h
    | false =>
      rw [hd7] at h
      obtain ⟨⟨w0, w1, w2, w3, w4⟩, w5, w6⟩ := hok.2.1 (fun q => by rw [Nat.blt_eq.mpr q] at hd7; cases hd7)
      simp only [cond_false] at h
      split at h
      · rename_i as2 r2 hp
        simp only [Option.some.injEq, Prod.mk.injEq] at h
        obtain ⟨rfl, rfl, rfl⟩ := h
        obtain ⟨e1, rfl⟩ := popn_nil hp
        have hst0 : est ad (as2.reverse ++ r2) = (est ad as2).reverse ++ est ad r2 := by simp [est]
        rcases w5 with w5 | ⟨host, w5⟩
        · exact run_ok hAd hl (va_runS (As := est ad as2) (rest := est ad r2) (n := b) ⟨hx, hb, hml, hown, hts⟩ hM ⟨callB_of b hts (tb_goodIn w1) rfl rfl rfl (hts _ w2) (hts _ w5) ⟨w3.1, w3.2, w4⟩ ⟨hd.1, hlo w0⟩, hts _ w6⟩ ⟨PcM.blind _ _ _ _ _, fun U hU hW => ⟨rfl, hpre U hU hW⟩⟩ rfl (by simpa [est] using e1) hl.1 hst0 (lv_room (by rw [est_cat]; exact hc)) hdec ⟨hbud.1, hbud.2⟩) hS kk
        · exact run_ok hAd hl (va_runSN (As := est ad as2) (rest := est ad r2) (n := b) (host := host) ⟨hx, hb, hml, hown, hts⟩ hM ⟨va_cnB b hts (tb_goodIn w1) rfl rfl rfl (hNs _ w5 rfl) (hts _ w2) ⟨w3.1, w3.2, w4⟩ ⟨hd.1, hlo w0⟩, hts _ w6, trivial⟩ ⟨PcM.blind _ _ _ _ _, fun U hU hW => ⟨rfl, hpre U hU hW⟩⟩ rfl (by simpa [est] using e1) hl.1 hst0 (lv_room (by rw [est_cat]; exact hc)) hdec ⟨hbud.1, hbud.2⟩) hS kk
      · cases h
  | _ => first | (simp [icall] at h; done) | cases h
theorem Rch_ok (F : Fx p R s m args c D tc ad A own cc nL X) {cs : List (List Ent)} {G : Env1} {Q : Option Value → Sg → Prop} (hcs : ∀ (k : Nat) (L : List Ent), cs[k]? = some L → ∀ en ∈ L, EntOK M own cc nL en) (hG : ∀ mid as σ P, G mid as σ P → ∃ d0, (d0 + 1 ≤ R.frames ∧ 64 * (d0 + 1) ≤ R.locals) ∧ MetM M l D tc ad d0 mid as σ P) (hbud : cells ≤ R.cells ∧ slots ≤ R.slots)
    (hret : ∀ (k : Nat) (en : Ent) (cp : Prop) (v : Option Value) (lv : LV) (st : List Value) (σ : Sg), cs[k]? = some [en] → EntOK M own cc nL en → retv en st = some (cp, v) → cp → Q v σ → Wk (D := D) p l e R s m args below meth c cells slots Qs tc ad A nL (en.1, lv, st, σ)) :
    ∀ (n : Nat) (q : PS), Rch X G cs Q n q → Wk (D := D) p l e R s m args below meth c cells slots Qs tc ad A nL q := by
  intro n
  induction n with
  | zero => intro q h; exact h.elim
  | succ n ih =>
    intro q h
    obtain ⟨pc, lv, st, σ⟩ := q
    rcases h with ⟨k, L, cp, q2, h1, h2, h3, h4⟩ | ⟨ks, lv2, h1, h2⟩ | ⟨k, en, cp, as, r, h1, h2, h3, h4, h5⟩ | ⟨k, en, cp, v, h1, h2, h3, h4, h5⟩
    · exact blk_ok F hbud L (hcs k L h1) _ cp q2 h2 h3 (ih q2 h4)
    · intro H locs ls hl hP hS
      subst h1
      exact ih _ h2 H locs ls (elv_pick ks hl) hP hS
    · subst h2
      obtain ⟨d0, hd, hM⟩ := hG _ _ _ _ h5
      exact call_ok F (hcs k _ h1 en List.mem_cons_self) h3 h4 hM hd hbud (fun v σ2 hv => ih _ hv)
    · subst h2
      exact hret k en cp v lv st σ h1 (hcs k _ h1 en List.mem_cons_self) h3 h4 h5
end SND2
/-- what a method does, calls as deep as d -/
def Ev (M : Nat → MI) (C : Nat → List (List Ent)) : Nat → Env1
  | 0 => fun _ _ _ _ => False
  | d + 1 => fun mid as σ Q => (lg_sl as).length ≤ (M mid).2.2.1 ∧ Rc none (Ev M C d) (C mid) (0, lv_args 0 as, [], σ) Q
theorem Ev.mono {M : Nat → MI} {C : Nat → List (List Ent)} : ∀ (d : Nat) (mid : Nat) (as : List Value) (σ : Sg) (P P2 : Option Value → Sg → Prop), (∀ v σ, P v σ → P2 v σ) → Ev M C d mid as σ P → Ev M C d mid as σ P2
  | 0, _, _, _, _, _, _, h => h
  | d + 1, mid, as, σ, P, P2, hP, h => by
    obtain ⟨h1, n, h2⟩ := h
    exact ⟨h1, n, Rch.mono hP (fun m as σ P P2 hp h => Ev.mono d m as σ P P2 hp h) n _ h2⟩
theorem Ev.up {M : Nat → MI} {C : Nat → List (List Ent)} : ∀ (d : Nat) (mid : Nat) (as : List Value) (σ : Sg) (P : Option Value → Sg → Prop), Ev M C d mid as σ P → Ev M C (d + 1) mid as σ P
  | 0, _, _, _, _, h => h.elim
  | d + 1, mid, as, σ, P, h => by
    obtain ⟨h1, n, h2⟩ := h
    exact ⟨h1, n, Rch.mono (fun _ _ h => h) (fun m as σ P P2 hp h => Ev.up d m as σ P2 (Ev.mono d m as σ P P2 hp h)) n _ h2⟩
theorem Ev.le {M : Nat → MI} {C : Nat → List (List Ent)} {d d2 mid : Nat} {as : List Value} {σ : Sg} {P : Option Value → Sg → Prop} (hd : d ≤ d2) (h : Ev M C d mid as σ P) : Ev M C d2 mid as σ P := by
  induction hd with
  | refl => exact h
  | step _ ih => exact Ev.up _ _ _ _ _ ih
def RetOK (ret : Option FieldType) (en : Ent) : Prop := match en.2.1 with
  | .ireturn => (en.2.2.2.1 = 0 ∧ ret = some .int) ∨ (en.2.2.2.1 = 1 ∧ ret = some .boolean)
  | .lreturn => ret = some .long
  | .areturn => ret = some (.array .int)
  | .return_ => ret = none
  | _ => True
def MthOK (M : Nat → MI) (C : Nat → List (List Ent)) (mid : Nat) : Prop := plainName (M mid).1.cls = true ∧ Cond.code (M mid).1 (M mid).2.1 (M mid).2.2.1 (M mid).2.2.2 ∈ TB ∧ ∀ L ∈ C mid, ∀ en ∈ L, EntOK M (M mid).1.cls (M mid).2.1 (M mid).2.2.1 en ∧ RetOK (M mid).2.2.2 en
theorem lv_args_enc (ad : Nat → Nat) : ∀ (i : Nat) (as : List Value), lv_args i (est ad as) = elv ad (lv_args i as)
  | _, [] => rfl
  | i, v :: vs => by
    show (i, enc ad v) :: lv_args (if (enc ad v).category = 2 then i + 2 else i + 1) (est ad vs) = _
    rw [enc_cat, lv_args_enc ad]
    rfl
theorem lg_sl_enc (ad : Nat → Nat) (as : List Value) : (lg_sl (est ad as)).length = (lg_sl as).length := by
  unfold lg_sl est
  induction as with
  | nil => rfl
  | cons v vs ih =>
    simp only [List.map_cons, List.flatMap_cons, List.length_append, enc_cat]
    rw [ih]
    split <;> rfl
end
section
/-! ===== a method's contract, from what the small machine does ===== -/
theorem Rch.empty {X : RO} {G : Env1} {Q : Option Value → Sg → Prop} : ∀ (n : Nat) (q : PS), ¬ Rch X G [] Q n q := by
  intro n
  induction n with
  | zero => intro q h; exact h
  | succ n ih =>
    intro q h
    obtain ⟨pc, lv, st, σ⟩ := q
    rcases h with ⟨k, L, cp, q2, h1, h2, h3, h4⟩ | ⟨ks, lv2, h1, h2⟩ | ⟨k, en, cp, as, r, h1, h2, h3, h4, h5⟩ | ⟨k, en, cp, v, h1, h2, h3, h4, h5⟩
    · simp at h1
    · exact ih _ h2
    · simp at h1
    · simp at h1
theorem Ev_ok {M : Nat → MI} {C : Nat → List (List Ent)} (hall : ∀ mid, C mid ≠ [] → MthOK M C mid) (l : Launch) (D : va_G) (tc : Nat → ClassId) (ad : Nat → Nat) (hinj : ∀ i j, i < NC → j < NC → ad i = ad j → i = j) :
    ∀ (d : Nat) (mid : Nat) (as : List Value) (σ : Sg) (P : Option Value → Sg → Prop), Ev M C d mid as σ P → MetM M l D tc ad d mid as σ P := by
  intro d
  induction d with
  | zero => intro mid as σ P h; exact h.elim
  | succ d ih =>
    intro mid as σ P h
    obtain ⟨hlen, n, hr⟩ := h
    have hne : C mid ≠ [] := fun q => by
      rw [q] at hr
      exact Rch.empty n _ hr
    obtain ⟨hpl, hcode, hent⟩ := hall mid hne
    refine Met.ofW (cc := (M mid).2.1) (maxL := (M mid).2.2.1) (ret := (M mid).2.2.2) hpl rfl ?_
    intro p e s m args below meth c s₁ B hml hv
    obtain ⟨rfl, hP, hK, hSt, hNs⟩ := hv
    have hx := B.exec
    have hb := B.bytes
    have hrt := B.returns
    have hts := atoms_spec (ws := Cond.code (M mid).1 (M mid).2.1 (M mid).2.2.1 (M mid).2.2.2 :: TB) B.pre
    have hown : s.vm.findClass (M mid).1.cls = some m.cls := findClass_of_methodNamed B.named
    have hlocks := B.notSynchronized
    have F : Fx p (rmL (d + 1)) s m (est ad as).toArray c D tc ad (inA ad) (M mid).1.cls (M mid).2.1 (M mid).2.2.1 none := ⟨hx, hb, hml, hown, fun w hw => hts w (List.mem_cons_of_mem _ hw), hK, hinj, fun _ h => h, ⟨hSt, hNs⟩, ⟨by show 1 ≤ d + 1; omega, by show 64 ≤ 64 * (d + 1); omega⟩, fun x h => by cases h⟩
    have hl := lv_entry (est ad as) (n := (M mid).2.2.1) (by rw [lg_sl_enc]; exact hlen)
    rw [lg_entry_eq]
    rw [lv_args_enc] at hl
    refine Rch_ok F (cs := C mid) (G := Ev M C d) (Q := P) (fun k L hk en hen => (hent L (List.mem_of_getElem? hk) en hen).1) (fun mid as σ P h => ⟨d, ⟨Nat.le_refl _, Nat.le_refl _⟩, ih mid as σ P h⟩) ⟨Nat.le_refl _, Nat.le_refl _⟩ ?_ n (0, lv_args 0 as, [], σ) hr s.heap [] _ hl hP va_S.rf
    intro k en cp v lv st σ2 hk hok hrv hcp hQ H locs ls hl2 hP2 hS2
    obtain ⟨-, hro⟩ := hent _ (List.mem_of_getElem? hk) en List.mem_cons_self
    obtain ⟨pc, ins, len, a, b, d1, zs⟩ := en
    obtain ⟨hdec, -, hln⟩ := hok
    dsimp only at hdec hln hP2 ⊢
    have hq : ∀ (v : Option Value) (t : State), P v σ2 → t.heap = H → QcM D tc ad P (est ad as).toArray s (.returned (v.map (enc ad))) t := fun v t hp ht => ⟨⟨v, σ2, rfl, hp, by rw [ht]; exact hP2⟩, hS2.F ht⟩
    cases ins with
    | ireturn =>
      obtain rfl : len = 1 := hln (fun _ _ _ _ h => by cases h)
      match st, hrv with
      | [.int x], hrv =>
        simp only [retv] at hrv
        rcases hro with ⟨h1, h2⟩ | ⟨h1, h2⟩
        · dsimp only at h1
          subst h1
          simp only [Option.some.injEq, Prod.mk.injEq, Nat.reduceBEq, cond_false] at hrv
          obtain ⟨-, rfl⟩ := hrv
          exact W.iret hx hb (hrt.trans h2) (fun t ht hW => hq (some (.int x)) t hQ ht) hS2.2.2 hdec
        · dsimp only at h1
          subst h1
          simp only [Option.some.injEq, Prod.mk.injEq, Nat.reduceBEq, cond_true] at hrv
          obtain ⟨rfl, rfl⟩ := hrv
          exact W.zret hx hb (hrt.trans h2) (nb_fit hcp).1 (fun t ht hW => hq (some (.int x)) t hQ ht) hS2.2.2 hdec
    | lreturn =>
      obtain rfl : len = 1 := hln (fun _ _ _ _ h => by cases h)
      match st, hrv with
      | [.long x], hrv =>
        simp only [retv, Option.some.injEq, Prod.mk.injEq] at hrv
        obtain ⟨-, rfl⟩ := hrv
        exact W.lret hx hb (hrt.trans hro) (fun t ht hW => hq (some (.long x)) t hQ ht) hS2.2.2 hdec
    | areturn =>
      obtain rfl : len = 1 := hln (fun _ _ _ _ h => by cases h)
      match st, hrv with
      | [.ref x], hrv =>
        simp only [retv, Option.some.injEq, Prod.mk.injEq] at hrv
        obtain ⟨-, rfl⟩ := hrv
        exact W.aret hx hb (hrt.trans hro) (Or.inr ⟨_, rfl⟩) (Or.inr ⟨_, rfl⟩) (fun t ht hW => hq (some (.ref x)) t hQ ht) hS2.2.2 hdec
    | return_ =>
      obtain rfl : len = 1 := hln (fun _ _ _ _ h => by cases h)
      match st, hrv with
      | [], hrv =>
        simp only [retv, Option.some.injEq, Prod.mk.injEq] at hrv
        obtain ⟨-, rfl⟩ := hrv
        exact W.vret hx hb (hrt.trans hro) (fun t ht hW => hq none t hQ ht) hS2.2.2 hdec
    | _ => first | (simp [retv] at hrv; done) | cases hrv
end
section
/-! ===== what the instructions link to, out of the tables' words ===== -/
def RJ6 : String := "java/lang/Integer"
def RJ9 : String := "java/lang/Math"
def RJ7 : String := "java/util/Arrays"
def RL : String := "PureGroupsLaw"
theorem tb_in (ws : List Cond) (ps : List Nat) (hp : ws = ps.filterMap (fun i => lw_tbl[i]?)) (h : ws.all goodWord = true) : ∀ w ∈ ws, w ∈ TB := by
  intro w hw
  have h1 := List.all_eq_true.mp h w hw
  rw [hp] at hw
  obtain ⟨i, -, hi⟩ := List.mem_filterMap.mp hw
  exact List.mem_filter.mpr ⟨List.mem_of_getElem? hi, h1⟩
abbrev Lnk : Type := Nat × Nat × Nat × Nat × Nat × Int
def LnkOK (M : Nat → MI) (own : String) (q : Lnk) : Prop := match q with
  | (0, idx, a, b, d, _) => FldOK own idx a b d false
  | (1, idx, a, b, d, _) => FldOK own idx a b d true
  | (2, idx, a, _, _, _) => StaOK own idx a
  | (3, idx, a, b, d, _) => VirOK M own idx a b d
  | (4, idx, a, b, _, _) => StmOK M own idx a b
  | (8, idx, _, _, _, _) => ArcOK own idx
  | (9, idx, _, _, _, _) => MabOK own idx
  | (10, idx, _, _, _, _) => MalOK own idx
  | (11, idx, _, _, _, _) => MaxOK own idx
  | (12, idx, _, _, _, _) => MinOK own idx
  | (6, idx, _, _, _, z) => Cond.constant own idx (Int32.ofInt z) ∈ TB
  | (_, idx, _, _, _, z) => Cond.constantLong own idx (Int64.ofInt z) ∈ TB
def chkE (cc : ByteArray) (nL : Nat) (ret : Option FieldType) (lk : List Lnk) (e : Ent) : Bool :=
  decide (decode cc e.1 = .ok (e.2.1, e.2.2.1)) && (match e with
  | (pc, ins, len, a, b, d, zs) => (match ins with
    | .tableswitch df lo hi offs => decide ((pc : Int) + df = (a : Int)) && decide (hi = lo + zs.length - 1) && decide (-2147483648 ≤ lo) && decide (hi ≤ 2147483647) && (List.range zs.length).all (fun i => match offs[i]? with
      | some off => decide ((pc : Int) + off = ((zs.getD i 0).toNat : Int))
      | none => false)
    | _ => len == ilen ins) && (match ins with
    | .istore i => Nat.blt i nL
    | .istore_n k => Nat.blt k.val nL
    | .astore i => Nat.blt i nL
    | .astore_n k => Nat.blt k.val nL
    | .lstore i => Nat.blt (i + 1) nL
    | .lstore_n k => Nat.blt (k.val + 1) nL
    | .iinc i _ => Nat.blt i nL
    | .bipush n => decide ((Int8.ofInt n).toInt32 = Int32.ofInt n)
    | .sipush n => decide ((Int16.ofInt n).toInt32 = Int32.ofInt n)
    | .ldc idx => (match zs with | z :: _ => lk.contains (6, idx, 0, 0, 0, z) | [] => false)
    | .ldc_w idx => (match zs with | z :: _ => lk.contains (6, idx, 0, 0, 0, z) | [] => false)
    | .ldc2_w idx => (match zs with | z :: _ => lk.contains (7, idx, 0, 0, 0, z) | [] => false)
    | .ifCond _ off => decide ((pc : Int) + off = (a : Int))
    | .if_icmp _ off => decide ((pc : Int) + off = (a : Int))
    | .goto off => decide ((pc : Int) + off = (a : Int))
    | .getfield idx => lk.contains (0, idx, a, b, d, 0)
    | .putfield idx => lk.contains (1, idx, a, b, d, 0)
    | .getstatic idx => lk.contains (2, idx, a, 0, 0, 0)
    | .invokevirtual idx => lk.contains (3, idx, a, b, d, 0)
    | .invokestatic idx => bif Nat.blt 6 d then (Nat.ble d 11 && lk.contains (d + 1, idx, 0, 0, 0, 0)) else lk.contains (4, idx, a, b, 0, 0)
    | .ireturn => (a == 0 && decide (ret = some .int)) || (a == 1 && decide (ret = some .boolean))
    | .lreturn => decide (ret = some .long)
    | .areturn => decide (ret = some (.array .int))
    | .return_ => decide (ret = none)
    | _ => true))
theorem and_r {a b : Bool} (h : (a && b) = true) : b = true := (Bool.and_eq_true_iff.mp h).2
theorem chkE_ok {M : Nat → MI} {own : String} {cc : ByteArray} {nL : Nat} {ret : Option FieldType} {lk : List Lnk} (hlk : ∀ q ∈ lk, LnkOK M own q) {e : Ent} (h : chkE cc nL ret lk e = true) : EntOK M own cc nL e ∧ RetOK ret e := by
  obtain ⟨pc, ins, len, a, b, d, zs⟩ := e
  simp only [chkE, Bool.and_eq_true, decide_eq_true_eq] at h
  obtain ⟨h1, h2, h3⟩ := h
  have hc : ∀ q : Lnk, lk.contains q = true → LnkOK M own q := fun q hq => hlk q (by simpa using hq)
  cases ins with
  | tableswitch df lo hi offs =>
    simp only [Bool.and_eq_true, decide_eq_true_eq, List.all_eq_true] at h2
    obtain ⟨⟨⟨⟨g1, g2⟩, g3⟩, g4⟩, g5⟩ := h2
    refine ⟨⟨h1, ⟨g1, g2, ⟨g3, g4⟩, fun i hi => ?_⟩, fun h => absurd rfl (h df lo hi offs)⟩, trivial⟩
    have := g5 i (List.mem_range.mpr hi)
    split at this
    · rename_i off ho
      exact ⟨off, ho, by simpa using this⟩
    · cases this
  | istore i => exact ⟨⟨h1, by simpa using h3, fun _ => by simpa using h2⟩, trivial⟩
  | istore_n i => exact ⟨⟨h1, by simpa using h3, fun _ => by simpa using h2⟩, trivial⟩
  | astore i => exact ⟨⟨h1, by simpa using h3, fun _ => by simpa using h2⟩, trivial⟩
  | astore_n i => exact ⟨⟨h1, by simpa using h3, fun _ => by simpa using h2⟩, trivial⟩
  | lstore i => exact ⟨⟨h1, by simpa using h3, fun _ => by simpa using h2⟩, trivial⟩
  | lstore_n i => exact ⟨⟨h1, by simpa using h3, fun _ => by simpa using h2⟩, trivial⟩
  | iinc i n => exact ⟨⟨h1, by simpa using h3, fun _ => by simpa using h2⟩, trivial⟩
  | bipush n => exact ⟨⟨h1, by simpa using h3, fun _ => by simpa using h2⟩, trivial⟩
  | sipush n => exact ⟨⟨h1, by simpa using h3, fun _ => by simpa using h2⟩, trivial⟩
  | ldc idx =>
    match zs, h3 with
    | z :: r, h3 => exact ⟨⟨h1, ⟨z, r, rfl, hc _ h3⟩, fun _ => by simpa using h2⟩, trivial⟩
  | ldc_w idx =>
    match zs, h3 with
    | z :: r, h3 => exact ⟨⟨h1, ⟨z, r, rfl, hc _ h3⟩, fun _ => by simpa using h2⟩, trivial⟩
  | ldc2_w idx =>
    match zs, h3 with
    | z :: r, h3 => exact ⟨⟨h1, ⟨z, r, rfl, hc _ h3⟩, fun _ => by simpa using h2⟩, trivial⟩
  | ifCond cd off => exact ⟨⟨h1, by simpa using h3, fun _ => by simpa using h2⟩, trivial⟩
  | if_icmp cd off => exact ⟨⟨h1, by simpa using h3, fun _ => by simpa using h2⟩, trivial⟩
  | goto off => exact ⟨⟨h1, by simpa using h3, fun _ => by simpa using h2⟩, trivial⟩
  | getfield idx => exact ⟨⟨h1, hc _ h3, fun _ => by simpa using h2⟩, trivial⟩
  | putfield idx => exact ⟨⟨h1, hc _ h3, fun _ => by simpa using h2⟩, trivial⟩
  | getstatic idx => exact ⟨⟨h1, hc _ h3, fun _ => by simpa using h2⟩, trivial⟩
  | invokevirtual idx => exact ⟨⟨h1, hc _ h3, fun _ => by simpa using h2⟩, trivial⟩
  | invokestatic idx =>
    refine ⟨⟨h1, ⟨fun hd => ?_, fun hd => ?_, fun hd => ?_, fun hd => ?_, fun hd => ?_, fun hd => ?_⟩, fun _ => by simpa using h2⟩, trivial⟩
    · subst hd
      exact hc (8, idx, 0, 0, 0, 0) (and_r (a := Nat.ble 7 11) h3)
    · have hb : Nat.blt 6 d = false := by
        cases hz : Nat.blt 6 d with
        | false => rfl
        | true => exact absurd (Nat.blt_eq.mp hz) hd
      simp only [hb, cond_false] at h3
      exact hc _ h3
    · subst hd
      exact hc (9, idx, 0, 0, 0, 0) (and_r (a := Nat.ble 8 11) h3)
    · subst hd
      exact hc (10, idx, 0, 0, 0, 0) (and_r (a := Nat.ble 9 11) h3)
    · subst hd
      exact hc (11, idx, 0, 0, 0, 0) (and_r (a := Nat.ble 10 11) h3)
    · subst hd
      exact hc (12, idx, 0, 0, 0, 0) (and_r (a := Nat.ble 11 11) h3)
  | ireturn =>
    simp only [Bool.or_eq_true, Bool.and_eq_true, beq_iff_eq, decide_eq_true_eq] at h3
    exact ⟨⟨h1, trivial, fun _ => by simpa using h2⟩, h3⟩
  | lreturn => exact ⟨⟨h1, trivial, fun _ => by simpa using h2⟩, show ret = some .long by simpa using h3⟩
  | areturn => exact ⟨⟨h1, trivial, fun _ => by simpa using h2⟩, show ret = some (.array .int) by simpa using h3⟩
  | return_ => exact ⟨⟨h1, trivial, fun _ => by simpa using h2⟩, show ret = none by simpa using h3⟩
  | _ => exact ⟨⟨h1, trivial, fun _ => by simpa using h2⟩, trivial⟩
def chkM (cc : ByteArray) (nL : Nat) (ret : Option FieldType) (lk : List Lnk) (cs : List (List Ent)) : Bool := cs.all (fun L => L.all (chkE cc nL ret lk))
theorem chkM_ok {M : Nat → MI} {own : String} {cc : ByteArray} {nL : Nat} {ret : Option FieldType} {lk : List Lnk} (hlk : ∀ q ∈ lk, LnkOK M own q) {cs : List (List Ent)} (h : chkM cc nL ret lk cs = true) : ∀ L ∈ cs, ∀ en ∈ L, EntOK M own cc nL en ∧ RetOK ret en := fun L hL en hen => chkE_ok hlk (List.all_eq_true.mp (List.all_eq_true.mp h L hL) en hen)
end
section
/-! the methods by numbers -/
def mi0 : MI := (⟨RX0, "choose", "(I)Z"⟩, prog_2_method_2_code, 2, some FieldType.boolean)
def mi1 : MI := (⟨RX0, "sizesOfRests", "()J"⟩, prog_2_method_3_code, 8, some FieldType.long)
def mi2 : MI := (⟨RX0, "lookAtAll", "()V"⟩, prog_2_method_4_code, 2, none)
def mi3 : MI := (⟨RX0, "lookAtOne", "(I)V"⟩, prog_2_method_5_code, 4, none)
def mi4 : MI := (⟨RX1, "run", "([[III)V"⟩, prog_3_method_2_code, 6, none)
def mi5 : MI := (⟨RX1, "bringUp", "(I)Z"⟩, prog_3_method_3_code, 6, some FieldType.boolean)
def mi6 : MI := (⟨RX1, "clearOthers", "(I)V"⟩, prog_3_method_4_code, 10, none)
def mi7 : MI := (⟨RX1, "relation", "(I[I)V"⟩, prog_3_method_5_code, 6, none)
def mi8 : MI := (⟨RX2, "note", "(IIII)V"⟩, prog_4_method_2_code, 6, none)
def mi9 : MI := (⟨RX2, "forget", "()V"⟩, prog_4_method_3_code, 1, none)
def mi10 : MI := (⟨RX2, "takeBack", "(LPureGroups$Model;)V"⟩, prog_4_method_4_code, 4, none)
def mi11 : MI := (⟨RX3, "copyFrom", "(LPureGroups$Model;)V"⟩, prog_5_method_2_code, 3, none)
def mi12 : MI := (⟨RX3, "add", "(I)V"⟩, prog_5_method_3_code, 2, none)
def mi13 : MI := (⟨RX3, "keepFormula", "([III)V"⟩, prog_5_method_4_code, 4, none)
def mi14 : MI := (⟨RX3, "hasFormula", "()Z"⟩, prog_5_method_5_code, 1, some FieldType.boolean)
def mi15 : MI := (⟨RX3, "hasScale", "(I)Z"⟩, prog_5_method_6_code, 2, some FieldType.boolean)
def mi16 : MI := (⟨RX3, "scaledSet", "()I"⟩, prog_5_method_7_code, 3, some FieldType.int)
def mi17 : MI := (⟨RX3, "haveScales", "(I)Z"⟩, prog_5_method_8_code, 2, some FieldType.boolean)
def mi18 : MI := (⟨RX3, "together", "([III)J"⟩, prog_5_method_9_code, 7, some FieldType.long)
def mi19 : MI := (⟨RX3, "times", "(II)I"⟩, prog_5_method_10_code, 5, some FieldType.int)
def mi20 : MI := (⟨RX4, "read", "([II)V"⟩, prog_6_method_2_code, 4, none)
def mi21 : MI := (⟨RX4, "readSum", "(I)V"⟩, prog_6_method_3_code, 4, none)
def mi22 : MI := (⟨RX4, "readTerm", "(I)V"⟩, prog_6_method_4_code, 4, none)
def mi23 : MI := (⟨RX4, "readPart", "(II)V"⟩, prog_6_method_5_code, 6, none)
def mi24 : MI := (⟨RX4, "readAtom", "(I)[I"⟩, prog_6_method_6_code, 4, some (FieldType.array FieldType.int))
def mi25 : MI := (⟨RX4, "readInner", "(II)[I"⟩, prog_6_method_7_code, 4, some (FieldType.array FieldType.int))
def mi26 : MI := (⟨RX4, "readNumber", "()V"⟩, prog_6_method_8_code, 2, none)
def mi27 : MI := (⟨RX4, "readPower", "()I"⟩, prog_6_method_9_code, 3, some FieldType.int)
def mi28 : MI := (⟨RX4, "next", "()I"⟩, prog_6_method_10_code, 1, some FieldType.int)
def mi29 : MI := (⟨RX4, "isNext", "(II)Z"⟩, prog_6_method_11_code, 4, some FieldType.boolean)
def mi30 : MI := (⟨RX4, "isDigit", "(I)Z"⟩, prog_6_method_12_code, 1, some FieldType.boolean)
def mi31 : MI := (⟨RX4, "expect", "(I)V"⟩, prog_6_method_13_code, 2, none)
def mi32 : MI := (⟨RX4, "failHere", "()V"⟩, prog_6_method_14_code, 1, none)
def mi33 : MI := (⟨RX4, "markWrong", "(I)V"⟩, prog_6_method_15_code, 2, none)
def mi34 : MI := (⟨RX4, "same", "([I[I)Z"⟩, prog_6_method_16_code, 3, some FieldType.boolean)
def mi35 : MI := (⟨RX4, "lacks", "(I)I"⟩, prog_6_method_17_code, 2, some FieldType.int)
def mi36 : MI := (⟨RX4, "firstWrong", "()I"⟩, prog_6_method_18_code, 2, some FieldType.int)
def mi37 : MI := (⟨RX4, "countWrong", "()I"⟩, prog_6_method_19_code, 6, some FieldType.int)
def mi38 : MI := (⟨RX5, "countBox", "()I"⟩, prog_7_method_2_code, 1, some FieldType.int)
def mi39 : MI := (⟨RX5, "pureInBox", "([JIIJ)I"⟩, prog_7_method_3_code, 5, some FieldType.int)
def mi40 : MI := (⟨RX5, "findLeast", "()V"⟩, prog_7_method_4_code, 2, none)
def mi41 : MI := (⟨RX5, "hasPure", "([JI[IIIJ)Z"⟩, prog_7_method_5_code, 9, some FieldType.boolean)
def mi42 : MI := (⟨RX5, "dimensionsHad", "(I)I"⟩, prog_7_method_6_code, 2, some FieldType.int)
def mi43 : MI := (⟨RX5, "gather", "([J[JIIIJ)I"⟩, prog_7_method_7_code, 9, some FieldType.int)
def mi44 : MI := (⟨RX5, "isNew", "([JJ)Z"⟩, prog_7_method_8_code, 5, some FieldType.boolean)
def mi45 : MI := (⟨RX5, "fewestAt", "([II)I"⟩, prog_7_method_9_code, 4, some FieldType.int)
def mi46 : MI := (⟨RX5, "findRow", "([I)I"⟩, prog_7_method_10_code, 6, some FieldType.int)
def mi47 : MI := (⟨RX5, "hasRow", "([JI[IIIJ)Z"⟩, prog_7_method_11_code, 8, some FieldType.boolean)
def mi48 : MI := (⟨RX6, "measure", "(LPureGroups$Model;)V"⟩, prog_8_method_2_code, 3, none)
def mi49 : MI := (⟨RX6, "setPowers", "(I[I[I)V"⟩, prog_8_method_3_code, 4, none)
def mi50 : MI := (⟨RX6, "keyOf", "([I)J"⟩, prog_8_method_4_code, 7, some FieldType.long)
def mi51 : MI := (⟨RX6, "looseSet", "()I"⟩, prog_8_method_5_code, 1, some FieldType.int)
def mi52 : MI := (⟨RX6, "looseAt", "(I)I"⟩, prog_8_method_6_code, 5, some FieldType.int)
def mi53 : MI := (⟨RX6, "differentDimensions", "()I"⟩, prog_8_method_7_code, 5, some FieldType.int)
def mi54 : MI := (⟨RX6, "isPureProduct", "([I)Z"⟩, prog_8_method_8_code, 2, some FieldType.boolean)
def mi55 : MI := (⟨RX6, "sizeOfDimension", "([I)I"⟩, prog_8_method_9_code, 6, some FieldType.int)
def mi56 : MI := (⟨RX7, "letter", "(I)I"⟩, prog_1_method_2_code, 2, some FieldType.int)
def mi57 : MI := (⟨RX7, "quantity", "(I)I"⟩, prog_1_method_3_code, 2, some FieldType.int)
def mi58 : MI := (⟨RX7, "tell", "(III)I"⟩, prog_1_method_4_code, 5, some FieldType.int)
def mi59 : MI := (⟨RX7, "turn", "(II)I"⟩, prog_1_method_5_code, 4, some FieldType.int)
def mi60 : MI := (⟨RX7, "of", "(II)I"⟩, prog_1_method_6_code, 3, some FieldType.int)
def mi61 : MI := (⟨RX7, "twin", "(I)I"⟩, prog_1_method_7_code, 3, some FieldType.int)
def mi62 : MI := (⟨RX7, "taken", "(II)I"⟩, prog_1_method_8_code, 5, some FieldType.int)
def mi63 : MI := (⟨RX7, "rank", "(I)I"⟩, prog_1_method_9_code, 2, some FieldType.int)
def mi64 : MI := (⟨RX7, "group", "(II)I"⟩, prog_1_method_10_code, 3, some FieldType.int)
def mi65 : MI := (⟨RX7, "pure", "(I)I"⟩, prog_1_method_11_code, 2, some FieldType.int)
def mi66 : MI := (⟨RX7, "cover", "(III)J"⟩, prog_1_method_12_code, 5, some FieldType.long)
def mi67 : MI := (⟨RX7, "box", "()I"⟩, prog_1_method_13_code, 1, some FieldType.int)
def mi68 : MI := (⟨RX7, "least", "(I)I"⟩, prog_1_method_14_code, 2, some FieldType.int)
def mi69 : MI := (⟨RX7, "may", "(I)I"⟩, prog_1_method_15_code, 2, some FieldType.int)
def mi70 : MI := (⟨RX7, "rest", "(III)I"⟩, prog_1_method_16_code, 4, some FieldType.int)
def mi71 : MI := (⟨RX7, "sets", "(I)I"⟩, prog_1_method_17_code, 2, some FieldType.int)
def mi72 : MI := (⟨RX7, "sizes", "(I)J"⟩, prog_1_method_18_code, 2, some FieldType.long)
def mi73 : MI := (⟨RX7, "odds", "(I)J"⟩, prog_1_method_19_code, 2, some FieldType.long)
def mi74 : MI := (⟨RX7, "scale", "(III)I"⟩, prog_1_method_20_code, 4, some FieldType.int)
def mi75 : MI := (⟨RX7, "scaled", "(II)I"⟩, prog_1_method_21_code, 3, some FieldType.int)
def mi76 : MI := (⟨RX7, "alike", "()I"⟩, prog_1_method_22_code, 3, some FieldType.int)
def mi77 : MI := (⟨RX7, "must", "(IIII)J"⟩, prog_1_method_23_code, 5, some FieldType.long)
def mi78 : MI := (⟨RX7, "whole", "(II)I"⟩, prog_1_method_24_code, 7, some FieldType.int)
def mi79 : MI := (⟨RX7, "off", "(I)I"⟩, prog_1_method_25_code, 4, some FieldType.int)
def mi80 : MI := (⟨RX7, "fewest", "(II)I"⟩, prog_1_method_26_code, 3, some FieldType.int)
def mi81 : MI := (⟨RX7, "had", "(I)I"⟩, prog_1_method_27_code, 2, some FieldType.int)
def mi82 : MI := (⟨RX7, "formula", "()I"⟩, prog_1_method_28_code, 2, some FieldType.int)
def mi83 : MI := (⟨RX7, "wrong", "(I)I"⟩, prog_1_method_29_code, 2, some FieldType.int)
def mi84 : MI := (⟨RX7, "sides", "(II)I"⟩, prog_1_method_30_code, 3, some FieldType.int)
def mi85 : MI := (⟨RX7, "mend", "(I)I"⟩, prog_1_method_31_code, 3, some FieldType.int)
def mi86 : MI := (⟨RX7, "lots", "(III)I"⟩, prog_1_method_32_code, 9, some FieldType.int)
def mi87 : MI := (⟨RX7, "list", "(II)I"⟩, prog_1_method_33_code, 3, some FieldType.int)
def mi88 : MI := (⟨RX7, "put", "(III)I"⟩, prog_1_method_34_code, 4, some FieldType.int)
def mi89 : MI := (⟨RX7, "look", "(II)I"⟩, prog_1_method_35_code, 3, some FieldType.int)
def mi90 : MI := (⟨RX7, "lays", "(III)I"⟩, prog_1_method_36_code, 4, some FieldType.int)
def mi91 : MI := (⟨RX7, "judge", "(I)I"⟩, prog_1_method_37_code, 4, some FieldType.int)
def mi92 : MI := (⟨RX7, "undo", "()I"⟩, prog_1_method_38_code, 1, some FieldType.int)
def mi93 : MI := (⟨RX7, "image", "()I"⟩, prog_1_method_39_code, 1, some FieldType.int)
def mi94 : MI := (⟨RX7, "on", "()I"⟩, prog_1_method_40_code, 1, some FieldType.int)
def mi95 : MI := (⟨RX7, "count", "(I)I"⟩, prog_1_method_41_code, 2, some FieldType.int)
def mi96 : MI := (⟨RX7, "refused", "(I)I"⟩, prog_1_method_42_code, 2, some FieldType.int)
def mi97 : MI := (⟨RX7, "refusedFar", "(I)I"⟩, prog_1_method_43_code, 2, some FieldType.int)
def mi98 : MI := (⟨RX7, "refusedFarLong", "(I)J"⟩, prog_1_method_44_code, 2, some FieldType.long)
def mi99 : MI := (⟨RX7, "isQuantity", "(I)Z"⟩, prog_1_method_45_code, 2, some FieldType.boolean)
def mi100 : MI := (⟨RX7, "isUnit", "(I)Z"⟩, prog_1_method_46_code, 1, some FieldType.boolean)
def mi101 : MI := (⟨RX7, "isKind", "(I)Z"⟩, prog_1_method_47_code, 1, some FieldType.boolean)
def mi102 : MI := (⟨RX7, "isPart", "(I)Z"⟩, prog_1_method_48_code, 1, some FieldType.boolean)
def mi103 : MI := (⟨RX7, "isPrime", "(I)Z"⟩, prog_1_method_49_code, 5, some FieldType.boolean)
def mi104 : MI := (⟨RX7, "isGroup", "(I)Z"⟩, prog_1_method_50_code, 2, some FieldType.boolean)
def mi105 : MI := (⟨RX7, "isSet", "(I)Z"⟩, prog_1_method_51_code, 2, some FieldType.boolean)
def mi106 : MI := (⟨RX7, "isOutside", "(II)Z"⟩, prog_1_method_52_code, 3, some FieldType.boolean)
def mi107 : MI := (⟨RX7, "isList", "(I)Z"⟩, prog_1_method_53_code, 1, some FieldType.boolean)
def mi108 : MI := (⟨RX7, "isMissing", "(I)Z"⟩, prog_1_method_54_code, 2, some FieldType.boolean)
def mi109 : MI := (⟨RX7, "isPlace", "(II)Z"⟩, prog_1_method_55_code, 3, some FieldType.boolean)
def mi110 : MI := (⟨RX7, "takeNumbers", "(II[I)Z"⟩, prog_1_method_56_code, 5, some FieldType.boolean)
def mi111 : MI := (⟨RX7, "isUnbalanced", "([I)Z"⟩, prog_1_method_57_code, 7, some FieldType.boolean)
def mi112 : MI := (⟨RX7, "bit", "(II)I"⟩, prog_1_method_58_code, 2, some FieldType.int)
def mi113 : MI := (⟨RX7, "setOf", "([I)I"⟩, prog_1_method_59_code, 3, some FieldType.int)
def mi114 : MI := (⟨RX7, "isPure", "([I)Z"⟩, prog_1_method_60_code, 5, some FieldType.boolean)
def mi115 : MI := (⟨RX7, "greatestDivisor", "(JJ)J"⟩, prog_1_method_61_code, 11, some FieldType.long)
def mi116 : MI := (⟨RX7, "partOf", "(JJI)J"⟩, prog_1_method_62_code, 7, some FieldType.long)
def mi117 : MI := (⟨RX8, "isIn", "(JJJ)Z"⟩, prog_10_method_2_code, 6, some FieldType.boolean)
def mi118 : MI := (⟨RX8, "has", "(II)Z"⟩, prog_10_method_3_code, 2, some FieldType.boolean)
def mi119 : MI := (⟨RX8, "bits", "(I)I"⟩, prog_10_method_4_code, 3, some FieldType.int)
def mi120 : MI := (⟨RX8, "refuse", "(I)I"⟩, prog_10_method_5_code, 2, some FieldType.int)
def mi121 : MI := (⟨RX8, "refuseFar", "(I)I"⟩, prog_10_method_6_code, 2, some FieldType.int)
def mi122 : MI := (⟨RX8, "refuseFarther", "(I)J"⟩, prog_10_method_7_code, 2, some FieldType.long)
def mi123 : MI := (⟨RX8, "common", "(JJ)J"⟩, prog_10_method_8_code, 10, some FieldType.long)
def mi124 : MI := (⟨RX8, "partOf", "(JJI)J"⟩, prog_10_method_9_code, 7, some FieldType.long)
def mi125 : MI := (⟨RX8, "isOne", "(I)Z"⟩, prog_10_method_10_code, 2, some FieldType.boolean)
def mi126 : MI := (⟨RX8, "isUnit", "(I)Z"⟩, prog_10_method_11_code, 1, some FieldType.boolean)
def mi127 : MI := (⟨RX8, "isList", "(I)Z"⟩, prog_10_method_12_code, 1, some FieldType.boolean)
def mi128 : MI := (⟨RX8, "isSet", "(I)Z"⟩, prog_10_method_13_code, 2, some FieldType.boolean)
def mi129 : MI := (⟨RX8, "letter", "(I)I"⟩, prog_10_method_14_code, 2, some FieldType.int)
def mi130 : MI := (⟨RX8, "quantity", "(I)I"⟩, prog_10_method_15_code, 4, some FieldType.int)
def mi131 : MI := (⟨RX8, "changes", "(II)V"⟩, prog_10_method_16_code, 4, none)
def mi132 : MI := (⟨RX8, "tell", "(III)I"⟩, prog_10_method_17_code, 6, some FieldType.int)
def mi133 : MI := (⟨RX8, "turn", "(II)I"⟩, prog_10_method_18_code, 4, some FieldType.int)
def mi134 : MI := (⟨RX8, "powerOf", "(II)I"⟩, prog_10_method_19_code, 4, some FieldType.int)
def mi135 : MI := (⟨RX8, "isPure", "(I)Z"⟩, prog_10_method_20_code, 4, some FieldType.boolean)
def mi136 : MI := (⟨RX8, "isLike", "(II)Z"⟩, prog_10_method_21_code, 5, some FieldType.boolean)
def mi137 : MI := (⟨RX8, "twinOf", "(I)I"⟩, prog_10_method_22_code, 3, some FieldType.int)
def mi138 : MI := (⟨RX8, "of", "(II)I"⟩, prog_10_method_23_code, 3, some FieldType.int)
def mi139 : MI := (⟨RX8, "twin", "(I)I"⟩, prog_10_method_24_code, 2, some FieldType.int)
def mi140 : MI := (⟨RX8, "isUnder", "(II)Z"⟩, prog_10_method_25_code, 2, some FieldType.boolean)
def mi141 : MI := (⟨RX8, "taken", "(II)I"⟩, prog_10_method_26_code, 3, some FieldType.int)
def mi142 : MI := (⟨RX8, "swapRows", "(II)V"⟩, prog_10_method_27_code, 6, none)
def mi143 : MI := (⟨RX8, "clears", "(II)J"⟩, prog_10_method_28_code, 13, some FieldType.long)
def mi144 : MI := (⟨RX8, "lays", "(II)I"⟩, prog_10_method_29_code, 6, some FieldType.int)
def mi145 : MI := (⟨RX8, "isFree", "(I)Z"⟩, prog_10_method_30_code, 2, some FieldType.boolean)
def mi146 : MI := (⟨RX8, "isHad", "(II)Z"⟩, prog_10_method_31_code, 10, some FieldType.boolean)
def mi147 : MI := (⟨RX8, "firm", "()I"⟩, prog_10_method_32_code, 3, some FieldType.int)
def mi148 : MI := (⟨RX8, "loose", "()I"⟩, prog_10_method_33_code, 1, some FieldType.int)
def mi149 : MI := (⟨RX8, "ownOf", "(I)I"⟩, prog_10_method_34_code, 5, some FieldType.int)
def mi150 : MI := (⟨RX8, "groups", "(I)V"⟩, prog_10_method_35_code, 3, none)
def mi151 : MI := (⟨RX8, "different", "()I"⟩, prog_10_method_36_code, 4, some FieldType.int)
def mi152 : MI := (⟨RX8, "rank", "(I)I"⟩, prog_10_method_37_code, 2, some FieldType.int)
def mi153 : MI := (⟨RX8, "group", "(II)I"⟩, prog_10_method_38_code, 4, some FieldType.int)
def mi154 : MI := (⟨RX8, "tells", "(II)Z"⟩, prog_10_method_39_code, 5, some FieldType.boolean)
def mi155 : MI := (⟨RX8, "isToldPure", "()Z"⟩, prog_10_method_40_code, 5, some FieldType.boolean)
def mi156 : MI := (⟨RX8, "pure", "(I)I"⟩, prog_10_method_41_code, 2, some FieldType.int)
def mi157 : MI := (⟨RX8, "cover", "(III)J"⟩, prog_10_method_42_code, 6, some FieldType.long)
def mi158 : MI := (⟨RX8, "box", "()I"⟩, prog_10_method_43_code, 4, some FieldType.int)
def mi159 : MI := (⟨RX8, "isLeast", "(II)Z"⟩, prog_10_method_44_code, 4, some FieldType.boolean)
def mi160 : MI := (⟨RX8, "least", "(I)I"⟩, prog_10_method_45_code, 3, some FieldType.int)
def mi161 : MI := (⟨RX8, "isChosen", "(I)Z"⟩, prog_10_method_46_code, 2, some FieldType.boolean)
def mi162 : MI := (⟨RX8, "may", "(I)I"⟩, prog_10_method_47_code, 2, some FieldType.int)
def mi163 : MI := (⟨RX8, "rest", "(III)I"⟩, prog_10_method_48_code, 5, some FieldType.int)
def mi164 : MI := (⟨RX8, "sizesOf", "(I)J"⟩, prog_10_method_49_code, 6, some FieldType.long)
def mi165 : MI := (⟨RX8, "sizes", "(I)J"⟩, prog_10_method_50_code, 2, some FieldType.long)
def mi166 : MI := (⟨RX8, "chosen", "()I"⟩, prog_10_method_51_code, 3, some FieldType.int)
def mi167 : MI := (⟨RX8, "bestSet", "(Z)I"⟩, prog_10_method_52_code, 8, some FieldType.int)
def mi168 : MI := (⟨RX8, "sets", "(I)I"⟩, prog_10_method_53_code, 2, some FieldType.int)
def mi169 : MI := (⟨RX8, "odds", "(I)J"⟩, prog_10_method_54_code, 5, some FieldType.long)
def mi170 : MI := (⟨RX8, "scale", "(III)I"⟩, prog_10_method_55_code, 4, some FieldType.int)
def mi171 : MI := (⟨RX8, "scaled", "(II)I"⟩, prog_10_method_56_code, 3, some FieldType.int)
def mi172 : MI := (⟨RX8, "isPrime", "(I)Z"⟩, prog_10_method_57_code, 2, some FieldType.boolean)
def mi173 : MI := (⟨RX8, "often", "(II)I"⟩, prog_10_method_58_code, 4, some FieldType.int)
def mi174 : MI := (⟨RX8, "powerIn", "(II)I"⟩, prog_10_method_59_code, 3, some FieldType.int)
def mi175 : MI := (⟨RX8, "weighs", "(II)J"⟩, prog_10_method_60_code, 6, some FieldType.long)
def mi176 : MI := (⟨RX8, "areScaled", "()Z"⟩, prog_10_method_61_code, 3, some FieldType.boolean)
def mi177 : MI := (⟨RX8, "isAlike", "()Z"⟩, prog_10_method_62_code, 3, some FieldType.boolean)
def mi178 : MI := (⟨RX8, "alike", "()I"⟩, prog_10_method_63_code, 3, some FieldType.int)
def mi179 : MI := (⟨RX8, "isScaled", "(I)Z"⟩, prog_10_method_64_code, 4, some FieldType.boolean)
def mi180 : MI := (⟨RX8, "wrongMust", "(II)I"⟩, prog_10_method_65_code, 3, some FieldType.int)
def mi181 : MI := (⟨RX8, "must", "(IIII)J"⟩, prog_10_method_66_code, 7, some FieldType.long)
def mi182 : MI := (⟨RX8, "whole", "(II)I"⟩, prog_10_method_67_code, 6, some FieldType.int)
def mi183 : MI := (⟨RX8, "off", "(I)I"⟩, prog_10_method_68_code, 4, some FieldType.int)
def mi184 : MI := (⟨RX8, "powerBy", "(II)I"⟩, prog_10_method_69_code, 6, some FieldType.int)
def mi185 : MI := (⟨RX8, "isWanted", "(I)Z"⟩, prog_10_method_70_code, 4, some FieldType.boolean)
def mi186 : MI := (⟨RX8, "fills", "(II)Z"⟩, prog_10_method_71_code, 4, some FieldType.boolean)
def mi187 : MI := (⟨RX8, "fewestOf", "(I)I"⟩, prog_10_method_72_code, 3, some FieldType.int)
def mi188 : MI := (⟨RX8, "fewest", "(II)I"⟩, prog_10_method_73_code, 4, some FieldType.int)
def mi189 : MI := (⟨RX8, "keyOf", "(I)J"⟩, prog_10_method_74_code, 5, some FieldType.long)
def mi190 : MI := (⟨RX8, "differs", "(IJ)I"⟩, prog_10_method_75_code, 5, some FieldType.int)
def mi191 : MI := (⟨RX8, "adds", "(III)I"⟩, prog_10_method_76_code, 6, some FieldType.int)
def mi192 : MI := (⟨RX8, "had", "(I)I"⟩, prog_10_method_77_code, 4, some FieldType.int)
def mi193 : MI := (⟨RX8, "here", "()I"⟩, prog_10_method_78_code, 1, some FieldType.int)
def mi194 : MI := (⟨RX8, "isSigned", "(II)Z"⟩, prog_10_method_79_code, 3, some FieldType.boolean)
def mi195 : MI := (⟨RX8, "isDigit", "()Z"⟩, prog_10_method_80_code, 1, some FieldType.boolean)
def mi196 : MI := (⟨RX8, "readsClosed", "()Z"⟩, prog_10_method_81_code, 1, some FieldType.boolean)
def mi197 : MI := (⟨RX8, "readsAtom", "()Z"⟩, prog_10_method_82_code, 2, some FieldType.boolean)
def mi198 : MI := (⟨RX8, "readsPart", "()Z"⟩, prog_10_method_83_code, 2, some FieldType.boolean)
def mi199 : MI := (⟨RX8, "readsTerm", "()Z"⟩, prog_10_method_84_code, 1, some FieldType.boolean)
def mi200 : MI := (⟨RX8, "readsSum", "()Z"⟩, prog_10_method_85_code, 1, some FieldType.boolean)
def mi201 : MI := (⟨RX8, "readsBoth", "()Z"⟩, prog_10_method_86_code, 1, some FieldType.boolean)
def mi202 : MI := (⟨RX8, "formula", "()I"⟩, prog_10_method_87_code, 3, some FieldType.int)
def mi203 : MI := (⟨RX8, "sign", "()I"⟩, prog_10_method_88_code, 1, some FieldType.int)
def mi204 : MI := (⟨RX8, "sets", "(II)V"⟩, prog_10_method_89_code, 4, none)
def mi205 : MI := (⟨RX8, "isPureAt", "(I)Z"⟩, prog_10_method_90_code, 4, some FieldType.boolean)
def mi206 : MI := (⟨RX8, "atom", "(I)V"⟩, prog_10_method_91_code, 5, none)
def mi207 : MI := (⟨RX8, "part", "(I)V"⟩, prog_10_method_92_code, 4, none)
def mi208 : MI := (⟨RX8, "term", "(I)V"⟩, prog_10_method_93_code, 4, none)
def mi209 : MI := (⟨RX8, "sum", "(I)V"⟩, prog_10_method_94_code, 4, none)
def mi210 : MI := (⟨RX8, "goesThrough", "()V"⟩, prog_10_method_95_code, 3, none)
def mi211 : MI := (⟨RX8, "wrong", "(I)I"⟩, prog_10_method_96_code, 5, some FieldType.int)
def mi212 : MI := (⟨RX8, "sides", "(II)I"⟩, prog_10_method_97_code, 3, some FieldType.int)
def mi213 : MI := (⟨RX8, "mend", "(I)I"⟩, prog_10_method_98_code, 3, some FieldType.int)
def mi214 : MI := (⟨RX8, "draws", "(I)I"⟩, prog_10_method_99_code, 2, some FieldType.int)
def mi215 : MI := (⟨RX8, "lots", "(III)I"⟩, prog_10_method_100_code, 10, some FieldType.int)
def mi216 : MI := (⟨RX8, "isCell", "(II)Z"⟩, prog_10_method_101_code, 3, some FieldType.boolean)
def mi217 : MI := (⟨RX8, "list", "(II)I"⟩, prog_10_method_102_code, 4, some FieldType.int)
def mi218 : MI := (⟨RX8, "wrongCell", "(II)I"⟩, prog_10_method_103_code, 3, some FieldType.int)
def mi219 : MI := (⟨RX8, "put", "(III)I"⟩, prog_10_method_104_code, 5, some FieldType.int)
def mi220 : MI := (⟨RX8, "look", "(II)I"⟩, prog_10_method_105_code, 4, some FieldType.int)
def mi221 : MI := (⟨RX8, "lays", "(III)I"⟩, prog_10_method_106_code, 6, some FieldType.int)
def mi222 : MI := (⟨RX8, "judge", "(I)I"⟩, prog_10_method_107_code, 3, some FieldType.int)
def mi223 : MI := (⟨RX8, "undo", "()I"⟩, prog_10_method_108_code, 2, some FieldType.int)
def mi224 : MI := (⟨RX8, "image", "()I"⟩, prog_10_method_109_code, 2, some FieldType.int)
def mi225 : MI := (⟨RX8, "on", "()I"⟩, prog_10_method_110_code, 2, some FieldType.int)
def mi226 : MI := (⟨RX8, "scales", "()I"⟩, prog_10_method_111_code, 3, some FieldType.int)
def mi227 : MI := (⟨RX8, "count", "(I)I"⟩, prog_10_method_112_code, 2, some FieldType.int)
def mi228 : MI := (⟨RJ6, "bitCount", "(I)I"⟩, prog_11_method_49_code, 1, some FieldType.int)
def mi229 : MI := (⟨RJ7, "fill", "([JJ)V"⟩, prog_14_method_101_code, 5, none)
def mi230 : MI := (⟨RJ7, "fill", "([II)V"⟩, prog_14_method_103_code, 4, none)
def miL : List MI := [mi0, mi1, mi2, mi3, mi4, mi5, mi6, mi7, mi8, mi9, mi10, mi11, mi12, mi13, mi14, mi15, mi16, mi17, mi18, mi19, mi20, mi21, mi22, mi23, mi24, mi25, mi26, mi27, mi28, mi29, mi30, mi31, mi32, mi33, mi34, mi35, mi36, mi37, mi38, mi39, mi40, mi41, mi42, mi43, mi44, mi45, mi46, mi47, mi48, mi49, mi50, mi51, mi52, mi53, mi54, mi55, mi56, mi57, mi58, mi59, mi60, mi61, mi62, mi63, mi64, mi65, mi66, mi67, mi68, mi69, mi70, mi71, mi72, mi73, mi74, mi75, mi76, mi77, mi78, mi79, mi80, mi81, mi82, mi83, mi84, mi85, mi86, mi87, mi88, mi89, mi90, mi91, mi92, mi93, mi94, mi95, mi96, mi97, mi98, mi99, mi100, mi101, mi102, mi103, mi104, mi105, mi106, mi107, mi108, mi109, mi110, mi111, mi112, mi113, mi114, mi115, mi116, mi117, mi118, mi119, mi120, mi121, mi122, mi123, mi124, mi125, mi126, mi127, mi128, mi129, mi130, mi131, mi132, mi133, mi134, mi135, mi136, mi137, mi138, mi139, mi140, mi141, mi142, mi143, mi144, mi145, mi146, mi147, mi148, mi149, mi150, mi151, mi152, mi153, mi154, mi155, mi156, mi157, mi158, mi159, mi160, mi161, mi162, mi163, mi164, mi165, mi166, mi167, mi168, mi169, mi170, mi171, mi172, mi173, mi174, mi175, mi176, mi177, mi178, mi179, mi180, mi181, mi182, mi183, mi184, mi185, mi186, mi187, mi188, mi189, mi190, mi191, mi192, mi193, mi194, mi195, mi196, mi197, mi198, mi199, mi200, mi201, mi202, mi203, mi204, mi205, mi206, mi207, mi208, mi209, mi210, mi211, mi212, mi213, mi214, mi215, mi216, mi217, mi218, mi219, mi220, mi221, mi222, mi223, mi224, mi225, mi226, mi227, mi228, mi229, mi230]
def MT (k : Nat) : MI := miL.getD k mi0
theorem uw0 : ∀ w ∈ u_ws RX0 TX0 9, w ∈ TB := tb_in _ [267, 269, 271, 273, 275, 277, 279, 281, 283] (by decide +kernel) (by decide +kernel)
theorem uw1 : ∀ w ∈ u_ws RX1 TX1 6, w ∈ TB := tb_in _ [202, 204, 206, 208, 210, 212] (by decide +kernel) (by decide +kernel)
theorem uw2 : ∀ w ∈ u_ws RX2 TX2 3, w ∈ TB := tb_in _ [170, 172, 174] (by decide +kernel) (by decide +kernel)
theorem uw3 : ∀ w ∈ u_ws RX3 TX3 8, w ∈ TB := tb_in _ [141, 143, 145, 147, 149, 151, 153, 155] (by decide +kernel) (by decide +kernel)
theorem uw4 : ∀ w ∈ u_ws RX4 TX4 13, w ∈ TB := tb_in _ [341, 343, 345, 347, 349, 351, 353, 355, 357, 359, 361, 363, 365] (by decide +kernel) (by decide +kernel)
theorem uw5 : ∀ w ∈ u_ws RX5 TX5 7, w ∈ TB := tb_in _ [301, 303, 305, 307, 309, 311, 313] (by decide +kernel) (by decide +kernel)
theorem uw6 : ∀ w ∈ u_ws RX6 TX6 5, w ∈ TB := tb_in _ [234, 236, 238, 240, 242] (by decide +kernel) (by decide +kernel)
theorem uw7 : ∀ w ∈ u_ws RX7 TX7 16, w ∈ TB := tb_in _ [385, 387, 389, 391, 393, 395, 397, 399, 401, 403, 405, 407, 409, 411, 413, 415] (by decide +kernel) (by decide +kernel)
theorem uw8 : ∀ w ∈ u_ws RX8 TX8 27, w ∈ TB := tb_in _ [974, 976, 978, 980, 982, 984, 986, 988, 990, 992, 994, 996, 998, 1000, 1002, 1004, 1006, 1008, 1010, 1012, 1014, 1016, 1018, 1020, 1022, 1024, 1026] (by decide +kernel) (by decide +kernel)
/-! what may be called -/
theorem cal0 : CalOK MT 0 1 := ⟨by decide +kernel, tb_3 76 rfl rfl, tb_1 6 rfl rfl, ⟨by decide +kernel, by decide +kernel⟩, by decide +kernel⟩
theorem cal1 : CalOK MT 1 0 := ⟨by decide +kernel, tb_3 108 rfl rfl, tb_1 6 rfl rfl, ⟨by decide +kernel, by decide +kernel⟩, by decide +kernel⟩
theorem cal2 : CalOK MT 2 0 := ⟨by decide +kernel, tb_3 99 rfl rfl, tb_1 6 rfl rfl, ⟨by decide +kernel, by decide +kernel⟩, by decide +kernel⟩
theorem cal3 : CalOK MT 3 1 := ⟨by decide +kernel, tb_3 104 rfl rfl, tb_1 6 rfl rfl, ⟨by decide +kernel, by decide +kernel⟩, by decide +kernel⟩
theorem cal4 : CalOK MT 4 3 := ⟨by decide +kernel, tb_2 139 rfl rfl, tb_1 5 rfl rfl, ⟨by decide +kernel, by decide +kernel⟩, by decide +kernel⟩
theorem cal5 : CalOK MT 5 1 := ⟨by decide +kernel, tb_2 146 rfl rfl, tb_1 5 rfl rfl, ⟨by decide +kernel, by decide +kernel⟩, by decide +kernel⟩
theorem cal6 : CalOK MT 6 1 := ⟨by decide +kernel, tb_2 150 rfl rfl, tb_1 5 rfl rfl, ⟨by decide +kernel, by decide +kernel⟩, by decide +kernel⟩
theorem cal7 : CalOK MT 7 2 := ⟨by decide +kernel, tb_2 225 rfl rfl, tb_1 5 rfl rfl, ⟨by decide +kernel, by decide +kernel⟩, by decide +kernel⟩
theorem cal8 : CalOK MT 8 4 := ⟨by decide +kernel, tb_2 170 rfl rfl, tb_1 3 rfl rfl, ⟨by decide +kernel, by decide +kernel⟩, by decide +kernel⟩
theorem cal9 : CalOK MT 9 0 := ⟨by decide +kernel, tb_2 115 rfl rfl, tb_1 3 rfl rfl, ⟨by decide +kernel, by decide +kernel⟩, by decide +kernel⟩
theorem cal10 : CalOK MT 10 1 := ⟨by decide +kernel, tb_4 111 rfl rfl, tb_1 3 rfl rfl, ⟨by decide +kernel, by decide +kernel⟩, by decide +kernel⟩
theorem cal11 : CalOK MT 11 1 := ⟨by decide +kernel, tb_4 122 rfl rfl, tb_1 2 rfl rfl, ⟨by decide +kernel, by decide +kernel⟩, by decide +kernel⟩
theorem cal12 : CalOK MT 12 1 := ⟨by decide +kernel, tb_2 108 rfl rfl, tb_1 2 rfl rfl, ⟨by decide +kernel, by decide +kernel⟩, by decide +kernel⟩
theorem cal13 : CalOK MT 13 3 := ⟨by decide +kernel, tb_4 43 rfl rfl, tb_1 2 rfl rfl, ⟨by decide +kernel, by decide +kernel⟩, by decide +kernel⟩
theorem cal14 : CalOK MT 14 0 := ⟨by decide +kernel, tb_4 53 rfl rfl, tb_1 2 rfl rfl, ⟨by decide +kernel, by decide +kernel⟩, by decide +kernel⟩
theorem cal15 : CalOK MT 15 1 := ⟨by decide +kernel, tb_3 132 rfl rfl, tb_1 2 rfl rfl, ⟨by decide +kernel, by decide +kernel⟩, by decide +kernel⟩
theorem cal16 : CalOK MT 16 0 := ⟨by decide +kernel, tb_3 147 rfl rfl, tb_1 2 rfl rfl, ⟨by decide +kernel, by decide +kernel⟩, by decide +kernel⟩
theorem cal17 : CalOK MT 17 1 := ⟨by decide +kernel, tb_3 143 rfl rfl, tb_1 2 rfl rfl, ⟨by decide +kernel, by decide +kernel⟩, by decide +kernel⟩
theorem cal18 : CalOK MT 18 3 := ⟨by decide +kernel, tb_3 158 rfl rfl, tb_1 2 rfl rfl, ⟨by decide +kernel, by decide +kernel⟩, by decide +kernel⟩
theorem cal19 : CalOK MT 19 2 := ⟨by decide +kernel, tb_3 162 rfl rfl, tb_1 2 rfl rfl, ⟨by decide +kernel, by decide +kernel⟩, by decide +kernel⟩
theorem cal20 : CalOK MT 20 2 := ⟨by decide +kernel, tb_3 221 rfl rfl, tb_1 8 rfl rfl, ⟨by decide +kernel, by decide +kernel⟩, by decide +kernel⟩
theorem cal21 : CalOK MT 21 1 := ⟨by decide +kernel, tb_3 228 rfl rfl, tb_1 8 rfl rfl, ⟨by decide +kernel, by decide +kernel⟩, by decide +kernel⟩
theorem cal22 : CalOK MT 22 1 := ⟨by decide +kernel, tb_3 232 rfl rfl, tb_1 8 rfl rfl, ⟨by decide +kernel, by decide +kernel⟩, by decide +kernel⟩
theorem cal23 : CalOK MT 23 2 := ⟨by decide +kernel, tb_3 236 rfl rfl, tb_1 8 rfl rfl, ⟨by decide +kernel, by decide +kernel⟩, by decide +kernel⟩
theorem cal24 : CalOK MT 24 1 := ⟨by decide +kernel, tb_4 0 rfl rfl, tb_1 8 rfl rfl, ⟨by decide +kernel, by decide +kernel⟩, by decide +kernel⟩
theorem cal25 : CalOK MT 25 2 := ⟨by decide +kernel, tb_4 15 rfl rfl, tb_1 8 rfl rfl, ⟨by decide +kernel, by decide +kernel⟩, by decide +kernel⟩
theorem cal26 : CalOK MT 26 0 := ⟨by decide +kernel, tb_4 11 rfl rfl, tb_1 8 rfl rfl, ⟨by decide +kernel, by decide +kernel⟩, by decide +kernel⟩
theorem cal27 : CalOK MT 27 0 := ⟨by decide +kernel, tb_4 32 rfl rfl, tb_1 8 rfl rfl, ⟨by decide +kernel, by decide +kernel⟩, by decide +kernel⟩
theorem cal28 : CalOK MT 28 0 := ⟨by decide +kernel, tb_4 4 rfl rfl, tb_1 8 rfl rfl, ⟨by decide +kernel, by decide +kernel⟩, by decide +kernel⟩
theorem cal29 : CalOK MT 29 2 := ⟨by decide +kernel, tb_4 36 rfl rfl, tb_1 8 rfl rfl, ⟨by decide +kernel, by decide +kernel⟩, by decide +kernel⟩
theorem cal30 : CalOK MT 30 1 := ⟨by decide +kernel, tb_4 7 rfl rfl, tb_1 8 rfl rfl, ⟨by decide +kernel, by decide +kernel⟩, by decide +kernel⟩
theorem cal31 : CalOK MT 31 1 := ⟨by decide +kernel, tb_4 19 rfl rfl, tb_1 8 rfl rfl, ⟨by decide +kernel, by decide +kernel⟩, by decide +kernel⟩
theorem cal32 : CalOK MT 32 0 := ⟨by decide +kernel, tb_4 23 rfl rfl, tb_1 8 rfl rfl, ⟨by decide +kernel, by decide +kernel⟩, by decide +kernel⟩
theorem cal33 : CalOK MT 33 1 := ⟨by decide +kernel, tb_4 28 rfl rfl, tb_1 8 rfl rfl, ⟨by decide +kernel, by decide +kernel⟩, by decide +kernel⟩
theorem cal34 : CalOK MT 34 2 := ⟨by decide +kernel, tb_4 39 rfl rfl, tb_1 8 rfl rfl, ⟨by decide +kernel, by decide +kernel⟩, by decide +kernel⟩
theorem cal35 : CalOK MT 35 1 := ⟨by decide +kernel, tb_4 69 rfl rfl, tb_1 8 rfl rfl, ⟨by decide +kernel, by decide +kernel⟩, by decide +kernel⟩
theorem cal36 : CalOK MT 36 0 := ⟨by decide +kernel, tb_4 57 rfl rfl, tb_1 8 rfl rfl, ⟨by decide +kernel, by decide +kernel⟩, by decide +kernel⟩
theorem cal37 : CalOK MT 37 0 := ⟨by decide +kernel, tb_4 61 rfl rfl, tb_1 8 rfl rfl, ⟨by decide +kernel, by decide +kernel⟩, by decide +kernel⟩
theorem cal38 : CalOK MT 38 0 := ⟨by decide +kernel, tb_3 47 rfl rfl, tb_1 7 rfl rfl, ⟨by decide +kernel, by decide +kernel⟩, by decide +kernel⟩
theorem cal39 : CalOK MT 39 4 := ⟨by decide +kernel, tb_3 50 rfl rfl, tb_1 7 rfl rfl, ⟨by decide +kernel, by decide +kernel⟩, by decide +kernel⟩
theorem cal40 : CalOK MT 40 0 := ⟨by decide +kernel, tb_3 58 rfl rfl, tb_1 7 rfl rfl, ⟨by decide +kernel, by decide +kernel⟩, by decide +kernel⟩
theorem cal41 : CalOK MT 41 6 := ⟨by decide +kernel, tb_3 63 rfl rfl, tb_1 7 rfl rfl, ⟨by decide +kernel, by decide +kernel⟩, by decide +kernel⟩
theorem cal42 : CalOK MT 42 1 := ⟨by decide +kernel, tb_3 201 rfl rfl, tb_1 7 rfl rfl, ⟨by decide +kernel, by decide +kernel⟩, by decide +kernel⟩
theorem cal43 : CalOK MT 43 6 := ⟨by decide +kernel, tb_3 208 rfl rfl, tb_1 7 rfl rfl, ⟨by decide +kernel, by decide +kernel⟩, by decide +kernel⟩
theorem cal44 : CalOK MT 44 2 := ⟨by decide +kernel, tb_3 211 rfl rfl, tb_1 7 rfl rfl, ⟨by decide +kernel, by decide +kernel⟩, by decide +kernel⟩
theorem cal45 : CalOK MT 45 2 := ⟨by decide +kernel, tb_3 185 rfl rfl, tb_1 7 rfl rfl, ⟨by decide +kernel, by decide +kernel⟩, by decide +kernel⟩
theorem cal46 : CalOK MT 46 1 := ⟨by decide +kernel, tb_3 189 rfl rfl, tb_1 7 rfl rfl, ⟨by decide +kernel, by decide +kernel⟩, by decide +kernel⟩
theorem cal47 : CalOK MT 47 6 := ⟨by decide +kernel, tb_3 193 rfl rfl, tb_1 7 rfl rfl, ⟨by decide +kernel, by decide +kernel⟩, by decide +kernel⟩
theorem cal48 : CalOK MT 48 1 := ⟨by decide +kernel, tb_2 119 rfl rfl, tb_1 4 rfl rfl, ⟨by decide +kernel, by decide +kernel⟩, by decide +kernel⟩
theorem cal49 : CalOK MT 49 3 := ⟨by decide +kernel, tb_2 122 rfl rfl, tb_1 4 rfl rfl, ⟨by decide +kernel, by decide +kernel⟩, by decide +kernel⟩
theorem cal50 : CalOK MT 50 1 := ⟨by decide +kernel, tb_2 134 rfl rfl, tb_1 4 rfl rfl, ⟨by decide +kernel, by decide +kernel⟩, by decide +kernel⟩
theorem cal51 : CalOK MT 51 0 := ⟨by decide +kernel, tb_2 185 rfl rfl, tb_1 4 rfl rfl, ⟨by decide +kernel, by decide +kernel⟩, by decide +kernel⟩
theorem cal52 : CalOK MT 52 1 := ⟨by decide +kernel, tb_2 219 rfl rfl, tb_1 4 rfl rfl, ⟨by decide +kernel, by decide +kernel⟩, by decide +kernel⟩
theorem cal53 : CalOK MT 53 0 := ⟨by decide +kernel, tb_2 207 rfl rfl, tb_1 4 rfl rfl, ⟨by decide +kernel, by decide +kernel⟩, by decide +kernel⟩
theorem cal54 : CalOK MT 54 1 := ⟨by decide +kernel, tb_3 16 rfl rfl, tb_1 4 rfl rfl, ⟨by decide +kernel, by decide +kernel⟩, by decide +kernel⟩
theorem cal55 : CalOK MT 55 1 := ⟨by decide +kernel, tb_3 20 rfl rfl, tb_1 4 rfl rfl, ⟨by decide +kernel, by decide +kernel⟩, by decide +kernel⟩
theorem cal56 : CalOK MT 56 1 := ⟨by decide +kernel, tb_2 93 rfl rfl, tb_1 1 rfl rfl, ⟨by decide +kernel, by decide +kernel⟩, by decide +kernel⟩
theorem cal57 : CalOK MT 57 1 := ⟨by decide +kernel, tb_2 101 rfl rfl, tb_1 1 rfl rfl, ⟨by decide +kernel, by decide +kernel⟩, by decide +kernel⟩
theorem cal58 : CalOK MT 58 3 := ⟨by decide +kernel, tb_2 154 rfl rfl, tb_1 1 rfl rfl, ⟨by decide +kernel, by decide +kernel⟩, by decide +kernel⟩
theorem cal59 : CalOK MT 59 2 := ⟨by decide +kernel, tb_2 177 rfl rfl, tb_1 1 rfl rfl, ⟨by decide +kernel, by decide +kernel⟩, by decide +kernel⟩
theorem cal60 : CalOK MT 60 2 := ⟨by decide +kernel, tb_2 181 rfl rfl, tb_1 1 rfl rfl, ⟨by decide +kernel, by decide +kernel⟩, by decide +kernel⟩
theorem cal61 : CalOK MT 61 1 := ⟨by decide +kernel, tb_2 193 rfl rfl, tb_1 1 rfl rfl, ⟨by decide +kernel, by decide +kernel⟩, by decide +kernel⟩
theorem cal62 : CalOK MT 62 2 := ⟨by decide +kernel, tb_2 197 rfl rfl, tb_1 1 rfl rfl, ⟨by decide +kernel, by decide +kernel⟩, by decide +kernel⟩
theorem cal63 : CalOK MT 63 1 := ⟨by decide +kernel, tb_2 203 rfl rfl, tb_1 1 rfl rfl, ⟨by decide +kernel, by decide +kernel⟩, by decide +kernel⟩
theorem cal64 : CalOK MT 64 2 := ⟨by decide +kernel, tb_2 211 rfl rfl, tb_1 1 rfl rfl, ⟨by decide +kernel, by decide +kernel⟩, by decide +kernel⟩
theorem cal65 : CalOK MT 65 1 := ⟨by decide +kernel, tb_2 237 rfl rfl, tb_1 1 rfl rfl, ⟨by decide +kernel, by decide +kernel⟩, by decide +kernel⟩
theorem cal66 : CalOK MT 66 3 := ⟨by decide +kernel, tb_3 27 rfl rfl, tb_1 1 rfl rfl, ⟨by decide +kernel, by decide +kernel⟩, by decide +kernel⟩
theorem cal67 : CalOK MT 67 0 := ⟨by decide +kernel, tb_3 43 rfl rfl, tb_1 1 rfl rfl, ⟨by decide +kernel, by decide +kernel⟩, by decide +kernel⟩
theorem cal68 : CalOK MT 68 1 := ⟨by decide +kernel, tb_3 54 rfl rfl, tb_1 1 rfl rfl, ⟨by decide +kernel, by decide +kernel⟩, by decide +kernel⟩
theorem cal69 : CalOK MT 69 1 := ⟨by decide +kernel, tb_3 68 rfl rfl, tb_1 1 rfl rfl, ⟨by decide +kernel, by decide +kernel⟩, by decide +kernel⟩
theorem cal70 : CalOK MT 70 3 := ⟨by decide +kernel, tb_3 87 rfl rfl, tb_1 1 rfl rfl, ⟨by decide +kernel, by decide +kernel⟩, by decide +kernel⟩
theorem cal71 : CalOK MT 71 1 := ⟨by decide +kernel, tb_3 95 rfl rfl, tb_1 1 rfl rfl, ⟨by decide +kernel, by decide +kernel⟩, by decide +kernel⟩
theorem cal72 : CalOK MT 72 1 := ⟨by decide +kernel, tb_3 115 rfl rfl, tb_1 1 rfl rfl, ⟨by decide +kernel, by decide +kernel⟩, by decide +kernel⟩
theorem cal73 : CalOK MT 73 1 := ⟨by decide +kernel, tb_3 120 rfl rfl, tb_1 1 rfl rfl, ⟨by decide +kernel, by decide +kernel⟩, by decide +kernel⟩
theorem cal74 : CalOK MT 74 3 := ⟨by decide +kernel, tb_3 124 rfl rfl, tb_1 1 rfl rfl, ⟨by decide +kernel, by decide +kernel⟩, by decide +kernel⟩
theorem cal75 : CalOK MT 75 2 := ⟨by decide +kernel, tb_3 128 rfl rfl, tb_1 1 rfl rfl, ⟨by decide +kernel, by decide +kernel⟩, by decide +kernel⟩
theorem cal76 : CalOK MT 76 0 := ⟨by decide +kernel, tb_3 136 rfl rfl, tb_1 1 rfl rfl, ⟨by decide +kernel, by decide +kernel⟩, by decide +kernel⟩
theorem cal77 : CalOK MT 77 4 := ⟨by decide +kernel, tb_3 166 rfl rfl, tb_1 1 rfl rfl, ⟨by decide +kernel, by decide +kernel⟩, by decide +kernel⟩
theorem cal78 : CalOK MT 78 2 := ⟨by decide +kernel, tb_3 173 rfl rfl, tb_1 1 rfl rfl, ⟨by decide +kernel, by decide +kernel⟩, by decide +kernel⟩
theorem cal79 : CalOK MT 79 1 := ⟨by decide +kernel, tb_3 177 rfl rfl, tb_1 1 rfl rfl, ⟨by decide +kernel, by decide +kernel⟩, by decide +kernel⟩
theorem cal80 : CalOK MT 80 2 := ⟨by decide +kernel, tb_3 181 rfl rfl, tb_1 1 rfl rfl, ⟨by decide +kernel, by decide +kernel⟩, by decide +kernel⟩
theorem cal81 : CalOK MT 81 1 := ⟨by decide +kernel, tb_3 197 rfl rfl, tb_1 1 rfl rfl, ⟨by decide +kernel, by decide +kernel⟩, by decide +kernel⟩
theorem cal82 : CalOK MT 82 0 := ⟨by decide +kernel, tb_3 217 rfl rfl, tb_1 1 rfl rfl, ⟨by decide +kernel, by decide +kernel⟩, by decide +kernel⟩
theorem cal83 : CalOK MT 83 1 := ⟨by decide +kernel, tb_4 49 rfl rfl, tb_1 1 rfl rfl, ⟨by decide +kernel, by decide +kernel⟩, by decide +kernel⟩
theorem cal84 : CalOK MT 84 2 := ⟨by decide +kernel, tb_4 65 rfl rfl, tb_1 1 rfl rfl, ⟨by decide +kernel, by decide +kernel⟩, by decide +kernel⟩
theorem cal85 : CalOK MT 85 1 := ⟨by decide +kernel, tb_4 73 rfl rfl, tb_1 1 rfl rfl, ⟨by decide +kernel, by decide +kernel⟩, by decide +kernel⟩
theorem cal86 : CalOK MT 86 3 := ⟨by decide +kernel, tb_4 77 rfl rfl, tb_1 1 rfl rfl, ⟨by decide +kernel, by decide +kernel⟩, by decide +kernel⟩
theorem cal87 : CalOK MT 87 2 := ⟨by decide +kernel, tb_4 85 rfl rfl, tb_1 1 rfl rfl, ⟨by decide +kernel, by decide +kernel⟩, by decide +kernel⟩
theorem cal88 : CalOK MT 88 3 := ⟨by decide +kernel, tb_4 90 rfl rfl, tb_1 1 rfl rfl, ⟨by decide +kernel, by decide +kernel⟩, by decide +kernel⟩
theorem cal89 : CalOK MT 89 2 := ⟨by decide +kernel, tb_4 94 rfl rfl, tb_1 1 rfl rfl, ⟨by decide +kernel, by decide +kernel⟩, by decide +kernel⟩
theorem cal90 : CalOK MT 90 3 := ⟨by decide +kernel, tb_4 98 rfl rfl, tb_1 1 rfl rfl, ⟨by decide +kernel, by decide +kernel⟩, by decide +kernel⟩
theorem cal91 : CalOK MT 91 1 := ⟨by decide +kernel, tb_4 103 rfl rfl, tb_1 1 rfl rfl, ⟨by decide +kernel, by decide +kernel⟩, by decide +kernel⟩
theorem cal92 : CalOK MT 92 0 := ⟨by decide +kernel, tb_4 107 rfl rfl, tb_1 1 rfl rfl, ⟨by decide +kernel, by decide +kernel⟩, by decide +kernel⟩
theorem cal93 : CalOK MT 93 0 := ⟨by decide +kernel, tb_4 118 rfl rfl, tb_1 1 rfl rfl, ⟨by decide +kernel, by decide +kernel⟩, by decide +kernel⟩
theorem cal94 : CalOK MT 94 0 := ⟨by decide +kernel, tb_4 127 rfl rfl, tb_1 1 rfl rfl, ⟨by decide +kernel, by decide +kernel⟩, by decide +kernel⟩
theorem cal95 : CalOK MT 95 1 := ⟨by decide +kernel, tb_4 131 rfl rfl, tb_1 1 rfl rfl, ⟨by decide +kernel, by decide +kernel⟩, by decide +kernel⟩
theorem cal96 : CalOK MT 96 1 := ⟨by decide +kernel, tb_2 97 rfl rfl, tb_1 1 rfl rfl, ⟨by decide +kernel, by decide +kernel⟩, by decide +kernel⟩
theorem cal97 : CalOK MT 97 1 := ⟨by decide +kernel, tb_2 165 rfl rfl, tb_1 1 rfl rfl, ⟨by decide +kernel, by decide +kernel⟩, by decide +kernel⟩
theorem cal98 : CalOK MT 98 1 := ⟨by decide +kernel, tb_3 31 rfl rfl, tb_1 1 rfl rfl, ⟨by decide +kernel, by decide +kernel⟩, by decide +kernel⟩
theorem cal99 : CalOK MT 99 1 := ⟨by decide +kernel, tb_2 158 rfl rfl, tb_1 1 rfl rfl, ⟨by decide +kernel, by decide +kernel⟩, by decide +kernel⟩
theorem cal100 : CalOK MT 100 1 := ⟨by decide +kernel, tb_2 161 rfl rfl, tb_1 1 rfl rfl, ⟨by decide +kernel, by decide +kernel⟩, by decide +kernel⟩
theorem cal101 : CalOK MT 101 1 := ⟨by decide +kernel, tb_2 104 rfl rfl, tb_1 1 rfl rfl, ⟨by decide +kernel, by decide +kernel⟩, by decide +kernel⟩
theorem cal102 : CalOK MT 102 1 := ⟨by decide +kernel, tb_3 35 rfl rfl, tb_1 1 rfl rfl, ⟨by decide +kernel, by decide +kernel⟩, by decide +kernel⟩
theorem cal103 : CalOK MT 103 1 := ⟨by decide +kernel, tb_3 169 rfl rfl, tb_1 1 rfl rfl, ⟨by decide +kernel, by decide +kernel⟩, by decide +kernel⟩
theorem cal104 : CalOK MT 104 1 := ⟨by decide +kernel, tb_2 215 rfl rfl, tb_1 1 rfl rfl, ⟨by decide +kernel, by decide +kernel⟩, by decide +kernel⟩
theorem cal105 : CalOK MT 105 1 := ⟨by decide +kernel, tb_3 72 rfl rfl, tb_1 1 rfl rfl, ⟨by decide +kernel, by decide +kernel⟩, by decide +kernel⟩
theorem cal106 : CalOK MT 106 2 := ⟨by decide +kernel, tb_3 91 rfl rfl, tb_1 1 rfl rfl, ⟨by decide +kernel, by decide +kernel⟩, by decide +kernel⟩
theorem cal107 : CalOK MT 107 1 := ⟨by decide +kernel, tb_3 0 rfl rfl, tb_1 1 rfl rfl, ⟨by decide +kernel, by decide +kernel⟩, by decide +kernel⟩
theorem cal108 : CalOK MT 108 1 := ⟨by decide +kernel, tb_3 4 rfl rfl, tb_1 1 rfl rfl, ⟨by decide +kernel, by decide +kernel⟩, by decide +kernel⟩
theorem cal109 : CalOK MT 109 2 := ⟨by decide +kernel, tb_3 12 rfl rfl, tb_1 1 rfl rfl, ⟨by decide +kernel, by decide +kernel⟩, by decide +kernel⟩
theorem cal110 : CalOK MT 110 3 := ⟨by decide +kernel, tb_3 8 rfl rfl, tb_1 1 rfl rfl, ⟨by decide +kernel, by decide +kernel⟩, by decide +kernel⟩
theorem cal111 : CalOK MT 111 1 := ⟨by decide +kernel, tb_3 152 rfl rfl, tb_1 1 rfl rfl, ⟨by decide +kernel, by decide +kernel⟩, by decide +kernel⟩
theorem cal112 : CalOK MT 112 2 := ⟨by decide +kernel, tb_2 142 rfl rfl, tb_1 1 rfl rfl, ⟨by decide +kernel, by decide +kernel⟩, by decide +kernel⟩
theorem cal113 : CalOK MT 113 1 := ⟨by decide +kernel, tb_3 139 rfl rfl, tb_1 1 rfl rfl, ⟨by decide +kernel, by decide +kernel⟩, by decide +kernel⟩
theorem cal114 : CalOK MT 114 1 := ⟨by decide +kernel, tb_2 189 rfl rfl, tb_1 1 rfl rfl, ⟨by decide +kernel, by decide +kernel⟩, by decide +kernel⟩
theorem cal115 : CalOK MT 115 2 := ⟨by decide +kernel, tb_2 229 rfl rfl, tb_1 1 rfl rfl, ⟨by decide +kernel, by decide +kernel⟩, by decide +kernel⟩
theorem cal116 : CalOK MT 116 3 := ⟨by decide +kernel, tb_3 38 rfl rfl, tb_1 1 rfl rfl, ⟨by decide +kernel, by decide +kernel⟩, by decide +kernel⟩
theorem cal117 : CalOK MT 117 3 := ⟨by decide +kernel, tb_4 237 rfl rfl, tb_1 9 rfl rfl, ⟨by decide +kernel, by decide +kernel⟩, by decide +kernel⟩
theorem cal118 : CalOK MT 118 2 := ⟨by decide +kernel, tb_5 41 rfl rfl, tb_1 9 rfl rfl, ⟨by decide +kernel, by decide +kernel⟩, by decide +kernel⟩
theorem cal119 : CalOK MT 119 1 := ⟨by decide +kernel, tb_5 90 rfl rfl, tb_1 9 rfl rfl, ⟨by decide +kernel, by decide +kernel⟩, by decide +kernel⟩
theorem cal120 : CalOK MT 120 1 := ⟨by decide +kernel, tb_4 229 rfl rfl, tb_1 9 rfl rfl, ⟨by decide +kernel, by decide +kernel⟩, by decide +kernel⟩
theorem cal121 : CalOK MT 121 1 := ⟨by decide +kernel, tb_5 13 rfl rfl, tb_1 9 rfl rfl, ⟨by decide +kernel, by decide +kernel⟩, by decide +kernel⟩
theorem cal122 : CalOK MT 122 1 := ⟨by decide +kernel, tb_5 136 rfl rfl, tb_1 9 rfl rfl, ⟨by decide +kernel, by decide +kernel⟩, by decide +kernel⟩
theorem cal123 : CalOK MT 123 2 := ⟨by decide +kernel, tb_5 56 rfl rfl, tb_1 9 rfl rfl, ⟨by decide +kernel, by decide +kernel⟩, by decide +kernel⟩
theorem cal124 : CalOK MT 124 3 := ⟨by decide +kernel, tb_5 140 rfl rfl, tb_1 9 rfl rfl, ⟨by decide +kernel, by decide +kernel⟩, by decide +kernel⟩
theorem cal125 : CalOK MT 125 1 := ⟨by decide +kernel, tb_5 5 rfl rfl, tb_1 9 rfl rfl, ⟨by decide +kernel, by decide +kernel⟩, by decide +kernel⟩
theorem cal126 : CalOK MT 126 1 := ⟨by decide +kernel, tb_5 8 rfl rfl, tb_1 9 rfl rfl, ⟨by decide +kernel, by decide +kernel⟩, by decide +kernel⟩
theorem cal127 : CalOK MT 127 1 := ⟨by decide +kernel, tb_5 117 rfl rfl, tb_1 9 rfl rfl, ⟨by decide +kernel, by decide +kernel⟩, by decide +kernel⟩
theorem cal128 : CalOK MT 128 1 := ⟨by decide +kernel, tb_5 160 rfl rfl, tb_1 9 rfl rfl, ⟨by decide +kernel, by decide +kernel⟩, by decide +kernel⟩
theorem cal129 : CalOK MT 129 1 := ⟨by decide +kernel, tb_4 225 rfl rfl, tb_1 9 rfl rfl, ⟨by decide +kernel, by decide +kernel⟩, by decide +kernel⟩
theorem cal130 : CalOK MT 130 1 := ⟨by decide +kernel, tb_4 233 rfl rfl, tb_1 9 rfl rfl, ⟨by decide +kernel, by decide +kernel⟩, by decide +kernel⟩
theorem cal131 : CalOK MT 131 2 := ⟨by decide +kernel, tb_5 18 rfl rfl, tb_1 9 rfl rfl, ⟨by decide +kernel, by decide +kernel⟩, by decide +kernel⟩
theorem cal132 : CalOK MT 132 3 := ⟨by decide +kernel, tb_5 1 rfl rfl, tb_1 9 rfl rfl, ⟨by decide +kernel, by decide +kernel⟩, by decide +kernel⟩
theorem cal133 : CalOK MT 133 2 := ⟨by decide +kernel, tb_5 22 rfl rfl, tb_1 9 rfl rfl, ⟨by decide +kernel, by decide +kernel⟩, by decide +kernel⟩
theorem cal134 : CalOK MT 134 2 := ⟨by decide +kernel, tb_5 45 rfl rfl, tb_1 9 rfl rfl, ⟨by decide +kernel, by decide +kernel⟩, by decide +kernel⟩
theorem cal135 : CalOK MT 135 1 := ⟨by decide +kernel, tb_5 60 rfl rfl, tb_1 9 rfl rfl, ⟨by decide +kernel, by decide +kernel⟩, by decide +kernel⟩
theorem cal136 : CalOK MT 136 2 := ⟨by decide +kernel, tb_5 76 rfl rfl, tb_1 9 rfl rfl, ⟨by decide +kernel, by decide +kernel⟩, by decide +kernel⟩
theorem cal137 : CalOK MT 137 1 := ⟨by decide +kernel, tb_5 72 rfl rfl, tb_1 9 rfl rfl, ⟨by decide +kernel, by decide +kernel⟩, by decide +kernel⟩
theorem cal138 : CalOK MT 138 2 := ⟨by decide +kernel, tb_5 26 rfl rfl, tb_1 9 rfl rfl, ⟨by decide +kernel, by decide +kernel⟩, by decide +kernel⟩
theorem cal139 : CalOK MT 139 1 := ⟨by decide +kernel, tb_5 68 rfl rfl, tb_1 9 rfl rfl, ⟨by decide +kernel, by decide +kernel⟩, by decide +kernel⟩
theorem cal140 : CalOK MT 140 2 := ⟨by decide +kernel, tb_5 83 rfl rfl, tb_1 9 rfl rfl, ⟨by decide +kernel, by decide +kernel⟩, by decide +kernel⟩
theorem cal141 : CalOK MT 141 2 := ⟨by decide +kernel, tb_5 80 rfl rfl, tb_1 9 rfl rfl, ⟨by decide +kernel, by decide +kernel⟩, by decide +kernel⟩
theorem cal142 : CalOK MT 142 2 := ⟨by decide +kernel, tb_5 53 rfl rfl, tb_1 9 rfl rfl, ⟨by decide +kernel, by decide +kernel⟩, by decide +kernel⟩
theorem cal143 : CalOK MT 143 2 := ⟨by decide +kernel, tb_5 49 rfl rfl, tb_1 9 rfl rfl, ⟨by decide +kernel, by decide +kernel⟩, by decide +kernel⟩
theorem cal144 : CalOK MT 144 2 := ⟨by decide +kernel, tb_5 38 rfl rfl, tb_1 9 rfl rfl, ⟨by decide +kernel, by decide +kernel⟩, by decide +kernel⟩
theorem cal145 : CalOK MT 145 1 := ⟨by decide +kernel, tb_5 168 rfl rfl, tb_1 9 rfl rfl, ⟨by decide +kernel, by decide +kernel⟩, by decide +kernel⟩
theorem cal146 : CalOK MT 146 2 := ⟨by decide +kernel, tb_5 34 rfl rfl, tb_1 9 rfl rfl, ⟨by decide +kernel, by decide +kernel⟩, by decide +kernel⟩
theorem cal147 : CalOK MT 147 0 := ⟨by decide +kernel, tb_5 30 rfl rfl, tb_1 9 rfl rfl, ⟨by decide +kernel, by decide +kernel⟩, by decide +kernel⟩
theorem cal148 : CalOK MT 148 0 := ⟨by decide +kernel, tb_5 94 rfl rfl, tb_1 9 rfl rfl, ⟨by decide +kernel, by decide +kernel⟩, by decide +kernel⟩
theorem cal149 : CalOK MT 149 1 := ⟨by decide +kernel, tb_5 106 rfl rfl, tb_1 9 rfl rfl, ⟨by decide +kernel, by decide +kernel⟩, by decide +kernel⟩
theorem cal150 : CalOK MT 150 1 := ⟨by decide +kernel, tb_5 110 rfl rfl, tb_1 9 rfl rfl, ⟨by decide +kernel, by decide +kernel⟩, by decide +kernel⟩
theorem cal151 : CalOK MT 151 0 := ⟨by decide +kernel, tb_5 98 rfl rfl, tb_1 9 rfl rfl, ⟨by decide +kernel, by decide +kernel⟩, by decide +kernel⟩
theorem cal152 : CalOK MT 152 1 := ⟨by decide +kernel, tb_5 87 rfl rfl, tb_1 9 rfl rfl, ⟨by decide +kernel, by decide +kernel⟩, by decide +kernel⟩
theorem cal153 : CalOK MT 153 2 := ⟨by decide +kernel, tb_5 102 rfl rfl, tb_1 9 rfl rfl, ⟨by decide +kernel, by decide +kernel⟩, by decide +kernel⟩
theorem cal154 : CalOK MT 154 2 := ⟨by decide +kernel, tb_5 122 rfl rfl, tb_1 9 rfl rfl, ⟨by decide +kernel, by decide +kernel⟩, by decide +kernel⟩
theorem cal155 : CalOK MT 155 0 := ⟨by decide +kernel, tb_5 128 rfl rfl, tb_1 9 rfl rfl, ⟨by decide +kernel, by decide +kernel⟩, by decide +kernel⟩
theorem cal156 : CalOK MT 156 1 := ⟨by decide +kernel, tb_5 114 rfl rfl, tb_1 9 rfl rfl, ⟨by decide +kernel, by decide +kernel⟩, by decide +kernel⟩
theorem cal157 : CalOK MT 157 3 := ⟨by decide +kernel, tb_5 132 rfl rfl, tb_1 9 rfl rfl, ⟨by decide +kernel, by decide +kernel⟩, by decide +kernel⟩
theorem cal158 : CalOK MT 158 0 := ⟨by decide +kernel, tb_5 144 rfl rfl, tb_1 9 rfl rfl, ⟨by decide +kernel, by decide +kernel⟩, by decide +kernel⟩
theorem cal159 : CalOK MT 159 2 := ⟨by decide +kernel, tb_5 152 rfl rfl, tb_1 9 rfl rfl, ⟨by decide +kernel, by decide +kernel⟩, by decide +kernel⟩
theorem cal160 : CalOK MT 160 1 := ⟨by decide +kernel, tb_5 148 rfl rfl, tb_1 9 rfl rfl, ⟨by decide +kernel, by decide +kernel⟩, by decide +kernel⟩
theorem cal161 : CalOK MT 161 1 := ⟨by decide +kernel, tb_5 164 rfl rfl, tb_1 9 rfl rfl, ⟨by decide +kernel, by decide +kernel⟩, by decide +kernel⟩
theorem cal162 : CalOK MT 162 1 := ⟨by decide +kernel, tb_5 156 rfl rfl, tb_1 9 rfl rfl, ⟨by decide +kernel, by decide +kernel⟩, by decide +kernel⟩
theorem cal163 : CalOK MT 163 3 := ⟨by decide +kernel, tb_5 172 rfl rfl, tb_1 9 rfl rfl, ⟨by decide +kernel, by decide +kernel⟩, by decide +kernel⟩
theorem cal164 : CalOK MT 164 1 := ⟨by decide +kernel, tb_5 180 rfl rfl, tb_1 9 rfl rfl, ⟨by decide +kernel, by decide +kernel⟩, by decide +kernel⟩
theorem cal165 : CalOK MT 165 1 := ⟨by decide +kernel, tb_5 176 rfl rfl, tb_1 9 rfl rfl, ⟨by decide +kernel, by decide +kernel⟩, by decide +kernel⟩
theorem cal166 : CalOK MT 166 0 := ⟨by decide +kernel, tb_5 188 rfl rfl, tb_1 9 rfl rfl, ⟨by decide +kernel, by decide +kernel⟩, by decide +kernel⟩
theorem cal167 : CalOK MT 167 1 := ⟨by decide +kernel, tb_5 192 rfl rfl, tb_1 9 rfl rfl, ⟨by decide +kernel, by decide +kernel⟩, by decide +kernel⟩
theorem cal168 : CalOK MT 168 1 := ⟨by decide +kernel, tb_5 184 rfl rfl, tb_1 9 rfl rfl, ⟨by decide +kernel, by decide +kernel⟩, by decide +kernel⟩
theorem cal169 : CalOK MT 169 1 := ⟨by decide +kernel, tb_5 196 rfl rfl, tb_1 9 rfl rfl, ⟨by decide +kernel, by decide +kernel⟩, by decide +kernel⟩
theorem cal170 : CalOK MT 170 3 := ⟨by decide +kernel, tb_5 200 rfl rfl, tb_1 9 rfl rfl, ⟨by decide +kernel, by decide +kernel⟩, by decide +kernel⟩
theorem cal171 : CalOK MT 171 2 := ⟨by decide +kernel, tb_5 204 rfl rfl, tb_1 9 rfl rfl, ⟨by decide +kernel, by decide +kernel⟩, by decide +kernel⟩
theorem cal172 : CalOK MT 172 1 := ⟨by decide +kernel, tb_5 219 rfl rfl, tb_1 9 rfl rfl, ⟨by decide +kernel, by decide +kernel⟩, by decide +kernel⟩
theorem cal173 : CalOK MT 173 2 := ⟨by decide +kernel, tb_5 231 rfl rfl, tb_1 9 rfl rfl, ⟨by decide +kernel, by decide +kernel⟩, by decide +kernel⟩
theorem cal174 : CalOK MT 174 2 := ⟨by decide +kernel, tb_5 228 rfl rfl, tb_1 9 rfl rfl, ⟨by decide +kernel, by decide +kernel⟩, by decide +kernel⟩
theorem cal175 : CalOK MT 175 2 := ⟨by decide +kernel, tb_5 224 rfl rfl, tb_1 9 rfl rfl, ⟨by decide +kernel, by decide +kernel⟩, by decide +kernel⟩
theorem cal176 : CalOK MT 176 0 := ⟨by decide +kernel, tb_5 212 rfl rfl, tb_1 9 rfl rfl, ⟨by decide +kernel, by decide +kernel⟩, by decide +kernel⟩
theorem cal177 : CalOK MT 177 0 := ⟨by decide +kernel, tb_5 216 rfl rfl, tb_1 9 rfl rfl, ⟨by decide +kernel, by decide +kernel⟩, by decide +kernel⟩
theorem cal178 : CalOK MT 178 0 := ⟨by decide +kernel, tb_5 208 rfl rfl, tb_1 9 rfl rfl, ⟨by decide +kernel, by decide +kernel⟩, by decide +kernel⟩
theorem cal179 : CalOK MT 179 1 := ⟨by decide +kernel, tb_6 3 rfl rfl, tb_1 9 rfl rfl, ⟨by decide +kernel, by decide +kernel⟩, by decide +kernel⟩
theorem cal180 : CalOK MT 180 2 := ⟨by decide +kernel, tb_5 239 rfl rfl, tb_1 9 rfl rfl, ⟨by decide +kernel, by decide +kernel⟩, by decide +kernel⟩
theorem cal181 : CalOK MT 181 4 := ⟨by decide +kernel, tb_5 235 rfl rfl, tb_1 9 rfl rfl, ⟨by decide +kernel, by decide +kernel⟩, by decide +kernel⟩
theorem cal182 : CalOK MT 182 2 := ⟨by decide +kernel, tb_6 7 rfl rfl, tb_1 9 rfl rfl, ⟨by decide +kernel, by decide +kernel⟩, by decide +kernel⟩
theorem cal183 : CalOK MT 183 1 := ⟨by decide +kernel, tb_6 11 rfl rfl, tb_1 9 rfl rfl, ⟨by decide +kernel, by decide +kernel⟩, by decide +kernel⟩
theorem cal184 : CalOK MT 184 2 := ⟨by decide +kernel, tb_6 31 rfl rfl, tb_1 9 rfl rfl, ⟨by decide +kernel, by decide +kernel⟩, by decide +kernel⟩
theorem cal185 : CalOK MT 185 1 := ⟨by decide +kernel, tb_6 27 rfl rfl, tb_1 9 rfl rfl, ⟨by decide +kernel, by decide +kernel⟩, by decide +kernel⟩
theorem cal186 : CalOK MT 186 2 := ⟨by decide +kernel, tb_6 23 rfl rfl, tb_1 9 rfl rfl, ⟨by decide +kernel, by decide +kernel⟩, by decide +kernel⟩
theorem cal187 : CalOK MT 187 1 := ⟨by decide +kernel, tb_6 19 rfl rfl, tb_1 9 rfl rfl, ⟨by decide +kernel, by decide +kernel⟩, by decide +kernel⟩
theorem cal188 : CalOK MT 188 2 := ⟨by decide +kernel, tb_6 15 rfl rfl, tb_1 9 rfl rfl, ⟨by decide +kernel, by decide +kernel⟩, by decide +kernel⟩
theorem cal189 : CalOK MT 189 1 := ⟨by decide +kernel, tb_6 43 rfl rfl, tb_1 9 rfl rfl, ⟨by decide +kernel, by decide +kernel⟩, by decide +kernel⟩
theorem cal190 : CalOK MT 190 2 := ⟨by decide +kernel, tb_6 48 rfl rfl, tb_1 9 rfl rfl, ⟨by decide +kernel, by decide +kernel⟩, by decide +kernel⟩
theorem cal191 : CalOK MT 191 3 := ⟨by decide +kernel, tb_6 39 rfl rfl, tb_1 9 rfl rfl, ⟨by decide +kernel, by decide +kernel⟩, by decide +kernel⟩
theorem cal192 : CalOK MT 192 1 := ⟨by decide +kernel, tb_6 35 rfl rfl, tb_1 9 rfl rfl, ⟨by decide +kernel, by decide +kernel⟩, by decide +kernel⟩
theorem cal193 : CalOK MT 193 0 := ⟨by decide +kernel, tb_6 76 rfl rfl, tb_1 9 rfl rfl, ⟨by decide +kernel, by decide +kernel⟩, by decide +kernel⟩
theorem cal194 : CalOK MT 194 2 := ⟨by decide +kernel, tb_6 91 rfl rfl, tb_1 9 rfl rfl, ⟨by decide +kernel, by decide +kernel⟩, by decide +kernel⟩
theorem cal195 : CalOK MT 195 0 := ⟨by decide +kernel, tb_6 81 rfl rfl, tb_1 9 rfl rfl, ⟨by decide +kernel, by decide +kernel⟩, by decide +kernel⟩
theorem cal196 : CalOK MT 196 0 := ⟨by decide +kernel, tb_6 87 rfl rfl, tb_1 9 rfl rfl, ⟨by decide +kernel, by decide +kernel⟩, by decide +kernel⟩
theorem cal197 : CalOK MT 197 0 := ⟨by decide +kernel, tb_6 72 rfl rfl, tb_1 9 rfl rfl, ⟨by decide +kernel, by decide +kernel⟩, by decide +kernel⟩
theorem cal198 : CalOK MT 198 0 := ⟨by decide +kernel, tb_6 68 rfl rfl, tb_1 9 rfl rfl, ⟨by decide +kernel, by decide +kernel⟩, by decide +kernel⟩
theorem cal199 : CalOK MT 199 0 := ⟨by decide +kernel, tb_6 64 rfl rfl, tb_1 9 rfl rfl, ⟨by decide +kernel, by decide +kernel⟩, by decide +kernel⟩
theorem cal200 : CalOK MT 200 0 := ⟨by decide +kernel, tb_6 60 rfl rfl, tb_1 9 rfl rfl, ⟨by decide +kernel, by decide +kernel⟩, by decide +kernel⟩
theorem cal201 : CalOK MT 201 0 := ⟨by decide +kernel, tb_6 56 rfl rfl, tb_1 9 rfl rfl, ⟨by decide +kernel, by decide +kernel⟩, by decide +kernel⟩
theorem cal202 : CalOK MT 202 0 := ⟨by decide +kernel, tb_6 52 rfl rfl, tb_1 9 rfl rfl, ⟨by decide +kernel, by decide +kernel⟩, by decide +kernel⟩
theorem cal203 : CalOK MT 203 0 := ⟨by decide +kernel, tb_6 119 rfl rfl, tb_1 9 rfl rfl, ⟨by decide +kernel, by decide +kernel⟩, by decide +kernel⟩
theorem cal204 : CalOK MT 204 2 := ⟨by decide +kernel, tb_6 123 rfl rfl, tb_1 9 rfl rfl, ⟨by decide +kernel, by decide +kernel⟩, by decide +kernel⟩
theorem cal205 : CalOK MT 205 1 := ⟨by decide +kernel, tb_6 128 rfl rfl, tb_1 9 rfl rfl, ⟨by decide +kernel, by decide +kernel⟩, by decide +kernel⟩
theorem cal206 : CalOK MT 206 1 := ⟨by decide +kernel, tb_6 115 rfl rfl, tb_1 9 rfl rfl, ⟨by decide +kernel, by decide +kernel⟩, by decide +kernel⟩
theorem cal207 : CalOK MT 207 1 := ⟨by decide +kernel, tb_6 111 rfl rfl, tb_1 9 rfl rfl, ⟨by decide +kernel, by decide +kernel⟩, by decide +kernel⟩
theorem cal208 : CalOK MT 208 1 := ⟨by decide +kernel, tb_6 107 rfl rfl, tb_1 9 rfl rfl, ⟨by decide +kernel, by decide +kernel⟩, by decide +kernel⟩
theorem cal209 : CalOK MT 209 1 := ⟨by decide +kernel, tb_6 103 rfl rfl, tb_1 9 rfl rfl, ⟨by decide +kernel, by decide +kernel⟩, by decide +kernel⟩
theorem cal210 : CalOK MT 210 0 := ⟨by decide +kernel, tb_6 99 rfl rfl, tb_1 9 rfl rfl, ⟨by decide +kernel, by decide +kernel⟩, by decide +kernel⟩
theorem cal211 : CalOK MT 211 1 := ⟨by decide +kernel, tb_6 95 rfl rfl, tb_1 9 rfl rfl, ⟨by decide +kernel, by decide +kernel⟩, by decide +kernel⟩
theorem cal212 : CalOK MT 212 2 := ⟨by decide +kernel, tb_6 132 rfl rfl, tb_1 9 rfl rfl, ⟨by decide +kernel, by decide +kernel⟩, by decide +kernel⟩
theorem cal213 : CalOK MT 213 1 := ⟨by decide +kernel, tb_6 136 rfl rfl, tb_1 9 rfl rfl, ⟨by decide +kernel, by decide +kernel⟩, by decide +kernel⟩
theorem cal214 : CalOK MT 214 1 := ⟨by decide +kernel, tb_6 144 rfl rfl, tb_1 9 rfl rfl, ⟨by decide +kernel, by decide +kernel⟩, by decide +kernel⟩
theorem cal215 : CalOK MT 215 3 := ⟨by decide +kernel, tb_6 140 rfl rfl, tb_1 9 rfl rfl, ⟨by decide +kernel, by decide +kernel⟩, by decide +kernel⟩
theorem cal216 : CalOK MT 216 2 := ⟨by decide +kernel, tb_6 163 rfl rfl, tb_1 9 rfl rfl, ⟨by decide +kernel, by decide +kernel⟩, by decide +kernel⟩
theorem cal217 : CalOK MT 217 2 := ⟨by decide +kernel, tb_6 151 rfl rfl, tb_1 9 rfl rfl, ⟨by decide +kernel, by decide +kernel⟩, by decide +kernel⟩
theorem cal218 : CalOK MT 218 2 := ⟨by decide +kernel, tb_6 159 rfl rfl, tb_1 9 rfl rfl, ⟨by decide +kernel, by decide +kernel⟩, by decide +kernel⟩
theorem cal219 : CalOK MT 219 3 := ⟨by decide +kernel, tb_6 155 rfl rfl, tb_1 9 rfl rfl, ⟨by decide +kernel, by decide +kernel⟩, by decide +kernel⟩
theorem cal220 : CalOK MT 220 2 := ⟨by decide +kernel, tb_6 167 rfl rfl, tb_1 9 rfl rfl, ⟨by decide +kernel, by decide +kernel⟩, by decide +kernel⟩
theorem cal221 : CalOK MT 221 3 := ⟨by decide +kernel, tb_6 171 rfl rfl, tb_1 9 rfl rfl, ⟨by decide +kernel, by decide +kernel⟩, by decide +kernel⟩
theorem cal222 : CalOK MT 222 1 := ⟨by decide +kernel, tb_6 175 rfl rfl, tb_1 9 rfl rfl, ⟨by decide +kernel, by decide +kernel⟩, by decide +kernel⟩
theorem cal223 : CalOK MT 223 0 := ⟨by decide +kernel, tb_6 179 rfl rfl, tb_1 9 rfl rfl, ⟨by decide +kernel, by decide +kernel⟩, by decide +kernel⟩
theorem cal224 : CalOK MT 224 0 := ⟨by decide +kernel, tb_6 183 rfl rfl, tb_1 9 rfl rfl, ⟨by decide +kernel, by decide +kernel⟩, by decide +kernel⟩
theorem cal225 : CalOK MT 225 0 := ⟨by decide +kernel, tb_6 187 rfl rfl, tb_1 9 rfl rfl, ⟨by decide +kernel, by decide +kernel⟩, by decide +kernel⟩
theorem cal226 : CalOK MT 226 0 := ⟨by decide +kernel, tb_6 195 rfl rfl, tb_1 9 rfl rfl, ⟨by decide +kernel, by decide +kernel⟩, by decide +kernel⟩
theorem cal227 : CalOK MT 227 1 := ⟨by decide +kernel, tb_6 191 rfl rfl, tb_1 9 rfl rfl, ⟨by decide +kernel, by decide +kernel⟩, by decide +kernel⟩
theorem cal228 : CalOK MT 228 1 := ⟨by decide +kernel, tb_3 79 rfl rfl, tb_1 13 rfl rfl, ⟨by decide +kernel, by decide +kernel⟩, by decide +kernel⟩
theorem cal229 : CalOK MT 229 2 := ⟨by decide +kernel, tb_3 205 rfl rfl, tb_1 10 rfl rfl, ⟨by decide +kernel, by decide +kernel⟩, by decide +kernel⟩
theorem cal230 : CalOK MT 230 2 := ⟨by decide +kernel, tb_2 111 rfl rfl, tb_1 10 rfl rfl, ⟨by decide +kernel, by decide +kernel⟩, by decide +kernel⟩
/-! links -/
theorem lkRX0_0 : LnkOK MT RX0 (4, 30, 228, 1, 0, 0) := ⟨cal228, Or.inl (tb_3 77 rfl rfl), tb_3 78 rfl rfl⟩
theorem lkRX0_1 : LnkOK MT RX0 (0, 26, 0, 0, 2, 0) := ⟨RX0, TX0, 9, tyX0, rfl, rfl, by decide +kernel, by decide +kernel, uw0, tb_1 165 rfl rfl, tyX0_ok, nmX0, fun h => by cases h⟩
theorem lkRX0_2 : LnkOK MT RX0 (0, 36, 6, 4, 2, 0) := ⟨RX6, TX6, 5, tyX6, rfl, rfl, by decide +kernel, by decide +kernel, uw6, tb_1 144 rfl rfl, tyX6_ok, nmX6, fun h => by cases h⟩
theorem lkRX0_3 : LnkOK MT RX0 (0, 41, 1, 3, 0, 0) := ⟨RX1, TX1, 6, tyX1, rfl, rfl, by decide +kernel, by decide +kernel, uw1, tb_1 108 rfl rfl, tyX1_ok, nmX1, fun h => by cases h⟩
theorem lkRX0_4 : LnkOK MT RX0 (0, 12, 0, 1, 2, 0) := ⟨RX0, TX0, 9, tyX0, rfl, rfl, by decide +kernel, by decide +kernel, uw0, tb_1 166 rfl rfl, tyX0_ok, nmX0, fun h => by cases h⟩
theorem lkRX0_5 : LnkOK MT RX0 (0, 44, 6, 2, 2, 0) := ⟨RX6, TX6, 5, tyX6, rfl, rfl, by decide +kernel, by decide +kernel, uw6, tb_1 137 rfl rfl, tyX6_ok, nmX6, fun h => by cases h⟩
theorem lkRX0_6 : LnkOK MT RX0 (0, 48, 6, 0, 0, 0) := ⟨RX6, TX6, 5, tyX6, rfl, rfl, by decide +kernel, by decide +kernel, uw6, tb_1 130 rfl rfl, tyX6_ok, nmX6, fun h => by cases h⟩
theorem lkRX0_7 : LnkOK MT RX0 (3, 51, 4, 3, 1, 0) := ⟨cal4, tb_3 83 rfl rfl, tb_2 137 rfl rfl, tb_2 138 rfl rfl, (RX1, TX1, 6), rfl, rfl⟩
theorem lkRX0_8 : LnkOK MT RX0 (0, 55, 1, 4, 0, 0) := ⟨RX1, TX1, 6, tyX1, rfl, rfl, by decide +kernel, by decide +kernel, uw1, tb_1 111 rfl rfl, tyX1_ok, nmX1, fun h => by cases h⟩
theorem lkRX0_9 : LnkOK MT RX0 (4, 58, 112, 2, 0, 0) := ⟨cal112, Or.inr ⟨"PureGroups", lw_3 109 rfl⟩, tb_2 141 rfl rfl⟩
theorem lkRX0_10 : LnkOK MT RX0 (0, 18, 0, 2, 2, 0) := ⟨RX0, TX0, 9, tyX0, rfl, rfl, by decide +kernel, by decide +kernel, uw0, tb_1 168 rfl rfl, tyX0_ok, nmX0, fun h => by cases h⟩
theorem lkRX0_11 : LnkOK MT RX0 (3, 62, 7, 2, 1, 0) := ⟨cal7, tb_3 110 rfl rfl, tb_2 223 rfl rfl, tb_2 224 rfl rfl, (RX1, TX1, 6), rfl, rfl⟩
theorem lkRX0_12 : LnkOK MT RX0 (9, 66, 0, 0, 0, 0) := ⟨tb_3 111 rfl rfl, tb_3 22 rfl rfl, tb_1 12 rfl rfl, tb_3 23 rfl rfl⟩
theorem lkRX0_13 : LnkOK MT RX0 (0, 22, 0, 3, 0, 0) := ⟨RX0, TX0, 9, tyX0, rfl, rfl, by decide +kernel, by decide +kernel, uw0, tb_1 169 rfl rfl, tyX0_ok, nmX0, fun h => by cases h⟩
theorem lkRX0_14 : LnkOK MT RX0 (0, 71, 6, 1, 0, 0) := ⟨RX6, TX6, 5, tyX6, rfl, rfl, by decide +kernel, by decide +kernel, uw6, tb_1 135 rfl rfl, tyX6_ok, nmX6, fun h => by cases h⟩
theorem lkRX0_15 : LnkOK MT RX0 (1, 22, 0, 3, 0, 0) := ⟨RX0, TX0, 9, tyX0, rfl, rfl, by decide +kernel, by decide +kernel, uw0, tb_1 169 rfl rfl, tyX0_ok, nmX0, fun _ => ⟨by decide +kernel, by decide +kernel⟩⟩
theorem lkRX0_16 : LnkOK MT RX0 (1, 74, 0, 4, 0, 0) := ⟨RX0, TX0, 9, tyX0, rfl, rfl, by decide +kernel, by decide +kernel, uw0, tb_1 170 rfl rfl, tyX0_ok, nmX0, fun _ => ⟨by decide +kernel, by decide +kernel⟩⟩
theorem lkRX0_17 : LnkOK MT RX0 (1, 77, 0, 5, 0, 0) := ⟨RX0, TX0, 9, tyX0, rfl, rfl, by decide +kernel, by decide +kernel, uw0, tb_1 172 rfl rfl, tyX0_ok, nmX0, fun _ => ⟨by decide +kernel, by decide +kernel⟩⟩
theorem lkRX0_18 : LnkOK MT RX0 (0, 77, 0, 5, 0, 0) := ⟨RX0, TX0, 9, tyX0, rfl, rfl, by decide +kernel, by decide +kernel, uw0, tb_1 172 rfl rfl, tyX0_ok, nmX0, fun h => by cases h⟩
theorem lkRX0_19 : LnkOK MT RX0 (3, 80, 0, 1, 0, 0) := ⟨cal0, tb_3 100 rfl rfl, tb_3 74 rfl rfl, tb_3 75 rfl rfl, (RX0, TX0, 9), rfl, rfl⟩
theorem lkRX0_20 : LnkOK MT RX0 (3, 84, 3, 1, 0, 0) := ⟨cal3, tb_3 101 rfl rfl, tb_3 103 rfl rfl, tb_p 12 rfl rfl, (RX0, TX0, 9), rfl, rfl⟩
theorem lkRX0_21 : LnkOK MT RX0 (3, 88, 1, 0, 0, 0) := ⟨cal1, tb_3 105 rfl rfl, tb_3 106 rfl rfl, tb_3 107 rfl rfl, (RX0, TX0, 9), rfl, rfl⟩
theorem lkRX0_22 : LnkOK MT RX0 (0, 74, 0, 4, 0, 0) := ⟨RX0, TX0, 9, tyX0, rfl, rfl, by decide +kernel, by decide +kernel, uw0, tb_1 170 rfl rfl, tyX0_ok, nmX0, fun h => by cases h⟩
theorem lkRX0_23 : LnkOK MT RX0 (1, 92, 0, 6, 0, 0) := ⟨RX0, TX0, 9, tyX0, rfl, rfl, by decide +kernel, by decide +kernel, uw0, tb_1 174 rfl rfl, tyX0_ok, nmX0, fun _ => ⟨by decide +kernel, by decide +kernel⟩⟩
theorem lkRX0_24 : LnkOK MT RX0 (0, 95, 0, 8, 1, 0) := ⟨RX0, TX0, 9, tyX0, rfl, rfl, by decide +kernel, by decide +kernel, uw0, tb_1 178 rfl rfl, tyX0_ok, nmX0, fun h => by cases h⟩
theorem lkRX0_25 : LnkOK MT RX0 (1, 99, 0, 7, 0, 0) := ⟨RX0, TX0, 9, tyX0, rfl, rfl, by decide +kernel, by decide +kernel, uw0, tb_1 176 rfl rfl, tyX0_ok, nmX0, fun _ => ⟨by decide +kernel, by decide +kernel⟩⟩
theorem lkRX0_26 : LnkOK MT RX0 (1, 95, 0, 8, 1, 0) := ⟨RX0, TX0, 9, tyX0, rfl, rfl, by decide +kernel, by decide +kernel, uw0, tb_1 178 rfl rfl, tyX0_ok, nmX0, fun _ => ⟨by decide +kernel, by decide +kernel⟩⟩
def lkRX0 : List Lnk := [(4, 30, 228, 1, 0, 0), (0, 26, 0, 0, 2, 0), (0, 36, 6, 4, 2, 0), (0, 41, 1, 3, 0, 0), (0, 12, 0, 1, 2, 0), (0, 44, 6, 2, 2, 0), (0, 48, 6, 0, 0, 0), (3, 51, 4, 3, 1, 0), (0, 55, 1, 4, 0, 0), (4, 58, 112, 2, 0, 0), (0, 18, 0, 2, 2, 0), (3, 62, 7, 2, 1, 0), (9, 66, 0, 0, 0, 0), (0, 22, 0, 3, 0, 0), (0, 71, 6, 1, 0, 0), (1, 22, 0, 3, 0, 0), (1, 74, 0, 4, 0, 0), (1, 77, 0, 5, 0, 0), (0, 77, 0, 5, 0, 0), (3, 80, 0, 1, 0, 0), (3, 84, 3, 1, 0, 0), (3, 88, 1, 0, 0, 0), (0, 74, 0, 4, 0, 0), (1, 92, 0, 6, 0, 0), (0, 95, 0, 8, 1, 0), (1, 99, 0, 7, 0, 0), (1, 95, 0, 8, 1, 0)]
theorem lkRX0_ok : ∀ q ∈ lkRX0, LnkOK MT RX0 q := List.forall_mem_cons.mpr ⟨lkRX0_0, List.forall_mem_cons.mpr ⟨lkRX0_1, List.forall_mem_cons.mpr ⟨lkRX0_2, List.forall_mem_cons.mpr ⟨lkRX0_3, List.forall_mem_cons.mpr ⟨lkRX0_4, List.forall_mem_cons.mpr ⟨lkRX0_5, List.forall_mem_cons.mpr ⟨lkRX0_6, List.forall_mem_cons.mpr ⟨lkRX0_7, List.forall_mem_cons.mpr ⟨lkRX0_8, List.forall_mem_cons.mpr ⟨lkRX0_9, List.forall_mem_cons.mpr ⟨lkRX0_10, List.forall_mem_cons.mpr ⟨lkRX0_11, List.forall_mem_cons.mpr ⟨lkRX0_12, List.forall_mem_cons.mpr ⟨lkRX0_13, List.forall_mem_cons.mpr ⟨lkRX0_14, List.forall_mem_cons.mpr ⟨lkRX0_15, List.forall_mem_cons.mpr ⟨lkRX0_16, List.forall_mem_cons.mpr ⟨lkRX0_17, List.forall_mem_cons.mpr ⟨lkRX0_18, List.forall_mem_cons.mpr ⟨lkRX0_19, List.forall_mem_cons.mpr ⟨lkRX0_20, List.forall_mem_cons.mpr ⟨lkRX0_21, List.forall_mem_cons.mpr ⟨lkRX0_22, List.forall_mem_cons.mpr ⟨lkRX0_23, List.forall_mem_cons.mpr ⟨lkRX0_24, List.forall_mem_cons.mpr ⟨lkRX0_25, List.forall_mem_cons.mpr ⟨lkRX0_26, fun _ h => absurd h List.not_mem_nil⟩⟩⟩⟩⟩⟩⟩⟩⟩⟩⟩⟩⟩⟩⟩⟩⟩⟩⟩⟩⟩⟩⟩⟩⟩⟩⟩
theorem lkRX1_0 : LnkOK MT RX1 (1, 24, 1, 2, 0, 0) := ⟨RX1, TX1, 6, tyX1, rfl, rfl, by decide +kernel, by decide +kernel, uw1, tb_1 106 rfl rfl, tyX1_ok, nmX1, fun _ => ⟨by decide +kernel, by decide +kernel⟩⟩
theorem lkRX1_1 : LnkOK MT RX1 (1, 28, 1, 3, 0, 0) := ⟨RX1, TX1, 6, tyX1, rfl, rfl, by decide +kernel, by decide +kernel, uw1, tb_1 107 rfl rfl, tyX1_ok, nmX1, fun _ => ⟨by decide +kernel, by decide +kernel⟩⟩
theorem lkRX1_2 : LnkOK MT RX1 (1, 31, 1, 4, 0, 0) := ⟨RX1, TX1, 6, tyX1, rfl, rfl, by decide +kernel, by decide +kernel, uw1, tb_1 110 rfl rfl, tyX1_ok, nmX1, fun _ => ⟨by decide +kernel, by decide +kernel⟩⟩
theorem lkRX1_3 : LnkOK MT RX1 (1, 20, 1, 5, 1, 0) := ⟨RX1, TX1, 6, tyX1, rfl, rfl, by decide +kernel, by decide +kernel, uw1, tb_1 113 rfl rfl, tyX1_ok, nmX1, fun _ => ⟨by decide +kernel, by decide +kernel⟩⟩
theorem lkRX1_4 : LnkOK MT RX1 (0, 24, 1, 2, 0, 0) := ⟨RX1, TX1, 6, tyX1, rfl, rfl, by decide +kernel, by decide +kernel, uw1, tb_1 106 rfl rfl, tyX1_ok, nmX1, fun h => by cases h⟩
theorem lkRX1_5 : LnkOK MT RX1 (0, 11, 1, 0, 2, 0) := ⟨RX1, TX1, 6, tyX1, rfl, rfl, by decide +kernel, by decide +kernel, uw1, tb_1 104 rfl rfl, tyX1_ok, nmX1, fun h => by cases h⟩
theorem lkRX1_6 : LnkOK MT RX1 (4, 34, 112, 2, 0, 0) := ⟨cal112, Or.inr ⟨"PureGroups", lw_2 140 rfl⟩, tb_2 141 rfl rfl⟩
theorem lkRX1_7 : LnkOK MT RX1 (3, 38, 5, 1, 1, 0) := ⟨cal5, tb_2 143 rfl rfl, tb_2 145 rfl rfl, tb_p 1 rfl rfl, (RX1, TX1, 6), rfl, rfl⟩
theorem lkRX1_8 : LnkOK MT RX1 (3, 42, 6, 1, 1, 0) := ⟨cal6, tb_2 147 rfl rfl, tb_2 149 rfl rfl, tb_p 2 rfl rfl, (RX1, TX1, 6), rfl, rfl⟩
theorem lkRX1_9 : LnkOK MT RX1 (0, 16, 1, 1, 2, 0) := ⟨RX1, TX1, 6, tyX1, rfl, rfl, by decide +kernel, by decide +kernel, uw1, tb_1 105 rfl rfl, tyX1_ok, nmX1, fun h => by cases h⟩
theorem lkRX1_10 : LnkOK MT RX1 (0, 28, 1, 3, 0, 0) := ⟨RX1, TX1, 6, tyX1, rfl, rfl, by decide +kernel, by decide +kernel, uw1, tb_1 107 rfl rfl, tyX1_ok, nmX1, fun h => by cases h⟩
theorem lkRX1_11 : LnkOK MT RX1 (0, 31, 1, 4, 0, 0) := ⟨RX1, TX1, 6, tyX1, rfl, rfl, by decide +kernel, by decide +kernel, uw1, tb_1 110 rfl rfl, tyX1_ok, nmX1, fun h => by cases h⟩
theorem lkRX1_12 : LnkOK MT RX1 (0, 20, 1, 5, 1, 0) := ⟨RX1, TX1, 6, tyX1, rfl, rfl, by decide +kernel, by decide +kernel, uw1, tb_1 113 rfl rfl, tyX1_ok, nmX1, fun h => by cases h⟩
theorem lkRX1_13 : LnkOK MT RX1 (4, 46, 230, 2, 0, 0) := ⟨cal230, Or.inl (tb_2 226 rfl rfl), tb_2 110 rfl rfl⟩
theorem lkRX1_14 : LnkOK MT RX1 (4, 52, 115, 2, 0, 0) := ⟨cal115, Or.inr ⟨"PureGroups", lw_2 227 rfl⟩, tb_2 228 rfl rfl⟩
theorem lkRX1_15 : LnkOK MT RX1 (10, 56, 0, 0, 0, 0) := ⟨tb_2 233 rfl rfl, tb_2 231 rfl rfl, tb_1 12 rfl rfl, tb_2 232 rfl rfl⟩
def lkRX1 : List Lnk := [(1, 24, 1, 2, 0, 0), (1, 28, 1, 3, 0, 0), (1, 31, 1, 4, 0, 0), (1, 20, 1, 5, 1, 0), (0, 24, 1, 2, 0, 0), (0, 11, 1, 0, 2, 0), (4, 34, 112, 2, 0, 0), (3, 38, 5, 1, 1, 0), (3, 42, 6, 1, 1, 0), (0, 16, 1, 1, 2, 0), (0, 28, 1, 3, 0, 0), (0, 31, 1, 4, 0, 0), (0, 20, 1, 5, 1, 0), (4, 46, 230, 2, 0, 0), (4, 52, 115, 2, 0, 0), (10, 56, 0, 0, 0, 0)]
theorem lkRX1_ok : ∀ q ∈ lkRX1, LnkOK MT RX1 q := List.forall_mem_cons.mpr ⟨lkRX1_0, List.forall_mem_cons.mpr ⟨lkRX1_1, List.forall_mem_cons.mpr ⟨lkRX1_2, List.forall_mem_cons.mpr ⟨lkRX1_3, List.forall_mem_cons.mpr ⟨lkRX1_4, List.forall_mem_cons.mpr ⟨lkRX1_5, List.forall_mem_cons.mpr ⟨lkRX1_6, List.forall_mem_cons.mpr ⟨lkRX1_7, List.forall_mem_cons.mpr ⟨lkRX1_8, List.forall_mem_cons.mpr ⟨lkRX1_9, List.forall_mem_cons.mpr ⟨lkRX1_10, List.forall_mem_cons.mpr ⟨lkRX1_11, List.forall_mem_cons.mpr ⟨lkRX1_12, List.forall_mem_cons.mpr ⟨lkRX1_13, List.forall_mem_cons.mpr ⟨lkRX1_14, List.forall_mem_cons.mpr ⟨lkRX1_15, fun _ h => absurd h List.not_mem_nil⟩⟩⟩⟩⟩⟩⟩⟩⟩⟩⟩⟩⟩⟩⟩⟩
theorem lkRX2_0 : LnkOK MT RX2 (0, 11, 2, 0, 2, 0) := ⟨RX2, TX2, 3, tyX2, rfl, rfl, by decide +kernel, by decide +kernel, uw2, tb_1 78 rfl rfl, tyX2_ok, nmX2, fun h => by cases h⟩
theorem lkRX2_1 : LnkOK MT RX2 (0, 16, 2, 1, 0, 0) := ⟨RX2, TX2, 3, tyX2, rfl, rfl, by decide +kernel, by decide +kernel, uw2, tb_1 79 rfl rfl, tyX2_ok, nmX2, fun h => by cases h⟩
theorem lkRX2_2 : LnkOK MT RX2 (1, 16, 2, 1, 0, 0) := ⟨RX2, TX2, 3, tyX2, rfl, rfl, by decide +kernel, by decide +kernel, uw2, tb_1 79 rfl rfl, tyX2_ok, nmX2, fun _ => ⟨by decide +kernel, by decide +kernel⟩⟩
theorem lkRX2_3 : LnkOK MT RX2 (0, 20, 2, 2, 0, 0) := ⟨RX2, TX2, 3, tyX2, rfl, rfl, by decide +kernel, by decide +kernel, uw2, tb_1 80 rfl rfl, tyX2_ok, nmX2, fun h => by cases h⟩
theorem lkRX2_4 : LnkOK MT RX2 (12, 23, 0, 0, 0, 0) := ⟨tb_2 171 rfl rfl, tb_2 172 rfl rfl, tb_1 12 rfl rfl, tb_2 173 rfl rfl⟩
theorem lkRX2_5 : LnkOK MT RX2 (1, 20, 2, 2, 0, 0) := ⟨RX2, TX2, 3, tyX2, rfl, rfl, by decide +kernel, by decide +kernel, uw2, tb_1 80 rfl rfl, tyX2_ok, nmX2, fun _ => ⟨by decide +kernel, by decide +kernel⟩⟩
theorem lkRX2_6 : LnkOK MT RX2 (11, 29, 0, 0, 0, 0) := ⟨tb_4 112 rfl rfl, tb_4 113 rfl rfl, tb_1 12 rfl rfl, tb_4 114 rfl rfl⟩
theorem lkRX2_7 : LnkOK MT RX2 (0, 32, 3, 2, 2, 0) := ⟨RX3, TX3, 8, tyX3, rfl, rfl, by decide +kernel, by decide +kernel, uw3, tb_1 40 rfl rfl, tyX3_ok, nmX3, fun h => by cases h⟩
theorem lkRX2_8 : LnkOK MT RX2 (0, 37, 3, 1, 2, 0) := ⟨RX3, TX3, 8, tyX3, rfl, rfl, by decide +kernel, by decide +kernel, uw3, tb_1 35 rfl rfl, tyX3_ok, nmX3, fun h => by cases h⟩
theorem lkRX2_9 : LnkOK MT RX2 (0, 41, 3, 3, 2, 0) := ⟨RX3, TX3, 8, tyX3, rfl, rfl, by decide +kernel, by decide +kernel, uw3, tb_1 42 rfl rfl, tyX3_ok, nmX3, fun h => by cases h⟩
theorem lkRX2_10 : LnkOK MT RX2 (0, 44, 3, 4, 2, 0) := ⟨RX3, TX3, 8, tyX3, rfl, rfl, by decide +kernel, by decide +kernel, uw3, tb_1 45 rfl rfl, tyX3_ok, nmX3, fun h => by cases h⟩
def lkRX2 : List Lnk := [(0, 11, 2, 0, 2, 0), (0, 16, 2, 1, 0, 0), (1, 16, 2, 1, 0, 0), (0, 20, 2, 2, 0, 0), (12, 23, 0, 0, 0, 0), (1, 20, 2, 2, 0, 0), (11, 29, 0, 0, 0, 0), (0, 32, 3, 2, 2, 0), (0, 37, 3, 1, 2, 0), (0, 41, 3, 3, 2, 0), (0, 44, 3, 4, 2, 0)]
theorem lkRX2_ok : ∀ q ∈ lkRX2, LnkOK MT RX2 q := List.forall_mem_cons.mpr ⟨lkRX2_0, List.forall_mem_cons.mpr ⟨lkRX2_1, List.forall_mem_cons.mpr ⟨lkRX2_2, List.forall_mem_cons.mpr ⟨lkRX2_3, List.forall_mem_cons.mpr ⟨lkRX2_4, List.forall_mem_cons.mpr ⟨lkRX2_5, List.forall_mem_cons.mpr ⟨lkRX2_6, List.forall_mem_cons.mpr ⟨lkRX2_7, List.forall_mem_cons.mpr ⟨lkRX2_8, List.forall_mem_cons.mpr ⟨lkRX2_9, List.forall_mem_cons.mpr ⟨lkRX2_10, fun _ h => absurd h List.not_mem_nil⟩⟩⟩⟩⟩⟩⟩⟩⟩⟩⟩
theorem lkRX3_0 : LnkOK MT RX3 (0, 33, 3, 0, 0, 0) := ⟨RX3, TX3, 8, tyX3, rfl, rfl, by decide +kernel, by decide +kernel, uw3, tb_1 31 rfl rfl, tyX3_ok, nmX3, fun h => by cases h⟩
theorem lkRX3_1 : LnkOK MT RX3 (1, 33, 3, 0, 0, 0) := ⟨RX3, TX3, 8, tyX3, rfl, rfl, by decide +kernel, by decide +kernel, uw3, tb_1 31 rfl rfl, tyX3_ok, nmX3, fun _ => ⟨by decide +kernel, by decide +kernel⟩⟩
theorem lkRX3_2 : LnkOK MT RX3 (0, 9, 3, 1, 2, 0) := ⟨RX3, TX3, 8, tyX3, rfl, rfl, by decide +kernel, by decide +kernel, uw3, tb_1 33 rfl rfl, tyX3_ok, nmX3, fun h => by cases h⟩
theorem lkRX3_3 : LnkOK MT RX3 (0, 20, 3, 3, 2, 0) := ⟨RX3, TX3, 8, tyX3, rfl, rfl, by decide +kernel, by decide +kernel, uw3, tb_1 41 rfl rfl, tyX3_ok, nmX3, fun h => by cases h⟩
theorem lkRX3_4 : LnkOK MT RX3 (0, 23, 3, 4, 2, 0) := ⟨RX3, TX3, 8, tyX3, rfl, rfl, by decide +kernel, by decide +kernel, uw3, tb_1 44 rfl rfl, tyX3_ok, nmX3, fun h => by cases h⟩
theorem lkRX3_5 : LnkOK MT RX3 (0, 17, 3, 2, 2, 0) := ⟨RX3, TX3, 8, tyX3, rfl, rfl, by decide +kernel, by decide +kernel, uw3, tb_1 37 rfl rfl, tyX3_ok, nmX3, fun h => by cases h⟩
theorem lkRX3_6 : LnkOK MT RX3 (8, 36, 0, 0, 0, 0) := ⟨tb_4 45 rfl rfl, tb_2 125 rfl rfl, tb_2 124 rfl rfl, tb_1 11 rfl rfl⟩
theorem lkRX3_7 : LnkOK MT RX3 (0, 26, 3, 5, 2, 0) := ⟨RX3, TX3, 8, tyX3, rfl, rfl, by decide +kernel, by decide +kernel, uw3, tb_1 47 rfl rfl, tyX3_ok, nmX3, fun h => by cases h⟩
theorem lkRX3_8 : LnkOK MT RX3 (0, 42, 3, 6, 0, 0) := ⟨RX3, TX3, 8, tyX3, rfl, rfl, by decide +kernel, by decide +kernel, uw3, tb_1 49 rfl rfl, tyX3_ok, nmX3, fun h => by cases h⟩
theorem lkRX3_9 : LnkOK MT RX3 (0, 29, 3, 7, 0, 0) := ⟨RX3, TX3, 8, tyX3, rfl, rfl, by decide +kernel, by decide +kernel, uw3, tb_1 51 rfl rfl, tyX3_ok, nmX3, fun h => by cases h⟩
theorem lkRX3_10 : LnkOK MT RX3 (3, 45, 13, 3, 3, 0) := ⟨cal13, tb_4 123 rfl rfl, tb_4 41 rfl rfl, tb_4 42 rfl rfl, (RX3, TX3, 8), rfl, rfl⟩
theorem lkRX3_11 : LnkOK MT RX3 (4, 49, 230, 2, 0, 0) := ⟨cal230, Or.inl (tb_2 109 rfl rfl), tb_2 110 rfl rfl⟩
theorem lkRX3_12 : LnkOK MT RX3 (12, 55, 0, 0, 0, 0) := ⟨tb_4 44 rfl rfl, tb_2 172 rfl rfl, tb_1 12 rfl rfl, tb_2 173 rfl rfl⟩
theorem lkRX3_13 : LnkOK MT RX3 (1, 42, 3, 6, 0, 0) := ⟨RX3, TX3, 8, tyX3, rfl, rfl, by decide +kernel, by decide +kernel, uw3, tb_1 49 rfl rfl, tyX3_ok, nmX3, fun _ => ⟨by decide +kernel, by decide +kernel⟩⟩
theorem lkRX3_14 : LnkOK MT RX3 (1, 29, 3, 7, 0, 0) := ⟨RX3, TX3, 8, tyX3, rfl, rfl, by decide +kernel, by decide +kernel, uw3, tb_1 51 rfl rfl, tyX3_ok, nmX3, fun _ => ⟨by decide +kernel, by decide +kernel⟩⟩
theorem lkRX3_15 : LnkOK MT RX3 (3, 61, 15, 1, 3, 0) := ⟨cal15, tb_3 148 rfl rfl, tb_3 130 rfl rfl, tb_3 131 rfl rfl, (RX3, TX3, 8), rfl, rfl⟩
theorem lkRX3_16 : LnkOK MT RX3 (3, 65, 16, 0, 3, 0) := ⟨cal16, tb_3 144 rfl rfl, tb_3 145 rfl rfl, tb_3 146 rfl rfl, (RX3, TX3, 8), rfl, rfl⟩
theorem lkRX3_17 : LnkOK MT RX3 (4, 69, 112, 2, 0, 0) := ⟨cal112, Or.inr ⟨"PureGroups", lw_3 159 rfl⟩, tb_2 141 rfl rfl⟩
theorem lkRX3_18 : LnkOK MT RX3 (4, 72, 19, 2, 0, 0) := ⟨cal19, Or.inl (tb_3 160 rfl rfl), tb_3 161 rfl rfl⟩
def lkRX3 : List Lnk := [(0, 33, 3, 0, 0, 0), (1, 33, 3, 0, 0, 0), (0, 9, 3, 1, 2, 0), (0, 20, 3, 3, 2, 0), (0, 23, 3, 4, 2, 0), (0, 17, 3, 2, 2, 0), (8, 36, 0, 0, 0, 0), (0, 26, 3, 5, 2, 0), (0, 42, 3, 6, 0, 0), (0, 29, 3, 7, 0, 0), (3, 45, 13, 3, 3, 0), (4, 49, 230, 2, 0, 0), (12, 55, 0, 0, 0, 0), (1, 42, 3, 6, 0, 0), (1, 29, 3, 7, 0, 0), (3, 61, 15, 1, 3, 0), (3, 65, 16, 0, 3, 0), (4, 69, 112, 2, 0, 0), (4, 72, 19, 2, 0, 0)]
theorem lkRX3_ok : ∀ q ∈ lkRX3, LnkOK MT RX3 q := List.forall_mem_cons.mpr ⟨lkRX3_0, List.forall_mem_cons.mpr ⟨lkRX3_1, List.forall_mem_cons.mpr ⟨lkRX3_2, List.forall_mem_cons.mpr ⟨lkRX3_3, List.forall_mem_cons.mpr ⟨lkRX3_4, List.forall_mem_cons.mpr ⟨lkRX3_5, List.forall_mem_cons.mpr ⟨lkRX3_6, List.forall_mem_cons.mpr ⟨lkRX3_7, List.forall_mem_cons.mpr ⟨lkRX3_8, List.forall_mem_cons.mpr ⟨lkRX3_9, List.forall_mem_cons.mpr ⟨lkRX3_10, List.forall_mem_cons.mpr ⟨lkRX3_11, List.forall_mem_cons.mpr ⟨lkRX3_12, List.forall_mem_cons.mpr ⟨lkRX3_13, List.forall_mem_cons.mpr ⟨lkRX3_14, List.forall_mem_cons.mpr ⟨lkRX3_15, List.forall_mem_cons.mpr ⟨lkRX3_16, List.forall_mem_cons.mpr ⟨lkRX3_17, List.forall_mem_cons.mpr ⟨lkRX3_18, fun _ h => absurd h List.not_mem_nil⟩⟩⟩⟩⟩⟩⟩⟩⟩⟩⟩⟩⟩⟩⟩⟩⟩⟩⟩
theorem lkRX4_0 : LnkOK MT RX4 (12, 43, 0, 0, 0, 0) := ⟨tb_3 222 rfl rfl, tb_2 172 rfl rfl, tb_1 12 rfl rfl, tb_2 173 rfl rfl⟩
theorem lkRX4_1 : LnkOK MT RX4 (1, 49, 4, 2, 0, 0) := ⟨RX4, TX4, 13, tyX4, rfl, rfl, by decide +kernel, by decide +kernel, uw4, tb_1 237 rfl rfl, tyX4_ok, nmX4, fun _ => ⟨by decide +kernel, by decide +kernel⟩⟩
theorem lkRX4_2 : LnkOK MT RX4 (0, 9, 4, 1, 2, 0) := ⟨RX4, TX4, 13, tyX4, rfl, rfl, by decide +kernel, by decide +kernel, uw4, tb_1 236 rfl rfl, tyX4_ok, nmX4, fun h => by cases h⟩
theorem lkRX4_3 : LnkOK MT RX4 (0, 49, 4, 2, 0, 0) := ⟨RX4, TX4, 13, tyX4, rfl, rfl, by decide +kernel, by decide +kernel, uw4, tb_1 237 rfl rfl, tyX4_ok, nmX4, fun h => by cases h⟩
theorem lkRX4_4 : LnkOK MT RX4 (8, 52, 0, 0, 0, 0) := ⟨tb_3 223 rfl rfl, tb_2 125 rfl rfl, tb_2 124 rfl rfl, tb_1 11 rfl rfl⟩
theorem lkRX4_5 : LnkOK MT RX4 (1, 58, 4, 3, 0, 0) := ⟨RX4, TX4, 13, tyX4, rfl, rfl, by decide +kernel, by decide +kernel, uw4, tb_1 238 rfl rfl, tyX4_ok, nmX4, fun _ => ⟨by decide +kernel, by decide +kernel⟩⟩
theorem lkRX4_6 : LnkOK MT RX4 (1, 15, 4, 4, 0, 0) := ⟨RX4, TX4, 13, tyX4, rfl, rfl, by decide +kernel, by decide +kernel, uw4, tb_1 239 rfl rfl, tyX4_ok, nmX4, fun _ => ⟨by decide +kernel, by decide +kernel⟩⟩
theorem lkRX4_7 : LnkOK MT RX4 (1, 61, 4, 5, 0, 0) := ⟨RX4, TX4, 13, tyX4, rfl, rfl, by decide +kernel, by decide +kernel, uw4, tb_2 1 rfl rfl, tyX4_ok, nmX4, fun _ => ⟨by decide +kernel, by decide +kernel⟩⟩
theorem lkRX4_8 : LnkOK MT RX4 (1, 64, 4, 6, 0, 0) := ⟨RX4, TX4, 13, tyX4, rfl, rfl, by decide +kernel, by decide +kernel, uw4, tb_2 3 rfl rfl, tyX4_ok, nmX4, fun _ => ⟨by decide +kernel, by decide +kernel⟩⟩
theorem lkRX4_9 : LnkOK MT RX4 (0, 19, 4, 7, 2, 0) := ⟨RX4, TX4, 13, tyX4, rfl, rfl, by decide +kernel, by decide +kernel, uw4, tb_2 5 rfl rfl, tyX4_ok, nmX4, fun h => by cases h⟩
theorem lkRX4_10 : LnkOK MT RX4 (4, 67, 230, 2, 0, 0) := ⟨cal230, Or.inl (tb_3 224 rfl rfl), tb_2 110 rfl rfl⟩
theorem lkRX4_11 : LnkOK MT RX4 (3, 73, 21, 1, 4, 0) := ⟨cal21, tb_3 225 rfl rfl, tb_3 227 rfl rfl, tb_p 15 rfl rfl, (RX4, TX4, 13), rfl, rfl⟩
theorem lkRX4_12 : LnkOK MT RX4 (0, 24, 4, 8, 2, 0) := ⟨RX4, TX4, 13, tyX4, rfl, rfl, by decide +kernel, by decide +kernel, uw4, tb_2 6 rfl rfl, tyX4_ok, nmX4, fun h => by cases h⟩
theorem lkRX4_13 : LnkOK MT RX4 (0, 33, 4, 11, 2, 0) := ⟨RX4, TX4, 13, tyX4, rfl, rfl, by decide +kernel, by decide +kernel, uw4, tb_2 9 rfl rfl, tyX4_ok, nmX4, fun h => by cases h⟩
theorem lkRX4_14 : LnkOK MT RX4 (0, 58, 4, 3, 0, 0) := ⟨RX4, TX4, 13, tyX4, rfl, rfl, by decide +kernel, by decide +kernel, uw4, tb_1 238 rfl rfl, tyX4_ok, nmX4, fun h => by cases h⟩
theorem lkRX4_15 : LnkOK MT RX4 (3, 77, 31, 1, 4, 0) := ⟨cal31, tb_4 16 rfl rfl, tb_4 18 rfl rfl, tb_p 22 rfl rfl, (RX4, TX4, 13), rfl, rfl⟩
theorem lkRX4_16 : LnkOK MT RX4 (0, 36, 4, 12, 2, 0) := ⟨RX4, TX4, 13, tyX4, rfl, rfl, by decide +kernel, by decide +kernel, uw4, tb_2 11 rfl rfl, tyX4_ok, nmX4, fun h => by cases h⟩
theorem lkRX4_17 : LnkOK MT RX4 (4, 80, 34, 2, 0, 0) := ⟨cal34, Or.inl (tb_4 37 rfl rfl), tb_4 38 rfl rfl⟩
theorem lkRX4_18 : LnkOK MT RX4 (3, 84, 33, 1, 4, 0) := ⟨cal33, tb_4 25 rfl rfl, tb_4 27 rfl rfl, tb_p 24 rfl rfl, (RX4, TX4, 13), rfl, rfl⟩
theorem lkRX4_19 : LnkOK MT RX4 (3, 87, 22, 1, 4, 0) := ⟨cal22, tb_3 229 rfl rfl, tb_3 231 rfl rfl, tb_p 16 rfl rfl, (RX4, TX4, 13), rfl, rfl⟩
theorem lkRX4_20 : LnkOK MT RX4 (0, 27, 4, 9, 2, 0) := ⟨RX4, TX4, 13, tyX4, rfl, rfl, by decide +kernel, by decide +kernel, uw4, tb_2 7 rfl rfl, tyX4_ok, nmX4, fun h => by cases h⟩
theorem lkRX4_21 : LnkOK MT RX4 (3, 90, 29, 2, 4, 0) := ⟨cal29, tb_4 33 rfl rfl, tb_4 35 rfl rfl, tb_p 26 rfl rfl, (RX4, TX4, 13), rfl, rfl⟩
theorem lkRX4_22 : LnkOK MT RX4 (0, 61, 4, 5, 0, 0) := ⟨RX4, TX4, 13, tyX4, rfl, rfl, by decide +kernel, by decide +kernel, uw4, tb_2 1 rfl rfl, tyX4_ok, nmX4, fun h => by cases h⟩
theorem lkRX4_23 : LnkOK MT RX4 (3, 94, 23, 2, 4, 0) := ⟨cal23, tb_3 233 rfl rfl, tb_3 235 rfl rfl, tb_p 17 rfl rfl, (RX4, TX4, 13), rfl, rfl⟩
theorem lkRX4_24 : LnkOK MT RX4 (3, 98, 28, 0, 4, 0) := ⟨cal28, tb_4 1 rfl rfl, tb_4 3 rfl rfl, tb_p 19 rfl rfl, (RX4, TX4, 13), rfl, rfl⟩
theorem lkRX4_25 : LnkOK MT RX4 (3, 102, 24, 1, 4, 0) := ⟨cal24, tb_3 237 rfl rfl, tb_3 239 rfl rfl, tb_p 18 rfl rfl, (RX4, TX4, 13), rfl, rfl⟩
theorem lkRX4_26 : LnkOK MT RX4 (3, 106, 27, 0, 4, 0) := ⟨cal27, tb_4 29 rfl rfl, tb_4 31 rfl rfl, tb_p 25 rfl rfl, (RX4, TX4, 13), rfl, rfl⟩
theorem lkRX4_27 : LnkOK MT RX4 (0, 39, 4, 0, 2, 0) := ⟨RX4, TX4, 13, tyX4, rfl, rfl, by decide +kernel, by decide +kernel, uw4, tb_1 235 rfl rfl, tyX4_ok, nmX4, fun h => by cases h⟩
theorem lkRX4_28 : LnkOK MT RX4 (0, 109, 6, 0, 0, 0) := ⟨RX6, TX6, 5, tyX6, rfl, rfl, by decide +kernel, by decide +kernel, uw6, tb_1 131 rfl rfl, tyX6_ok, nmX6, fun h => by cases h⟩
theorem lkRX4_29 : LnkOK MT RX4 (0, 64, 4, 6, 0, 0) := ⟨RX4, TX4, 13, tyX4, rfl, rfl, by decide +kernel, by decide +kernel, uw4, tb_2 3 rfl rfl, tyX4_ok, nmX4, fun h => by cases h⟩
theorem lkRX4_30 : LnkOK MT RX4 (0, 114, 6, 2, 2, 0) := ⟨RX6, TX6, 5, tyX6, rfl, rfl, by decide +kernel, by decide +kernel, uw6, tb_1 138 rfl rfl, tyX6_ok, nmX6, fun h => by cases h⟩
theorem lkRX4_31 : LnkOK MT RX4 (4, 117, 30, 1, 0, 0) := ⟨cal30, Or.inl (tb_4 5 rfl rfl), tb_4 6 rfl rfl⟩
theorem lkRX4_32 : LnkOK MT RX4 (3, 121, 26, 0, 4, 0) := ⟨cal26, tb_4 8 rfl rfl, tb_4 10 rfl rfl, tb_p 20 rfl rfl, (RX4, TX4, 13), rfl, rfl⟩
theorem lkRX4_33 : LnkOK MT RX4 (0, 30, 4, 10, 2, 0) := ⟨RX4, TX4, 13, tyX4, rfl, rfl, by decide +kernel, by decide +kernel, uw4, tb_2 8 rfl rfl, tyX4_ok, nmX4, fun h => by cases h⟩
theorem lkRX4_34 : LnkOK MT RX4 (3, 124, 25, 2, 4, 0) := ⟨cal25, tb_4 12 rfl rfl, tb_4 14 rfl rfl, tb_p 21 rfl rfl, (RX4, TX4, 13), rfl, rfl⟩
theorem lkRX4_35 : LnkOK MT RX4 (3, 128, 32, 0, 4, 0) := ⟨cal32, tb_4 20 rfl rfl, tb_4 22 rfl rfl, tb_p 23 rfl rfl, (RX4, TX4, 13), rfl, rfl⟩
theorem lkRX4_36 : LnkOK MT RX4 (4, 131, 114, 1, 0, 0) := ⟨cal114, Or.inr ⟨"PureGroups", lw_4 24 rfl⟩, tb_2 188 rfl rfl⟩
theorem lkRX4_37 : LnkOK MT RX4 (0, 15, 4, 4, 0, 0) := ⟨RX4, TX4, 13, tyX4, rfl, rfl, by decide +kernel, by decide +kernel, uw4, tb_1 239 rfl rfl, tyX4_ok, nmX4, fun h => by cases h⟩
def lkRX4 : List Lnk := [(12, 43, 0, 0, 0, 0), (1, 49, 4, 2, 0, 0), (0, 9, 4, 1, 2, 0), (0, 49, 4, 2, 0, 0), (8, 52, 0, 0, 0, 0), (1, 58, 4, 3, 0, 0), (1, 15, 4, 4, 0, 0), (1, 61, 4, 5, 0, 0), (1, 64, 4, 6, 0, 0), (0, 19, 4, 7, 2, 0), (4, 67, 230, 2, 0, 0), (3, 73, 21, 1, 4, 0), (0, 24, 4, 8, 2, 0), (0, 33, 4, 11, 2, 0), (0, 58, 4, 3, 0, 0), (3, 77, 31, 1, 4, 0), (0, 36, 4, 12, 2, 0), (4, 80, 34, 2, 0, 0), (3, 84, 33, 1, 4, 0), (3, 87, 22, 1, 4, 0), (0, 27, 4, 9, 2, 0), (3, 90, 29, 2, 4, 0), (0, 61, 4, 5, 0, 0), (3, 94, 23, 2, 4, 0), (3, 98, 28, 0, 4, 0), (3, 102, 24, 1, 4, 0), (3, 106, 27, 0, 4, 0), (0, 39, 4, 0, 2, 0), (0, 109, 6, 0, 0, 0), (0, 64, 4, 6, 0, 0), (0, 114, 6, 2, 2, 0), (4, 117, 30, 1, 0, 0), (3, 121, 26, 0, 4, 0), (0, 30, 4, 10, 2, 0), (3, 124, 25, 2, 4, 0), (3, 128, 32, 0, 4, 0), (4, 131, 114, 1, 0, 0), (0, 15, 4, 4, 0, 0)]
theorem lkRX4_ok : ∀ q ∈ lkRX4, LnkOK MT RX4 q := List.forall_mem_cons.mpr ⟨lkRX4_0, List.forall_mem_cons.mpr ⟨lkRX4_1, List.forall_mem_cons.mpr ⟨lkRX4_2, List.forall_mem_cons.mpr ⟨lkRX4_3, List.forall_mem_cons.mpr ⟨lkRX4_4, List.forall_mem_cons.mpr ⟨lkRX4_5, List.forall_mem_cons.mpr ⟨lkRX4_6, List.forall_mem_cons.mpr ⟨lkRX4_7, List.forall_mem_cons.mpr ⟨lkRX4_8, List.forall_mem_cons.mpr ⟨lkRX4_9, List.forall_mem_cons.mpr ⟨lkRX4_10, List.forall_mem_cons.mpr ⟨lkRX4_11, List.forall_mem_cons.mpr ⟨lkRX4_12, List.forall_mem_cons.mpr ⟨lkRX4_13, List.forall_mem_cons.mpr ⟨lkRX4_14, List.forall_mem_cons.mpr ⟨lkRX4_15, List.forall_mem_cons.mpr ⟨lkRX4_16, List.forall_mem_cons.mpr ⟨lkRX4_17, List.forall_mem_cons.mpr ⟨lkRX4_18, List.forall_mem_cons.mpr ⟨lkRX4_19, List.forall_mem_cons.mpr ⟨lkRX4_20, List.forall_mem_cons.mpr ⟨lkRX4_21, List.forall_mem_cons.mpr ⟨lkRX4_22, List.forall_mem_cons.mpr ⟨lkRX4_23, List.forall_mem_cons.mpr ⟨lkRX4_24, List.forall_mem_cons.mpr ⟨lkRX4_25, List.forall_mem_cons.mpr ⟨lkRX4_26, List.forall_mem_cons.mpr ⟨lkRX4_27, List.forall_mem_cons.mpr ⟨lkRX4_28, List.forall_mem_cons.mpr ⟨lkRX4_29, List.forall_mem_cons.mpr ⟨lkRX4_30, List.forall_mem_cons.mpr ⟨lkRX4_31, List.forall_mem_cons.mpr ⟨lkRX4_32, List.forall_mem_cons.mpr ⟨lkRX4_33, List.forall_mem_cons.mpr ⟨lkRX4_34, List.forall_mem_cons.mpr ⟨lkRX4_35, List.forall_mem_cons.mpr ⟨lkRX4_36, List.forall_mem_cons.mpr ⟨lkRX4_37, fun _ h => absurd h List.not_mem_nil⟩⟩⟩⟩⟩⟩⟩⟩⟩⟩⟩⟩⟩⟩⟩⟩⟩⟩⟩⟩⟩⟩⟩⟩⟩⟩⟩⟩⟩⟩⟩⟩⟩⟩⟩⟩⟩⟩
theorem lkRX5_0 : LnkOK MT RX5 (0, 31, 5, 0, 2, 0) := ⟨RX5, TX5, 7, tyX5, rfl, rfl, by decide +kernel, by decide +kernel, uw5, tb_1 204 rfl rfl, tyX5_ok, nmX5, fun h => by cases h⟩
theorem lkRX5_1 : LnkOK MT RX5 (0, 35, 6, 3, 2, 0) := ⟨RX6, TX6, 5, tyX6, rfl, rfl, by decide +kernel, by decide +kernel, uw6, tb_1 141 rfl rfl, tyX6_ok, nmX6, fun h => by cases h⟩
theorem lkRX5_2 : LnkOK MT RX5 (0, 40, 6, 0, 0, 0) := ⟨RX6, TX6, 5, tyX6, rfl, rfl, by decide +kernel, by decide +kernel, uw6, tb_1 129 rfl rfl, tyX6_ok, nmX6, fun h => by cases h⟩
theorem lkRX5_3 : LnkOK MT RX5 (4, 43, 39, 4, 0, 0) := ⟨cal39, Or.inl (tb_3 48 rfl rfl), tb_3 49 rfl rfl⟩
theorem lkRX5_4 : LnkOK MT RX5 (0, 17, 5, 3, 0, 0) := ⟨RX5, TX5, 7, tyX5, rfl, rfl, by decide +kernel, by decide +kernel, uw5, tb_1 209 rfl rfl, tyX5_ok, nmX5, fun h => by cases h⟩
theorem lkRX5_5 : LnkOK MT RX5 (0, 47, 6, 1, 0, 0) := ⟨RX6, TX6, 5, tyX6, rfl, rfl, by decide +kernel, by decide +kernel, uw6, tb_1 134 rfl rfl, tyX6_ok, nmX6, fun h => by cases h⟩
theorem lkRX5_6 : LnkOK MT RX5 (1, 17, 5, 3, 0, 0) := ⟨RX5, TX5, 7, tyX5, rfl, rfl, by decide +kernel, by decide +kernel, uw5, tb_1 209 rfl rfl, tyX5_ok, nmX5, fun _ => ⟨by decide +kernel, by decide +kernel⟩⟩
theorem lkRX5_7 : LnkOK MT RX5 (1, 50, 5, 2, 0, 0) := ⟨RX5, TX5, 7, tyX5, rfl, rfl, by decide +kernel, by decide +kernel, uw5, tb_1 207 rfl rfl, tyX5_ok, nmX5, fun _ => ⟨by decide +kernel, by decide +kernel⟩⟩
theorem lkRX5_8 : LnkOK MT RX5 (0, 11, 5, 1, 2, 0) := ⟨RX5, TX5, 7, tyX5, rfl, rfl, by decide +kernel, by decide +kernel, uw5, tb_1 205 rfl rfl, tyX5_ok, nmX5, fun h => by cases h⟩
theorem lkRX5_9 : LnkOK MT RX5 (4, 53, 230, 2, 0, 0) := ⟨cal230, Or.inl (tb_3 59 rfl rfl), tb_2 110 rfl rfl⟩
theorem lkRX5_10 : LnkOK MT RX5 (0, 50, 5, 2, 0, 0) := ⟨RX5, TX5, 7, tyX5, rfl, rfl, by decide +kernel, by decide +kernel, uw5, tb_1 207 rfl rfl, tyX5_ok, nmX5, fun h => by cases h⟩
theorem lkRX5_11 : LnkOK MT RX5 (3, 59, 51, 0, 6, 0) := ⟨cal51, tb_3 60 rfl rfl, tb_2 183 rfl rfl, tb_2 184 rfl rfl, (RX6, TX6, 5), rfl, rfl⟩
theorem lkRX5_12 : LnkOK MT RX5 (4, 63, 41, 6, 0, 0) := ⟨cal41, Or.inl (tb_3 61 rfl rfl), tb_3 62 rfl rfl⟩
theorem lkRX5_13 : LnkOK MT RX5 (9, 67, 0, 0, 0, 0) := ⟨tb_3 64 rfl rfl, tb_3 22 rfl rfl, tb_1 12 rfl rfl, tb_3 23 rfl rfl⟩
theorem lkRX5_14 : LnkOK MT RX5 (0, 28, 5, 6, 2, 0) := ⟨RX5, TX5, 7, tyX5, rfl, rfl, by decide +kernel, by decide +kernel, uw5, tb_1 212 rfl rfl, tyX5_ok, nmX5, fun h => by cases h⟩
theorem lkRX5_15 : LnkOK MT RX5 (7, 73, 0, 0, 0, -9223372036854775808) := tb_3 202 rfl rfl
theorem lkRX5_16 : LnkOK MT RX5 (4, 75, 229, 2, 0, 0) := ⟨cal229, Or.inl (tb_3 203 rfl rfl), tb_3 204 rfl rfl⟩
theorem lkRX5_17 : LnkOK MT RX5 (4, 78, 43, 6, 0, 0) := ⟨cal43, Or.inl (tb_3 206 rfl rfl), tb_3 207 rfl rfl⟩
theorem lkRX5_18 : LnkOK MT RX5 (4, 82, 44, 2, 0, 0) := ⟨cal44, Or.inl (tb_3 209 rfl rfl), tb_3 210 rfl rfl⟩
theorem lkRX5_19 : LnkOK MT RX5 (7, 86, 0, 0, 0, -7046029254386353131) := tb_3 212 rfl rfl
theorem lkRX5_20 : LnkOK MT RX5 (7, 88, 0, 0, 0, 1024) := tb_3 213 rfl rfl
theorem lkRX5_21 : LnkOK MT RX5 (3, 90, 46, 1, 5, 0) := ⟨cal46, tb_3 186 rfl rfl, tb_3 188 rfl rfl, tb_p 14 rfl rfl, (RX5, TX5, 7), rfl, rfl⟩
theorem lkRX5_22 : LnkOK MT RX5 (0, 25, 5, 5, 2, 0) := ⟨RX5, TX5, 7, tyX5, rfl, rfl, by decide +kernel, by decide +kernel, uw5, tb_1 211 rfl rfl, tyX5_ok, nmX5, fun h => by cases h⟩
theorem lkRX5_23 : LnkOK MT RX5 (0, 21, 5, 4, 2, 0) := ⟨RX5, TX5, 7, tyX5, rfl, rfl, by decide +kernel, by decide +kernel, uw5, tb_1 210 rfl rfl, tyX5_ok, nmX5, fun h => by cases h⟩
theorem lkRX5_24 : LnkOK MT RX5 (4, 94, 50, 1, 0, 0) := ⟨cal50, Or.inl (tb_3 190 rfl rfl), tb_2 133 rfl rfl⟩
theorem lkRX5_25 : LnkOK MT RX5 (4, 98, 47, 6, 0, 0) := ⟨cal47, Or.inl (tb_3 191 rfl rfl), tb_3 192 rfl rfl⟩
def lkRX5 : List Lnk := [(0, 31, 5, 0, 2, 0), (0, 35, 6, 3, 2, 0), (0, 40, 6, 0, 0, 0), (4, 43, 39, 4, 0, 0), (0, 17, 5, 3, 0, 0), (0, 47, 6, 1, 0, 0), (1, 17, 5, 3, 0, 0), (1, 50, 5, 2, 0, 0), (0, 11, 5, 1, 2, 0), (4, 53, 230, 2, 0, 0), (0, 50, 5, 2, 0, 0), (3, 59, 51, 0, 6, 0), (4, 63, 41, 6, 0, 0), (9, 67, 0, 0, 0, 0), (0, 28, 5, 6, 2, 0), (7, 73, 0, 0, 0, -9223372036854775808), (4, 75, 229, 2, 0, 0), (4, 78, 43, 6, 0, 0), (4, 82, 44, 2, 0, 0), (7, 86, 0, 0, 0, -7046029254386353131), (7, 88, 0, 0, 0, 1024), (3, 90, 46, 1, 5, 0), (0, 25, 5, 5, 2, 0), (0, 21, 5, 4, 2, 0), (4, 94, 50, 1, 0, 0), (4, 98, 47, 6, 0, 0)]
theorem lkRX5_ok : ∀ q ∈ lkRX5, LnkOK MT RX5 q := List.forall_mem_cons.mpr ⟨lkRX5_0, List.forall_mem_cons.mpr ⟨lkRX5_1, List.forall_mem_cons.mpr ⟨lkRX5_2, List.forall_mem_cons.mpr ⟨lkRX5_3, List.forall_mem_cons.mpr ⟨lkRX5_4, List.forall_mem_cons.mpr ⟨lkRX5_5, List.forall_mem_cons.mpr ⟨lkRX5_6, List.forall_mem_cons.mpr ⟨lkRX5_7, List.forall_mem_cons.mpr ⟨lkRX5_8, List.forall_mem_cons.mpr ⟨lkRX5_9, List.forall_mem_cons.mpr ⟨lkRX5_10, List.forall_mem_cons.mpr ⟨lkRX5_11, List.forall_mem_cons.mpr ⟨lkRX5_12, List.forall_mem_cons.mpr ⟨lkRX5_13, List.forall_mem_cons.mpr ⟨lkRX5_14, List.forall_mem_cons.mpr ⟨lkRX5_15, List.forall_mem_cons.mpr ⟨lkRX5_16, List.forall_mem_cons.mpr ⟨lkRX5_17, List.forall_mem_cons.mpr ⟨lkRX5_18, List.forall_mem_cons.mpr ⟨lkRX5_19, List.forall_mem_cons.mpr ⟨lkRX5_20, List.forall_mem_cons.mpr ⟨lkRX5_21, List.forall_mem_cons.mpr ⟨lkRX5_22, List.forall_mem_cons.mpr ⟨lkRX5_23, List.forall_mem_cons.mpr ⟨lkRX5_24, List.forall_mem_cons.mpr ⟨lkRX5_25, fun _ h => absurd h List.not_mem_nil⟩⟩⟩⟩⟩⟩⟩⟩⟩⟩⟩⟩⟩⟩⟩⟩⟩⟩⟩⟩⟩⟩⟩⟩⟩⟩
theorem lkRX6_0 : LnkOK MT RX6 (0, 27, 3, 0, 0, 0) := ⟨RX3, TX3, 8, tyX3, rfl, rfl, by decide +kernel, by decide +kernel, uw3, tb_1 30 rfl rfl, tyX3_ok, nmX3, fun h => by cases h⟩
theorem lkRX6_1 : LnkOK MT RX6 (1, 33, 6, 0, 0, 0) := ⟨RX6, TX6, 5, tyX6, rfl, rfl, by decide +kernel, by decide +kernel, uw6, tb_1 128 rfl rfl, tyX6_ok, nmX6, fun _ => ⟨by decide +kernel, by decide +kernel⟩⟩
theorem lkRX6_2 : LnkOK MT RX6 (0, 34, 6, 1, 0, 0) := ⟨RX6, TX6, 5, tyX6, rfl, rfl, by decide +kernel, by decide +kernel, uw6, tb_1 133 rfl rfl, tyX6_ok, nmX6, fun h => by cases h⟩
theorem lkRX6_3 : LnkOK MT RX6 (1, 34, 6, 1, 0, 0) := ⟨RX6, TX6, 5, tyX6, rfl, rfl, by decide +kernel, by decide +kernel, uw6, tb_1 133 rfl rfl, tyX6_ok, nmX6, fun _ => ⟨by decide +kernel, by decide +kernel⟩⟩
theorem lkRX6_4 : LnkOK MT RX6 (0, 33, 6, 0, 0, 0) := ⟨RX6, TX6, 5, tyX6, rfl, rfl, by decide +kernel, by decide +kernel, uw6, tb_1 128 rfl rfl, tyX6_ok, nmX6, fun h => by cases h⟩
theorem lkRX6_5 : LnkOK MT RX6 (0, 37, 3, 1, 2, 0) := ⟨RX3, TX3, 8, tyX3, rfl, rfl, by decide +kernel, by decide +kernel, uw3, tb_1 34 rfl rfl, tyX3_ok, nmX3, fun h => by cases h⟩
theorem lkRX6_6 : LnkOK MT RX6 (0, 41, 3, 2, 2, 0) := ⟨RX3, TX3, 8, tyX3, rfl, rfl, by decide +kernel, by decide +kernel, uw3, tb_1 38 rfl rfl, tyX3_ok, nmX3, fun h => by cases h⟩
theorem lkRX6_7 : LnkOK MT RX6 (0, 11, 6, 2, 2, 0) := ⟨RX6, TX6, 5, tyX6, rfl, rfl, by decide +kernel, by decide +kernel, uw6, tb_1 136 rfl rfl, tyX6_ok, nmX6, fun h => by cases h⟩
theorem lkRX6_8 : LnkOK MT RX6 (4, 44, 49, 3, 0, 0) := ⟨cal49, Or.inl (tb_2 120 rfl rfl), tb_2 121 rfl rfl⟩
theorem lkRX6_9 : LnkOK MT RX6 (0, 16, 6, 3, 2, 0) := ⟨RX6, TX6, 5, tyX6, rfl, rfl, by decide +kernel, by decide +kernel, uw6, tb_1 140 rfl rfl, tyX6_ok, nmX6, fun h => by cases h⟩
theorem lkRX6_10 : LnkOK MT RX6 (4, 48, 50, 1, 0, 0) := ⟨cal50, Or.inl (tb_2 132 rfl rfl), tb_2 133 rfl rfl⟩
theorem lkRX6_11 : LnkOK MT RX6 (0, 23, 6, 4, 2, 0) := ⟨RX6, TX6, 5, tyX6, rfl, rfl, by decide +kernel, by decide +kernel, uw6, tb_1 143 rfl rfl, tyX6_ok, nmX6, fun h => by cases h⟩
theorem lkRX6_12 : LnkOK MT RX6 (3, 52, 4, 3, 1, 0) := ⟨cal4, tb_2 136 rfl rfl, tb_2 137 rfl rfl, tb_2 138 rfl rfl, (RX1, TX1, 6), rfl, rfl⟩
theorem lkRX6_13 : LnkOK MT RX6 (8, 56, 0, 0, 0, 0) := ⟨tb_2 123 rfl rfl, tb_2 125 rfl rfl, tb_2 124 rfl rfl, tb_1 11 rfl rfl⟩
theorem lkRX6_14 : LnkOK MT RX6 (2, 62, 1001, 0, 0, 0) := ⟨1, by decide, rfl, Or.inr ⟨"PureGroups", lw_2 126 rfl⟩⟩
theorem lkRX6_15 : LnkOK MT RX6 (2, 65, 1002, 0, 0, 0) := ⟨2, by decide, rfl, Or.inr ⟨"PureGroups", lw_2 128 rfl⟩⟩
theorem lkRX6_16 : LnkOK MT RX6 (2, 68, 1003, 0, 0, 0) := ⟨3, by decide, rfl, Or.inr ⟨"PureGroups", lw_2 130 rfl⟩⟩
theorem lkRX6_17 : LnkOK MT RX6 (7, 71, 0, 0, 0, 4096) := tb_2 135 rfl rfl
theorem lkRX6_18 : LnkOK MT RX6 (0, 73, 1, 4, 0, 0) := ⟨RX1, TX1, 6, tyX1, rfl, rfl, by decide +kernel, by decide +kernel, uw1, tb_1 112 rfl rfl, tyX1_ok, nmX1, fun h => by cases h⟩
theorem lkRX6_19 : LnkOK MT RX6 (3, 76, 51, 0, 6, 0) := ⟨cal51, tb_2 220 rfl rfl, tb_2 183 rfl rfl, tb_2 184 rfl rfl, (RX6, TX6, 5), rfl, rfl⟩
theorem lkRX6_20 : LnkOK MT RX6 (4, 80, 112, 2, 0, 0) := ⟨cal112, Or.inr ⟨"PureGroups", lw_2 221 rfl⟩, tb_2 141 rfl rfl⟩
theorem lkRX6_21 : LnkOK MT RX6 (3, 84, 55, 1, 6, 0) := ⟨cal55, tb_3 17 rfl rfl, tb_3 18 rfl rfl, tb_3 19 rfl rfl, (RX6, TX6, 5), rfl, rfl⟩
theorem lkRX6_22 : LnkOK MT RX6 (9, 88, 0, 0, 0, 0) := ⟨tb_3 21 rfl rfl, tb_3 22 rfl rfl, tb_1 12 rfl rfl, tb_3 23 rfl rfl⟩
def lkRX6 : List Lnk := [(0, 27, 3, 0, 0, 0), (1, 33, 6, 0, 0, 0), (0, 34, 6, 1, 0, 0), (1, 34, 6, 1, 0, 0), (0, 33, 6, 0, 0, 0), (0, 37, 3, 1, 2, 0), (0, 41, 3, 2, 2, 0), (0, 11, 6, 2, 2, 0), (4, 44, 49, 3, 0, 0), (0, 16, 6, 3, 2, 0), (4, 48, 50, 1, 0, 0), (0, 23, 6, 4, 2, 0), (3, 52, 4, 3, 1, 0), (8, 56, 0, 0, 0, 0), (2, 62, 1001, 0, 0, 0), (2, 65, 1002, 0, 0, 0), (2, 68, 1003, 0, 0, 0), (7, 71, 0, 0, 0, 4096), (0, 73, 1, 4, 0, 0), (3, 76, 51, 0, 6, 0), (4, 80, 112, 2, 0, 0), (3, 84, 55, 1, 6, 0), (9, 88, 0, 0, 0, 0)]
theorem lkRX6_ok : ∀ q ∈ lkRX6, LnkOK MT RX6 q := List.forall_mem_cons.mpr ⟨lkRX6_0, List.forall_mem_cons.mpr ⟨lkRX6_1, List.forall_mem_cons.mpr ⟨lkRX6_2, List.forall_mem_cons.mpr ⟨lkRX6_3, List.forall_mem_cons.mpr ⟨lkRX6_4, List.forall_mem_cons.mpr ⟨lkRX6_5, List.forall_mem_cons.mpr ⟨lkRX6_6, List.forall_mem_cons.mpr ⟨lkRX6_7, List.forall_mem_cons.mpr ⟨lkRX6_8, List.forall_mem_cons.mpr ⟨lkRX6_9, List.forall_mem_cons.mpr ⟨lkRX6_10, List.forall_mem_cons.mpr ⟨lkRX6_11, List.forall_mem_cons.mpr ⟨lkRX6_12, List.forall_mem_cons.mpr ⟨lkRX6_13, List.forall_mem_cons.mpr ⟨lkRX6_14, List.forall_mem_cons.mpr ⟨lkRX6_15, List.forall_mem_cons.mpr ⟨lkRX6_16, List.forall_mem_cons.mpr ⟨lkRX6_17, List.forall_mem_cons.mpr ⟨lkRX6_18, List.forall_mem_cons.mpr ⟨lkRX6_19, List.forall_mem_cons.mpr ⟨lkRX6_20, List.forall_mem_cons.mpr ⟨lkRX6_21, List.forall_mem_cons.mpr ⟨lkRX6_22, fun _ h => absurd h List.not_mem_nil⟩⟩⟩⟩⟩⟩⟩⟩⟩⟩⟩⟩⟩⟩⟩⟩⟩⟩⟩⟩⟩⟩⟩
theorem lkRX7_0 : LnkOK MT RX7 (3, 80, 96, 1, 7, 0) := ⟨cal96, tb_2 94 rfl rfl, tb_2 96 rfl rfl, tb_p 0 rfl rfl, (RX7, TX7, 16), rfl, rfl⟩
theorem lkRX7_1 : LnkOK MT RX7 (0, 84, 7, 9, 0, 0) := ⟨RX7, TX7, 16, tyX7, rfl, rfl, by decide +kernel, by decide +kernel, uw7, tb_2 50 rfl rfl, tyX7_ok, nmX7, fun h => by cases h⟩
theorem lkRX7_2 : LnkOK MT RX7 (0, 56, 7, 8, 2, 0) := ⟨RX7, TX7, 16, tyX7, rfl, rfl, by decide +kernel, by decide +kernel, uw7, tb_2 49 rfl rfl, tyX7_ok, nmX7, fun h => by cases h⟩
theorem lkRX7_3 : LnkOK MT RX7 (1, 84, 7, 9, 0, 0) := ⟨RX7, TX7, 16, tyX7, rfl, rfl, by decide +kernel, by decide +kernel, uw7, tb_2 50 rfl rfl, tyX7_ok, nmX7, fun _ => ⟨by decide +kernel, by decide +kernel⟩⟩
theorem lkRX7_4 : LnkOK MT RX7 (4, 88, 101, 1, 0, 0) := ⟨cal101, Or.inl (tb_2 102 rfl rfl), tb_2 103 rfl rfl⟩
theorem lkRX7_5 : LnkOK MT RX7 (0, 10, 7, 0, 2, 0) := ⟨RX7, TX7, 16, tyX7, rfl, rfl, by decide +kernel, by decide +kernel, uw7, tb_2 41 rfl rfl, tyX7_ok, nmX7, fun h => by cases h⟩
theorem lkRX7_6 : LnkOK MT RX7 (0, 92, 3, 0, 0, 0) := ⟨RX3, TX3, 8, tyX3, rfl, rfl, by decide +kernel, by decide +kernel, uw3, tb_1 32 rfl rfl, tyX3_ok, nmX3, fun h => by cases h⟩
theorem lkRX7_7 : LnkOK MT RX7 (3, 95, 12, 1, 3, 0) := ⟨cal12, tb_2 105 rfl rfl, tb_2 106 rfl rfl, tb_2 107 rfl rfl, (RX3, TX3, 8), rfl, rfl⟩
theorem lkRX7_8 : LnkOK MT RX7 (0, 22, 7, 3, 2, 0) := ⟨RX7, TX7, 16, tyX7, rfl, rfl, by decide +kernel, by decide +kernel, uw7, tb_2 44 rfl rfl, tyX7_ok, nmX7, fun h => by cases h⟩
theorem lkRX7_9 : LnkOK MT RX7 (3, 99, 9, 0, 2, 0) := ⟨cal9, tb_2 112 rfl rfl, tb_2 113 rfl rfl, tb_2 114 rfl rfl, (RX2, TX2, 3), rfl, rfl⟩
theorem lkRX7_10 : LnkOK MT RX7 (0, 29, 7, 4, 2, 0) := ⟨RX7, TX7, 16, tyX7, rfl, rfl, by decide +kernel, by decide +kernel, uw7, tb_2 45 rfl rfl, tyX7_ok, nmX7, fun h => by cases h⟩
theorem lkRX7_11 : LnkOK MT RX7 (3, 102, 48, 1, 6, 0) := ⟨cal48, tb_2 116 rfl rfl, tb_2 117 rfl rfl, tb_2 118 rfl rfl, (RX6, TX6, 5), rfl, rfl⟩
theorem lkRX7_12 : LnkOK MT RX7 (3, 106, 99, 1, 7, 0) := ⟨cal99, tb_2 155 rfl rfl, tb_2 157 rfl rfl, tb_p 3 rfl rfl, (RX7, TX7, 16), rfl, rfl⟩
theorem lkRX7_13 : LnkOK MT RX7 (4, 109, 100, 1, 0, 0) := ⟨cal100, Or.inl (tb_2 159 rfl rfl), tb_2 160 rfl rfl⟩
theorem lkRX7_14 : LnkOK MT RX7 (3, 112, 97, 1, 7, 0) := ⟨cal97, tb_2 162 rfl rfl, tb_2 164 rfl rfl, tb_p 4 rfl rfl, (RX7, TX7, 16), rfl, rfl⟩
theorem lkRX7_15 : LnkOK MT RX7 (0, 115, 3, 2, 2, 0) := ⟨RX3, TX3, 8, tyX3, rfl, rfl, by decide +kernel, by decide +kernel, uw3, tb_1 39 rfl rfl, tyX3_ok, nmX3, fun h => by cases h⟩
theorem lkRX7_16 : LnkOK MT RX7 (3, 118, 8, 4, 2, 0) := ⟨cal8, tb_2 167 rfl rfl, tb_2 168 rfl rfl, tb_2 169 rfl rfl, (RX2, TX2, 3), rfl, rfl⟩
theorem lkRX7_17 : LnkOK MT RX7 (0, 122, 3, 1, 2, 0) := ⟨RX3, TX3, 8, tyX3, rfl, rfl, by decide +kernel, by decide +kernel, uw3, tb_1 36 rfl rfl, tyX3_ok, nmX3, fun h => by cases h⟩
theorem lkRX7_18 : LnkOK MT RX7 (3, 125, 51, 0, 6, 0) := ⟨cal51, tb_2 182 rfl rfl, tb_2 183 rfl rfl, tb_2 184 rfl rfl, (RX6, TX6, 5), rfl, rfl⟩
theorem lkRX7_19 : LnkOK MT RX7 (4, 129, 112, 2, 0, 0) := ⟨cal112, Or.inl (tb_2 186 rfl rfl), tb_2 141 rfl rfl⟩
theorem lkRX7_20 : LnkOK MT RX7 (0, 133, 6, 2, 2, 0) := ⟨RX6, TX6, 5, tyX6, rfl, rfl, by decide +kernel, by decide +kernel, uw6, tb_1 139 rfl rfl, tyX6_ok, nmX6, fun h => by cases h⟩
theorem lkRX7_21 : LnkOK MT RX7 (4, 136, 114, 1, 0, 0) := ⟨cal114, Or.inl (tb_2 187 rfl rfl), tb_2 188 rfl rfl⟩
theorem lkRX7_22 : LnkOK MT RX7 (0, 140, 6, 0, 0, 0) := ⟨RX6, TX6, 5, tyX6, rfl, rfl, by decide +kernel, by decide +kernel, uw6, tb_1 132 rfl rfl, tyX6_ok, nmX6, fun h => by cases h⟩
theorem lkRX7_23 : LnkOK MT RX7 (0, 141, 6, 3, 2, 0) := ⟨RX6, TX6, 5, tyX6, rfl, rfl, by decide +kernel, by decide +kernel, uw6, tb_1 142 rfl rfl, tyX6_ok, nmX6, fun h => by cases h⟩
theorem lkRX7_24 : LnkOK MT RX7 (2, 145, 1000, 0, 0, 0) := ⟨0, by decide, rfl, Or.inl (tb_2 198 rfl rfl)⟩
theorem lkRX7_25 : LnkOK MT RX7 (0, 148, 6, 4, 2, 0) := ⟨RX6, TX6, 5, tyX6, rfl, rfl, by decide +kernel, by decide +kernel, uw6, tb_1 145 rfl rfl, tyX6_ok, nmX6, fun h => by cases h⟩
theorem lkRX7_26 : LnkOK MT RX7 (0, 152, 1, 3, 0, 0) := ⟨RX1, TX1, 6, tyX1, rfl, rfl, by decide +kernel, by decide +kernel, uw1, tb_1 109 rfl rfl, tyX1_ok, nmX1, fun h => by cases h⟩
theorem lkRX7_27 : LnkOK MT RX7 (3, 157, 53, 0, 6, 0) := ⟨cal53, tb_2 204 rfl rfl, tb_2 205 rfl rfl, tb_2 206 rfl rfl, (RX6, TX6, 5), rfl, rfl⟩
theorem lkRX7_28 : LnkOK MT RX7 (3, 160, 104, 1, 7, 0) := ⟨cal104, tb_2 212 rfl rfl, tb_2 214 rfl rfl, tb_p 5 rfl rfl, (RX7, TX7, 16), rfl, rfl⟩
theorem lkRX7_29 : LnkOK MT RX7 (3, 163, 52, 1, 6, 0) := ⟨cal52, tb_2 216 rfl rfl, tb_2 217 rfl rfl, tb_2 218 rfl rfl, (RX6, TX6, 5), rfl, rfl⟩
theorem lkRX7_30 : LnkOK MT RX7 (0, 68, 7, 12, 2, 0) := ⟨RX7, TX7, 16, tyX7, rfl, rfl, by decide +kernel, by decide +kernel, uw7, tb_2 53 rfl rfl, tyX7_ok, nmX7, fun h => by cases h⟩
theorem lkRX7_31 : LnkOK MT RX7 (3, 166, 7, 2, 1, 0) := ⟨cal7, tb_2 222 rfl rfl, tb_2 223 rfl rfl, tb_2 224 rfl rfl, (RX1, TX1, 6), rfl, rfl⟩
theorem lkRX7_32 : LnkOK MT RX7 (4, 170, 107, 1, 0, 0) := ⟨cal107, Or.inl (tb_2 238 rfl rfl), tb_2 239 rfl rfl⟩
theorem lkRX7_33 : LnkOK MT RX7 (3, 173, 108, 1, 7, 0) := ⟨cal108, tb_3 1 rfl rfl, tb_3 3 rfl rfl, tb_p 6 rfl rfl, (RX7, TX7, 16), rfl, rfl⟩
theorem lkRX7_34 : LnkOK MT RX7 (0, 71, 7, 13, 2, 0) := ⟨RX7, TX7, 16, tyX7, rfl, rfl, by decide +kernel, by decide +kernel, uw7, tb_2 54 rfl rfl, tyX7_ok, nmX7, fun h => by cases h⟩
theorem lkRX7_35 : LnkOK MT RX7 (3, 176, 110, 3, 7, 0) := ⟨cal110, tb_3 5 rfl rfl, tb_3 7 rfl rfl, tb_p 7 rfl rfl, (RX7, TX7, 16), rfl, rfl⟩
theorem lkRX7_36 : LnkOK MT RX7 (3, 180, 54, 1, 6, 0) := ⟨cal54, tb_3 13 rfl rfl, tb_3 14 rfl rfl, tb_3 15 rfl rfl, (RX6, TX6, 5), rfl, rfl⟩
theorem lkRX7_37 : LnkOK MT RX7 (3, 183, 98, 1, 7, 0) := ⟨cal98, tb_3 28 rfl rfl, tb_3 30 rfl rfl, tb_p 9 rfl rfl, (RX7, TX7, 16), rfl, rfl⟩
theorem lkRX7_38 : LnkOK MT RX7 (4, 187, 102, 1, 0, 0) := ⟨cal102, Or.inl (tb_3 33 rfl rfl), tb_3 34 rfl rfl⟩
theorem lkRX7_39 : LnkOK MT RX7 (4, 190, 116, 3, 0, 0) := ⟨cal116, Or.inl (tb_3 36 rfl rfl), tb_3 37 rfl rfl⟩
theorem lkRX7_40 : LnkOK MT RX7 (0, 45, 7, 6, 2, 0) := ⟨RX7, TX7, 16, tyX7, rfl, rfl, by decide +kernel, by decide +kernel, uw7, tb_2 47 rfl rfl, tyX7_ok, nmX7, fun h => by cases h⟩
theorem lkRX7_41 : LnkOK MT RX7 (3, 194, 38, 0, 5, 0) := ⟨cal38, tb_3 44 rfl rfl, tb_3 45 rfl rfl, tb_3 46 rfl rfl, (RX5, TX5, 7), rfl, rfl⟩
theorem lkRX7_42 : LnkOK MT RX7 (3, 197, 40, 0, 5, 0) := ⟨cal40, tb_3 55 rfl rfl, tb_3 56 rfl rfl, tb_3 57 rfl rfl, (RX5, TX5, 7), rfl, rfl⟩
theorem lkRX7_43 : LnkOK MT RX7 (0, 200, 5, 2, 0, 0) := ⟨RX5, TX5, 7, tyX5, rfl, rfl, by decide +kernel, by decide +kernel, uw5, tb_1 208 rfl rfl, tyX5_ok, nmX5, fun h => by cases h⟩
theorem lkRX7_44 : LnkOK MT RX7 (0, 203, 5, 1, 2, 0) := ⟨RX5, TX5, 7, tyX5, rfl, rfl, by decide +kernel, by decide +kernel, uw5, tb_1 206 rfl rfl, tyX5_ok, nmX5, fun h => by cases h⟩
theorem lkRX7_45 : LnkOK MT RX7 (3, 206, 105, 1, 7, 0) := ⟨cal105, tb_3 69 rfl rfl, tb_3 71 rfl rfl, tb_p 10 rfl rfl, (RX7, TX7, 16), rfl, rfl⟩
theorem lkRX7_46 : LnkOK MT RX7 (0, 38, 7, 5, 2, 0) := ⟨RX7, TX7, 16, tyX7, rfl, rfl, by decide +kernel, by decide +kernel, uw7, tb_2 46 rfl rfl, tyX7_ok, nmX7, fun h => by cases h⟩
theorem lkRX7_47 : LnkOK MT RX7 (3, 209, 0, 1, 0, 0) := ⟨cal0, tb_3 73 rfl rfl, tb_3 74 rfl rfl, tb_3 75 rfl rfl, (RX0, TX0, 9), rfl, rfl⟩
theorem lkRX7_48 : LnkOK MT RX7 (3, 212, 106, 2, 7, 0) := ⟨cal106, tb_3 88 rfl rfl, tb_3 90 rfl rfl, tb_p 11 rfl rfl, (RX7, TX7, 16), rfl, rfl⟩
theorem lkRX7_49 : LnkOK MT RX7 (0, 216, 0, 1, 2, 0) := ⟨RX0, TX0, 9, tyX0, rfl, rfl, by decide +kernel, by decide +kernel, uw0, tb_1 167 rfl rfl, tyX0_ok, nmX0, fun h => by cases h⟩
theorem lkRX7_50 : LnkOK MT RX7 (3, 219, 2, 0, 0, 0) := ⟨cal2, tb_3 96 rfl rfl, tb_3 97 rfl rfl, tb_3 98 rfl rfl, (RX0, TX0, 9), rfl, rfl⟩
theorem lkRX7_51 : LnkOK MT RX7 (0, 222, 0, 4, 0, 0) := ⟨RX0, TX0, 9, tyX0, rfl, rfl, by decide +kernel, by decide +kernel, uw0, tb_1 171 rfl rfl, tyX0_ok, nmX0, fun h => by cases h⟩
theorem lkRX7_52 : LnkOK MT RX7 (0, 225, 0, 6, 0, 0) := ⟨RX0, TX0, 9, tyX0, rfl, rfl, by decide +kernel, by decide +kernel, uw0, tb_1 175 rfl rfl, tyX0_ok, nmX0, fun h => by cases h⟩
theorem lkRX7_53 : LnkOK MT RX7 (0, 228, 0, 7, 0, 0) := ⟨RX0, TX0, 9, tyX0, rfl, rfl, by decide +kernel, by decide +kernel, uw0, tb_1 177 rfl rfl, tyX0_ok, nmX0, fun h => by cases h⟩
theorem lkRX7_54 : LnkOK MT RX7 (3, 231, 1, 0, 0, 0) := ⟨cal1, tb_3 116 rfl rfl, tb_3 106 rfl rfl, tb_3 107 rfl rfl, (RX0, TX0, 9), rfl, rfl⟩
theorem lkRX7_55 : LnkOK MT RX7 (0, 235, 0, 5, 0, 0) := ⟨RX0, TX0, 9, tyX0, rfl, rfl, by decide +kernel, by decide +kernel, uw0, tb_1 173 rfl rfl, tyX0_ok, nmX0, fun h => by cases h⟩
theorem lkRX7_56 : LnkOK MT RX7 (0, 238, 3, 3, 2, 0) := ⟨RX3, TX3, 8, tyX3, rfl, rfl, by decide +kernel, by decide +kernel, uw3, tb_1 43 rfl rfl, tyX3_ok, nmX3, fun h => by cases h⟩
theorem lkRX7_57 : LnkOK MT RX7 (0, 241, 3, 4, 2, 0) := ⟨RX3, TX3, 8, tyX3, rfl, rfl, by decide +kernel, by decide +kernel, uw3, tb_1 46 rfl rfl, tyX3_ok, nmX3, fun h => by cases h⟩
theorem lkRX7_58 : LnkOK MT RX7 (3, 244, 15, 1, 3, 0) := ⟨cal15, tb_3 129 rfl rfl, tb_3 130 rfl rfl, tb_3 131 rfl rfl, (RX3, TX3, 8), rfl, rfl⟩
theorem lkRX7_59 : LnkOK MT RX7 (4, 247, 113, 1, 0, 0) := ⟨cal113, Or.inl (tb_3 137 rfl rfl), tb_3 138 rfl rfl⟩
theorem lkRX7_60 : LnkOK MT RX7 (3, 251, 17, 1, 3, 0) := ⟨cal17, tb_3 140 rfl rfl, tb_3 141 rfl rfl, tb_3 142 rfl rfl, (RX3, TX3, 8), rfl, rfl⟩
theorem lkRX7_61 : LnkOK MT RX7 (3, 254, 111, 1, 7, 0) := ⟨cal111, tb_3 149 rfl rfl, tb_3 151 rfl rfl, tb_p 13 rfl rfl, (RX7, TX7, 16), rfl, rfl⟩
theorem lkRX7_62 : LnkOK MT RX7 (4, 257, 103, 1, 0, 0) := ⟨cal103, Or.inl (tb_3 167 rfl rfl), tb_3 168 rfl rfl⟩
theorem lkRX7_63 : LnkOK MT RX7 (3, 260, 18, 3, 3, 0) := ⟨cal18, tb_3 155 rfl rfl, tb_3 156 rfl rfl, tb_3 157 rfl rfl, (RX3, TX3, 8), rfl, rfl⟩
theorem lkRX7_64 : LnkOK MT RX7 (2, 264, 1004, 0, 0, 0) := ⟨4, by decide, rfl, Or.inl (tb_3 153 rfl rfl)⟩
theorem lkRX7_65 : LnkOK MT RX7 (0, 74, 7, 14, 2, 0) := ⟨RX7, TX7, 16, tyX7, rfl, rfl, by decide +kernel, by decide +kernel, uw7, tb_2 55 rfl rfl, tyX7_ok, nmX7, fun h => by cases h⟩
theorem lkRX7_66 : LnkOK MT RX7 (3, 267, 45, 2, 5, 0) := ⟨cal45, tb_3 182 rfl rfl, tb_3 183 rfl rfl, tb_3 184 rfl rfl, (RX5, TX5, 7), rfl, rfl⟩
theorem lkRX7_67 : LnkOK MT RX7 (3, 271, 42, 1, 5, 0) := ⟨cal42, tb_3 198 rfl rfl, tb_3 199 rfl rfl, tb_3 200 rfl rfl, (RX5, TX5, 7), rfl, rfl⟩
theorem lkRX7_68 : LnkOK MT RX7 (0, 52, 7, 7, 2, 0) := ⟨RX7, TX7, 16, tyX7, rfl, rfl, by decide +kernel, by decide +kernel, uw7, tb_2 48 rfl rfl, tyX7_ok, nmX7, fun h => by cases h⟩
theorem lkRX7_69 : LnkOK MT RX7 (3, 274, 20, 2, 4, 0) := ⟨cal20, tb_3 218 rfl rfl, tb_3 219 rfl rfl, tb_3 220 rfl rfl, (RX4, TX4, 13), rfl, rfl⟩
theorem lkRX7_70 : LnkOK MT RX7 (0, 278, 4, 4, 0, 0) := ⟨RX4, TX4, 13, tyX4, rfl, rfl, by decide +kernel, by decide +kernel, uw4, tb_2 0 rfl rfl, tyX4_ok, nmX4, fun h => by cases h⟩
theorem lkRX7_71 : LnkOK MT RX7 (0, 281, 4, 5, 0, 0) := ⟨RX4, TX4, 13, tyX4, rfl, rfl, by decide +kernel, by decide +kernel, uw4, tb_2 2 rfl rfl, tyX4_ok, nmX4, fun h => by cases h⟩
theorem lkRX7_72 : LnkOK MT RX7 (3, 284, 13, 3, 3, 0) := ⟨cal13, tb_4 40 rfl rfl, tb_4 41 rfl rfl, tb_4 42 rfl rfl, (RX3, TX3, 8), rfl, rfl⟩
theorem lkRX7_73 : LnkOK MT RX7 (3, 288, 14, 0, 3, 0) := ⟨cal14, tb_4 50 rfl rfl, tb_4 51 rfl rfl, tb_4 52 rfl rfl, (RX3, TX3, 8), rfl, rfl⟩
theorem lkRX7_74 : LnkOK MT RX7 (0, 292, 3, 5, 2, 0) := ⟨RX3, TX3, 8, tyX3, rfl, rfl, by decide +kernel, by decide +kernel, uw3, tb_1 48 rfl rfl, tyX3_ok, nmX3, fun h => by cases h⟩
theorem lkRX7_75 : LnkOK MT RX7 (0, 293, 3, 6, 0, 0) := ⟨RX3, TX3, 8, tyX3, rfl, rfl, by decide +kernel, by decide +kernel, uw3, tb_1 50 rfl rfl, tyX3_ok, nmX3, fun h => by cases h⟩
theorem lkRX7_76 : LnkOK MT RX7 (3, 296, 36, 0, 4, 0) := ⟨cal36, tb_4 54 rfl rfl, tb_4 55 rfl rfl, tb_4 56 rfl rfl, (RX4, TX4, 13), rfl, rfl⟩
theorem lkRX7_77 : LnkOK MT RX7 (3, 299, 37, 0, 4, 0) := ⟨cal37, tb_4 58 rfl rfl, tb_4 59 rfl rfl, tb_4 60 rfl rfl, (RX4, TX4, 13), rfl, rfl⟩
theorem lkRX7_78 : LnkOK MT RX7 (0, 302, 4, 6, 0, 0) := ⟨RX4, TX4, 13, tyX4, rfl, rfl, by decide +kernel, by decide +kernel, uw4, tb_2 4 rfl rfl, tyX4_ok, nmX4, fun h => by cases h⟩
theorem lkRX7_79 : LnkOK MT RX7 (0, 305, 4, 11, 2, 0) := ⟨RX4, TX4, 13, tyX4, rfl, rfl, by decide +kernel, by decide +kernel, uw4, tb_2 10 rfl rfl, tyX4_ok, nmX4, fun h => by cases h⟩
theorem lkRX7_80 : LnkOK MT RX7 (0, 308, 4, 12, 2, 0) := ⟨RX4, TX4, 13, tyX4, rfl, rfl, by decide +kernel, by decide +kernel, uw4, tb_2 12 rfl rfl, tyX4_ok, nmX4, fun h => by cases h⟩
theorem lkRX7_81 : LnkOK MT RX7 (3, 311, 35, 1, 4, 0) := ⟨cal35, tb_4 66 rfl rfl, tb_4 67 rfl rfl, tb_4 68 rfl rfl, (RX4, TX4, 13), rfl, rfl⟩
theorem lkRX7_82 : LnkOK MT RX7 (6, 314, 0, 0, 0, 1664525) := tb_4 78 rfl rfl
theorem lkRX7_83 : LnkOK MT RX7 (6, 315, 0, 0, 0, 1013904223) := tb_4 79 rfl rfl
theorem lkRX7_84 : LnkOK MT RX7 (6, 316, 0, 0, 0, 2147483647) := tb_4 80 rfl rfl
theorem lkRX7_85 : LnkOK MT RX7 (3, 317, 55, 1, 6, 0) := ⟨cal55, tb_4 81 rfl rfl, tb_3 18 rfl rfl, tb_3 19 rfl rfl, (RX6, TX6, 5), rfl, rfl⟩
theorem lkRX7_86 : LnkOK MT RX7 (0, 62, 7, 10, 2, 0) := ⟨RX7, TX7, 16, tyX7, rfl, rfl, by decide +kernel, by decide +kernel, uw7, tb_2 51 rfl rfl, tyX7_ok, nmX7, fun h => by cases h⟩
theorem lkRX7_87 : LnkOK MT RX7 (4, 320, 230, 2, 0, 0) := ⟨cal230, Or.inl (tb_4 86 rfl rfl), tb_2 110 rfl rfl⟩
theorem lkRX7_88 : LnkOK MT RX7 (0, 65, 7, 11, 2, 0) := ⟨RX7, TX7, 16, tyX7, rfl, rfl, by decide +kernel, by decide +kernel, uw7, tb_2 52 rfl rfl, tyX7_ok, nmX7, fun h => by cases h⟩
theorem lkRX7_89 : LnkOK MT RX7 (3, 325, 109, 2, 7, 0) := ⟨cal109, tb_3 9 rfl rfl, tb_3 11 rfl rfl, tb_p 8 rfl rfl, (RX7, TX7, 16), rfl, rfl⟩
theorem lkRX7_90 : LnkOK MT RX7 (8, 328, 0, 0, 0, 0) := ⟨tb_4 99 rfl rfl, tb_2 125 rfl rfl, tb_2 124 rfl rfl, tb_1 11 rfl rfl⟩
theorem lkRX7_91 : LnkOK MT RX7 (0, 334, 2, 2, 0, 0) := ⟨RX2, TX2, 3, tyX2, rfl, rfl, by decide +kernel, by decide +kernel, uw2, tb_1 81 rfl rfl, tyX2_ok, nmX2, fun h => by cases h⟩
theorem lkRX7_92 : LnkOK MT RX7 (3, 335, 10, 1, 2, 0) := ⟨cal10, tb_4 108 rfl rfl, tb_4 109 rfl rfl, tb_4 110 rfl rfl, (RX2, TX2, 3), rfl, rfl⟩
theorem lkRX7_93 : LnkOK MT RX7 (0, 16, 7, 1, 2, 0) := ⟨RX7, TX7, 16, tyX7, rfl, rfl, by decide +kernel, by decide +kernel, uw7, tb_2 42 rfl rfl, tyX7_ok, nmX7, fun h => by cases h⟩
theorem lkRX7_94 : LnkOK MT RX7 (3, 338, 11, 1, 3, 0) := ⟨cal11, tb_4 119 rfl rfl, tb_4 120 rfl rfl, tb_4 121 rfl rfl, (RX3, TX3, 8), rfl, rfl⟩
theorem lkRX7_95 : LnkOK MT RX7 (1, 341, 7, 2, 3, 0) := ⟨RX7, TX7, 16, tyX7, rfl, rfl, by decide +kernel, by decide +kernel, uw7, tb_2 43 rfl rfl, tyX7_ok, nmX7, fun _ => ⟨by decide +kernel, by decide +kernel⟩⟩
theorem lkRX7_96 : LnkOK MT RX7 (0, 341, 7, 2, 3, 0) := ⟨RX7, TX7, 16, tyX7, rfl, rfl, by decide +kernel, by decide +kernel, uw7, tb_2 43 rfl rfl, tyX7_ok, nmX7, fun h => by cases h⟩
theorem lkRX7_97 : LnkOK MT RX7 (3, 345, 16, 0, 3, 0) := ⟨cal16, tb_4 132 rfl rfl, tb_3 145 rfl rfl, tb_3 146 rfl rfl, (RX3, TX3, 8), rfl, rfl⟩
theorem lkRX7_98 : LnkOK MT RX7 (0, 348, 3, 7, 0, 0) := ⟨RX3, TX3, 8, tyX3, rfl, rfl, by decide +kernel, by decide +kernel, uw3, tb_1 52 rfl rfl, tyX3_ok, nmX3, fun h => by cases h⟩
theorem lkRX7_99 : LnkOK MT RX7 (0, 77, 7, 15, 2, 0) := ⟨RX7, TX7, 16, tyX7, rfl, rfl, by decide +kernel, by decide +kernel, uw7, tb_2 56 rfl rfl, tyX7_ok, nmX7, fun h => by cases h⟩
theorem lkRX7_100 : LnkOK MT RX7 (6, 349, 0, 0, 0, 1000000000) := tb_2 166 rfl rfl
theorem lkRX7_101 : LnkOK MT RX7 (7, 350, 0, 0, 0, 4000000000000000000) := tb_3 32 rfl rfl
theorem lkRX7_102 : LnkOK MT RX7 (10, 352, 0, 0, 0, 0) := ⟨tb_2 230 rfl rfl, tb_2 231 rfl rfl, tb_1 12 rfl rfl, tb_2 232 rfl rfl⟩
theorem lkRX7_103 : LnkOK MT RX7 (4, 358, 115, 2, 0, 0) := ⟨cal115, Or.inl (tb_3 39 rfl rfl), tb_2 228 rfl rfl⟩
def lkRX7 : List Lnk := [(3, 80, 96, 1, 7, 0), (0, 84, 7, 9, 0, 0), (0, 56, 7, 8, 2, 0), (1, 84, 7, 9, 0, 0), (4, 88, 101, 1, 0, 0), (0, 10, 7, 0, 2, 0), (0, 92, 3, 0, 0, 0), (3, 95, 12, 1, 3, 0), (0, 22, 7, 3, 2, 0), (3, 99, 9, 0, 2, 0), (0, 29, 7, 4, 2, 0), (3, 102, 48, 1, 6, 0), (3, 106, 99, 1, 7, 0), (4, 109, 100, 1, 0, 0), (3, 112, 97, 1, 7, 0), (0, 115, 3, 2, 2, 0), (3, 118, 8, 4, 2, 0), (0, 122, 3, 1, 2, 0), (3, 125, 51, 0, 6, 0), (4, 129, 112, 2, 0, 0), (0, 133, 6, 2, 2, 0), (4, 136, 114, 1, 0, 0), (0, 140, 6, 0, 0, 0), (0, 141, 6, 3, 2, 0), (2, 145, 1000, 0, 0, 0), (0, 148, 6, 4, 2, 0), (0, 152, 1, 3, 0, 0), (3, 157, 53, 0, 6, 0), (3, 160, 104, 1, 7, 0), (3, 163, 52, 1, 6, 0), (0, 68, 7, 12, 2, 0), (3, 166, 7, 2, 1, 0), (4, 170, 107, 1, 0, 0), (3, 173, 108, 1, 7, 0), (0, 71, 7, 13, 2, 0), (3, 176, 110, 3, 7, 0), (3, 180, 54, 1, 6, 0), (3, 183, 98, 1, 7, 0), (4, 187, 102, 1, 0, 0), (4, 190, 116, 3, 0, 0), (0, 45, 7, 6, 2, 0), (3, 194, 38, 0, 5, 0), (3, 197, 40, 0, 5, 0), (0, 200, 5, 2, 0, 0), (0, 203, 5, 1, 2, 0), (3, 206, 105, 1, 7, 0), (0, 38, 7, 5, 2, 0), (3, 209, 0, 1, 0, 0), (3, 212, 106, 2, 7, 0), (0, 216, 0, 1, 2, 0), (3, 219, 2, 0, 0, 0), (0, 222, 0, 4, 0, 0), (0, 225, 0, 6, 0, 0), (0, 228, 0, 7, 0, 0), (3, 231, 1, 0, 0, 0), (0, 235, 0, 5, 0, 0), (0, 238, 3, 3, 2, 0), (0, 241, 3, 4, 2, 0), (3, 244, 15, 1, 3, 0), (4, 247, 113, 1, 0, 0), (3, 251, 17, 1, 3, 0), (3, 254, 111, 1, 7, 0), (4, 257, 103, 1, 0, 0), (3, 260, 18, 3, 3, 0), (2, 264, 1004, 0, 0, 0), (0, 74, 7, 14, 2, 0), (3, 267, 45, 2, 5, 0), (3, 271, 42, 1, 5, 0), (0, 52, 7, 7, 2, 0), (3, 274, 20, 2, 4, 0), (0, 278, 4, 4, 0, 0), (0, 281, 4, 5, 0, 0), (3, 284, 13, 3, 3, 0), (3, 288, 14, 0, 3, 0), (0, 292, 3, 5, 2, 0), (0, 293, 3, 6, 0, 0), (3, 296, 36, 0, 4, 0), (3, 299, 37, 0, 4, 0), (0, 302, 4, 6, 0, 0), (0, 305, 4, 11, 2, 0), (0, 308, 4, 12, 2, 0), (3, 311, 35, 1, 4, 0), (6, 314, 0, 0, 0, 1664525), (6, 315, 0, 0, 0, 1013904223), (6, 316, 0, 0, 0, 2147483647), (3, 317, 55, 1, 6, 0), (0, 62, 7, 10, 2, 0), (4, 320, 230, 2, 0, 0), (0, 65, 7, 11, 2, 0), (3, 325, 109, 2, 7, 0), (8, 328, 0, 0, 0, 0), (0, 334, 2, 2, 0, 0), (3, 335, 10, 1, 2, 0), (0, 16, 7, 1, 2, 0), (3, 338, 11, 1, 3, 0), (1, 341, 7, 2, 3, 0), (0, 341, 7, 2, 3, 0), (3, 345, 16, 0, 3, 0), (0, 348, 3, 7, 0, 0), (0, 77, 7, 15, 2, 0), (6, 349, 0, 0, 0, 1000000000), (7, 350, 0, 0, 0, 4000000000000000000), (10, 352, 0, 0, 0, 0), (4, 358, 115, 2, 0, 0)]
theorem lkRX7_ok : ∀ q ∈ lkRX7, LnkOK MT RX7 q := List.forall_mem_cons.mpr ⟨lkRX7_0, List.forall_mem_cons.mpr ⟨lkRX7_1, List.forall_mem_cons.mpr ⟨lkRX7_2, List.forall_mem_cons.mpr ⟨lkRX7_3, List.forall_mem_cons.mpr ⟨lkRX7_4, List.forall_mem_cons.mpr ⟨lkRX7_5, List.forall_mem_cons.mpr ⟨lkRX7_6, List.forall_mem_cons.mpr ⟨lkRX7_7, List.forall_mem_cons.mpr ⟨lkRX7_8, List.forall_mem_cons.mpr ⟨lkRX7_9, List.forall_mem_cons.mpr ⟨lkRX7_10, List.forall_mem_cons.mpr ⟨lkRX7_11, List.forall_mem_cons.mpr ⟨lkRX7_12, List.forall_mem_cons.mpr ⟨lkRX7_13, List.forall_mem_cons.mpr ⟨lkRX7_14, List.forall_mem_cons.mpr ⟨lkRX7_15, List.forall_mem_cons.mpr ⟨lkRX7_16, List.forall_mem_cons.mpr ⟨lkRX7_17, List.forall_mem_cons.mpr ⟨lkRX7_18, List.forall_mem_cons.mpr ⟨lkRX7_19, List.forall_mem_cons.mpr ⟨lkRX7_20, List.forall_mem_cons.mpr ⟨lkRX7_21, List.forall_mem_cons.mpr ⟨lkRX7_22, List.forall_mem_cons.mpr ⟨lkRX7_23, List.forall_mem_cons.mpr ⟨lkRX7_24, List.forall_mem_cons.mpr ⟨lkRX7_25, List.forall_mem_cons.mpr ⟨lkRX7_26, List.forall_mem_cons.mpr ⟨lkRX7_27, List.forall_mem_cons.mpr ⟨lkRX7_28, List.forall_mem_cons.mpr ⟨lkRX7_29, List.forall_mem_cons.mpr ⟨lkRX7_30, List.forall_mem_cons.mpr ⟨lkRX7_31, List.forall_mem_cons.mpr ⟨lkRX7_32, List.forall_mem_cons.mpr ⟨lkRX7_33, List.forall_mem_cons.mpr ⟨lkRX7_34, List.forall_mem_cons.mpr ⟨lkRX7_35, List.forall_mem_cons.mpr ⟨lkRX7_36, List.forall_mem_cons.mpr ⟨lkRX7_37, List.forall_mem_cons.mpr ⟨lkRX7_38, List.forall_mem_cons.mpr ⟨lkRX7_39, List.forall_mem_cons.mpr ⟨lkRX7_40, List.forall_mem_cons.mpr ⟨lkRX7_41, List.forall_mem_cons.mpr ⟨lkRX7_42, List.forall_mem_cons.mpr ⟨lkRX7_43, List.forall_mem_cons.mpr ⟨lkRX7_44, List.forall_mem_cons.mpr ⟨lkRX7_45, List.forall_mem_cons.mpr ⟨lkRX7_46, List.forall_mem_cons.mpr ⟨lkRX7_47, List.forall_mem_cons.mpr ⟨lkRX7_48, List.forall_mem_cons.mpr ⟨lkRX7_49, List.forall_mem_cons.mpr ⟨lkRX7_50, List.forall_mem_cons.mpr ⟨lkRX7_51, List.forall_mem_cons.mpr ⟨lkRX7_52, List.forall_mem_cons.mpr ⟨lkRX7_53, List.forall_mem_cons.mpr ⟨lkRX7_54, List.forall_mem_cons.mpr ⟨lkRX7_55, List.forall_mem_cons.mpr ⟨lkRX7_56, List.forall_mem_cons.mpr ⟨lkRX7_57, List.forall_mem_cons.mpr ⟨lkRX7_58, List.forall_mem_cons.mpr ⟨lkRX7_59, List.forall_mem_cons.mpr ⟨lkRX7_60, List.forall_mem_cons.mpr ⟨lkRX7_61, List.forall_mem_cons.mpr ⟨lkRX7_62, List.forall_mem_cons.mpr ⟨lkRX7_63, List.forall_mem_cons.mpr ⟨lkRX7_64, List.forall_mem_cons.mpr ⟨lkRX7_65, List.forall_mem_cons.mpr ⟨lkRX7_66, List.forall_mem_cons.mpr ⟨lkRX7_67, List.forall_mem_cons.mpr ⟨lkRX7_68, List.forall_mem_cons.mpr ⟨lkRX7_69, List.forall_mem_cons.mpr ⟨lkRX7_70, List.forall_mem_cons.mpr ⟨lkRX7_71, List.forall_mem_cons.mpr ⟨lkRX7_72, List.forall_mem_cons.mpr ⟨lkRX7_73, List.forall_mem_cons.mpr ⟨lkRX7_74, List.forall_mem_cons.mpr ⟨lkRX7_75, List.forall_mem_cons.mpr ⟨lkRX7_76, List.forall_mem_cons.mpr ⟨lkRX7_77, List.forall_mem_cons.mpr ⟨lkRX7_78, List.forall_mem_cons.mpr ⟨lkRX7_79, List.forall_mem_cons.mpr ⟨lkRX7_80, List.forall_mem_cons.mpr ⟨lkRX7_81, List.forall_mem_cons.mpr ⟨lkRX7_82, List.forall_mem_cons.mpr ⟨lkRX7_83, List.forall_mem_cons.mpr ⟨lkRX7_84, List.forall_mem_cons.mpr ⟨lkRX7_85, List.forall_mem_cons.mpr ⟨lkRX7_86, List.forall_mem_cons.mpr ⟨lkRX7_87, List.forall_mem_cons.mpr ⟨lkRX7_88, List.forall_mem_cons.mpr ⟨lkRX7_89, List.forall_mem_cons.mpr ⟨lkRX7_90, List.forall_mem_cons.mpr ⟨lkRX7_91, List.forall_mem_cons.mpr ⟨lkRX7_92, List.forall_mem_cons.mpr ⟨lkRX7_93, List.forall_mem_cons.mpr ⟨lkRX7_94, List.forall_mem_cons.mpr ⟨lkRX7_95, List.forall_mem_cons.mpr ⟨lkRX7_96, List.forall_mem_cons.mpr ⟨lkRX7_97, List.forall_mem_cons.mpr ⟨lkRX7_98, List.forall_mem_cons.mpr ⟨lkRX7_99, List.forall_mem_cons.mpr ⟨lkRX7_100, List.forall_mem_cons.mpr ⟨lkRX7_101, List.forall_mem_cons.mpr ⟨lkRX7_102, List.forall_mem_cons.mpr ⟨lkRX7_103, fun _ h => absurd h List.not_mem_nil⟩⟩⟩⟩⟩⟩⟩⟩⟩⟩⟩⟩⟩⟩⟩⟩⟩⟩⟩⟩⟩⟩⟩⟩⟩⟩⟩⟩⟩⟩⟩⟩⟩⟩⟩⟩⟩⟩⟩⟩⟩⟩⟩⟩⟩⟩⟩⟩⟩⟩⟩⟩⟩⟩⟩⟩⟩⟩⟩⟩⟩⟩⟩⟩⟩⟩⟩⟩⟩⟩⟩⟩⟩⟩⟩⟩⟩⟩⟩⟩⟩⟩⟩⟩⟩⟩⟩⟩⟩⟩⟩⟩⟩⟩⟩⟩⟩⟩⟩⟩⟩⟩⟩⟩
theorem lkRX8_0 : LnkOK MT RX8 (0, 16, 8, 3, 2, 0) := ⟨RX8, TX8, 27, tyX8, rfl, rfl, by decide +kernel, by decide +kernel, uw8, tb_4 142 rfl rfl, tyX8_ok, nmX8, fun h => by cases h⟩
theorem lkRX8_1 : LnkOK MT RX8 (6, 63, 0, 0, 0, 1000000000) := tb_5 14 rfl rfl
theorem lkRX8_2 : LnkOK MT RX8 (3, 64, 120, 1, 8, 0) := ⟨cal120, tb_4 226 rfl rfl, tb_4 228 rfl rfl, tb_p 27 rfl rfl, (RX8, TX8, 27), rfl, rfl⟩
theorem lkRX8_3 : LnkOK MT RX8 (7, 68, 0, 0, 0, 4000000000000000000) := tb_5 137 rfl rfl
theorem lkRX8_4 : LnkOK MT RX8 (4, 70, 123, 2, 0, 0) := ⟨cal123, Or.inl (tb_5 54 rfl rfl), tb_5 55 rfl rfl⟩
theorem lkRX8_5 : LnkOK MT RX8 (0, 9, 8, 0, 2, 0) := ⟨RX8, TX8, 27, tyX8, rfl, rfl, by decide +kernel, by decide +kernel, uw8, tb_4 139 rfl rfl, tyX8_ok, nmX8, fun h => by cases h⟩
theorem lkRX8_6 : LnkOK MT RX8 (4, 74, 117, 3, 0, 0) := ⟨cal117, Or.inl (tb_4 235 rfl rfl), tb_4 236 rfl rfl⟩
theorem lkRX8_7 : LnkOK MT RX8 (7, 78, 0, 0, 0, 4) := tb_5 9 rfl rfl
theorem lkRX8_8 : LnkOK MT RX8 (7, 80, 0, 0, 0, 2) := tb_5 118 rfl rfl
theorem lkRX8_9 : LnkOK MT RX8 (0, 82, 8, 5, 0, 0) := ⟨RX8, TX8, 27, tyX8, rfl, rfl, by decide +kernel, by decide +kernel, uw8, tb_4 144 rfl rfl, tyX8_ok, nmX8, fun h => by cases h⟩
theorem lkRX8_10 : LnkOK MT RX8 (0, 19, 8, 4, 2, 0) := ⟨RX8, TX8, 27, tyX8, rfl, rfl, by decide +kernel, by decide +kernel, uw8, tb_4 143 rfl rfl, tyX8_ok, nmX8, fun h => by cases h⟩
theorem lkRX8_11 : LnkOK MT RX8 (1, 82, 8, 5, 0, 0) := ⟨RX8, TX8, 27, tyX8, rfl, rfl, by decide +kernel, by decide +kernel, uw8, tb_4 144 rfl rfl, tyX8_ok, nmX8, fun _ => ⟨by decide +kernel, by decide +kernel⟩⟩
theorem lkRX8_12 : LnkOK MT RX8 (7, 86, 0, 0, 0, 5) := tb_4 234 rfl rfl
theorem lkRX8_13 : LnkOK MT RX8 (1, 88, 8, 7, 0, 0) := ⟨RX8, TX8, 27, tyX8, rfl, rfl, by decide +kernel, by decide +kernel, uw8, tb_4 146 rfl rfl, tyX8_ok, nmX8, fun _ => ⟨by decide +kernel, by decide +kernel⟩⟩
theorem lkRX8_14 : LnkOK MT RX8 (0, 88, 8, 7, 0, 0) := ⟨RX8, TX8, 27, tyX8, rfl, rfl, by decide +kernel, by decide +kernel, uw8, tb_4 146 rfl rfl, tyX8_ok, nmX8, fun h => by cases h⟩
theorem lkRX8_15 : LnkOK MT RX8 (0, 22, 8, 6, 2, 0) := ⟨RX8, TX8, 27, tyX8, rfl, rfl, by decide +kernel, by decide +kernel, uw8, tb_4 145 rfl rfl, tyX8_ok, nmX8, fun h => by cases h⟩
theorem lkRX8_16 : LnkOK MT RX8 (3, 91, 125, 1, 8, 0) := ⟨cal125, tb_5 2 rfl rfl, tb_5 4 rfl rfl, tb_p 28 rfl rfl, (RX8, TX8, 27), rfl, rfl⟩
theorem lkRX8_17 : LnkOK MT RX8 (4, 95, 126, 1, 0, 0) := ⟨cal126, Or.inl (tb_5 6 rfl rfl), tb_5 7 rfl rfl⟩
theorem lkRX8_18 : LnkOK MT RX8 (3, 98, 121, 1, 8, 0) := ⟨cal121, tb_5 10 rfl rfl, tb_5 12 rfl rfl, tb_p 29 rfl rfl, (RX8, TX8, 27), rfl, rfl⟩
theorem lkRX8_19 : LnkOK MT RX8 (3, 101, 131, 2, 8, 0) := ⟨cal131, tb_5 15 rfl rfl, tb_5 17 rfl rfl, tb_p 30 rfl rfl, (RX8, TX8, 27), rfl, rfl⟩
theorem lkRX8_20 : LnkOK MT RX8 (3, 105, 134, 2, 8, 0) := ⟨cal134, tb_5 42 rfl rfl, tb_5 44 rfl rfl, tb_p 34 rfl rfl, (RX8, TX8, 27), rfl, rfl⟩
theorem lkRX8_21 : LnkOK MT RX8 (3, 109, 136, 2, 8, 0) := ⟨cal136, tb_5 73 rfl rfl, tb_5 75 rfl rfl, tb_p 39 rfl rfl, (RX8, TX8, 27), rfl, rfl⟩
theorem lkRX8_22 : LnkOK MT RX8 (3, 113, 147, 0, 8, 0) := ⟨cal147, tb_5 27 rfl rfl, tb_5 29 rfl rfl, tb_p 31 rfl rfl, (RX8, TX8, 27), rfl, rfl⟩
theorem lkRX8_23 : LnkOK MT RX8 (4, 117, 118, 2, 0, 0) := ⟨cal118, Or.inl (tb_5 39 rfl rfl), tb_5 40 rfl rfl⟩
theorem lkRX8_24 : LnkOK MT RX8 (3, 120, 135, 1, 8, 0) := ⟨cal135, tb_5 57 rfl rfl, tb_5 59 rfl rfl, tb_p 37 rfl rfl, (RX8, TX8, 27), rfl, rfl⟩
theorem lkRX8_25 : LnkOK MT RX8 (7, 123, 0, 0, 0, 10) := tb_5 61 rfl rfl
theorem lkRX8_26 : LnkOK MT RX8 (7, 125, 0, 0, 0, 14) := tb_5 62 rfl rfl
theorem lkRX8_27 : LnkOK MT RX8 (7, 127, 0, 0, 0, 20) := tb_5 63 rfl rfl
theorem lkRX8_28 : LnkOK MT RX8 (7, 129, 0, 0, 0, 24) := tb_5 64 rfl rfl
theorem lkRX8_29 : LnkOK MT RX8 (3, 131, 137, 1, 8, 0) := ⟨cal137, tb_5 69 rfl rfl, tb_5 71 rfl rfl, tb_p 38 rfl rfl, (RX8, TX8, 27), rfl, rfl⟩
theorem lkRX8_30 : LnkOK MT RX8 (4, 134, 140, 2, 0, 0) := ⟨cal140, Or.inl (tb_5 81 rfl rfl), tb_5 82 rfl rfl⟩
theorem lkRX8_31 : LnkOK MT RX8 (0, 25, 8, 8, 2, 0) := ⟨RX8, TX8, 27, tyX8, rfl, rfl, by decide +kernel, by decide +kernel, uw8, tb_4 147 rfl rfl, tyX8_ok, nmX8, fun h => by cases h⟩
theorem lkRX8_32 : LnkOK MT RX8 (3, 137, 142, 2, 8, 0) := ⟨cal142, tb_5 50 rfl rfl, tb_5 52 rfl rfl, tb_p 36 rfl rfl, (RX8, TX8, 27), rfl, rfl⟩
theorem lkRX8_33 : LnkOK MT RX8 (4, 140, 119, 1, 0, 0) := ⟨cal119, Or.inl (tb_5 88 rfl rfl), tb_5 89 rfl rfl⟩
theorem lkRX8_34 : LnkOK MT RX8 (3, 143, 144, 2, 8, 0) := ⟨cal144, tb_5 35 rfl rfl, tb_5 37 rfl rfl, tb_p 33 rfl rfl, (RX8, TX8, 27), rfl, rfl⟩
theorem lkRX8_35 : LnkOK MT RX8 (3, 146, 143, 2, 8, 0) := ⟨cal143, tb_5 46 rfl rfl, tb_5 48 rfl rfl, tb_p 35 rfl rfl, (RX8, TX8, 27), rfl, rfl⟩
theorem lkRX8_36 : LnkOK MT RX8 (0, 29, 8, 9, 2, 0) := ⟨RX8, TX8, 27, tyX8, rfl, rfl, by decide +kernel, by decide +kernel, uw8, tb_4 148 rfl rfl, tyX8_ok, nmX8, fun h => by cases h⟩
theorem lkRX8_37 : LnkOK MT RX8 (3, 150, 146, 2, 8, 0) := ⟨cal146, tb_5 31 rfl rfl, tb_5 33 rfl rfl, tb_p 32 rfl rfl, (RX8, TX8, 27), rfl, rfl⟩
theorem lkRX8_38 : LnkOK MT RX8 (3, 153, 148, 0, 8, 0) := ⟨cal148, tb_5 91 rfl rfl, tb_5 93 rfl rfl, tb_p 40 rfl rfl, (RX8, TX8, 27), rfl, rfl⟩
theorem lkRX8_39 : LnkOK MT RX8 (3, 156, 151, 0, 8, 0) := ⟨cal151, tb_5 95 rfl rfl, tb_5 97 rfl rfl, tb_p 41 rfl rfl, (RX8, TX8, 27), rfl, rfl⟩
theorem lkRX8_40 : LnkOK MT RX8 (3, 159, 149, 1, 8, 0) := ⟨cal149, tb_5 103 rfl rfl, tb_5 105 rfl rfl, tb_p 42 rfl rfl, (RX8, TX8, 27), rfl, rfl⟩
theorem lkRX8_41 : LnkOK MT RX8 (3, 162, 150, 1, 8, 0) := ⟨cal150, tb_5 107 rfl rfl, tb_5 109 rfl rfl, tb_p 43 rfl rfl, (RX8, TX8, 27), rfl, rfl⟩
theorem lkRX8_42 : LnkOK MT RX8 (0, 41, 8, 13, 2, 0) := ⟨RX8, TX8, 27, tyX8, rfl, rfl, by decide +kernel, by decide +kernel, uw8, tb_4 152 rfl rfl, tyX8_ok, nmX8, fun h => by cases h⟩
theorem lkRX8_43 : LnkOK MT RX8 (0, 35, 8, 11, 2, 0) := ⟨RX8, TX8, 27, tyX8, rfl, rfl, by decide +kernel, by decide +kernel, uw8, tb_4 150 rfl rfl, tyX8_ok, nmX8, fun h => by cases h⟩
theorem lkRX8_44 : LnkOK MT RX8 (0, 38, 8, 12, 2, 0) := ⟨RX8, TX8, 27, tyX8, rfl, rfl, by decide +kernel, by decide +kernel, uw8, tb_4 151 rfl rfl, tyX8_ok, nmX8, fun h => by cases h⟩
theorem lkRX8_45 : LnkOK MT RX8 (7, 166, 0, 0, 0, -99) := tb_5 123 rfl rfl
theorem lkRX8_46 : LnkOK MT RX8 (7, 168, 0, 0, 0, 99) := tb_5 124 rfl rfl
theorem lkRX8_47 : LnkOK MT RX8 (4, 170, 127, 1, 0, 0) := ⟨cal127, Or.inl (tb_5 115 rfl rfl), tb_5 116 rfl rfl⟩
theorem lkRX8_48 : LnkOK MT RX8 (3, 173, 154, 2, 8, 0) := ⟨cal154, tb_5 119 rfl rfl, tb_5 121 rfl rfl, tb_p 44 rfl rfl, (RX8, TX8, 27), rfl, rfl⟩
theorem lkRX8_49 : LnkOK MT RX8 (3, 176, 155, 0, 8, 0) := ⟨cal155, tb_5 125 rfl rfl, tb_5 127 rfl rfl, tb_p 45 rfl rfl, (RX8, TX8, 27), rfl, rfl⟩
theorem lkRX8_50 : LnkOK MT RX8 (3, 180, 122, 1, 8, 0) := ⟨cal122, tb_5 133 rfl rfl, tb_5 135 rfl rfl, tb_p 46 rfl rfl, (RX8, TX8, 27), rfl, rfl⟩
theorem lkRX8_51 : LnkOK MT RX8 (4, 184, 124, 3, 0, 0) := ⟨cal124, Or.inl (tb_5 138 rfl rfl), tb_5 139 rfl rfl⟩
theorem lkRX8_52 : LnkOK MT RX8 (3, 188, 159, 2, 8, 0) := ⟨cal159, tb_5 149 rfl rfl, tb_5 151 rfl rfl, tb_p 47 rfl rfl, (RX8, TX8, 27), rfl, rfl⟩
theorem lkRX8_53 : LnkOK MT RX8 (3, 191, 145, 1, 8, 0) := ⟨cal145, tb_5 165 rfl rfl, tb_5 167 rfl rfl, tb_p 50 rfl rfl, (RX8, TX8, 27), rfl, rfl⟩
theorem lkRX8_54 : LnkOK MT RX8 (3, 194, 128, 1, 8, 0) := ⟨cal128, tb_5 157 rfl rfl, tb_5 159 rfl rfl, tb_p 48 rfl rfl, (RX8, TX8, 27), rfl, rfl⟩
theorem lkRX8_55 : LnkOK MT RX8 (3, 197, 161, 1, 8, 0) := ⟨cal161, tb_5 161 rfl rfl, tb_5 163 rfl rfl, tb_p 49 rfl rfl, (RX8, TX8, 27), rfl, rfl⟩
theorem lkRX8_56 : LnkOK MT RX8 (3, 200, 164, 1, 8, 0) := ⟨cal164, tb_5 177 rfl rfl, tb_5 179 rfl rfl, tb_p 51 rfl rfl, (RX8, TX8, 27), rfl, rfl⟩
theorem lkRX8_57 : LnkOK MT RX8 (3, 203, 166, 0, 8, 0) := ⟨cal166, tb_5 185 rfl rfl, tb_5 187 rfl rfl, tb_p 52 rfl rfl, (RX8, TX8, 27), rfl, rfl⟩
theorem lkRX8_58 : LnkOK MT RX8 (3, 206, 167, 1, 8, 0) := ⟨cal167, tb_5 189 rfl rfl, tb_5 191 rfl rfl, tb_p 53 rfl rfl, (RX8, TX8, 27), rfl, rfl⟩
theorem lkRX8_59 : LnkOK MT RX8 (7, 210, 0, 0, 0, 97) := tb_5 220 rfl rfl
theorem lkRX8_60 : LnkOK MT RX8 (4, 212, 173, 2, 0, 0) := ⟨cal173, Or.inl (tb_5 229 rfl rfl), tb_5 230 rfl rfl⟩
theorem lkRX8_61 : LnkOK MT RX8 (3, 215, 174, 2, 8, 0) := ⟨cal174, tb_5 225 rfl rfl, tb_5 227 rfl rfl, tb_p 57 rfl rfl, (RX8, TX8, 27), rfl, rfl⟩
theorem lkRX8_62 : LnkOK MT RX8 (4, 218, 172, 1, 0, 0) := ⟨cal172, Or.inl (tb_5 217 rfl rfl), tb_5 218 rfl rfl⟩
theorem lkRX8_63 : LnkOK MT RX8 (3, 221, 175, 2, 8, 0) := ⟨cal175, tb_5 221 rfl rfl, tb_5 223 rfl rfl, tb_p 56 rfl rfl, (RX8, TX8, 27), rfl, rfl⟩
theorem lkRX8_64 : LnkOK MT RX8 (3, 224, 176, 0, 8, 0) := ⟨cal176, tb_5 209 rfl rfl, tb_5 211 rfl rfl, tb_p 54 rfl rfl, (RX8, TX8, 27), rfl, rfl⟩
theorem lkRX8_65 : LnkOK MT RX8 (3, 227, 177, 0, 8, 0) := ⟨cal177, tb_5 213 rfl rfl, tb_5 215 rfl rfl, tb_p 55 rfl rfl, (RX8, TX8, 27), rfl, rfl⟩
theorem lkRX8_66 : LnkOK MT RX8 (3, 230, 180, 2, 8, 0) := ⟨cal180, tb_5 236 rfl rfl, tb_5 238 rfl rfl, tb_p 58 rfl rfl, (RX8, TX8, 27), rfl, rfl⟩
theorem lkRX8_67 : LnkOK MT RX8 (3, 233, 179, 1, 8, 0) := ⟨cal179, tb_6 0 rfl rfl, tb_6 2 rfl rfl, tb_p 59 rfl rfl, (RX8, TX8, 27), rfl, rfl⟩
theorem lkRX8_68 : LnkOK MT RX8 (0, 44, 8, 14, 2, 0) := ⟨RX8, TX8, 27, tyX8, rfl, rfl, by decide +kernel, by decide +kernel, uw8, tb_4 153 rfl rfl, tyX8_ok, nmX8, fun h => by cases h⟩
theorem lkRX8_69 : LnkOK MT RX8 (3, 236, 184, 2, 8, 0) := ⟨cal184, tb_6 28 rfl rfl, tb_6 30 rfl rfl, tb_p 63 rfl rfl, (RX8, TX8, 27), rfl, rfl⟩
theorem lkRX8_70 : LnkOK MT RX8 (0, 47, 8, 15, 2, 0) := ⟨RX8, TX8, 27, tyX8, rfl, rfl, by decide +kernel, by decide +kernel, uw8, tb_4 154 rfl rfl, tyX8_ok, nmX8, fun h => by cases h⟩
theorem lkRX8_71 : LnkOK MT RX8 (3, 239, 185, 1, 8, 0) := ⟨cal185, tb_6 24 rfl rfl, tb_6 26 rfl rfl, tb_p 62 rfl rfl, (RX8, TX8, 27), rfl, rfl⟩
theorem lkRX8_72 : LnkOK MT RX8 (3, 242, 186, 2, 8, 0) := ⟨cal186, tb_6 20 rfl rfl, tb_6 22 rfl rfl, tb_p 61 rfl rfl, (RX8, TX8, 27), rfl, rfl⟩
theorem lkRX8_73 : LnkOK MT RX8 (3, 245, 187, 1, 8, 0) := ⟨cal187, tb_6 16 rfl rfl, tb_6 18 rfl rfl, tb_p 60 rfl rfl, (RX8, TX8, 27), rfl, rfl⟩
theorem lkRX8_74 : LnkOK MT RX8 (7, 248, 0, 0, 0, 1000) := tb_6 44 rfl rfl
theorem lkRX8_75 : LnkOK MT RX8 (0, 50, 8, 16, 2, 0) := ⟨RX8, TX8, 27, tyX8, rfl, rfl, by decide +kernel, by decide +kernel, uw8, tb_4 155 rfl rfl, tyX8_ok, nmX8, fun h => by cases h⟩
theorem lkRX8_76 : LnkOK MT RX8 (3, 250, 189, 1, 8, 0) := ⟨cal189, tb_6 40 rfl rfl, tb_6 42 rfl rfl, tb_p 65 rfl rfl, (RX8, TX8, 27), rfl, rfl⟩
theorem lkRX8_77 : LnkOK MT RX8 (3, 253, 190, 2, 8, 0) := ⟨cal190, tb_6 45 rfl rfl, tb_6 47 rfl rfl, tb_p 66 rfl rfl, (RX8, TX8, 27), rfl, rfl⟩
theorem lkRX8_78 : LnkOK MT RX8 (3, 257, 191, 3, 8, 0) := ⟨cal191, tb_6 36 rfl rfl, tb_6 38 rfl rfl, tb_p 64 rfl rfl, (RX8, TX8, 27), rfl, rfl⟩
theorem lkRX8_79 : LnkOK MT RX8 (0, 261, 8, 17, 0, 0) := ⟨RX8, TX8, 27, tyX8, rfl, rfl, by decide +kernel, by decide +kernel, uw8, tb_4 156 rfl rfl, tyX8_ok, nmX8, fun h => by cases h⟩
theorem lkRX8_80 : LnkOK MT RX8 (3, 264, 193, 0, 8, 0) := ⟨cal193, tb_6 73 rfl rfl, tb_6 75 rfl rfl, tb_p 72 rfl rfl, (RX8, TX8, 27), rfl, rfl⟩
theorem lkRX8_81 : LnkOK MT RX8 (7, 267, 0, 0, 0, 48) := tb_6 82 rfl rfl
theorem lkRX8_82 : LnkOK MT RX8 (7, 269, 0, 0, 0, 57) := tb_6 83 rfl rfl
theorem lkRX8_83 : LnkOK MT RX8 (0, 271, 8, 18, 0, 0) := ⟨RX8, TX8, 27, tyX8, rfl, rfl, by decide +kernel, by decide +kernel, uw8, tb_4 157 rfl rfl, tyX8_ok, nmX8, fun h => by cases h⟩
theorem lkRX8_84 : LnkOK MT RX8 (1, 271, 8, 18, 0, 0) := ⟨RX8, TX8, 27, tyX8, rfl, rfl, by decide +kernel, by decide +kernel, uw8, tb_4 157 rfl rfl, tyX8_ok, nmX8, fun _ => ⟨by decide +kernel, by decide +kernel⟩⟩
theorem lkRX8_85 : LnkOK MT RX8 (1, 261, 8, 17, 0, 0) := ⟨RX8, TX8, 27, tyX8, rfl, rfl, by decide +kernel, by decide +kernel, uw8, tb_4 156 rfl rfl, tyX8_ok, nmX8, fun _ => ⟨by decide +kernel, by decide +kernel⟩⟩
theorem lkRX8_86 : LnkOK MT RX8 (3, 274, 200, 0, 8, 0) := ⟨cal200, tb_6 57 rfl rfl, tb_6 59 rfl rfl, tb_p 68 rfl rfl, (RX8, TX8, 27), rfl, rfl⟩
theorem lkRX8_87 : LnkOK MT RX8 (7, 277, 0, 0, 0, 65) := tb_6 77 rfl rfl
theorem lkRX8_88 : LnkOK MT RX8 (3, 279, 195, 0, 8, 0) := ⟨cal195, tb_6 78 rfl rfl, tb_6 80 rfl rfl, tb_p 73 rfl rfl, (RX8, TX8, 27), rfl, rfl⟩
theorem lkRX8_89 : LnkOK MT RX8 (3, 282, 196, 0, 8, 0) := ⟨cal196, tb_6 84 rfl rfl, tb_6 86 rfl rfl, tb_p 74 rfl rfl, (RX8, TX8, 27), rfl, rfl⟩
theorem lkRX8_90 : LnkOK MT RX8 (3, 285, 197, 0, 8, 0) := ⟨cal197, tb_6 69 rfl rfl, tb_6 71 rfl rfl, tb_p 71 rfl rfl, (RX8, TX8, 27), rfl, rfl⟩
theorem lkRX8_91 : LnkOK MT RX8 (0, 288, 8, 19, 0, 0) := ⟨RX8, TX8, 27, tyX8, rfl, rfl, by decide +kernel, by decide +kernel, uw8, tb_4 158 rfl rfl, tyX8_ok, nmX8, fun h => by cases h⟩
theorem lkRX8_92 : LnkOK MT RX8 (1, 288, 8, 19, 0, 0) := ⟨RX8, TX8, 27, tyX8, rfl, rfl, by decide +kernel, by decide +kernel, uw8, tb_4 158 rfl rfl, tyX8_ok, nmX8, fun _ => ⟨by decide +kernel, by decide +kernel⟩⟩
theorem lkRX8_93 : LnkOK MT RX8 (3, 291, 198, 0, 8, 0) := ⟨cal198, tb_6 65 rfl rfl, tb_6 67 rfl rfl, tb_p 70 rfl rfl, (RX8, TX8, 27), rfl, rfl⟩
theorem lkRX8_94 : LnkOK MT RX8 (3, 294, 194, 2, 8, 0) := ⟨cal194, tb_6 88 rfl rfl, tb_6 90 rfl rfl, tb_p 75 rfl rfl, (RX8, TX8, 27), rfl, rfl⟩
theorem lkRX8_95 : LnkOK MT RX8 (3, 297, 199, 0, 8, 0) := ⟨cal199, tb_6 61 rfl rfl, tb_6 63 rfl rfl, tb_p 69 rfl rfl, (RX8, TX8, 27), rfl, rfl⟩
theorem lkRX8_96 : LnkOK MT RX8 (3, 300, 201, 0, 8, 0) := ⟨cal201, tb_6 53 rfl rfl, tb_6 55 rfl rfl, tb_p 67 rfl rfl, (RX8, TX8, 27), rfl, rfl⟩
theorem lkRX8_97 : LnkOK MT RX8 (0, 303, 8, 23, 0, 0) := ⟨RX8, TX8, 27, tyX8, rfl, rfl, by decide +kernel, by decide +kernel, uw8, tb_4 162 rfl rfl, tyX8_ok, nmX8, fun h => by cases h⟩
theorem lkRX8_98 : LnkOK MT RX8 (0, 53, 8, 20, 2, 0) := ⟨RX8, TX8, 27, tyX8, rfl, rfl, by decide +kernel, by decide +kernel, uw8, tb_4 159 rfl rfl, tyX8_ok, nmX8, fun h => by cases h⟩
theorem lkRX8_99 : LnkOK MT RX8 (3, 306, 203, 0, 8, 0) := ⟨cal203, tb_6 116 rfl rfl, tb_6 118 rfl rfl, tb_p 81 rfl rfl, (RX8, TX8, 27), rfl, rfl⟩
theorem lkRX8_100 : LnkOK MT RX8 (1, 303, 8, 23, 0, 0) := ⟨RX8, TX8, 27, tyX8, rfl, rfl, by decide +kernel, by decide +kernel, uw8, tb_4 162 rfl rfl, tyX8_ok, nmX8, fun _ => ⟨by decide +kernel, by decide +kernel⟩⟩
theorem lkRX8_101 : LnkOK MT RX8 (3, 309, 204, 2, 8, 0) := ⟨cal204, tb_6 120 rfl rfl, tb_6 122 rfl rfl, tb_p 82 rfl rfl, (RX8, TX8, 27), rfl, rfl⟩
theorem lkRX8_102 : LnkOK MT RX8 (7, 312, 0, 0, 0, 90) := tb_6 124 rfl rfl
theorem lkRX8_103 : LnkOK MT RX8 (0, 314, 8, 24, 0, 0) := ⟨RX8, TX8, 27, tyX8, rfl, rfl, by decide +kernel, by decide +kernel, uw8, tb_4 163 rfl rfl, tyX8_ok, nmX8, fun h => by cases h⟩
theorem lkRX8_104 : LnkOK MT RX8 (1, 314, 8, 24, 0, 0) := ⟨RX8, TX8, 27, tyX8, rfl, rfl, by decide +kernel, by decide +kernel, uw8, tb_4 163 rfl rfl, tyX8_ok, nmX8, fun _ => ⟨by decide +kernel, by decide +kernel⟩⟩
theorem lkRX8_105 : LnkOK MT RX8 (3, 317, 209, 1, 8, 0) := ⟨cal209, tb_6 100 rfl rfl, tb_6 102 rfl rfl, tb_p 77 rfl rfl, (RX8, TX8, 27), rfl, rfl⟩
theorem lkRX8_106 : LnkOK MT RX8 (0, 59, 8, 22, 2, 0) := ⟨RX8, TX8, 27, tyX8, rfl, rfl, by decide +kernel, by decide +kernel, uw8, tb_4 161 rfl rfl, tyX8_ok, nmX8, fun h => by cases h⟩
theorem lkRX8_107 : LnkOK MT RX8 (3, 320, 205, 1, 8, 0) := ⟨cal205, tb_6 125 rfl rfl, tb_6 127 rfl rfl, tb_p 83 rfl rfl, (RX8, TX8, 27), rfl, rfl⟩
theorem lkRX8_108 : LnkOK MT RX8 (3, 323, 206, 1, 8, 0) := ⟨cal206, tb_6 112 rfl rfl, tb_6 114 rfl rfl, tb_p 80 rfl rfl, (RX8, TX8, 27), rfl, rfl⟩
theorem lkRX8_109 : LnkOK MT RX8 (3, 326, 207, 1, 8, 0) := ⟨cal207, tb_6 108 rfl rfl, tb_6 110 rfl rfl, tb_p 79 rfl rfl, (RX8, TX8, 27), rfl, rfl⟩
theorem lkRX8_110 : LnkOK MT RX8 (3, 329, 208, 1, 8, 0) := ⟨cal208, tb_6 104 rfl rfl, tb_6 106 rfl rfl, tb_p 78 rfl rfl, (RX8, TX8, 27), rfl, rfl⟩
theorem lkRX8_111 : LnkOK MT RX8 (0, 56, 8, 21, 2, 0) := ⟨RX8, TX8, 27, tyX8, rfl, rfl, by decide +kernel, by decide +kernel, uw8, tb_4 160 rfl rfl, tyX8_ok, nmX8, fun h => by cases h⟩
theorem lkRX8_112 : LnkOK MT RX8 (1, 332, 8, 25, 0, 0) := ⟨RX8, TX8, 27, tyX8, rfl, rfl, by decide +kernel, by decide +kernel, uw8, tb_4 164 rfl rfl, tyX8_ok, nmX8, fun _ => ⟨by decide +kernel, by decide +kernel⟩⟩
theorem lkRX8_113 : LnkOK MT RX8 (0, 332, 8, 25, 0, 0) := ⟨RX8, TX8, 27, tyX8, rfl, rfl, by decide +kernel, by decide +kernel, uw8, tb_4 164 rfl rfl, tyX8_ok, nmX8, fun h => by cases h⟩
theorem lkRX8_114 : LnkOK MT RX8 (3, 335, 210, 0, 8, 0) := ⟨cal210, tb_6 96 rfl rfl, tb_6 98 rfl rfl, tb_p 76 rfl rfl, (RX8, TX8, 27), rfl, rfl⟩
theorem lkRX8_115 : LnkOK MT RX8 (0, 338, 8, 26, 0, 0) := ⟨RX8, TX8, 27, tyX8, rfl, rfl, by decide +kernel, by decide +kernel, uw8, tb_4 165 rfl rfl, tyX8_ok, nmX8, fun h => by cases h⟩
theorem lkRX8_116 : LnkOK MT RX8 (6, 341, 0, 0, 0, 1664525) := tb_6 145 rfl rfl
theorem lkRX8_117 : LnkOK MT RX8 (6, 342, 0, 0, 0, 1013904223) := tb_6 146 rfl rfl
theorem lkRX8_118 : LnkOK MT RX8 (1, 338, 8, 26, 0, 0) := ⟨RX8, TX8, 27, tyX8, rfl, rfl, by decide +kernel, by decide +kernel, uw8, tb_4 165 rfl rfl, tyX8_ok, nmX8, fun _ => ⟨by decide +kernel, by decide +kernel⟩⟩
theorem lkRX8_119 : LnkOK MT RX8 (6, 345, 0, 0, 0, 2147483647) := tb_6 147 rfl rfl
theorem lkRX8_120 : LnkOK MT RX8 (3, 346, 214, 1, 8, 0) := ⟨cal214, tb_6 141 rfl rfl, tb_6 143 rfl rfl, tb_p 84 rfl rfl, (RX8, TX8, 27), rfl, rfl⟩
theorem lkRX8_121 : LnkOK MT RX8 (3, 349, 216, 2, 8, 0) := ⟨cal216, tb_6 160 rfl rfl, tb_6 162 rfl rfl, tb_p 86 rfl rfl, (RX8, TX8, 27), rfl, rfl⟩
theorem lkRX8_122 : LnkOK MT RX8 (3, 352, 218, 2, 8, 0) := ⟨cal218, tb_6 156 rfl rfl, tb_6 158 rfl rfl, tb_p 85 rfl rfl, (RX8, TX8, 27), rfl, rfl⟩
theorem lkRX8_123 : LnkOK MT RX8 (0, 13, 8, 1, 2, 0) := ⟨RX8, TX8, 27, tyX8, rfl, rfl, by decide +kernel, by decide +kernel, uw8, tb_4 140 rfl rfl, tyX8_ok, nmX8, fun h => by cases h⟩
theorem lkRX8_124 : LnkOK MT RX8 (1, 355, 8, 2, 3, 0) := ⟨RX8, TX8, 27, tyX8, rfl, rfl, by decide +kernel, by decide +kernel, uw8, tb_4 141 rfl rfl, tyX8_ok, nmX8, fun _ => ⟨by decide +kernel, by decide +kernel⟩⟩
theorem lkRX8_125 : LnkOK MT RX8 (0, 355, 8, 2, 3, 0) := ⟨RX8, TX8, 27, tyX8, rfl, rfl, by decide +kernel, by decide +kernel, uw8, tb_4 141 rfl rfl, tyX8_ok, nmX8, fun h => by cases h⟩
theorem lkRX8_126 : LnkOK MT RX8 (3, 359, 226, 0, 8, 0) := ⟨cal226, tb_6 192 rfl rfl, tb_6 194 rfl rfl, tb_p 87 rfl rfl, (RX8, TX8, 27), rfl, rfl⟩
theorem lkRX8_127 : LnkOK MT RX8 (7, 362, 0, 0, 0, 11) := tb_6 196 rfl rfl
theorem lkRX8_128 : LnkOK MT RX8 (7, 364, 0, 0, 0, 16) := tb_6 197 rfl rfl
def lkRX8 : List Lnk := [(0, 16, 8, 3, 2, 0), (6, 63, 0, 0, 0, 1000000000), (3, 64, 120, 1, 8, 0), (7, 68, 0, 0, 0, 4000000000000000000), (4, 70, 123, 2, 0, 0), (0, 9, 8, 0, 2, 0), (4, 74, 117, 3, 0, 0), (7, 78, 0, 0, 0, 4), (7, 80, 0, 0, 0, 2), (0, 82, 8, 5, 0, 0), (0, 19, 8, 4, 2, 0), (1, 82, 8, 5, 0, 0), (7, 86, 0, 0, 0, 5), (1, 88, 8, 7, 0, 0), (0, 88, 8, 7, 0, 0), (0, 22, 8, 6, 2, 0), (3, 91, 125, 1, 8, 0), (4, 95, 126, 1, 0, 0), (3, 98, 121, 1, 8, 0), (3, 101, 131, 2, 8, 0), (3, 105, 134, 2, 8, 0), (3, 109, 136, 2, 8, 0), (3, 113, 147, 0, 8, 0), (4, 117, 118, 2, 0, 0), (3, 120, 135, 1, 8, 0), (7, 123, 0, 0, 0, 10), (7, 125, 0, 0, 0, 14), (7, 127, 0, 0, 0, 20), (7, 129, 0, 0, 0, 24), (3, 131, 137, 1, 8, 0), (4, 134, 140, 2, 0, 0), (0, 25, 8, 8, 2, 0), (3, 137, 142, 2, 8, 0), (4, 140, 119, 1, 0, 0), (3, 143, 144, 2, 8, 0), (3, 146, 143, 2, 8, 0), (0, 29, 8, 9, 2, 0), (3, 150, 146, 2, 8, 0), (3, 153, 148, 0, 8, 0), (3, 156, 151, 0, 8, 0), (3, 159, 149, 1, 8, 0), (3, 162, 150, 1, 8, 0), (0, 41, 8, 13, 2, 0), (0, 35, 8, 11, 2, 0), (0, 38, 8, 12, 2, 0), (7, 166, 0, 0, 0, -99), (7, 168, 0, 0, 0, 99), (4, 170, 127, 1, 0, 0), (3, 173, 154, 2, 8, 0), (3, 176, 155, 0, 8, 0), (3, 180, 122, 1, 8, 0), (4, 184, 124, 3, 0, 0), (3, 188, 159, 2, 8, 0), (3, 191, 145, 1, 8, 0), (3, 194, 128, 1, 8, 0), (3, 197, 161, 1, 8, 0), (3, 200, 164, 1, 8, 0), (3, 203, 166, 0, 8, 0), (3, 206, 167, 1, 8, 0), (7, 210, 0, 0, 0, 97), (4, 212, 173, 2, 0, 0), (3, 215, 174, 2, 8, 0), (4, 218, 172, 1, 0, 0), (3, 221, 175, 2, 8, 0), (3, 224, 176, 0, 8, 0), (3, 227, 177, 0, 8, 0), (3, 230, 180, 2, 8, 0), (3, 233, 179, 1, 8, 0), (0, 44, 8, 14, 2, 0), (3, 236, 184, 2, 8, 0), (0, 47, 8, 15, 2, 0), (3, 239, 185, 1, 8, 0), (3, 242, 186, 2, 8, 0), (3, 245, 187, 1, 8, 0), (7, 248, 0, 0, 0, 1000), (0, 50, 8, 16, 2, 0), (3, 250, 189, 1, 8, 0), (3, 253, 190, 2, 8, 0), (3, 257, 191, 3, 8, 0), (0, 261, 8, 17, 0, 0), (3, 264, 193, 0, 8, 0), (7, 267, 0, 0, 0, 48), (7, 269, 0, 0, 0, 57), (0, 271, 8, 18, 0, 0), (1, 271, 8, 18, 0, 0), (1, 261, 8, 17, 0, 0), (3, 274, 200, 0, 8, 0), (7, 277, 0, 0, 0, 65), (3, 279, 195, 0, 8, 0), (3, 282, 196, 0, 8, 0), (3, 285, 197, 0, 8, 0), (0, 288, 8, 19, 0, 0), (1, 288, 8, 19, 0, 0), (3, 291, 198, 0, 8, 0), (3, 294, 194, 2, 8, 0), (3, 297, 199, 0, 8, 0), (3, 300, 201, 0, 8, 0), (0, 303, 8, 23, 0, 0), (0, 53, 8, 20, 2, 0), (3, 306, 203, 0, 8, 0), (1, 303, 8, 23, 0, 0), (3, 309, 204, 2, 8, 0), (7, 312, 0, 0, 0, 90), (0, 314, 8, 24, 0, 0), (1, 314, 8, 24, 0, 0), (3, 317, 209, 1, 8, 0), (0, 59, 8, 22, 2, 0), (3, 320, 205, 1, 8, 0), (3, 323, 206, 1, 8, 0), (3, 326, 207, 1, 8, 0), (3, 329, 208, 1, 8, 0), (0, 56, 8, 21, 2, 0), (1, 332, 8, 25, 0, 0), (0, 332, 8, 25, 0, 0), (3, 335, 210, 0, 8, 0), (0, 338, 8, 26, 0, 0), (6, 341, 0, 0, 0, 1664525), (6, 342, 0, 0, 0, 1013904223), (1, 338, 8, 26, 0, 0), (6, 345, 0, 0, 0, 2147483647), (3, 346, 214, 1, 8, 0), (3, 349, 216, 2, 8, 0), (3, 352, 218, 2, 8, 0), (0, 13, 8, 1, 2, 0), (1, 355, 8, 2, 3, 0), (0, 355, 8, 2, 3, 0), (3, 359, 226, 0, 8, 0), (7, 362, 0, 0, 0, 11), (7, 364, 0, 0, 0, 16)]
theorem lkRX8_ok : ∀ q ∈ lkRX8, LnkOK MT RX8 q := List.forall_mem_cons.mpr ⟨lkRX8_0, List.forall_mem_cons.mpr ⟨lkRX8_1, List.forall_mem_cons.mpr ⟨lkRX8_2, List.forall_mem_cons.mpr ⟨lkRX8_3, List.forall_mem_cons.mpr ⟨lkRX8_4, List.forall_mem_cons.mpr ⟨lkRX8_5, List.forall_mem_cons.mpr ⟨lkRX8_6, List.forall_mem_cons.mpr ⟨lkRX8_7, List.forall_mem_cons.mpr ⟨lkRX8_8, List.forall_mem_cons.mpr ⟨lkRX8_9, List.forall_mem_cons.mpr ⟨lkRX8_10, List.forall_mem_cons.mpr ⟨lkRX8_11, List.forall_mem_cons.mpr ⟨lkRX8_12, List.forall_mem_cons.mpr ⟨lkRX8_13, List.forall_mem_cons.mpr ⟨lkRX8_14, List.forall_mem_cons.mpr ⟨lkRX8_15, List.forall_mem_cons.mpr ⟨lkRX8_16, List.forall_mem_cons.mpr ⟨lkRX8_17, List.forall_mem_cons.mpr ⟨lkRX8_18, List.forall_mem_cons.mpr ⟨lkRX8_19, List.forall_mem_cons.mpr ⟨lkRX8_20, List.forall_mem_cons.mpr ⟨lkRX8_21, List.forall_mem_cons.mpr ⟨lkRX8_22, List.forall_mem_cons.mpr ⟨lkRX8_23, List.forall_mem_cons.mpr ⟨lkRX8_24, List.forall_mem_cons.mpr ⟨lkRX8_25, List.forall_mem_cons.mpr ⟨lkRX8_26, List.forall_mem_cons.mpr ⟨lkRX8_27, List.forall_mem_cons.mpr ⟨lkRX8_28, List.forall_mem_cons.mpr ⟨lkRX8_29, List.forall_mem_cons.mpr ⟨lkRX8_30, List.forall_mem_cons.mpr ⟨lkRX8_31, List.forall_mem_cons.mpr ⟨lkRX8_32, List.forall_mem_cons.mpr ⟨lkRX8_33, List.forall_mem_cons.mpr ⟨lkRX8_34, List.forall_mem_cons.mpr ⟨lkRX8_35, List.forall_mem_cons.mpr ⟨lkRX8_36, List.forall_mem_cons.mpr ⟨lkRX8_37, List.forall_mem_cons.mpr ⟨lkRX8_38, List.forall_mem_cons.mpr ⟨lkRX8_39, List.forall_mem_cons.mpr ⟨lkRX8_40, List.forall_mem_cons.mpr ⟨lkRX8_41, List.forall_mem_cons.mpr ⟨lkRX8_42, List.forall_mem_cons.mpr ⟨lkRX8_43, List.forall_mem_cons.mpr ⟨lkRX8_44, List.forall_mem_cons.mpr ⟨lkRX8_45, List.forall_mem_cons.mpr ⟨lkRX8_46, List.forall_mem_cons.mpr ⟨lkRX8_47, List.forall_mem_cons.mpr ⟨lkRX8_48, List.forall_mem_cons.mpr ⟨lkRX8_49, List.forall_mem_cons.mpr ⟨lkRX8_50, List.forall_mem_cons.mpr ⟨lkRX8_51, List.forall_mem_cons.mpr ⟨lkRX8_52, List.forall_mem_cons.mpr ⟨lkRX8_53, List.forall_mem_cons.mpr ⟨lkRX8_54, List.forall_mem_cons.mpr ⟨lkRX8_55, List.forall_mem_cons.mpr ⟨lkRX8_56, List.forall_mem_cons.mpr ⟨lkRX8_57, List.forall_mem_cons.mpr ⟨lkRX8_58, List.forall_mem_cons.mpr ⟨lkRX8_59, List.forall_mem_cons.mpr ⟨lkRX8_60, List.forall_mem_cons.mpr ⟨lkRX8_61, List.forall_mem_cons.mpr ⟨lkRX8_62, List.forall_mem_cons.mpr ⟨lkRX8_63, List.forall_mem_cons.mpr ⟨lkRX8_64, List.forall_mem_cons.mpr ⟨lkRX8_65, List.forall_mem_cons.mpr ⟨lkRX8_66, List.forall_mem_cons.mpr ⟨lkRX8_67, List.forall_mem_cons.mpr ⟨lkRX8_68, List.forall_mem_cons.mpr ⟨lkRX8_69, List.forall_mem_cons.mpr ⟨lkRX8_70, List.forall_mem_cons.mpr ⟨lkRX8_71, List.forall_mem_cons.mpr ⟨lkRX8_72, List.forall_mem_cons.mpr ⟨lkRX8_73, List.forall_mem_cons.mpr ⟨lkRX8_74, List.forall_mem_cons.mpr ⟨lkRX8_75, List.forall_mem_cons.mpr ⟨lkRX8_76, List.forall_mem_cons.mpr ⟨lkRX8_77, List.forall_mem_cons.mpr ⟨lkRX8_78, List.forall_mem_cons.mpr ⟨lkRX8_79, List.forall_mem_cons.mpr ⟨lkRX8_80, List.forall_mem_cons.mpr ⟨lkRX8_81, List.forall_mem_cons.mpr ⟨lkRX8_82, List.forall_mem_cons.mpr ⟨lkRX8_83, List.forall_mem_cons.mpr ⟨lkRX8_84, List.forall_mem_cons.mpr ⟨lkRX8_85, List.forall_mem_cons.mpr ⟨lkRX8_86, List.forall_mem_cons.mpr ⟨lkRX8_87, List.forall_mem_cons.mpr ⟨lkRX8_88, List.forall_mem_cons.mpr ⟨lkRX8_89, List.forall_mem_cons.mpr ⟨lkRX8_90, List.forall_mem_cons.mpr ⟨lkRX8_91, List.forall_mem_cons.mpr ⟨lkRX8_92, List.forall_mem_cons.mpr ⟨lkRX8_93, List.forall_mem_cons.mpr ⟨lkRX8_94, List.forall_mem_cons.mpr ⟨lkRX8_95, List.forall_mem_cons.mpr ⟨lkRX8_96, List.forall_mem_cons.mpr ⟨lkRX8_97, List.forall_mem_cons.mpr ⟨lkRX8_98, List.forall_mem_cons.mpr ⟨lkRX8_99, List.forall_mem_cons.mpr ⟨lkRX8_100, List.forall_mem_cons.mpr ⟨lkRX8_101, List.forall_mem_cons.mpr ⟨lkRX8_102, List.forall_mem_cons.mpr ⟨lkRX8_103, List.forall_mem_cons.mpr ⟨lkRX8_104, List.forall_mem_cons.mpr ⟨lkRX8_105, List.forall_mem_cons.mpr ⟨lkRX8_106, List.forall_mem_cons.mpr ⟨lkRX8_107, List.forall_mem_cons.mpr ⟨lkRX8_108, List.forall_mem_cons.mpr ⟨lkRX8_109, List.forall_mem_cons.mpr ⟨lkRX8_110, List.forall_mem_cons.mpr ⟨lkRX8_111, List.forall_mem_cons.mpr ⟨lkRX8_112, List.forall_mem_cons.mpr ⟨lkRX8_113, List.forall_mem_cons.mpr ⟨lkRX8_114, List.forall_mem_cons.mpr ⟨lkRX8_115, List.forall_mem_cons.mpr ⟨lkRX8_116, List.forall_mem_cons.mpr ⟨lkRX8_117, List.forall_mem_cons.mpr ⟨lkRX8_118, List.forall_mem_cons.mpr ⟨lkRX8_119, List.forall_mem_cons.mpr ⟨lkRX8_120, List.forall_mem_cons.mpr ⟨lkRX8_121, List.forall_mem_cons.mpr ⟨lkRX8_122, List.forall_mem_cons.mpr ⟨lkRX8_123, List.forall_mem_cons.mpr ⟨lkRX8_124, List.forall_mem_cons.mpr ⟨lkRX8_125, List.forall_mem_cons.mpr ⟨lkRX8_126, List.forall_mem_cons.mpr ⟨lkRX8_127, List.forall_mem_cons.mpr ⟨lkRX8_128, fun _ h => absurd h List.not_mem_nil⟩⟩⟩⟩⟩⟩⟩⟩⟩⟩⟩⟩⟩⟩⟩⟩⟩⟩⟩⟩⟩⟩⟩⟩⟩⟩⟩⟩⟩⟩⟩⟩⟩⟩⟩⟩⟩⟩⟩⟩⟩⟩⟩⟩⟩⟩⟩⟩⟩⟩⟩⟩⟩⟩⟩⟩⟩⟩⟩⟩⟩⟩⟩⟩⟩⟩⟩⟩⟩⟩⟩⟩⟩⟩⟩⟩⟩⟩⟩⟩⟩⟩⟩⟩⟩⟩⟩⟩⟩⟩⟩⟩⟩⟩⟩⟩⟩⟩⟩⟩⟩⟩⟩⟩⟩⟩⟩⟩⟩⟩⟩⟩⟩⟩⟩⟩⟩⟩⟩⟩⟩⟩⟩⟩⟩⟩⟩⟩⟩
theorem lkRJ6_0 : LnkOK MT RJ6 (6, 265, 0, 0, 0, 1431655765) := tb_3 80 rfl rfl
theorem lkRJ6_1 : LnkOK MT RJ6 (6, 266, 0, 0, 0, 858993459) := tb_3 81 rfl rfl
theorem lkRJ6_2 : LnkOK MT RJ6 (6, 267, 0, 0, 0, 252645135) := tb_3 82 rfl rfl
def lkRJ6 : List Lnk := [(6, 265, 0, 0, 0, 1431655765), (6, 266, 0, 0, 0, 858993459), (6, 267, 0, 0, 0, 252645135)]
theorem lkRJ6_ok : ∀ q ∈ lkRJ6, LnkOK MT RJ6 q := List.forall_mem_cons.mpr ⟨lkRJ6_0, List.forall_mem_cons.mpr ⟨lkRJ6_1, List.forall_mem_cons.mpr ⟨lkRJ6_2, fun _ h => absurd h List.not_mem_nil⟩⟩⟩
theorem lkRL_0 : LnkOK MT RL (3, 13, 56, 1, 7, 0) := ⟨cal56, tb_2 90 rfl rfl, tb_2 91 rfl rfl, tb_2 92 rfl rfl, (RX7, TX7, 16), rfl, rfl⟩
theorem lkRL_1 : LnkOK MT RL (3, 17, 129, 1, 8, 0) := ⟨cal129, tb_4 222 rfl rfl, tb_4 223 rfl rfl, tb_4 224 rfl rfl, (RX8, TX8, 27), rfl, rfl⟩
theorem lkRL_2 : LnkOK MT RL (3, 18, 57, 1, 7, 0) := ⟨cal57, tb_2 98 rfl rfl, tb_2 99 rfl rfl, tb_2 100 rfl rfl, (RX7, TX7, 16), rfl, rfl⟩
theorem lkRL_3 : LnkOK MT RL (3, 21, 130, 1, 8, 0) := ⟨cal130, tb_4 230 rfl rfl, tb_4 231 rfl rfl, tb_4 232 rfl rfl, (RX8, TX8, 27), rfl, rfl⟩
theorem lkRL_4 : LnkOK MT RL (3, 22, 58, 3, 7, 0) := ⟨cal58, tb_2 151 rfl rfl, tb_2 152 rfl rfl, tb_2 153 rfl rfl, (RX7, TX7, 16), rfl, rfl⟩
theorem lkRL_5 : LnkOK MT RL (3, 26, 132, 3, 8, 0) := ⟨cal132, tb_4 238 rfl rfl, tb_4 239 rfl rfl, tb_5 0 rfl rfl, (RX8, TX8, 27), rfl, rfl⟩
theorem lkRL_6 : LnkOK MT RL (3, 27, 59, 2, 7, 0) := ⟨cal59, tb_2 174 rfl rfl, tb_2 175 rfl rfl, tb_2 176 rfl rfl, (RX7, TX7, 16), rfl, rfl⟩
theorem lkRL_7 : LnkOK MT RL (3, 31, 133, 2, 8, 0) := ⟨cal133, tb_5 19 rfl rfl, tb_5 20 rfl rfl, tb_5 21 rfl rfl, (RX8, TX8, 27), rfl, rfl⟩
theorem lkRL_8 : LnkOK MT RL (3, 32, 60, 2, 7, 0) := ⟨cal60, tb_2 178 rfl rfl, tb_2 179 rfl rfl, tb_2 180 rfl rfl, (RX7, TX7, 16), rfl, rfl⟩
theorem lkRL_9 : LnkOK MT RL (3, 35, 138, 2, 8, 0) := ⟨cal138, tb_5 23 rfl rfl, tb_5 24 rfl rfl, tb_5 25 rfl rfl, (RX8, TX8, 27), rfl, rfl⟩
theorem lkRL_10 : LnkOK MT RL (3, 36, 61, 1, 7, 0) := ⟨cal61, tb_2 190 rfl rfl, tb_2 191 rfl rfl, tb_2 192 rfl rfl, (RX7, TX7, 16), rfl, rfl⟩
theorem lkRL_11 : LnkOK MT RL (3, 39, 139, 1, 8, 0) := ⟨cal139, tb_5 65 rfl rfl, tb_5 66 rfl rfl, tb_5 67 rfl rfl, (RX8, TX8, 27), rfl, rfl⟩
theorem lkRL_12 : LnkOK MT RL (3, 40, 62, 2, 7, 0) := ⟨cal62, tb_2 194 rfl rfl, tb_2 195 rfl rfl, tb_2 196 rfl rfl, (RX7, TX7, 16), rfl, rfl⟩
theorem lkRL_13 : LnkOK MT RL (3, 43, 141, 2, 8, 0) := ⟨cal141, tb_5 77 rfl rfl, tb_5 78 rfl rfl, tb_5 79 rfl rfl, (RX8, TX8, 27), rfl, rfl⟩
theorem lkRL_14 : LnkOK MT RL (3, 44, 63, 1, 7, 0) := ⟨cal63, tb_2 200 rfl rfl, tb_2 201 rfl rfl, tb_2 202 rfl rfl, (RX7, TX7, 16), rfl, rfl⟩
theorem lkRL_15 : LnkOK MT RL (3, 47, 152, 1, 8, 0) := ⟨cal152, tb_5 84 rfl rfl, tb_5 85 rfl rfl, tb_5 86 rfl rfl, (RX8, TX8, 27), rfl, rfl⟩
theorem lkRL_16 : LnkOK MT RL (3, 48, 64, 2, 7, 0) := ⟨cal64, tb_2 208 rfl rfl, tb_2 209 rfl rfl, tb_2 210 rfl rfl, (RX7, TX7, 16), rfl, rfl⟩
theorem lkRL_17 : LnkOK MT RL (3, 51, 153, 2, 8, 0) := ⟨cal153, tb_5 99 rfl rfl, tb_5 100 rfl rfl, tb_5 101 rfl rfl, (RX8, TX8, 27), rfl, rfl⟩
theorem lkRL_18 : LnkOK MT RL (3, 52, 65, 1, 7, 0) := ⟨cal65, tb_2 234 rfl rfl, tb_2 235 rfl rfl, tb_2 236 rfl rfl, (RX7, TX7, 16), rfl, rfl⟩
theorem lkRL_19 : LnkOK MT RL (3, 55, 156, 1, 8, 0) := ⟨cal156, tb_5 111 rfl rfl, tb_5 112 rfl rfl, tb_5 113 rfl rfl, (RX8, TX8, 27), rfl, rfl⟩
theorem lkRL_20 : LnkOK MT RL (3, 56, 66, 3, 7, 0) := ⟨cal66, tb_3 24 rfl rfl, tb_3 25 rfl rfl, tb_3 26 rfl rfl, (RX7, TX7, 16), rfl, rfl⟩
theorem lkRL_21 : LnkOK MT RL (3, 60, 157, 3, 8, 0) := ⟨cal157, tb_5 129 rfl rfl, tb_5 130 rfl rfl, tb_5 131 rfl rfl, (RX8, TX8, 27), rfl, rfl⟩
theorem lkRL_22 : LnkOK MT RL (3, 61, 67, 0, 7, 0) := ⟨cal67, tb_3 40 rfl rfl, tb_3 41 rfl rfl, tb_3 42 rfl rfl, (RX7, TX7, 16), rfl, rfl⟩
theorem lkRL_23 : LnkOK MT RL (3, 65, 158, 0, 8, 0) := ⟨cal158, tb_5 141 rfl rfl, tb_5 142 rfl rfl, tb_5 143 rfl rfl, (RX8, TX8, 27), rfl, rfl⟩
theorem lkRL_24 : LnkOK MT RL (3, 66, 68, 1, 7, 0) := ⟨cal68, tb_3 51 rfl rfl, tb_3 52 rfl rfl, tb_3 53 rfl rfl, (RX7, TX7, 16), rfl, rfl⟩
theorem lkRL_25 : LnkOK MT RL (3, 69, 160, 1, 8, 0) := ⟨cal160, tb_5 145 rfl rfl, tb_5 146 rfl rfl, tb_5 147 rfl rfl, (RX8, TX8, 27), rfl, rfl⟩
theorem lkRL_26 : LnkOK MT RL (3, 70, 69, 1, 7, 0) := ⟨cal69, tb_3 65 rfl rfl, tb_3 66 rfl rfl, tb_3 67 rfl rfl, (RX7, TX7, 16), rfl, rfl⟩
theorem lkRL_27 : LnkOK MT RL (3, 73, 162, 1, 8, 0) := ⟨cal162, tb_5 153 rfl rfl, tb_5 154 rfl rfl, tb_5 155 rfl rfl, (RX8, TX8, 27), rfl, rfl⟩
theorem lkRL_28 : LnkOK MT RL (3, 74, 70, 3, 7, 0) := ⟨cal70, tb_3 84 rfl rfl, tb_3 85 rfl rfl, tb_3 86 rfl rfl, (RX7, TX7, 16), rfl, rfl⟩
theorem lkRL_29 : LnkOK MT RL (3, 77, 163, 3, 8, 0) := ⟨cal163, tb_5 169 rfl rfl, tb_5 170 rfl rfl, tb_5 171 rfl rfl, (RX8, TX8, 27), rfl, rfl⟩
theorem lkRL_30 : LnkOK MT RL (3, 78, 71, 1, 7, 0) := ⟨cal71, tb_3 92 rfl rfl, tb_3 93 rfl rfl, tb_3 94 rfl rfl, (RX7, TX7, 16), rfl, rfl⟩
theorem lkRL_31 : LnkOK MT RL (3, 81, 168, 1, 8, 0) := ⟨cal168, tb_5 181 rfl rfl, tb_5 182 rfl rfl, tb_5 183 rfl rfl, (RX8, TX8, 27), rfl, rfl⟩
theorem lkRL_32 : LnkOK MT RL (3, 82, 72, 1, 7, 0) := ⟨cal72, tb_3 112 rfl rfl, tb_3 113 rfl rfl, tb_3 114 rfl rfl, (RX7, TX7, 16), rfl, rfl⟩
theorem lkRL_33 : LnkOK MT RL (3, 86, 165, 1, 8, 0) := ⟨cal165, tb_5 173 rfl rfl, tb_5 174 rfl rfl, tb_5 175 rfl rfl, (RX8, TX8, 27), rfl, rfl⟩
theorem lkRL_34 : LnkOK MT RL (3, 87, 73, 1, 7, 0) := ⟨cal73, tb_3 117 rfl rfl, tb_3 118 rfl rfl, tb_3 119 rfl rfl, (RX7, TX7, 16), rfl, rfl⟩
theorem lkRL_35 : LnkOK MT RL (3, 90, 169, 1, 8, 0) := ⟨cal169, tb_5 193 rfl rfl, tb_5 194 rfl rfl, tb_5 195 rfl rfl, (RX8, TX8, 27), rfl, rfl⟩
theorem lkRL_36 : LnkOK MT RL (3, 91, 74, 3, 7, 0) := ⟨cal74, tb_3 121 rfl rfl, tb_3 122 rfl rfl, tb_3 123 rfl rfl, (RX7, TX7, 16), rfl, rfl⟩
theorem lkRL_37 : LnkOK MT RL (3, 94, 170, 3, 8, 0) := ⟨cal170, tb_5 197 rfl rfl, tb_5 198 rfl rfl, tb_5 199 rfl rfl, (RX8, TX8, 27), rfl, rfl⟩
theorem lkRL_38 : LnkOK MT RL (3, 95, 75, 2, 7, 0) := ⟨cal75, tb_3 125 rfl rfl, tb_3 126 rfl rfl, tb_3 127 rfl rfl, (RX7, TX7, 16), rfl, rfl⟩
theorem lkRL_39 : LnkOK MT RL (3, 98, 171, 2, 8, 0) := ⟨cal171, tb_5 201 rfl rfl, tb_5 202 rfl rfl, tb_5 203 rfl rfl, (RX8, TX8, 27), rfl, rfl⟩
theorem lkRL_40 : LnkOK MT RL (3, 99, 76, 0, 7, 0) := ⟨cal76, tb_3 133 rfl rfl, tb_3 134 rfl rfl, tb_3 135 rfl rfl, (RX7, TX7, 16), rfl, rfl⟩
theorem lkRL_41 : LnkOK MT RL (3, 102, 178, 0, 8, 0) := ⟨cal178, tb_5 205 rfl rfl, tb_5 206 rfl rfl, tb_5 207 rfl rfl, (RX8, TX8, 27), rfl, rfl⟩
theorem lkRL_42 : LnkOK MT RL (3, 103, 77, 4, 7, 0) := ⟨cal77, tb_3 163 rfl rfl, tb_3 164 rfl rfl, tb_3 165 rfl rfl, (RX7, TX7, 16), rfl, rfl⟩
theorem lkRL_43 : LnkOK MT RL (3, 107, 181, 4, 8, 0) := ⟨cal181, tb_5 232 rfl rfl, tb_5 233 rfl rfl, tb_5 234 rfl rfl, (RX8, TX8, 27), rfl, rfl⟩
theorem lkRL_44 : LnkOK MT RL (3, 108, 78, 2, 7, 0) := ⟨cal78, tb_3 170 rfl rfl, tb_3 171 rfl rfl, tb_3 172 rfl rfl, (RX7, TX7, 16), rfl, rfl⟩
theorem lkRL_45 : LnkOK MT RL (3, 111, 182, 2, 8, 0) := ⟨cal182, tb_6 4 rfl rfl, tb_6 5 rfl rfl, tb_6 6 rfl rfl, (RX8, TX8, 27), rfl, rfl⟩
theorem lkRL_46 : LnkOK MT RL (3, 112, 79, 1, 7, 0) := ⟨cal79, tb_3 174 rfl rfl, tb_3 175 rfl rfl, tb_3 176 rfl rfl, (RX7, TX7, 16), rfl, rfl⟩
theorem lkRL_47 : LnkOK MT RL (3, 115, 183, 1, 8, 0) := ⟨cal183, tb_6 8 rfl rfl, tb_6 9 rfl rfl, tb_6 10 rfl rfl, (RX8, TX8, 27), rfl, rfl⟩
theorem lkRL_48 : LnkOK MT RL (3, 116, 80, 2, 7, 0) := ⟨cal80, tb_3 178 rfl rfl, tb_3 179 rfl rfl, tb_3 180 rfl rfl, (RX7, TX7, 16), rfl, rfl⟩
theorem lkRL_49 : LnkOK MT RL (3, 119, 188, 2, 8, 0) := ⟨cal188, tb_6 12 rfl rfl, tb_6 13 rfl rfl, tb_6 14 rfl rfl, (RX8, TX8, 27), rfl, rfl⟩
theorem lkRL_50 : LnkOK MT RL (3, 120, 81, 1, 7, 0) := ⟨cal81, tb_3 194 rfl rfl, tb_3 195 rfl rfl, tb_3 196 rfl rfl, (RX7, TX7, 16), rfl, rfl⟩
theorem lkRL_51 : LnkOK MT RL (3, 123, 192, 1, 8, 0) := ⟨cal192, tb_6 32 rfl rfl, tb_6 33 rfl rfl, tb_6 34 rfl rfl, (RX8, TX8, 27), rfl, rfl⟩
theorem lkRL_52 : LnkOK MT RL (3, 124, 82, 0, 7, 0) := ⟨cal82, tb_3 214 rfl rfl, tb_3 215 rfl rfl, tb_3 216 rfl rfl, (RX7, TX7, 16), rfl, rfl⟩
theorem lkRL_53 : LnkOK MT RL (3, 127, 202, 0, 8, 0) := ⟨cal202, tb_6 49 rfl rfl, tb_6 50 rfl rfl, tb_6 51 rfl rfl, (RX8, TX8, 27), rfl, rfl⟩
theorem lkRL_54 : LnkOK MT RL (3, 128, 83, 1, 7, 0) := ⟨cal83, tb_4 46 rfl rfl, tb_4 47 rfl rfl, tb_4 48 rfl rfl, (RX7, TX7, 16), rfl, rfl⟩
theorem lkRL_55 : LnkOK MT RL (3, 131, 211, 1, 8, 0) := ⟨cal211, tb_6 92 rfl rfl, tb_6 93 rfl rfl, tb_6 94 rfl rfl, (RX8, TX8, 27), rfl, rfl⟩
theorem lkRL_56 : LnkOK MT RL (3, 132, 84, 2, 7, 0) := ⟨cal84, tb_4 62 rfl rfl, tb_4 63 rfl rfl, tb_4 64 rfl rfl, (RX7, TX7, 16), rfl, rfl⟩
theorem lkRL_57 : LnkOK MT RL (3, 135, 212, 2, 8, 0) := ⟨cal212, tb_6 129 rfl rfl, tb_6 130 rfl rfl, tb_6 131 rfl rfl, (RX8, TX8, 27), rfl, rfl⟩
theorem lkRL_58 : LnkOK MT RL (3, 136, 85, 1, 7, 0) := ⟨cal85, tb_4 70 rfl rfl, tb_4 71 rfl rfl, tb_4 72 rfl rfl, (RX7, TX7, 16), rfl, rfl⟩
theorem lkRL_59 : LnkOK MT RL (3, 139, 213, 1, 8, 0) := ⟨cal213, tb_6 133 rfl rfl, tb_6 134 rfl rfl, tb_6 135 rfl rfl, (RX8, TX8, 27), rfl, rfl⟩
theorem lkRL_60 : LnkOK MT RL (3, 140, 86, 3, 7, 0) := ⟨cal86, tb_4 74 rfl rfl, tb_4 75 rfl rfl, tb_4 76 rfl rfl, (RX7, TX7, 16), rfl, rfl⟩
theorem lkRL_61 : LnkOK MT RL (3, 143, 215, 3, 8, 0) := ⟨cal215, tb_6 137 rfl rfl, tb_6 138 rfl rfl, tb_6 139 rfl rfl, (RX8, TX8, 27), rfl, rfl⟩
theorem lkRL_62 : LnkOK MT RL (3, 144, 87, 2, 7, 0) := ⟨cal87, tb_4 82 rfl rfl, tb_4 83 rfl rfl, tb_4 84 rfl rfl, (RX7, TX7, 16), rfl, rfl⟩
theorem lkRL_63 : LnkOK MT RL (3, 147, 217, 2, 8, 0) := ⟨cal217, tb_6 148 rfl rfl, tb_6 149 rfl rfl, tb_6 150 rfl rfl, (RX8, TX8, 27), rfl, rfl⟩
theorem lkRL_64 : LnkOK MT RL (3, 148, 88, 3, 7, 0) := ⟨cal88, tb_4 87 rfl rfl, tb_4 88 rfl rfl, tb_4 89 rfl rfl, (RX7, TX7, 16), rfl, rfl⟩
theorem lkRL_65 : LnkOK MT RL (3, 151, 219, 3, 8, 0) := ⟨cal219, tb_6 152 rfl rfl, tb_6 153 rfl rfl, tb_6 154 rfl rfl, (RX8, TX8, 27), rfl, rfl⟩
theorem lkRL_66 : LnkOK MT RL (3, 152, 89, 2, 7, 0) := ⟨cal89, tb_4 91 rfl rfl, tb_4 92 rfl rfl, tb_4 93 rfl rfl, (RX7, TX7, 16), rfl, rfl⟩
theorem lkRL_67 : LnkOK MT RL (3, 155, 220, 2, 8, 0) := ⟨cal220, tb_6 164 rfl rfl, tb_6 165 rfl rfl, tb_6 166 rfl rfl, (RX8, TX8, 27), rfl, rfl⟩
theorem lkRL_68 : LnkOK MT RL (3, 156, 90, 3, 7, 0) := ⟨cal90, tb_4 95 rfl rfl, tb_4 96 rfl rfl, tb_4 97 rfl rfl, (RX7, TX7, 16), rfl, rfl⟩
theorem lkRL_69 : LnkOK MT RL (3, 159, 221, 3, 8, 0) := ⟨cal221, tb_6 168 rfl rfl, tb_6 169 rfl rfl, tb_6 170 rfl rfl, (RX8, TX8, 27), rfl, rfl⟩
theorem lkRL_70 : LnkOK MT RL (3, 160, 91, 1, 7, 0) := ⟨cal91, tb_4 100 rfl rfl, tb_4 101 rfl rfl, tb_4 102 rfl rfl, (RX7, TX7, 16), rfl, rfl⟩
theorem lkRL_71 : LnkOK MT RL (3, 163, 222, 1, 8, 0) := ⟨cal222, tb_6 172 rfl rfl, tb_6 173 rfl rfl, tb_6 174 rfl rfl, (RX8, TX8, 27), rfl, rfl⟩
theorem lkRL_72 : LnkOK MT RL (3, 164, 92, 0, 7, 0) := ⟨cal92, tb_4 104 rfl rfl, tb_4 105 rfl rfl, tb_4 106 rfl rfl, (RX7, TX7, 16), rfl, rfl⟩
theorem lkRL_73 : LnkOK MT RL (3, 167, 223, 0, 8, 0) := ⟨cal223, tb_6 176 rfl rfl, tb_6 177 rfl rfl, tb_6 178 rfl rfl, (RX8, TX8, 27), rfl, rfl⟩
theorem lkRL_74 : LnkOK MT RL (3, 168, 93, 0, 7, 0) := ⟨cal93, tb_4 115 rfl rfl, tb_4 116 rfl rfl, tb_4 117 rfl rfl, (RX7, TX7, 16), rfl, rfl⟩
theorem lkRL_75 : LnkOK MT RL (3, 171, 224, 0, 8, 0) := ⟨cal224, tb_6 180 rfl rfl, tb_6 181 rfl rfl, tb_6 182 rfl rfl, (RX8, TX8, 27), rfl, rfl⟩
theorem lkRL_76 : LnkOK MT RL (3, 172, 94, 0, 7, 0) := ⟨cal94, tb_4 124 rfl rfl, tb_4 125 rfl rfl, tb_4 126 rfl rfl, (RX7, TX7, 16), rfl, rfl⟩
theorem lkRL_77 : LnkOK MT RL (3, 175, 225, 0, 8, 0) := ⟨cal225, tb_6 184 rfl rfl, tb_6 185 rfl rfl, tb_6 186 rfl rfl, (RX8, TX8, 27), rfl, rfl⟩
theorem lkRL_78 : LnkOK MT RL (3, 176, 95, 1, 7, 0) := ⟨cal95, tb_4 128 rfl rfl, tb_4 129 rfl rfl, tb_4 130 rfl rfl, (RX7, TX7, 16), rfl, rfl⟩
theorem lkRL_79 : LnkOK MT RL (3, 179, 227, 1, 8, 0) := ⟨cal227, tb_6 188 rfl rfl, tb_6 189 rfl rfl, tb_6 190 rfl rfl, (RX8, TX8, 27), rfl, rfl⟩
def lkRL : List Lnk := [(3, 13, 56, 1, 7, 0), (3, 17, 129, 1, 8, 0), (3, 18, 57, 1, 7, 0), (3, 21, 130, 1, 8, 0), (3, 22, 58, 3, 7, 0), (3, 26, 132, 3, 8, 0), (3, 27, 59, 2, 7, 0), (3, 31, 133, 2, 8, 0), (3, 32, 60, 2, 7, 0), (3, 35, 138, 2, 8, 0), (3, 36, 61, 1, 7, 0), (3, 39, 139, 1, 8, 0), (3, 40, 62, 2, 7, 0), (3, 43, 141, 2, 8, 0), (3, 44, 63, 1, 7, 0), (3, 47, 152, 1, 8, 0), (3, 48, 64, 2, 7, 0), (3, 51, 153, 2, 8, 0), (3, 52, 65, 1, 7, 0), (3, 55, 156, 1, 8, 0), (3, 56, 66, 3, 7, 0), (3, 60, 157, 3, 8, 0), (3, 61, 67, 0, 7, 0), (3, 65, 158, 0, 8, 0), (3, 66, 68, 1, 7, 0), (3, 69, 160, 1, 8, 0), (3, 70, 69, 1, 7, 0), (3, 73, 162, 1, 8, 0), (3, 74, 70, 3, 7, 0), (3, 77, 163, 3, 8, 0), (3, 78, 71, 1, 7, 0), (3, 81, 168, 1, 8, 0), (3, 82, 72, 1, 7, 0), (3, 86, 165, 1, 8, 0), (3, 87, 73, 1, 7, 0), (3, 90, 169, 1, 8, 0), (3, 91, 74, 3, 7, 0), (3, 94, 170, 3, 8, 0), (3, 95, 75, 2, 7, 0), (3, 98, 171, 2, 8, 0), (3, 99, 76, 0, 7, 0), (3, 102, 178, 0, 8, 0), (3, 103, 77, 4, 7, 0), (3, 107, 181, 4, 8, 0), (3, 108, 78, 2, 7, 0), (3, 111, 182, 2, 8, 0), (3, 112, 79, 1, 7, 0), (3, 115, 183, 1, 8, 0), (3, 116, 80, 2, 7, 0), (3, 119, 188, 2, 8, 0), (3, 120, 81, 1, 7, 0), (3, 123, 192, 1, 8, 0), (3, 124, 82, 0, 7, 0), (3, 127, 202, 0, 8, 0), (3, 128, 83, 1, 7, 0), (3, 131, 211, 1, 8, 0), (3, 132, 84, 2, 7, 0), (3, 135, 212, 2, 8, 0), (3, 136, 85, 1, 7, 0), (3, 139, 213, 1, 8, 0), (3, 140, 86, 3, 7, 0), (3, 143, 215, 3, 8, 0), (3, 144, 87, 2, 7, 0), (3, 147, 217, 2, 8, 0), (3, 148, 88, 3, 7, 0), (3, 151, 219, 3, 8, 0), (3, 152, 89, 2, 7, 0), (3, 155, 220, 2, 8, 0), (3, 156, 90, 3, 7, 0), (3, 159, 221, 3, 8, 0), (3, 160, 91, 1, 7, 0), (3, 163, 222, 1, 8, 0), (3, 164, 92, 0, 7, 0), (3, 167, 223, 0, 8, 0), (3, 168, 93, 0, 7, 0), (3, 171, 224, 0, 8, 0), (3, 172, 94, 0, 7, 0), (3, 175, 225, 0, 8, 0), (3, 176, 95, 1, 7, 0), (3, 179, 227, 1, 8, 0)]
theorem lkRL_ok : ∀ q ∈ lkRL, LnkOK MT RL q := List.forall_mem_cons.mpr ⟨lkRL_0, List.forall_mem_cons.mpr ⟨lkRL_1, List.forall_mem_cons.mpr ⟨lkRL_2, List.forall_mem_cons.mpr ⟨lkRL_3, List.forall_mem_cons.mpr ⟨lkRL_4, List.forall_mem_cons.mpr ⟨lkRL_5, List.forall_mem_cons.mpr ⟨lkRL_6, List.forall_mem_cons.mpr ⟨lkRL_7, List.forall_mem_cons.mpr ⟨lkRL_8, List.forall_mem_cons.mpr ⟨lkRL_9, List.forall_mem_cons.mpr ⟨lkRL_10, List.forall_mem_cons.mpr ⟨lkRL_11, List.forall_mem_cons.mpr ⟨lkRL_12, List.forall_mem_cons.mpr ⟨lkRL_13, List.forall_mem_cons.mpr ⟨lkRL_14, List.forall_mem_cons.mpr ⟨lkRL_15, List.forall_mem_cons.mpr ⟨lkRL_16, List.forall_mem_cons.mpr ⟨lkRL_17, List.forall_mem_cons.mpr ⟨lkRL_18, List.forall_mem_cons.mpr ⟨lkRL_19, List.forall_mem_cons.mpr ⟨lkRL_20, List.forall_mem_cons.mpr ⟨lkRL_21, List.forall_mem_cons.mpr ⟨lkRL_22, List.forall_mem_cons.mpr ⟨lkRL_23, List.forall_mem_cons.mpr ⟨lkRL_24, List.forall_mem_cons.mpr ⟨lkRL_25, List.forall_mem_cons.mpr ⟨lkRL_26, List.forall_mem_cons.mpr ⟨lkRL_27, List.forall_mem_cons.mpr ⟨lkRL_28, List.forall_mem_cons.mpr ⟨lkRL_29, List.forall_mem_cons.mpr ⟨lkRL_30, List.forall_mem_cons.mpr ⟨lkRL_31, List.forall_mem_cons.mpr ⟨lkRL_32, List.forall_mem_cons.mpr ⟨lkRL_33, List.forall_mem_cons.mpr ⟨lkRL_34, List.forall_mem_cons.mpr ⟨lkRL_35, List.forall_mem_cons.mpr ⟨lkRL_36, List.forall_mem_cons.mpr ⟨lkRL_37, List.forall_mem_cons.mpr ⟨lkRL_38, List.forall_mem_cons.mpr ⟨lkRL_39, List.forall_mem_cons.mpr ⟨lkRL_40, List.forall_mem_cons.mpr ⟨lkRL_41, List.forall_mem_cons.mpr ⟨lkRL_42, List.forall_mem_cons.mpr ⟨lkRL_43, List.forall_mem_cons.mpr ⟨lkRL_44, List.forall_mem_cons.mpr ⟨lkRL_45, List.forall_mem_cons.mpr ⟨lkRL_46, List.forall_mem_cons.mpr ⟨lkRL_47, List.forall_mem_cons.mpr ⟨lkRL_48, List.forall_mem_cons.mpr ⟨lkRL_49, List.forall_mem_cons.mpr ⟨lkRL_50, List.forall_mem_cons.mpr ⟨lkRL_51, List.forall_mem_cons.mpr ⟨lkRL_52, List.forall_mem_cons.mpr ⟨lkRL_53, List.forall_mem_cons.mpr ⟨lkRL_54, List.forall_mem_cons.mpr ⟨lkRL_55, List.forall_mem_cons.mpr ⟨lkRL_56, List.forall_mem_cons.mpr ⟨lkRL_57, List.forall_mem_cons.mpr ⟨lkRL_58, List.forall_mem_cons.mpr ⟨lkRL_59, List.forall_mem_cons.mpr ⟨lkRL_60, List.forall_mem_cons.mpr ⟨lkRL_61, List.forall_mem_cons.mpr ⟨lkRL_62, List.forall_mem_cons.mpr ⟨lkRL_63, List.forall_mem_cons.mpr ⟨lkRL_64, List.forall_mem_cons.mpr ⟨lkRL_65, List.forall_mem_cons.mpr ⟨lkRL_66, List.forall_mem_cons.mpr ⟨lkRL_67, List.forall_mem_cons.mpr ⟨lkRL_68, List.forall_mem_cons.mpr ⟨lkRL_69, List.forall_mem_cons.mpr ⟨lkRL_70, List.forall_mem_cons.mpr ⟨lkRL_71, List.forall_mem_cons.mpr ⟨lkRL_72, List.forall_mem_cons.mpr ⟨lkRL_73, List.forall_mem_cons.mpr ⟨lkRL_74, List.forall_mem_cons.mpr ⟨lkRL_75, List.forall_mem_cons.mpr ⟨lkRL_76, List.forall_mem_cons.mpr ⟨lkRL_77, List.forall_mem_cons.mpr ⟨lkRL_78, List.forall_mem_cons.mpr ⟨lkRL_79, fun _ h => absurd h List.not_mem_nil⟩⟩⟩⟩⟩⟩⟩⟩⟩⟩⟩⟩⟩⟩⟩⟩⟩⟩⟩⟩⟩⟩⟩⟩⟩⟩⟩⟩⟩⟩⟩⟩⟩⟩⟩⟩⟩⟩⟩⟩⟩⟩⟩⟩⟩⟩⟩⟩⟩⟩⟩⟩⟩⟩⟩⟩⟩⟩⟩⟩⟩⟩⟩⟩⟩⟩⟩⟩⟩⟩⟩⟩⟩⟩⟩⟩⟩⟩⟩⟩
def lkRJ9 : List Lnk := []
theorem lkRJ9_ok : ∀ q ∈ lkRJ9, LnkOK MT RJ9 q := fun _ h => absurd h List.not_mem_nil
def lkRJ7 : List Lnk := []
theorem lkRJ7_ok : ∀ q ∈ lkRJ7, LnkOK MT RJ7 q := fun _ h => absurd h List.not_mem_nil
end
