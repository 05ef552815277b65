section
-- ===== PART A: goes FIRST, ahead of the names: the tables' words, and 'selects' of the private methods out of them =====
/-- a private method of a class that the tables say can be made, by its rows of tables_1 -/
def lw_okq (q : MethodName × Nat) : Prop := (q.1.cls ≠ "java/lang/invoke/MethodHandle" ∧ q.1.cls ≠ "java/lang/invoke/VarHandle") ∧ Cond.instantiable q.1.cls q.2 ∈ tables_1 ∧ Cond.privateMethod q.1 ∈ tables_1 ∧ Cond.instanceMethod q.1 ∈ tables_1
theorem lw_p0 : lw_okq (⟨"DictProof", "readPage", "()I"⟩, 14) := ⟨⟨by decide +kernel, by decide +kernel⟩, List.mem_of_getElem? (i := 15) (by decide +kernel), List.mem_of_getElem? (i := 357) (by decide +kernel), List.mem_of_getElem? (i := 358) (by decide +kernel)⟩
theorem lw_p1 : lw_okq (⟨"DictProof$Reader", "acceptsClass", "(I)Z"⟩, 5) := ⟨⟨by decide +kernel, by decide +kernel⟩, List.mem_of_getElem? (i := 151) (by decide +kernel), List.mem_of_getElem? (i := 373) (by decide +kernel), List.mem_of_getElem? (i := 374) (by decide +kernel)⟩
theorem lw_p2 : lw_okq (⟨"DictProof$Reader", "acceptsSecondDigit", "(I)Z"⟩, 5) := ⟨⟨by decide +kernel, by decide +kernel⟩, List.mem_of_getElem? (i := 151) (by decide +kernel), List.mem_of_getElem? (i := 385) (by decide +kernel), List.mem_of_getElem? (i := 386) (by decide +kernel)⟩
theorem lw_p3 : lw_okq (⟨"DictProof$Reader", "acceptsClassEnd", "(I)Z"⟩, 5) := ⟨⟨by decide +kernel, by decide +kernel⟩, List.mem_of_getElem? (i := 151) (by decide +kernel), List.mem_of_getElem? (i := 389) (by decide +kernel), List.mem_of_getElem? (i := 390) (by decide +kernel)⟩
theorem lw_p4 : lw_okq (⟨"DictProof$Reader", "acceptsKind", "(I)Z"⟩, 5) := ⟨⟨by decide +kernel, by decide +kernel⟩, List.mem_of_getElem? (i := 151) (by decide +kernel), List.mem_of_getElem? (i := 393) (by decide +kernel), List.mem_of_getElem? (i := 394) (by decide +kernel)⟩
theorem lw_p5 : lw_okq (⟨"DictProof$Reader", "acceptsOwner", "(I)Z"⟩, 5) := ⟨⟨by decide +kernel, by decide +kernel⟩, List.mem_of_getElem? (i := 151) (by decide +kernel), List.mem_of_getElem? (i := 412) (by decide +kernel), List.mem_of_getElem? (i := 413) (by decide +kernel)⟩
theorem lw_p6 : lw_okq (⟨"DictProof$Reader", "isClassDigit", "(I)Z"⟩, 5) := ⟨⟨by decide +kernel, by decide +kernel⟩, List.mem_of_getElem? (i := 151) (by decide +kernel), List.mem_of_getElem? (i := 416) (by decide +kernel), List.mem_of_getElem? (i := 417) (by decide +kernel)⟩
theorem lw_p7 : lw_okq (⟨"DictProof$Reader", "acceptsHead", "(I)Z"⟩, 5) := ⟨⟨by decide +kernel, by decide +kernel⟩, List.mem_of_getElem? (i := 151) (by decide +kernel), List.mem_of_getElem? (i := 420) (by decide +kernel), List.mem_of_getElem? (i := 421) (by decide +kernel)⟩
theorem lw_p8 : lw_okq (⟨"DictProof$Reader", "acceptsCondition", "(I)Z"⟩, 5) := ⟨⟨by decide +kernel, by decide +kernel⟩, List.mem_of_getElem? (i := 151) (by decide +kernel), List.mem_of_getElem? (i := 436) (by decide +kernel), List.mem_of_getElem? (i := 437) (by decide +kernel)⟩
theorem lw_p9 : lw_okq (⟨"DictProof$Reader", "acceptsNext", "(I)Z"⟩, 5) := ⟨⟨by decide +kernel, by decide +kernel⟩, List.mem_of_getElem? (i := 151) (by decide +kernel), List.mem_of_getElem? (i := 451) (by decide +kernel), List.mem_of_getElem? (i := 452) (by decide +kernel)⟩
theorem lw_p10 : lw_okq (⟨"DictProof$Reader", "acceptsGap", "(I)Z"⟩, 5) := ⟨⟨by decide +kernel, by decide +kernel⟩, List.mem_of_getElem? (i := 151) (by decide +kernel), List.mem_of_getElem? (i := 455) (by decide +kernel), List.mem_of_getElem? (i := 456) (by decide +kernel)⟩
theorem lw_p11 : lw_okq (⟨"DictProof$Book", "settleClass", "(I)V"⟩, 10) := ⟨⟨by decide +kernel, by decide +kernel⟩, List.mem_of_getElem? (i := 23) (by decide +kernel), List.mem_of_getElem? (i := 477) (by decide +kernel), List.mem_of_getElem? (i := 478) (by decide +kernel)⟩
theorem lw_p12 : lw_okq (⟨"DictProof$Book", "settleInstance", "(I)V"⟩, 10) := ⟨⟨by decide +kernel, by decide +kernel⟩, List.mem_of_getElem? (i := 23) (by decide +kernel), List.mem_of_getElem? (i := 481) (by decide +kernel), List.mem_of_getElem? (i := 482) (by decide +kernel)⟩
theorem lw_p13 : lw_okq (⟨"DictProof$Shape", "firstLike", "(I)I"⟩, 4) := ⟨⟨by decide +kernel, by decide +kernel⟩, List.mem_of_getElem? (i := 36) (by decide +kernel), List.mem_of_getElem? (i := 494) (by decide +kernel), List.mem_of_getElem? (i := 495) (by decide +kernel)⟩
theorem lw_p14 : lw_okq (⟨"DictProof$Shape", "isLike", "(II)Z"⟩, 4) := ⟨⟨by decide +kernel, by decide +kernel⟩, List.mem_of_getElem? (i := 36) (by decide +kernel), List.mem_of_getElem? (i := 498) (by decide +kernel), List.mem_of_getElem? (i := 499) (by decide +kernel)⟩
theorem lw_p15 : lw_okq (⟨"DictProof$Book", "needsAbove", "(II)I"⟩, 10) := ⟨⟨by decide +kernel, by decide +kernel⟩, List.mem_of_getElem? (i := 23) (by decide +kernel), List.mem_of_getElem? (i := 513) (by decide +kernel), List.mem_of_getElem? (i := 514) (by decide +kernel)⟩
def lw_privs_1 : List (MethodName × Nat) := [(⟨"DictProof", "readPage", "()I"⟩, 14), (⟨"DictProof$Reader", "acceptsClass", "(I)Z"⟩, 5), (⟨"DictProof$Reader", "acceptsSecondDigit", "(I)Z"⟩, 5), (⟨"DictProof$Reader", "acceptsClassEnd", "(I)Z"⟩, 5), (⟨"DictProof$Reader", "acceptsKind", "(I)Z"⟩, 5), (⟨"DictProof$Reader", "acceptsOwner", "(I)Z"⟩, 5), (⟨"DictProof$Reader", "isClassDigit", "(I)Z"⟩, 5), (⟨"DictProof$Reader", "acceptsHead", "(I)Z"⟩, 5), (⟨"DictProof$Reader", "acceptsCondition", "(I)Z"⟩, 5), (⟨"DictProof$Reader", "acceptsNext", "(I)Z"⟩, 5), (⟨"DictProof$Reader", "acceptsGap", "(I)Z"⟩, 5), (⟨"DictProof$Book", "settleClass", "(I)V"⟩, 10), (⟨"DictProof$Book", "settleInstance", "(I)V"⟩, 10), (⟨"DictProof$Shape", "firstLike", "(I)I"⟩, 4), (⟨"DictProof$Shape", "isLike", "(II)Z"⟩, 4), (⟨"DictProof$Book", "needsAbove", "(II)I"⟩, 10)]
theorem lw_r1 : ∀ q ∈ lw_privs_1, lw_okq q := List.forall_mem_cons.mpr ⟨lw_p0, List.forall_mem_cons.mpr ⟨lw_p1, List.forall_mem_cons.mpr ⟨lw_p2, List.forall_mem_cons.mpr ⟨lw_p3, List.forall_mem_cons.mpr ⟨lw_p4, List.forall_mem_cons.mpr ⟨lw_p5, List.forall_mem_cons.mpr ⟨lw_p6, List.forall_mem_cons.mpr ⟨lw_p7, List.forall_mem_cons.mpr ⟨lw_p8, List.forall_mem_cons.mpr ⟨lw_p9, List.forall_mem_cons.mpr ⟨lw_p10, List.forall_mem_cons.mpr ⟨lw_p11, List.forall_mem_cons.mpr ⟨lw_p12, List.forall_mem_cons.mpr ⟨lw_p13, List.forall_mem_cons.mpr ⟨lw_p14, List.forall_mem_cons.mpr ⟨lw_p15, fun _ h => absurd h List.not_mem_nil⟩⟩⟩⟩⟩⟩⟩⟩⟩⟩⟩⟩⟩⟩⟩⟩
theorem lw_p16 : lw_okq (⟨"DictProof$Book", "compareHeads", "(ILDictProof$Meeting;)V"⟩, 10) := ⟨⟨by decide +kernel, by decide +kernel⟩, List.mem_of_getElem? (i := 23) (by decide +kernel), List.mem_of_getElem? (i := 517) (by decide +kernel), List.mem_of_getElem? (i := 518) (by decide +kernel)⟩
theorem lw_p17 : lw_okq (⟨"DictProof$Meeting", "load", "(LDictProof$Shape;I)V"⟩, 8) := ⟨⟨by decide +kernel, by decide +kernel⟩, List.mem_of_getElem? (i := 173) (by decide +kernel), List.mem_of_getElem? (i := 529) (by decide +kernel), List.mem_of_getElem? (i := 530) (by decide +kernel)⟩
theorem lw_p18 : lw_okq (⟨"DictProof$Meeting", "expectAlike", "(II)V"⟩, 8) := ⟨⟨by decide +kernel, by decide +kernel⟩, List.mem_of_getElem? (i := 173) (by decide +kernel), List.mem_of_getElem? (i := 535) (by decide +kernel), List.mem_of_getElem? (i := 536) (by decide +kernel)⟩
theorem lw_p19 : lw_okq (⟨"DictProof$Meeting", "bringTogether", "()Z"⟩, 8) := ⟨⟨by decide +kernel, by decide +kernel⟩, List.mem_of_getElem? (i := 173) (by decide +kernel), List.mem_of_getElem? (i := 539) (by decide +kernel), List.mem_of_getElem? (i := 540) (by decide +kernel)⟩
theorem lw_p20 : lw_okq (⟨"DictProof$Meeting", "leaderOf", "(I)I"⟩, 8) := ⟨⟨by decide +kernel, by decide +kernel⟩, List.mem_of_getElem? (i := 173) (by decide +kernel), List.mem_of_getElem? (i := 543) (by decide +kernel), List.mem_of_getElem? (i := 544) (by decide +kernel)⟩
theorem lw_p21 : lw_okq (⟨"DictProof$Meeting", "joinGroups", "(II)Z"⟩, 8) := ⟨⟨by decide +kernel, by decide +kernel⟩, List.mem_of_getElem? (i := 173) (by decide +kernel), List.mem_of_getElem? (i := 547) (by decide +kernel), List.mem_of_getElem? (i := 548) (by decide +kernel)⟩
theorem lw_p22 : lw_okq (⟨"DictProof$Meeting", "comesToAnEnd", "()Z"⟩, 8) := ⟨⟨by decide +kernel, by decide +kernel⟩, List.mem_of_getElem? (i := 173) (by decide +kernel), List.mem_of_getElem? (i := 552) (by decide +kernel), List.mem_of_getElem? (i := 553) (by decide +kernel)⟩
theorem lw_p23 : lw_okq (⟨"DictProof$Meeting", "partEnds", "(I)Z"⟩, 8) := ⟨⟨by decide +kernel, by decide +kernel⟩, List.mem_of_getElem? (i := 173) (by decide +kernel), List.mem_of_getElem? (i := 556) (by decide +kernel), List.mem_of_getElem? (i := 557) (by decide +kernel)⟩
theorem lw_p24 : lw_okq (⟨"DictProof", "pageIsType", "()Z"⟩, 14) := ⟨⟨by decide +kernel, by decide +kernel⟩, List.mem_of_getElem? (i := 15) (by decide +kernel), List.mem_of_getElem? (i := 569) (by decide +kernel), List.mem_of_getElem? (i := 570) (by decide +kernel)⟩
theorem lw_p25 : lw_okq (⟨"DictProof", "isClass", "(I)Z"⟩, 14) := ⟨⟨by decide +kernel, by decide +kernel⟩, List.mem_of_getElem? (i := 15) (by decide +kernel), List.mem_of_getElem? (i := 582) (by decide +kernel), List.mem_of_getElem? (i := 583) (by decide +kernel)⟩
theorem lw_p26 : lw_okq (⟨"DictProof", "isInstance", "(I)Z"⟩, 14) := ⟨⟨by decide +kernel, by decide +kernel⟩, List.mem_of_getElem? (i := 15) (by decide +kernel), List.mem_of_getElem? (i := 596) (by decide +kernel), List.mem_of_getElem? (i := 597) (by decide +kernel)⟩
theorem lw_p27 : lw_okq (⟨"DictProof$Finder", "sortByKind", "([I)V"⟩, 5) := ⟨⟨by decide +kernel, by decide +kernel⟩, List.mem_of_getElem? (i := 233) (by decide +kernel), List.mem_of_getElem? (i := 616) (by decide +kernel), List.mem_of_getElem? (i := 617) (by decide +kernel)⟩
theorem lw_p28 : lw_okq (⟨"DictProof$Finder", "fittingAt", "(I)I"⟩, 5) := ⟨⟨by decide +kernel, by decide +kernel⟩, List.mem_of_getElem? (i := 233) (by decide +kernel), List.mem_of_getElem? (i := 620) (by decide +kernel), List.mem_of_getElem? (i := 621) (by decide +kernel)⟩
theorem lw_p29 : lw_okq (⟨"DictProof$Finder", "findOne", "(III)V"⟩, 5) := ⟨⟨by decide +kernel, by decide +kernel⟩, List.mem_of_getElem? (i := 233) (by decide +kernel), List.mem_of_getElem? (i := 625) (by decide +kernel), List.mem_of_getElem? (i := 626) (by decide +kernel)⟩
theorem lw_p30 : lw_okq (⟨"DictProof$Finder", "goalAt", "(II)LDictProof$Goal;"⟩, 5) := ⟨⟨by decide +kernel, by decide +kernel⟩, List.mem_of_getElem? (i := 233) (by decide +kernel), List.mem_of_getElem? (i := 629) (by decide +kernel), List.mem_of_getElem? (i := 630) (by decide +kernel)⟩
theorem lw_p31 : lw_okq (⟨"DictProof$Finder", "takenOf", "(I)I"⟩, 5) := ⟨⟨by decide +kernel, by decide +kernel⟩, List.mem_of_getElem? (i := 233) (by decide +kernel), List.mem_of_getElem? (i := 643) (by decide +kernel), List.mem_of_getElem? (i := 644) (by decide +kernel)⟩
def lw_privs_2 : List (MethodName × Nat) := [(⟨"DictProof$Book", "compareHeads", "(ILDictProof$Meeting;)V"⟩, 10), (⟨"DictProof$Meeting", "load", "(LDictProof$Shape;I)V"⟩, 8), (⟨"DictProof$Meeting", "expectAlike", "(II)V"⟩, 8), (⟨"DictProof$Meeting", "bringTogether", "()Z"⟩, 8), (⟨"DictProof$Meeting", "leaderOf", "(I)I"⟩, 8), (⟨"DictProof$Meeting", "joinGroups", "(II)Z"⟩, 8), (⟨"DictProof$Meeting", "comesToAnEnd", "()Z"⟩, 8), (⟨"DictProof$Meeting", "partEnds", "(I)Z"⟩, 8), (⟨"DictProof", "pageIsType", "()Z"⟩, 14), (⟨"DictProof", "isClass", "(I)Z"⟩, 14), (⟨"DictProof", "isInstance", "(I)Z"⟩, 14), (⟨"DictProof$Finder", "sortByKind", "([I)V"⟩, 5), (⟨"DictProof$Finder", "fittingAt", "(I)I"⟩, 5), (⟨"DictProof$Finder", "findOne", "(III)V"⟩, 5), (⟨"DictProof$Finder", "goalAt", "(II)LDictProof$Goal;"⟩, 5), (⟨"DictProof$Finder", "takenOf", "(I)I"⟩, 5)]
theorem lw_r2 : ∀ q ∈ lw_privs_2, lw_okq q := List.forall_mem_cons.mpr ⟨lw_p16, List.forall_mem_cons.mpr ⟨lw_p17, List.forall_mem_cons.mpr ⟨lw_p18, List.forall_mem_cons.mpr ⟨lw_p19, List.forall_mem_cons.mpr ⟨lw_p20, List.forall_mem_cons.mpr ⟨lw_p21, List.forall_mem_cons.mpr ⟨lw_p22, List.forall_mem_cons.mpr ⟨lw_p23, List.forall_mem_cons.mpr ⟨lw_p24, List.forall_mem_cons.mpr ⟨lw_p25, List.forall_mem_cons.mpr ⟨lw_p26, List.forall_mem_cons.mpr ⟨lw_p27, List.forall_mem_cons.mpr ⟨lw_p28, List.forall_mem_cons.mpr ⟨lw_p29, List.forall_mem_cons.mpr ⟨lw_p30, List.forall_mem_cons.mpr ⟨lw_p31, fun _ h => absurd h List.not_mem_nil⟩⟩⟩⟩⟩⟩⟩⟩⟩⟩⟩⟩⟩⟩⟩⟩
theorem lw_p32 : lw_okq (⟨"DictProof$Finder", "joinConditions", "(LDictProof$Goal;LDictProof$Rule;[I)V"⟩, 5) := ⟨⟨by decide +kernel, by decide +kernel⟩, List.mem_of_getElem? (i := 233) (by decide +kernel), List.mem_of_getElem? (i := 657) (by decide +kernel), List.mem_of_getElem? (i := 658) (by decide +kernel)⟩
theorem lw_p33 : lw_okq (⟨"DictProof", "lackedAsWorked", "(LDictProof$Rule;)I"⟩, 14) := ⟨⟨by decide +kernel, by decide +kernel⟩, List.mem_of_getElem? (i := 15) (by decide +kernel), List.mem_of_getElem? (i := 665) (by decide +kernel), List.mem_of_getElem? (i := 666) (by decide +kernel)⟩
theorem lw_p34 : lw_okq (⟨"DictProof", "overlap", "(II)Z"⟩, 14) := ⟨⟨by decide +kernel, by decide +kernel⟩, List.mem_of_getElem? (i := 15) (by decide +kernel), List.mem_of_getElem? (i := 688) (by decide +kernel), List.mem_of_getElem? (i := 689) (by decide +kernel)⟩
theorem lw_p35 : lw_okq (⟨"DictProof", "clash", "(II)Z"⟩, 14) := ⟨⟨by decide +kernel, by decide +kernel⟩, List.mem_of_getElem? (i := 15) (by decide +kernel), List.mem_of_getElem? (i := 699) (by decide +kernel), List.mem_of_getElem? (i := 700) (by decide +kernel)⟩
theorem lw_p36 : lw_okq (⟨"DictProof", "isFilled", "(I)Z"⟩, 14) := ⟨⟨by decide +kernel, by decide +kernel⟩, List.mem_of_getElem? (i := 15) (by decide +kernel), List.mem_of_getElem? (i := 711) (by decide +kernel), List.mem_of_getElem? (i := 712) (by decide +kernel)⟩
theorem lw_p37 : lw_okq (⟨"DictProof", "findGoal", "(II)LDictProof$Goal;"⟩, 14) := ⟨⟨by decide +kernel, by decide +kernel⟩, List.mem_of_getElem? (i := 15) (by decide +kernel), List.mem_of_getElem? (i := 720) (by decide +kernel), List.mem_of_getElem? (i := 721) (by decide +kernel)⟩
theorem lw_p38 : lw_okq (⟨"DictProof", "told", "(LDictProof$Goal;I)I"⟩, 14) := ⟨⟨by decide +kernel, by decide +kernel⟩, List.mem_of_getElem? (i := 15) (by decide +kernel), List.mem_of_getElem? (i := 724) (by decide +kernel), List.mem_of_getElem? (i := 725) (by decide +kernel)⟩
theorem lw_p39 : lw_okq (⟨"DictProof", "drawOf", "(I)I"⟩, 14) := ⟨⟨by decide +kernel, by decide +kernel⟩, List.mem_of_getElem? (i := 15) (by decide +kernel), List.mem_of_getElem? (i := 767) (by decide +kernel), List.mem_of_getElem? (i := 768) (by decide +kernel)⟩
theorem lw_p40 : lw_okq (⟨"DictProof", "drawShape", "()V"⟩, 14) := ⟨⟨by decide +kernel, by decide +kernel⟩, List.mem_of_getElem? (i := 15) (by decide +kernel), List.mem_of_getElem? (i := 775) (by decide +kernel), List.mem_of_getElem? (i := 776) (by decide +kernel)⟩
theorem lw_p41 : lw_okq (⟨"DictProof", "countPairs", "(Z)I"⟩, 14) := ⟨⟨by decide +kernel, by decide +kernel⟩, List.mem_of_getElem? (i := 15) (by decide +kernel), List.mem_of_getElem? (i := 804) (by decide +kernel), List.mem_of_getElem? (i := 805) (by decide +kernel)⟩
theorem lw_p42 : lw_okq (⟨"DictProof", "countLacked", "()I"⟩, 14) := ⟨⟨by decide +kernel, by decide +kernel⟩, List.mem_of_getElem? (i := 15) (by decide +kernel), List.mem_of_getElem? (i := 808) (by decide +kernel), List.mem_of_getElem? (i := 809) (by decide +kernel)⟩
theorem lw_p43 : lw_okq (⟨"DictProof$Desk", "isEarlier", "(I)Z"⟩, 5) := ⟨⟨by decide +kernel, by decide +kernel⟩, List.mem_of_getElem? (i := 205) (by decide +kernel), List.mem_of_getElem? (i := 816) (by decide +kernel), List.mem_of_getElem? (i := 817) (by decide +kernel)⟩
theorem lw_p44 : lw_okq (⟨"DictProof", "digestSlot", "(JI)J"⟩, 14) := ⟨⟨by decide +kernel, by decide +kernel⟩, List.mem_of_getElem? (i := 15) (by decide +kernel), List.mem_of_getElem? (i := 832) (by decide +kernel), List.mem_of_getElem? (i := 833) (by decide +kernel)⟩
theorem lw_p45 : lw_okq (⟨"DictProofModel", "read", "()I"⟩, 63) := ⟨⟨by decide +kernel, by decide +kernel⟩, List.mem_of_getElem? (i := 837) (by decide +kernel), List.mem_of_getElem? (i := 1049) (by decide +kernel), List.mem_of_getElem? (i := 1050) (by decide +kernel)⟩
theorem lw_p46 : lw_okq (⟨"DictProofModel", "readClasses", "()I"⟩, 63) := ⟨⟨by decide +kernel, by decide +kernel⟩, List.mem_of_getElem? (i := 837) (by decide +kernel), List.mem_of_getElem? (i := 1053) (by decide +kernel), List.mem_of_getElem? (i := 1054) (by decide +kernel)⟩
theorem lw_p47 : lw_okq (⟨"DictProofModel", "readClass", "(I)I"⟩, 63) := ⟨⟨by decide +kernel, by decide +kernel⟩, List.mem_of_getElem? (i := 837) (by decide +kernel), List.mem_of_getElem? (i := 1057) (by decide +kernel), List.mem_of_getElem? (i := 1058) (by decide +kernel)⟩
def lw_privs_3 : List (MethodName × Nat) := [(⟨"DictProof$Finder", "joinConditions", "(LDictProof$Goal;LDictProof$Rule;[I)V"⟩, 5), (⟨"DictProof", "lackedAsWorked", "(LDictProof$Rule;)I"⟩, 14), (⟨"DictProof", "overlap", "(II)Z"⟩, 14), (⟨"DictProof", "clash", "(II)Z"⟩, 14), (⟨"DictProof", "isFilled", "(I)Z"⟩, 14), (⟨"DictProof", "findGoal", "(II)LDictProof$Goal;"⟩, 14), (⟨"DictProof", "told", "(LDictProof$Goal;I)I"⟩, 14), (⟨"DictProof", "drawOf", "(I)I"⟩, 14), (⟨"DictProof", "drawShape", "()V"⟩, 14), (⟨"DictProof", "countPairs", "(Z)I"⟩, 14), (⟨"DictProof", "countLacked", "()I"⟩, 14), (⟨"DictProof$Desk", "isEarlier", "(I)Z"⟩, 5), (⟨"DictProof", "digestSlot", "(JI)J"⟩, 14), (⟨"DictProofModel", "read", "()I"⟩, 63), (⟨"DictProofModel", "readClasses", "()I"⟩, 63), (⟨"DictProofModel", "readClass", "(I)I"⟩, 63)]
theorem lw_r3 : ∀ q ∈ lw_privs_3, lw_okq q := List.forall_mem_cons.mpr ⟨lw_p32, List.forall_mem_cons.mpr ⟨lw_p33, List.forall_mem_cons.mpr ⟨lw_p34, List.forall_mem_cons.mpr ⟨lw_p35, List.forall_mem_cons.mpr ⟨lw_p36, List.forall_mem_cons.mpr ⟨lw_p37, List.forall_mem_cons.mpr ⟨lw_p38, List.forall_mem_cons.mpr ⟨lw_p39, List.forall_mem_cons.mpr ⟨lw_p40, List.forall_mem_cons.mpr ⟨lw_p41, List.forall_mem_cons.mpr ⟨lw_p42, List.forall_mem_cons.mpr ⟨lw_p43, List.forall_mem_cons.mpr ⟨lw_p44, List.forall_mem_cons.mpr ⟨lw_p45, List.forall_mem_cons.mpr ⟨lw_p46, List.forall_mem_cons.mpr ⟨lw_p47, fun _ h => absurd h List.not_mem_nil⟩⟩⟩⟩⟩⟩⟩⟩⟩⟩⟩⟩⟩⟩⟩⟩
theorem lw_p48 : lw_okq (⟨"DictProofModel", "at", "(I)I"⟩, 63) := ⟨⟨by decide +kernel, by decide +kernel⟩, List.mem_of_getElem? (i := 837) (by decide +kernel), List.mem_of_getElem? (i := 1061) (by decide +kernel), List.mem_of_getElem? (i := 1062) (by decide +kernel)⟩
theorem lw_p49 : lw_okq (⟨"DictProofModel", "figure", "(I)I"⟩, 63) := ⟨⟨by decide +kernel, by decide +kernel⟩, List.mem_of_getElem? (i := 837) (by decide +kernel), List.mem_of_getElem? (i := 1065) (by decide +kernel), List.mem_of_getElem? (i := 1066) (by decide +kernel)⟩
theorem lw_p50 : lw_okq (⟨"DictProofModel", "broken", "(I)I"⟩, 63) := ⟨⟨by decide +kernel, by decide +kernel⟩, List.mem_of_getElem? (i := 837) (by decide +kernel), List.mem_of_getElem? (i := 1069) (by decide +kernel), List.mem_of_getElem? (i := 1070) (by decide +kernel)⟩
theorem lw_p51 : lw_okq (⟨"DictProofModel", "readInstance", "(I)I"⟩, 63) := ⟨⟨by decide +kernel, by decide +kernel⟩, List.mem_of_getElem? (i := 837) (by decide +kernel), List.mem_of_getElem? (i := 1073) (by decide +kernel), List.mem_of_getElem? (i := 1074) (by decide +kernel)⟩
theorem lw_p52 : lw_okq (⟨"DictProofModel", "readHead", "(II)I"⟩, 63) := ⟨⟨by decide +kernel, by decide +kernel⟩, List.mem_of_getElem? (i := 837) (by decide +kernel), List.mem_of_getElem? (i := 1080) (by decide +kernel), List.mem_of_getElem? (i := 1081) (by decide +kernel)⟩
theorem lw_p53 : lw_okq (⟨"DictProofModel", "readConditions", "(II)I"⟩, 63) := ⟨⟨by decide +kernel, by decide +kernel⟩, List.mem_of_getElem? (i := 837) (by decide +kernel), List.mem_of_getElem? (i := 1087) (by decide +kernel), List.mem_of_getElem? (i := 1088) (by decide +kernel)⟩
theorem lw_p54 : lw_okq (⟨"DictProofModel", "isInHead", "(II)Z"⟩, 63) := ⟨⟨by decide +kernel, by decide +kernel⟩, List.mem_of_getElem? (i := 837) (by decide +kernel), List.mem_of_getElem? (i := 1091) (by decide +kernel), List.mem_of_getElem? (i := 1092) (by decide +kernel)⟩
theorem lw_p55 : lw_okq (⟨"DictProofModel", "takeInstance", "(I)V"⟩, 63) := ⟨⟨by decide +kernel, by decide +kernel⟩, List.mem_of_getElem? (i := 837) (by decide +kernel), List.mem_of_getElem? (i := 1105) (by decide +kernel), List.mem_of_getElem? (i := 1106) (by decide +kernel)⟩
theorem lw_p56 : lw_okq (⟨"DictProofModel", "laySpecial", "()V"⟩, 63) := ⟨⟨by decide +kernel, by decide +kernel⟩, List.mem_of_getElem? (i := 837) (by decide +kernel), List.mem_of_getElem? (i := 1109) (by decide +kernel), List.mem_of_getElem? (i := 1110) (by decide +kernel)⟩
theorem lw_p57 : lw_okq (⟨"DictProofModel", "layHead", "(I)V"⟩, 63) := ⟨⟨by decide +kernel, by decide +kernel⟩, List.mem_of_getElem? (i := 837) (by decide +kernel), List.mem_of_getElem? (i := 1113) (by decide +kernel), List.mem_of_getElem? (i := 1114) (by decide +kernel)⟩
theorem lw_p58 : lw_okq (⟨"DictProofModel", "laySizes", "()V"⟩, 63) := ⟨⟨by decide +kernel, by decide +kernel⟩, List.mem_of_getElem? (i := 837) (by decide +kernel), List.mem_of_getElem? (i := 1117) (by decide +kernel), List.mem_of_getElem? (i := 1118) (by decide +kernel)⟩
theorem lw_p59 : lw_okq (⟨"DictProofModel", "fitsAt", "(II)Z"⟩, 63) := ⟨⟨by decide +kernel, by decide +kernel⟩, List.mem_of_getElem? (i := 837) (by decide +kernel), List.mem_of_getElem? (i := 1121) (by decide +kernel), List.mem_of_getElem? (i := 1122) (by decide +kernel)⟩
theorem lw_p60 : lw_okq (⟨"DictProofModel", "isSameAt", "(II)Z"⟩, 63) := ⟨⟨by decide +kernel, by decide +kernel⟩, List.mem_of_getElem? (i := 837) (by decide +kernel), List.mem_of_getElem? (i := 1125) (by decide +kernel), List.mem_of_getElem? (i := 1126) (by decide +kernel)⟩
theorem lw_p61 : lw_okq (⟨"DictProofModel", "isClass", "(I)Z"⟩, 63) := ⟨⟨by decide +kernel, by decide +kernel⟩, List.mem_of_getElem? (i := 837) (by decide +kernel), List.mem_of_getElem? (i := 1137) (by decide +kernel), List.mem_of_getElem? (i := 1138) (by decide +kernel)⟩
theorem lw_p62 : lw_okq (⟨"DictProofModel", "aboutNow", "(II)I"⟩, 63) := ⟨⟨by decide +kernel, by decide +kernel⟩, List.mem_of_getElem? (i := 837) (by decide +kernel), List.mem_of_getElem? (i := 1141) (by decide +kernel), List.mem_of_getElem? (i := 1142) (by decide +kernel)⟩
theorem lw_p63 : lw_okq (⟨"DictProofModel", "instancesOf", "(I)I"⟩, 63) := ⟨⟨by decide +kernel, by decide +kernel⟩, List.mem_of_getElem? (i := 837) (by decide +kernel), List.mem_of_getElem? (i := 1145) (by decide +kernel), List.mem_of_getElem? (i := 1146) (by decide +kernel)⟩
def lw_privs_4 : List (MethodName × Nat) := [(⟨"DictProofModel", "at", "(I)I"⟩, 63), (⟨"DictProofModel", "figure", "(I)I"⟩, 63), (⟨"DictProofModel", "broken", "(I)I"⟩, 63), (⟨"DictProofModel", "readInstance", "(I)I"⟩, 63), (⟨"DictProofModel", "readHead", "(II)I"⟩, 63), (⟨"DictProofModel", "readConditions", "(II)I"⟩, 63), (⟨"DictProofModel", "isInHead", "(II)Z"⟩, 63), (⟨"DictProofModel", "takeInstance", "(I)V"⟩, 63), (⟨"DictProofModel", "laySpecial", "()V"⟩, 63), (⟨"DictProofModel", "layHead", "(I)V"⟩, 63), (⟨"DictProofModel", "laySizes", "()V"⟩, 63), (⟨"DictProofModel", "fitsAt", "(II)Z"⟩, 63), (⟨"DictProofModel", "isSameAt", "(II)Z"⟩, 63), (⟨"DictProofModel", "isClass", "(I)Z"⟩, 63), (⟨"DictProofModel", "aboutNow", "(II)I"⟩, 63), (⟨"DictProofModel", "instancesOf", "(I)I"⟩, 63)]
theorem lw_r4 : ∀ q ∈ lw_privs_4, lw_okq q := List.forall_mem_cons.mpr ⟨lw_p48, List.forall_mem_cons.mpr ⟨lw_p49, List.forall_mem_cons.mpr ⟨lw_p50, List.forall_mem_cons.mpr ⟨lw_p51, List.forall_mem_cons.mpr ⟨lw_p52, List.forall_mem_cons.mpr ⟨lw_p53, List.forall_mem_cons.mpr ⟨lw_p54, List.forall_mem_cons.mpr ⟨lw_p55, List.forall_mem_cons.mpr ⟨lw_p56, List.forall_mem_cons.mpr ⟨lw_p57, List.forall_mem_cons.mpr ⟨lw_p58, List.forall_mem_cons.mpr ⟨lw_p59, List.forall_mem_cons.mpr ⟨lw_p60, List.forall_mem_cons.mpr ⟨lw_p61, List.forall_mem_cons.mpr ⟨lw_p62, List.forall_mem_cons.mpr ⟨lw_p63, fun _ h => absurd h List.not_mem_nil⟩⟩⟩⟩⟩⟩⟩⟩⟩⟩⟩⟩⟩⟩⟩⟩
theorem lw_p64 : lw_okq (⟨"DictProofModel", "isInstance", "(I)Z"⟩, 63) := ⟨⟨by decide +kernel, by decide +kernel⟩, List.mem_of_getElem? (i := 837) (by decide +kernel), List.mem_of_getElem? (i := 1153) (by decide +kernel), List.mem_of_getElem? (i := 1154) (by decide +kernel)⟩
theorem lw_p65 : lw_okq (⟨"DictProofModel", "instanceNow", "(II)I"⟩, 63) := ⟨⟨by decide +kernel, by decide +kernel⟩, List.mem_of_getElem? (i := 837) (by decide +kernel), List.mem_of_getElem? (i := 1157) (by decide +kernel), List.mem_of_getElem? (i := 1158) (by decide +kernel)⟩
theorem lw_p66 : lw_okq (⟨"DictProofModel", "isSound", "(I)Z"⟩, 63) := ⟨⟨by decide +kernel, by decide +kernel⟩, List.mem_of_getElem? (i := 837) (by decide +kernel), List.mem_of_getElem? (i := 1161) (by decide +kernel), List.mem_of_getElem? (i := 1162) (by decide +kernel)⟩
theorem lw_p67 : lw_okq (⟨"DictProofModel", "sortsOf", "(I)I"⟩, 63) := ⟨⟨by decide +kernel, by decide +kernel⟩, List.mem_of_getElem? (i := 837) (by decide +kernel), List.mem_of_getElem? (i := 1165) (by decide +kernel), List.mem_of_getElem? (i := 1166) (by decide +kernel)⟩
theorem lw_p68 : lw_okq (⟨"DictProofModel", "askOf", "(I)I"⟩, 63) := ⟨⟨by decide +kernel, by decide +kernel⟩, List.mem_of_getElem? (i := 837) (by decide +kernel), List.mem_of_getElem? (i := 1172) (by decide +kernel), List.mem_of_getElem? (i := 1173) (by decide +kernel)⟩
theorem lw_p69 : lw_okq (⟨"DictProofModel", "lacksOf", "(I)I"⟩, 63) := ⟨⟨by decide +kernel, by decide +kernel⟩, List.mem_of_getElem? (i := 837) (by decide +kernel), List.mem_of_getElem? (i := 1180) (by decide +kernel), List.mem_of_getElem? (i := 1181) (by decide +kernel)⟩
theorem lw_p70 : lw_okq (⟨"DictProofModel", "layGoals", "()V"⟩, 63) := ⟨⟨by decide +kernel, by decide +kernel⟩, List.mem_of_getElem? (i := 837) (by decide +kernel), List.mem_of_getElem? (i := 1184) (by decide +kernel), List.mem_of_getElem? (i := 1185) (by decide +kernel)⟩
theorem lw_p71 : lw_okq (⟨"DictProofModel", "layNeed", "(II)V"⟩, 63) := ⟨⟨by decide +kernel, by decide +kernel⟩, List.mem_of_getElem? (i := 837) (by decide +kernel), List.mem_of_getElem? (i := 1188) (by decide +kernel), List.mem_of_getElem? (i := 1189) (by decide +kernel)⟩
theorem lw_p72 : lw_okq (⟨"DictProofModel", "layGoal", "(II)V"⟩, 63) := ⟨⟨by decide +kernel, by decide +kernel⟩, List.mem_of_getElem? (i := 837) (by decide +kernel), List.mem_of_getElem? (i := 1192) (by decide +kernel), List.mem_of_getElem? (i := 1193) (by decide +kernel)⟩
theorem lw_p73 : lw_okq (⟨"DictProofModel", "takes", "(II)I"⟩, 63) := ⟨⟨by decide +kernel, by decide +kernel⟩, List.mem_of_getElem? (i := 837) (by decide +kernel), List.mem_of_getElem? (i := 1196) (by decide +kernel), List.mem_of_getElem? (i := 1197) (by decide +kernel)⟩
theorem lw_p74 : lw_okq (⟨"DictProofModel", "meantFor", "(II)I"⟩, 63) := ⟨⟨by decide +kernel, by decide +kernel⟩, List.mem_of_getElem? (i := 837) (by decide +kernel), List.mem_of_getElem? (i := 1200) (by decide +kernel), List.mem_of_getElem? (i := 1201) (by decide +kernel)⟩
theorem lw_p75 : lw_okq (⟨"DictProofModel", "isOneSole", "(I)Z"⟩, 63) := ⟨⟨by decide +kernel, by decide +kernel⟩, List.mem_of_getElem? (i := 837) (by decide +kernel), List.mem_of_getElem? (i := 1204) (by decide +kernel), List.mem_of_getElem? (i := 1205) (by decide +kernel)⟩
theorem lw_p76 : lw_okq (⟨"DictProofModel", "ofRank", "(II)I"⟩, 63) := ⟨⟨by decide +kernel, by decide +kernel⟩, List.mem_of_getElem? (i := 837) (by decide +kernel), List.mem_of_getElem? (i := 1208) (by decide +kernel), List.mem_of_getElem? (i := 1209) (by decide +kernel)⟩
theorem lw_p77 : lw_okq (⟨"DictProofModel", "mostSpecial", "(I)I"⟩, 63) := ⟨⟨by decide +kernel, by decide +kernel⟩, List.mem_of_getElem? (i := 837) (by decide +kernel), List.mem_of_getElem? (i := 1212) (by decide +kernel), List.mem_of_getElem? (i := 1213) (by decide +kernel)⟩
theorem lw_p78 : lw_okq (⟨"DictProofModel", "addBelow", "(III)V"⟩, 63) := ⟨⟨by decide +kernel, by decide +kernel⟩, List.mem_of_getElem? (i := 837) (by decide +kernel), List.mem_of_getElem? (i := 1216) (by decide +kernel), List.mem_of_getElem? (i := 1217) (by decide +kernel)⟩
theorem lw_p79 : lw_okq (⟨"DictProofModel", "isGiven", "(II)Z"⟩, 63) := ⟨⟨by decide +kernel, by decide +kernel⟩, List.mem_of_getElem? (i := 837) (by decide +kernel), List.mem_of_getElem? (i := 1220) (by decide +kernel), List.mem_of_getElem? (i := 1221) (by decide +kernel)⟩
def lw_privs_5 : List (MethodName × Nat) := [(⟨"DictProofModel", "isInstance", "(I)Z"⟩, 63), (⟨"DictProofModel", "instanceNow", "(II)I"⟩, 63), (⟨"DictProofModel", "isSound", "(I)Z"⟩, 63), (⟨"DictProofModel", "sortsOf", "(I)I"⟩, 63), (⟨"DictProofModel", "askOf", "(I)I"⟩, 63), (⟨"DictProofModel", "lacksOf", "(I)I"⟩, 63), (⟨"DictProofModel", "layGoals", "()V"⟩, 63), (⟨"DictProofModel", "layNeed", "(II)V"⟩, 63), (⟨"DictProofModel", "layGoal", "(II)V"⟩, 63), (⟨"DictProofModel", "takes", "(II)I"⟩, 63), (⟨"DictProofModel", "meantFor", "(II)I"⟩, 63), (⟨"DictProofModel", "isOneSole", "(I)Z"⟩, 63), (⟨"DictProofModel", "ofRank", "(II)I"⟩, 63), (⟨"DictProofModel", "mostSpecial", "(I)I"⟩, 63), (⟨"DictProofModel", "addBelow", "(III)V"⟩, 63), (⟨"DictProofModel", "isGiven", "(II)Z"⟩, 63)]
theorem lw_r5 : ∀ q ∈ lw_privs_5, lw_okq q := List.forall_mem_cons.mpr ⟨lw_p64, List.forall_mem_cons.mpr ⟨lw_p65, List.forall_mem_cons.mpr ⟨lw_p66, List.forall_mem_cons.mpr ⟨lw_p67, List.forall_mem_cons.mpr ⟨lw_p68, List.forall_mem_cons.mpr ⟨lw_p69, List.forall_mem_cons.mpr ⟨lw_p70, List.forall_mem_cons.mpr ⟨lw_p71, List.forall_mem_cons.mpr ⟨lw_p72, List.forall_mem_cons.mpr ⟨lw_p73, List.forall_mem_cons.mpr ⟨lw_p74, List.forall_mem_cons.mpr ⟨lw_p75, List.forall_mem_cons.mpr ⟨lw_p76, List.forall_mem_cons.mpr ⟨lw_p77, List.forall_mem_cons.mpr ⟨lw_p78, List.forall_mem_cons.mpr ⟨lw_p79, fun _ h => absurd h List.not_mem_nil⟩⟩⟩⟩⟩⟩⟩⟩⟩⟩⟩⟩⟩⟩⟩⟩
theorem lw_p80 : lw_okq (⟨"DictProofModel", "pairNow", "(III)Z"⟩, 63) := ⟨⟨by decide +kernel, by decide +kernel⟩, List.mem_of_getElem? (i := 837) (by decide +kernel), List.mem_of_getElem? (i := 1236) (by decide +kernel), List.mem_of_getElem? (i := 1237) (by decide +kernel)⟩
theorem lw_p81 : lw_okq (⟨"DictProofModel", "overlap", "(II)Z"⟩, 63) := ⟨⟨by decide +kernel, by decide +kernel⟩, List.mem_of_getElem? (i := 837) (by decide +kernel), List.mem_of_getElem? (i := 1240) (by decide +kernel), List.mem_of_getElem? (i := 1241) (by decide +kernel)⟩
theorem lw_p82 : lw_okq (⟨"DictProofModel", "areOne", "(II)Z"⟩, 63) := ⟨⟨by decide +kernel, by decide +kernel⟩, List.mem_of_getElem? (i := 837) (by decide +kernel), List.mem_of_getElem? (i := 1244) (by decide +kernel), List.mem_of_getElem? (i := 1245) (by decide +kernel)⟩
theorem lw_p83 : lw_okq (⟨"DictProofModel", "addPair", "(II)V"⟩, 63) := ⟨⟨by decide +kernel, by decide +kernel⟩, List.mem_of_getElem? (i := 837) (by decide +kernel), List.mem_of_getElem? (i := 1248) (by decide +kernel), List.mem_of_getElem? (i := 1249) (by decide +kernel)⟩
theorem lw_p84 : lw_okq (⟨"DictProofModel", "standsFor", "(I)I"⟩, 63) := ⟨⟨by decide +kernel, by decide +kernel⟩, List.mem_of_getElem? (i := 837) (by decide +kernel), List.mem_of_getElem? (i := 1252) (by decide +kernel), List.mem_of_getElem? (i := 1253) (by decide +kernel)⟩
theorem lw_p85 : lw_okq (⟨"DictProofModel", "letterOf", "(I)I"⟩, 63) := ⟨⟨by decide +kernel, by decide +kernel⟩, List.mem_of_getElem? (i := 837) (by decide +kernel), List.mem_of_getElem? (i := 1256) (by decide +kernel), List.mem_of_getElem? (i := 1257) (by decide +kernel)⟩
theorem lw_p86 : lw_okq (⟨"DictProofModel", "variableOf", "(I)I"⟩, 63) := ⟨⟨by decide +kernel, by decide +kernel⟩, List.mem_of_getElem? (i := 837) (by decide +kernel), List.mem_of_getElem? (i := 1260) (by decide +kernel), List.mem_of_getElem? (i := 1261) (by decide +kernel)⟩
theorem lw_p87 : lw_okq (⟨"DictProofModel", "joins", "(II)Z"⟩, 63) := ⟨⟨by decide +kernel, by decide +kernel⟩, List.mem_of_getElem? (i := 837) (by decide +kernel), List.mem_of_getElem? (i := 1264) (by decide +kernel), List.mem_of_getElem? (i := 1265) (by decide +kernel)⟩
theorem lw_p88 : lw_okq (⟨"DictProofModel", "occurs", "(II)Z"⟩, 63) := ⟨⟨by decide +kernel, by decide +kernel⟩, List.mem_of_getElem? (i := 837) (by decide +kernel), List.mem_of_getElem? (i := 1268) (by decide +kernel), List.mem_of_getElem? (i := 1269) (by decide +kernel)⟩
theorem lw_p89 : lw_okq (⟨"DictProofModel", "behind", "(I)I"⟩, 63) := ⟨⟨by decide +kernel, by decide +kernel⟩, List.mem_of_getElem? (i := 837) (by decide +kernel), List.mem_of_getElem? (i := 1272) (by decide +kernel), List.mem_of_getElem? (i := 1273) (by decide +kernel)⟩
theorem lw_p90 : lw_okq (⟨"DictProofModel", "clash", "(II)Z"⟩, 63) := ⟨⟨by decide +kernel, by decide +kernel⟩, List.mem_of_getElem? (i := 837) (by decide +kernel), List.mem_of_getElem? (i := 1276) (by decide +kernel), List.mem_of_getElem? (i := 1277) (by decide +kernel)⟩
theorem lw_p91 : lw_okq (⟨"DictProofModel", "isSpecial", "(II)Z"⟩, 63) := ⟨⟨by decide +kernel, by decide +kernel⟩, List.mem_of_getElem? (i := 837) (by decide +kernel), List.mem_of_getElem? (i := 1280) (by decide +kernel), List.mem_of_getElem? (i := 1281) (by decide +kernel)⟩
theorem lw_p92 : lw_okq (⟨"DictProofModel", "isFilled", "(I)Z"⟩, 63) := ⟨⟨by decide +kernel, by decide +kernel⟩, List.mem_of_getElem? (i := 837) (by decide +kernel), List.mem_of_getElem? (i := 1288) (by decide +kernel), List.mem_of_getElem? (i := 1289) (by decide +kernel)⟩
theorem lw_p93 : lw_okq (⟨"DictProofModel", "laySlot", "(I)V"⟩, 63) := ⟨⟨by decide +kernel, by decide +kernel⟩, List.mem_of_getElem? (i := 837) (by decide +kernel), List.mem_of_getElem? (i := 1292) (by decide +kernel), List.mem_of_getElem? (i := 1293) (by decide +kernel)⟩
theorem lw_p94 : lw_okq (⟨"DictProofModel", "goalNow", "(II)I"⟩, 63) := ⟨⟨by decide +kernel, by decide +kernel⟩, List.mem_of_getElem? (i := 837) (by decide +kernel), List.mem_of_getElem? (i := 1300) (by decide +kernel), List.mem_of_getElem? (i := 1301) (by decide +kernel)⟩
theorem lw_p95 : lw_okq (⟨"DictProofModel", "differentGoals", "(I)I"⟩, 63) := ⟨⟨by decide +kernel, by decide +kernel⟩, List.mem_of_getElem? (i := 837) (by decide +kernel), List.mem_of_getElem? (i := 1304) (by decide +kernel), List.mem_of_getElem? (i := 1305) (by decide +kernel)⟩
def lw_privs_6 : List (MethodName × Nat) := [(⟨"DictProofModel", "pairNow", "(III)Z"⟩, 63), (⟨"DictProofModel", "overlap", "(II)Z"⟩, 63), (⟨"DictProofModel", "areOne", "(II)Z"⟩, 63), (⟨"DictProofModel", "addPair", "(II)V"⟩, 63), (⟨"DictProofModel", "standsFor", "(I)I"⟩, 63), (⟨"DictProofModel", "letterOf", "(I)I"⟩, 63), (⟨"DictProofModel", "variableOf", "(I)I"⟩, 63), (⟨"DictProofModel", "joins", "(II)Z"⟩, 63), (⟨"DictProofModel", "occurs", "(II)Z"⟩, 63), (⟨"DictProofModel", "behind", "(I)I"⟩, 63), (⟨"DictProofModel", "clash", "(II)Z"⟩, 63), (⟨"DictProofModel", "isSpecial", "(II)Z"⟩, 63), (⟨"DictProofModel", "isFilled", "(I)Z"⟩, 63), (⟨"DictProofModel", "laySlot", "(I)V"⟩, 63), (⟨"DictProofModel", "goalNow", "(II)I"⟩, 63), (⟨"DictProofModel", "differentGoals", "(I)I"⟩, 63)]
theorem lw_r6 : ∀ q ∈ lw_privs_6, lw_okq q := List.forall_mem_cons.mpr ⟨lw_p80, List.forall_mem_cons.mpr ⟨lw_p81, List.forall_mem_cons.mpr ⟨lw_p82, List.forall_mem_cons.mpr ⟨lw_p83, List.forall_mem_cons.mpr ⟨lw_p84, List.forall_mem_cons.mpr ⟨lw_p85, List.forall_mem_cons.mpr ⟨lw_p86, List.forall_mem_cons.mpr ⟨lw_p87, List.forall_mem_cons.mpr ⟨lw_p88, List.forall_mem_cons.mpr ⟨lw_p89, List.forall_mem_cons.mpr ⟨lw_p90, List.forall_mem_cons.mpr ⟨lw_p91, List.forall_mem_cons.mpr ⟨lw_p92, List.forall_mem_cons.mpr ⟨lw_p93, List.forall_mem_cons.mpr ⟨lw_p94, List.forall_mem_cons.mpr ⟨lw_p95, fun _ h => absurd h List.not_mem_nil⟩⟩⟩⟩⟩⟩⟩⟩⟩⟩⟩⟩⟩⟩⟩⟩
theorem lw_p96 : lw_okq (⟨"DictProofModel", "isNew", "(II)Z"⟩, 63) := ⟨⟨by decide +kernel, by decide +kernel⟩, List.mem_of_getElem? (i := 837) (by decide +kernel), List.mem_of_getElem? (i := 1308) (by decide +kernel), List.mem_of_getElem? (i := 1309) (by decide +kernel)⟩
theorem lw_p97 : lw_okq (⟨"DictProofModel", "mark", "(I)V"⟩, 63) := ⟨⟨by decide +kernel, by decide +kernel⟩, List.mem_of_getElem? (i := 837) (by decide +kernel), List.mem_of_getElem? (i := 1312) (by decide +kernel), List.mem_of_getElem? (i := 1313) (by decide +kernel)⟩
theorem lw_p98 : lw_okq (⟨"DictProofModel", "plainOf", "(I)I"⟩, 63) := ⟨⟨by decide +kernel, by decide +kernel⟩, List.mem_of_getElem? (i := 837) (by decide +kernel), List.mem_of_getElem? (i := 1316) (by decide +kernel), List.mem_of_getElem? (i := 1317) (by decide +kernel)⟩
theorem lw_p99 : lw_okq (⟨"DictProofModel", "entryAt", "(II)I"⟩, 63) := ⟨⟨by decide +kernel, by decide +kernel⟩, List.mem_of_getElem? (i := 837) (by decide +kernel), List.mem_of_getElem? (i := 1324) (by decide +kernel), List.mem_of_getElem? (i := 1325) (by decide +kernel)⟩
theorem lw_p100 : lw_okq (⟨"DictProofModel", "drawnNow", "(III)I"⟩, 63) := ⟨⟨by decide +kernel, by decide +kernel⟩, List.mem_of_getElem? (i := 837) (by decide +kernel), List.mem_of_getElem? (i := 1344) (by decide +kernel), List.mem_of_getElem? (i := 1345) (by decide +kernel)⟩
theorem lw_p101 : lw_okq (⟨"DictProofModel", "draw", "(I)I"⟩, 63) := ⟨⟨by decide +kernel, by decide +kernel⟩, List.mem_of_getElem? (i := 837) (by decide +kernel), List.mem_of_getElem? (i := 1348) (by decide +kernel), List.mem_of_getElem? (i := 1349) (by decide +kernel)⟩
theorem lw_p102 : lw_okq (⟨"DictProofModel", "drawType", "()V"⟩, 63) := ⟨⟨by decide +kernel, by decide +kernel⟩, List.mem_of_getElem? (i := 837) (by decide +kernel), List.mem_of_getElem? (i := 1356) (by decide +kernel), List.mem_of_getElem? (i := 1357) (by decide +kernel)⟩
theorem lw_p103 : lw_okq (⟨"DictProofModel", "addLetter", "(I)V"⟩, 63) := ⟨⟨by decide +kernel, by decide +kernel⟩, List.mem_of_getElem? (i := 837) (by decide +kernel), List.mem_of_getElem? (i := 1363) (by decide +kernel), List.mem_of_getElem? (i := 1364) (by decide +kernel)⟩
theorem lw_p104 : lw_okq (⟨"DictProofModel", "filled", "()I"⟩, 63) := ⟨⟨by decide +kernel, by decide +kernel⟩, List.mem_of_getElem? (i := 837) (by decide +kernel), List.mem_of_getElem? (i := 1371) (by decide +kernel), List.mem_of_getElem? (i := 1372) (by decide +kernel)⟩
theorem lw_p105 : lw_okq (⟨"DictProofModel", "howMany", "(I)I"⟩, 63) := ⟨⟨by decide +kernel, by decide +kernel⟩, List.mem_of_getElem? (i := 837) (by decide +kernel), List.mem_of_getElem? (i := 1383) (by decide +kernel), List.mem_of_getElem? (i := 1384) (by decide +kernel)⟩
theorem lw_p106 : lw_okq (⟨"DictProofModel", "unsound", "()I"⟩, 63) := ⟨⟨by decide +kernel, by decide +kernel⟩, List.mem_of_getElem? (i := 837) (by decide +kernel), List.mem_of_getElem? (i := 1387) (by decide +kernel), List.mem_of_getElem? (i := 1388) (by decide +kernel)⟩
theorem lw_p107 : lw_okq (⟨"DictProofModel", "pairsOf", "(I)I"⟩, 63) := ⟨⟨by decide +kernel, by decide +kernel⟩, List.mem_of_getElem? (i := 837) (by decide +kernel), List.mem_of_getElem? (i := 1391) (by decide +kernel), List.mem_of_getElem? (i := 1392) (by decide +kernel)⟩
theorem lw_p108 : lw_okq (⟨"DictProofModel", "lacksOfAll", "()I"⟩, 63) := ⟨⟨by decide +kernel, by decide +kernel⟩, List.mem_of_getElem? (i := 837) (by decide +kernel), List.mem_of_getElem? (i := 1395) (by decide +kernel), List.mem_of_getElem? (i := 1396) (by decide +kernel)⟩
theorem lw_p109 : lw_okq (⟨"DictProofModel", "differentTypes", "()I"⟩, 63) := ⟨⟨by decide +kernel, by decide +kernel⟩, List.mem_of_getElem? (i := 837) (by decide +kernel), List.mem_of_getElem? (i := 1399) (by decide +kernel), List.mem_of_getElem? (i := 1400) (by decide +kernel)⟩
theorem lw_p110 : lw_okq (⟨"DictProofModel", "isSlotLike", "(II)Z"⟩, 63) := ⟨⟨by decide +kernel, by decide +kernel⟩, List.mem_of_getElem? (i := 837) (by decide +kernel), List.mem_of_getElem? (i := 1403) (by decide +kernel), List.mem_of_getElem? (i := 1404) (by decide +kernel)⟩
theorem lw_p111 : lw_okq (⟨"DictProofModel", "mix", "(J)V"⟩, 63) := ⟨⟨by decide +kernel, by decide +kernel⟩, List.mem_of_getElem? (i := 837) (by decide +kernel), List.mem_of_getElem? (i := 1412) (by decide +kernel), List.mem_of_getElem? (i := 1413) (by decide +kernel)⟩
def lw_privs_7 : List (MethodName × Nat) := [(⟨"DictProofModel", "isNew", "(II)Z"⟩, 63), (⟨"DictProofModel", "mark", "(I)V"⟩, 63), (⟨"DictProofModel", "plainOf", "(I)I"⟩, 63), (⟨"DictProofModel", "entryAt", "(II)I"⟩, 63), (⟨"DictProofModel", "drawnNow", "(III)I"⟩, 63), (⟨"DictProofModel", "draw", "(I)I"⟩, 63), (⟨"DictProofModel", "drawType", "()V"⟩, 63), (⟨"DictProofModel", "addLetter", "(I)V"⟩, 63), (⟨"DictProofModel", "filled", "()I"⟩, 63), (⟨"DictProofModel", "howMany", "(I)I"⟩, 63), (⟨"DictProofModel", "unsound", "()I"⟩, 63), (⟨"DictProofModel", "pairsOf", "(I)I"⟩, 63), (⟨"DictProofModel", "lacksOfAll", "()I"⟩, 63), (⟨"DictProofModel", "differentTypes", "()I"⟩, 63), (⟨"DictProofModel", "isSlotLike", "(II)Z"⟩, 63), (⟨"DictProofModel", "mix", "(J)V"⟩, 63)]
theorem lw_r7 : ∀ q ∈ lw_privs_7, lw_okq q := List.forall_mem_cons.mpr ⟨lw_p96, List.forall_mem_cons.mpr ⟨lw_p97, List.forall_mem_cons.mpr ⟨lw_p98, List.forall_mem_cons.mpr ⟨lw_p99, List.forall_mem_cons.mpr ⟨lw_p100, List.forall_mem_cons.mpr ⟨lw_p101, List.forall_mem_cons.mpr ⟨lw_p102, List.forall_mem_cons.mpr ⟨lw_p103, List.forall_mem_cons.mpr ⟨lw_p104, List.forall_mem_cons.mpr ⟨lw_p105, List.forall_mem_cons.mpr ⟨lw_p106, List.forall_mem_cons.mpr ⟨lw_p107, List.forall_mem_cons.mpr ⟨lw_p108, List.forall_mem_cons.mpr ⟨lw_p109, List.forall_mem_cons.mpr ⟨lw_p110, List.forall_mem_cons.mpr ⟨lw_p111, fun _ h => absurd h List.not_mem_nil⟩⟩⟩⟩⟩⟩⟩⟩⟩⟩⟩⟩⟩⟩⟩⟩
theorem lw_p112 : lw_okq (⟨"DictProofModel", "mixSlot", "(I)V"⟩, 63) := ⟨⟨by decide +kernel, by decide +kernel⟩, List.mem_of_getElem? (i := 837) (by decide +kernel), List.mem_of_getElem? (i := 1417) (by decide +kernel), List.mem_of_getElem? (i := 1418) (by decide +kernel)⟩
def lw_privs_8 : List (MethodName × Nat) := [(⟨"DictProofModel", "mixSlot", "(I)V"⟩, 63)]
theorem lw_r8 : ∀ q ∈ lw_privs_8, lw_okq q := List.forall_mem_cons.mpr ⟨lw_p112, fun _ h => absurd h List.not_mem_nil⟩
def lw_privs : List (MethodName × Nat) := lw_privs_1 ++ (lw_privs_2 ++ (lw_privs_3 ++ (lw_privs_4 ++ (lw_privs_5 ++ (lw_privs_6 ++ (lw_privs_7 ++ (lw_privs_8)))))))
def lw_tbl : List Cond := k2_sels lw_privs ++ tables_1
theorem lw_privs_ok : ∀ q ∈ lw_privs, lw_okq q := by
  show ∀ q ∈ lw_privs_1 ++ (lw_privs_2 ++ (lw_privs_3 ++ (lw_privs_4 ++ (lw_privs_5 ++ (lw_privs_6 ++ (lw_privs_7 ++ (lw_privs_8))))))), lw_okq q
  exact List.forall_mem_append.mpr ⟨lw_r1, List.forall_mem_append.mpr ⟨lw_r2, List.forall_mem_append.mpr ⟨lw_r3, List.forall_mem_append.mpr ⟨lw_r4, List.forall_mem_append.mpr ⟨lw_r5, List.forall_mem_append.mpr ⟨lw_r6, List.forall_mem_append.mpr ⟨lw_r7, lw_r8⟩⟩⟩⟩⟩⟩⟩
-- ===== names of classes and fields, out of claim/NAMES.whole.lean.txt =====
def RX0 : String := "DictProof$Book"
def TX0 : u_T := fun k => match k with
  | 0 => ("DictProof$Book", "classes", "I", false)
  | 1 => ("DictProof$Book", "right", "[I", true)
  | 2 => ("DictProof$Book", "above", "[I", true)
  | 3 => ("DictProof$Book", "owned", "[I", true)
  | 4 => ("DictProof$Book", "instances", "I", false)
  | 5 => ("DictProof$Book", "rules", "[LDictProof$Rule;", true)
  | 6 => ("DictProof$Book", "sound", "I", false)
  | 7 => ("DictProof$Book", "finer", "[I", true)
  | 8 => ("DictProof$Book", "meets", "[I", true)
  | _ => ("DictProof$Book", "put", "[I", true)
def tyX0 : Nat → FieldType := fun k => match k with
  | 0 => .int
  | 1 => .array .int
  | 2 => .array .int
  | 3 => .array .int
  | 4 => .int
  | 5 => .array (.object "DictProof$Rule")
  | 6 => .int
  | 7 => .array .int
  | 8 => .array .int
  | _ => .array .int
abbrev wsX00 : List Cond := u_ws RX0 TX0 10
theorem nmX0 : ∀ a, a < 10 → ∀ b, b < 10 → a ≠ b → (TX0 a).2.1 ≠ (TX0 b).2.1 := by decide +kernel
theorem tyX0_ok : ∀ k, k < 10 → parseFieldDescriptor (TX0 k).2.2.1 = some (tyX0 k) := by decide +kernel
def RX1 : String := "DictProof$Desk"
def TX1 : u_T := fun k => match k with
  | 0 => ("DictProof$Desk", "kinds", "[I", true)
  | 1 => ("DictProof$Desk", "slots", "[LDictProof$Shape;", true)
  | 2 => ("DictProof$Desk", "seen", "I", false)
  | 3 => ("DictProof$Desk", "seenOf", "[I", true)
  | _ => ("DictProof$Desk", "leaves", "[I", true)
def tyX1 : Nat → FieldType := fun k => match k with
  | 0 => .array .int
  | 1 => .array (.object "DictProof$Shape")
  | 2 => .int
  | 3 => .array .int
  | _ => .array .int
abbrev wsX10 : List Cond := u_ws RX1 TX1 5
theorem nmX1 : ∀ a, a < 5 → ∀ b, b < 5 → a ≠ b → (TX1 a).2.1 ≠ (TX1 b).2.1 := by decide +kernel
theorem tyX1_ok : ∀ k, k < 5 → parseFieldDescriptor (TX1 k).2.2.1 = some (tyX1 k) := by decide +kernel
def RX2 : String := "DictProof$Finder"
def TX2 : u_T := fun k => match k with
  | 0 => ("DictProof$Finder", "goals", "[LDictProof$Goal;", true)
  | 1 => ("DictProof$Finder", "byKind", "[I", true)
  | 2 => ("DictProof$Finder", "puts", "[[I", true)
  | 3 => ("DictProof$Finder", "book", "LDictProof$Book;", false)
  | _ => ("DictProof$Finder", "shape", "LDictProof$Shape;", false)
def tyX2 : Nat → FieldType := fun k => match k with
  | 0 => .array (.object "DictProof$Goal")
  | 1 => .array .int
  | 2 => .array (.array .int)
  | 3 => .object "DictProof$Book"
  | _ => .object "DictProof$Shape"
abbrev wsX20 : List Cond := u_ws RX2 TX2 5
theorem nmX2 : ∀ a, a < 5 → ∀ b, b < 5 → a ≠ b → (TX2 a).2.1 ≠ (TX2 b).2.1 := by decide +kernel
theorem tyX2_ok : ∀ k, k < 5 → parseFieldDescriptor (TX2 k).2.2.1 = some (tyX2 k) := by decide +kernel
def RX3 : String := "DictProof$Goal"
def TX3 : u_T := fun k => match k with
  | 0 => ("DictProof$Goal", "outcome", "I", false)
  | 1 => ("DictProof$Goal", "length", "I", false)
  | 2 => ("DictProof$Goal", "worth", "I", false)
  | 3 => ("DictProof$Goal", "depth", "I", false)
  | 4 => ("DictProof$Goal", "needs", "I", false)
  | 5 => ("DictProof$Goal", "within", "J", false)
  | 6 => ("DictProof$Goal", "number", "I", false)
  | 7 => ("DictProof$Goal", "partCount", "I", false)
  | _ => ("DictProof$Goal", "parts", "[LDictProof$Goal;", true)
def tyX3 : Nat → FieldType := fun k => match k with
  | 0 => .int
  | 1 => .int
  | 2 => .int
  | 3 => .int
  | 4 => .int
  | 5 => .long
  | 6 => .int
  | 7 => .int
  | _ => .array (.object "DictProof$Goal")
abbrev wsX30 : List Cond := u_ws RX3 TX3 9
theorem nmX3 : ∀ a, a < 9 → ∀ b, b < 9 → a ≠ b → (TX3 a).2.1 ≠ (TX3 b).2.1 := by decide +kernel
theorem tyX3_ok : ∀ k, k < 9 → parseFieldDescriptor (TX3 k).2.2.1 = some (tyX3 k) := by decide +kernel
def RX4 : String := "DictProof$Meeting"
def TX4 : u_T := fun k => match k with
  | 0 => ("DictProof$Meeting", "signs", "[I", true)
  | 1 => ("DictProof$Meeting", "leaders", "[I", true)
  | 2 => ("DictProof$Meeting", "firstPart", "[I", true)
  | 3 => ("DictProof$Meeting", "secondPart", "[I", true)
  | 4 => ("DictProof$Meeting", "ending", "[Z", true)
  | 5 => ("DictProof$Meeting", "oneSide", "[I", true)
  | 6 => ("DictProof$Meeting", "otherSide", "[I", true)
  | _ => ("DictProof$Meeting", "pending", "I", false)
def tyX4 : Nat → FieldType := fun k => match k with
  | 0 => .array .int
  | 1 => .array .int
  | 2 => .array .int
  | 3 => .array .int
  | 4 => .array .boolean
  | 5 => .array .int
  | 6 => .array .int
  | _ => .int
abbrev wsX40 : List Cond := u_ws RX4 TX4 8
theorem nmX4 : ∀ a, a < 8 → ∀ b, b < 8 → a ≠ b → (TX4 a).2.1 ≠ (TX4 b).2.1 := by decide +kernel
theorem tyX4_ok : ∀ k, k < 8 → parseFieldDescriptor (TX4 k).2.2.1 = some (tyX4 k) := by decide +kernel
def RX5 : String := "DictProof$Reader"
def TX5 : u_T := fun k => match k with
  | 0 => ("DictProof$Reader", "into", "LDictProof$Book;", false)
  | 1 => ("DictProof$Reader", "rule", "LDictProof$Rule;", false)
  | 2 => ("DictProof$Reader", "state", "I", false)
  | 3 => ("DictProof$Reader", "digit", "I", false)
  | _ => ("DictProof$Reader", "lacking", "I", false)
def tyX5 : Nat → FieldType := fun k => match k with
  | 0 => .object "DictProof$Book"
  | 1 => .object "DictProof$Rule"
  | 2 => .int
  | 3 => .int
  | _ => .int
abbrev wsX50 : List Cond := u_ws RX5 TX5 5
theorem nmX5 : ∀ a, a < 5 → ∀ b, b < 5 → a ≠ b → (TX5 a).2.1 ≠ (TX5 b).2.1 := by decide +kernel
theorem tyX5_ok : ∀ k, k < 5 → parseFieldDescriptor (TX5 k).2.2.1 = some (tyX5 k) := by decide +kernel
def RX6 : String := "DictProof$Rule"
def TX6 : u_T := fun k => match k with
  | 0 => ("DictProof$Rule", "kindRead", "I", false)
  | 1 => ("DictProof$Rule", "owner", "I", false)
  | 2 => ("DictProof$Rule", "head", "LDictProof$Shape;", true)
  | 3 => ("DictProof$Rule", "conditions", "I", false)
  | 4 => ("DictProof$Rule", "wanted", "[I", true)
  | 5 => ("DictProof$Rule", "gap", "[I", true)
  | _ => ("DictProof$Rule", "granted", "I", false)
def tyX6 : Nat → FieldType := fun k => match k with
  | 0 => .int
  | 1 => .int
  | 2 => .object "DictProof$Shape"
  | 3 => .int
  | 4 => .array .int
  | 5 => .array .int
  | _ => .int
abbrev wsX60 : List Cond := u_ws RX6 TX6 7
theorem nmX6 : ∀ a, a < 7 → ∀ b, b < 7 → a ≠ b → (TX6 a).2.1 ≠ (TX6 b).2.1 := by decide +kernel
theorem tyX6_ok : ∀ k, k < 7 → parseFieldDescriptor (TX6 k).2.2.1 = some (tyX6 k) := by decide +kernel
def RX7 : String := "DictProof$Shape"
def TX7 : u_T := fun k => match k with
  | 0 => ("DictProof$Shape", "signs", "[I", true)
  | 1 => ("DictProof$Shape", "ends", "[I", true)
  | 2 => ("DictProof$Shape", "firsts", "[I", true)
  | _ => ("DictProof$Shape", "size", "I", false)
def tyX7 : Nat → FieldType := fun k => match k with
  | 0 => .array .int
  | 1 => .array .int
  | 2 => .array .int
  | _ => .int
abbrev wsX70 : List Cond := u_ws RX7 TX7 4
theorem nmX7 : ∀ a, a < 4 → ∀ b, b < 4 → a ≠ b → (TX7 a).2.1 ≠ (TX7 b).2.1 := by decide +kernel
theorem tyX7_ok : ∀ k, k < 4 → parseFieldDescriptor (TX7 k).2.2.1 = some (tyX7 k) := by decide +kernel
def RX8 : String := "DictProof"
def TX8 : u_T := fun k => match k with
  | 0 => ("DictProof", "page", "[I", true)
  | 1 => ("DictProof", "letters", "I", false)
  | 2 => ("DictProof", "current", "LDictProof$Book;", false)
  | 3 => ("DictProof", "draft", "LDictProof$Book;", false)
  | 4 => ("DictProof", "booksRead", "I", false)
  | 5 => ("DictProof", "reader", "LDictProof$Reader;", true)
  | 6 => ("DictProof", "meeting", "LDictProof$Meeting;", true)
  | 7 => ("DictProof", "desk", "LDictProof$Desk;", true)
  | 8 => ("DictProof", "kept", "LDictProof$Desk;", true)
  | 9 => ("DictProof", "hasImage", "Z", false)
  | 10 => ("DictProof", "finder", "LDictProof$Finder;", true)
  | 11 => ("DictProof", "put", "[I", true)
  | 12 => ("DictProof", "drawnShape", "LDictProof$Shape;", true)
  | _ => ("DictProof", "drawSeed", "J", false)
def tyX8 : Nat → FieldType := fun k => match k with
  | 0 => .array .int
  | 1 => .int
  | 2 => .object "DictProof$Book"
  | 3 => .object "DictProof$Book"
  | 4 => .int
  | 5 => .object "DictProof$Reader"
  | 6 => .object "DictProof$Meeting"
  | 7 => .object "DictProof$Desk"
  | 8 => .object "DictProof$Desk"
  | 9 => .boolean
  | 10 => .object "DictProof$Finder"
  | 11 => .array .int
  | 12 => .object "DictProof$Shape"
  | _ => .long
abbrev wsX80 : List Cond := u_ws RX8 TX8 14
theorem nmX8 : ∀ a, a < 14 → ∀ b, b < 14 → a ≠ b → (TX8 a).2.1 ≠ (TX8 b).2.1 := by decide +kernel
theorem tyX8_ok : ∀ k, k < 14 → parseFieldDescriptor (TX8 k).2.2.1 = some (tyX8 k) := by decide +kernel
def RX9 : String := "DictProofModel"
def TX9 : u_T := fun k => match k with
  | 0 => ("DictProofModel", "books", "I", false)
  | 1 => ("DictProofModel", "classes", "I", false)
  | 2 => ("DictProofModel", "rightAbove", "[I", true)
  | 3 => ("DictProofModel", "above", "[I", true)
  | 4 => ("DictProofModel", "instances", "I", false)
  | 5 => ("DictProofModel", "kindOf", "[I", true)
  | 6 => ("DictProofModel", "classOf", "[I", true)
  | 7 => ("DictProofModel", "head", "[I", true)
  | 8 => ("DictProofModel", "headSize", "[I", true)
  | 9 => ("DictProofModel", "conditions", "[I", true)
  | 10 => ("DictProofModel", "conditionClass", "[I", true)
  | 11 => ("DictProofModel", "conditionVariable", "[I", true)
  | 12 => ("DictProofModel", "special", "[I", true)
  | 13 => ("DictProofModel", "slot", "[I", true)
  | 14 => ("DictProofModel", "slotSize", "[I", true)
  | 15 => ("DictProofModel", "seen", "I", false)
  | 16 => ("DictProofModel", "seenInstance", "[I", true)
  | 17 => ("DictProofModel", "seenWhat", "[I", true)
  | 18 => ("DictProofModel", "seenSo", "[I", true)
  | 19 => ("DictProofModel", "pageLength", "I", false)
  | 20 => ("DictProofModel", "page", "[B", true)
  | 21 => ("DictProofModel", "isWhole", "Z", false)
  | 22 => ("DictProofModel", "isBroken", "Z", false)
  | 23 => ("DictProofModel", "newClasses", "I", false)
  | 24 => ("DictProofModel", "newInstances", "I", false)
  | 25 => ("DictProofModel", "newAbove", "[I", true)
  | 26 => ("DictProofModel", "newKind", "[I", true)
  | 27 => ("DictProofModel", "newClass", "[I", true)
  | 28 => ("DictProofModel", "newHeadAt", "[I", true)
  | 29 => ("DictProofModel", "newHeadSize", "[I", true)
  | 30 => ("DictProofModel", "newConditions", "[I", true)
  | 31 => ("DictProofModel", "newConditionAt", "[I", true)
  | 32 => ("DictProofModel", "now", "[I", true)
  | 33 => ("DictProofModel", "sizeAt", "[I", true)
  | 34 => ("DictProofModel", "nowSize", "I", false)
  | 35 => ("DictProofModel", "boundAt", "[I", true)
  | 36 => ("DictProofModel", "status", "[I", true)
  | 37 => ("DictProofModel", "taken", "[I", true)
  | 38 => ("DictProofModel", "firstBelow", "[I", true)
  | 39 => ("DictProofModel", "secondBelow", "[I", true)
  | 40 => ("DictProofModel", "entries", "[I", true)
  | 41 => ("DictProofModel", "worth", "[I", true)
  | 42 => ("DictProofModel", "deep", "[I", true)
  | 43 => ("DictProofModel", "needs", "[I", true)
  | 44 => ("DictProofModel", "marked", "[I", true)
  | 45 => ("DictProofModel", "one", "I", false)
  | 46 => ("DictProofModel", "other", "I", false)
  | 47 => ("DictProofModel", "bound", "[I", true)
  | 48 => ("DictProofModel", "pairOne", "[I", true)
  | 49 => ("DictProofModel", "pairOther", "[I", true)
  | 50 => ("DictProofModel", "pairs", "I", false)
  | 51 => ("DictProofModel", "waiting", "[I", true)
  | 52 => ("DictProofModel", "seedNow", "J", false)
  | 53 => ("DictProofModel", "isKept", "Z", false)
  | 54 => ("DictProofModel", "keptBook", "I", false)
  | 55 => ("DictProofModel", "keptSeen", "I", false)
  | 56 => ("DictProofModel", "keptKind", "[I", true)
  | 57 => ("DictProofModel", "keptSlot", "[I", true)
  | 58 => ("DictProofModel", "keptSize", "[I", true)
  | 59 => ("DictProofModel", "keptInstance", "[I", true)
  | 60 => ("DictProofModel", "keptWhat", "[I", true)
  | 61 => ("DictProofModel", "keptSo", "[I", true)
  | _ => ("DictProofModel", "h", "J", false)
def tyX9 : Nat → FieldType := fun k => match k with
  | 0 => .int
  | 1 => .int
  | 2 => .array .int
  | 3 => .array .int
  | 4 => .int
  | 5 => .array .int
  | 6 => .array .int
  | 7 => .array .int
  | 8 => .array .int
  | 9 => .array .int
  | 10 => .array .int
  | 11 => .array .int
  | 12 => .array .int
  | 13 => .array .int
  | 14 => .array .int
  | 15 => .int
  | 16 => .array .int
  | 17 => .array .int
  | 18 => .array .int
  | 19 => .int
  | 20 => .array .byte
  | 21 => .boolean
  | 22 => .boolean
  | 23 => .int
  | 24 => .int
  | 25 => .array .int
  | 26 => .array .int
  | 27 => .array .int
  | 28 => .array .int
  | 29 => .array .int
  | 30 => .array .int
  | 31 => .array .int
  | 32 => .array .int
  | 33 => .array .int
  | 34 => .int
  | 35 => .array .int
  | 36 => .array .int
  | 37 => .array .int
  | 38 => .array .int
  | 39 => .array .int
  | 40 => .array .int
  | 41 => .array .int
  | 42 => .array .int
  | 43 => .array .int
  | 44 => .array .int
  | 45 => .int
  | 46 => .int
  | 47 => .array .int
  | 48 => .array .int
  | 49 => .array .int
  | 50 => .int
  | 51 => .array .int
  | 52 => .long
  | 53 => .boolean
  | 54 => .int
  | 55 => .int
  | 56 => .array .int
  | 57 => .array .int
  | 58 => .array .int
  | 59 => .array .int
  | 60 => .array .int
  | 61 => .array .int
  | _ => .long
abbrev wsX90 : List Cond := u_ws RX9 TX9 63
theorem nmX9 : ∀ a, a < 63 → ∀ b, b < 63 → a ≠ b → (TX9 a).2.1 ≠ (TX9 b).2.1 := by decide +kernel
theorem tyX9_ok : ∀ k, k < 63 → parseFieldDescriptor (TX9 k).2.2.1 = some (tyX9 k) := by decide +kernel
def RJ6 : String := "java/lang/Integer"
def RJ13 : String := "java/lang/Long"
def RJ9 : String := "java/lang/Math"
def RL : String := "DictProofLaw"
abbrev vwCl : List vw_C := [(RX0, TX0, 10), (RX1, TX1, 5), (RX2, TX2, 5), (RX3, TX3, 9), (RX4, TX4, 8), (RX5, TX5, 5), (RX6, TX6, 7), (RX7, TX7, 4), (RX8, TX8, 14), (RX9, TX9, 63)]
end
section
-- ===== THE MINI-MACHINE: values, memory, one step (my own; the JVM is tied to it in the part 'sound') =====
/-- a value: an int, a long, a reference (null: none), or nothing that is known -/
abbrev MV : Type := Int ⊕ (Int64 ⊕ (Option Nat ⊕ Unit))
abbrev vI (z : Int) : MV := Sum.inl z
abbrev vL (x : Int64) : MV := Sum.inr (Sum.inl x)
abbrev vR (r : Option Nat) : MV := Sum.inr (Sum.inr (Sum.inl r))
abbrev vU : MV := Sum.inr (Sum.inr (Sum.inr ()))
/-- the cells: kind, length, frozen references -/
abbrev MS : Type := List (Nat × Nat × List (Option Nat))
/-- the memory: cells; references, ints, longs by cell and place -/
abbrev MM : Type := MS × (Nat → Int → Option Nat) × (Nat → Int → Int) × (Nat → Int → Int64)
abbrev MC : Type := Nat × List MV × List MV × (Nat × Nat) × MM
/-- what a step comes to: the next place; a call, with what is behind it; an answer -/
abbrev MO : Type := MC ⊕ ((Nat × List MV × MC) ⊕ Option MV)
/-- an instruction of a table: the instruction, (pc, length), numbers, a constant, places of a switch -/
abbrev Op : Type := Instr × (Nat × Nat) × List Nat × Int × List (Int × Nat)
def w32 (z : Int) : Int := (Int32.ofInt z).toInt
def iand (x y : Int) : Int := (Int32.ofInt x &&& Int32.ofInt y).toInt
def ior (x y : Int) : Int := (Int32.ofInt x ||| Int32.ofInt y).toInt
def ixor (x y : Int) : Int := (Int32.ofInt x ^^^ Int32.ofInt y).toInt
def ishl (x y : Int) : Int := (Int32.ofInt x <<< (Int32.ofInt y &&& 31)).toInt
def ishr (x y : Int) : Int := (Int32.ofInt x >>> (Int32.ofInt y &&& 31)).toInt
def iushr (x y : Int) : Int := ((Int32.ofInt x).toUInt32 >>> ((Int32.ofInt y).toUInt32 &&& Int32.toUInt32 31)).toInt32.toInt
def ib8 (x : Int) : Int := (Int32.ofInt x).toInt8.toInt32.toInt
def lushr (x : Int64) (y : Int) : Int64 := (x.toUInt64 >>> ((Int32.ofInt y).toInt64.toUInt64 &&& Int64.toUInt64 63)).toInt64
def lshl (x : Int64) (y : Int) : Int64 := x <<< ((Int32.ofInt y).toInt64 &&& 63)
def lcmpI (x y : Int64) : Int := (lg_cmp x y).toInt
def kd (S : MS) (a : Nat) : Nat := match S[a]? with
  | some e => e.1
  | none => 999
def ln (S : MS) (a : Nat) : Nat := match S[a]? with
  | some e => e.2.1
  | none => 0
def fz (S : MS) (a k : Nat) : Option Nat := match S[a]? with
  | some e => e.2.2.getD k none
  | none => none
def setFz (S : MS) (a k : Nat) (r : Option Nat) : MS := match S[a]? with
  | some e => S.set a (e.1, e.2.1, e.2.2.set k r)
  | none => S
def upr {α : Type} (f : Int → α) (i : Int) (z : α) : Int → α := fun i' => if i' = i then z else f i'
def upM {α : Type} (I : Nat → Int → α) (a : Nat) (i : Int) (z : α) : Nat → Int → α := fun b => if b = a then upr (I a) i z else I b
def zrM {α : Type} (I : Nat → Int → α) (a : Nat) (d : α) : Nat → Int → α := fun b => if b = a then (fun _ => d) else I b
def zrN {α : Type} (I : Nat → Int → α) (a n : Nat) (d : α) : Nat → Int → α := fun b => if a ≤ b ∧ b < a + n then (fun _ => d) else I b
def nx (j : Nat) (ls st : List MV) (b : Nat × Nat) (M : MM) : Option MO := some (Sum.inl (j, ls, st, b, M))
def killL : List MV → List Nat → List MV
  | ls, [] => ls
  | ls, i :: r => killL (ls.set i vU) r
/-- a value is put into a place: a long that began just before it is lost -/
def stL (ls : List MV) (i : Nat) (v : MV) : List MV := match i with
  | 0 => ls.set 0 v
  | i' + 1 => match ls[i']? with
    | some (Sum.inr (Sum.inl _)) => (ls.set i' vU).set (i' + 1) v
    | _ => ls.set (i' + 1) v
def gtI (ls : List MV) (i : Nat) (f : Int → Option MO) : Option MO := match ls[i]? with
  | some (Sum.inl z) => f z
  | _ => none
def gtL (ls : List MV) (i : Nat) (f : Int64 → Option MO) : Option MO := match ls[i]? with
  | some (Sum.inr (Sum.inl z)) => f z
  | _ => none
def gtR (ls : List MV) (i : Nat) (f : Option Nat → Option MO) : Option MO := match ls[i]? with
  | some (Sum.inr (Sum.inr (Sum.inl r))) => f r
  | _ => none
def pI (st : List MV) (f : Int → List MV → Option MO) : Option MO := match st with
  | Sum.inl x :: r => f x r
  | _ => none
def pI2 (st : List MV) (f : Int → Int → List MV → Option MO) : Option MO := match st with
  | Sum.inl y :: Sum.inl x :: r => f x y r
  | _ => none
def pL (st : List MV) (f : Int64 → List MV → Option MO) : Option MO := match st with
  | Sum.inr (Sum.inl x) :: r => f x r
  | _ => none
def pL2 (st : List MV) (f : Int64 → Int64 → List MV → Option MO) : Option MO := match st with
  | Sum.inr (Sum.inl y) :: Sum.inr (Sum.inl x) :: r => f x y r
  | _ => none
def pIL (st : List MV) (f : Int64 → Int → List MV → Option MO) : Option MO := match st with
  | Sum.inl y :: Sum.inr (Sum.inl x) :: r => f x y r
  | _ => none
/-- a reference, null too -/
def pQ (st : List MV) (f : Option Nat → List MV → Option MO) : Option MO := match st with
  | Sum.inr (Sum.inr (Sum.inl q)) :: r => f q r
  | _ => none
/-- a reference that isn't null -/
def pR (st : List MV) (f : Nat → List MV → Option MO) : Option MO := match st with
  | Sum.inr (Sum.inr (Sum.inl (some a))) :: r => f a r
  | _ => none
def pIR (st : List MV) (f : Nat → Int → List MV → Option MO) : Option MO := match st with
  | Sum.inl i :: Sum.inr (Sum.inr (Sum.inl (some a))) :: r => f a i r
  | _ => none
def pIIR (st : List MV) (f : Nat → Int → Int → List MV → Option MO) : Option MO := match st with
  | Sum.inl z :: Sum.inl i :: Sum.inr (Sum.inr (Sum.inl (some a))) :: r => f a i z r
  | _ => none
def pRIR (st : List MV) (f : Nat → Int → Nat → List MV → Option MO) : Option MO := match st with
  | Sum.inr (Sum.inr (Sum.inl (some v))) :: Sum.inl i :: Sum.inr (Sum.inr (Sum.inl (some a))) :: r => f a i v r
  | _ => none
def pLR (st : List MV) (f : Nat → Int64 → List MV → Option MO) : Option MO := match st with
  | Sum.inr (Sum.inl x) :: Sum.inr (Sum.inr (Sum.inl (some a))) :: r => f a x r
  | _ => none
def pQR (st : List MV) (f : Nat → Option Nat → List MV → Option MO) : Option MO := match st with
  | Sum.inr (Sum.inr (Sum.inl q)) :: Sum.inr (Sum.inr (Sum.inl (some a))) :: r => f a q r
  | _ => none
def gd (c : Bool) (o : Option MO) : Option MO := if c = true then o else none
/-- two places: the first one if c -/
def br (c : Bool) (j1 j2 : Nat) (ls st : List MV) (b : Nat × Nat) (M : MM) : Option MO := if c = true then nx j1 ls st b M else nx j2 ls st b M
def cndI (c : Jvm.ClassFile.Cond) (x y : Int) (jt jf : Nat) (ls st : List MV) (b : Nat × Nat) (M : MM) : Option MO := match c with
  | .eq => br (decide (x = y)) jt jf ls st b M
  | .ne => br (decide (x = y)) jf jt ls st b M
  | .lt => br (decide (x < y)) jt jf ls st b M
  | .ge => br (decide (x < y)) jf jt ls st b M
  | .gt => br (decide (x ≤ y)) jf jt ls st b M
  | .le => br (decide (x ≤ y)) jt jf ls st b M
def swT (x : Int) (d : Nat) : List (Int × Nat) → Nat
  | [] => d
  | (c, t) :: r => if x = c then t else swT x d r
def z01 (z : Int) : Bool := decide (z = 0) || decide (z = 1)
def inB (S : MS) (a : Nat) (i : Int) : Bool := decide (0 ≤ i) && decide (i < (ln S a : Int))
/-- which cells hold what is in S (frozen), by kind -/
def frK (k : Nat) : Bool := k == 23 || k == 24 || k == 25 || k == 27
/-- the kind of what an array of references of a kind holds -/
def elK (k : Nat) : Nat := match k with
  | 23 => 6
  | 24 => 7
  | 25 => 3
  | 26 => 3
  | _ => 998
def mInv (k n : Nat) (rc : Option Nat) (mc ms : Nat) (j : Nat) (ls st : List MV) (b : Nat × Nat) (M : MM) : Option MO :=
  gd (decide (n ≤ st.length) && decide ((st.drop n).length ≤ 4) && decide (mc ≤ b.1) && decide (ms ≤ b.2) &&
      (match rc with
        | none => true
        | some ci => match (st.take n).reverse with
          | Sum.inr (Sum.inr (Sum.inl (some a))) :: _ => decide (kd M.1 a = ci)
          | _ => false))
    (some (Sum.inr (Sum.inl (k, (st.take n).reverse, (j + 1, ls, st.drop n, (b.1 - mc, b.2 - ms), M)))))
def n0 (o : Op) : Nat := o.2.2.1.getD 0 0
def n1 (o : Op) : Nat := o.2.2.1.getD 1 0
def n2 (o : Op) : Nat := o.2.2.1.getD 2 0
def n3 (o : Op) : Nat := o.2.2.1.getD 3 0
def n4 (o : Op) : Nat := o.2.2.1.getD 4 0
def n5 (o : Op) : Nat := o.2.2.1.getD 5 0
def mGet (o : Op) (j : Nat) (ls st : List MV) (b : Nat × Nat) (M : MM) : Option MO := pR st fun a r => gd (decide (kd M.1 a = n0 o)) <| match n2 o with
  | 0 => nx (j + 1) ls (vI (M.2.2.1 a (n1 o)) :: r) b M
  | 1 => nx (j + 1) ls (vI (M.2.2.1 a (n1 o)) :: r) b M
  | 2 => nx (j + 1) ls (vL (M.2.2.2 a (n1 o)) :: r) b M
  | 3 => nx (j + 1) ls (vR (M.2.1 a (n1 o)) :: r) b M
  | _ => nx (j + 1) ls (vR (fz M.1 a (n1 o)) :: r) b M
def mPut (o : Op) (j : Nat) (ls st : List MV) (b : Nat × Nat) (M : MM) : Option MO := match n2 o with
  | 0 => pIR st fun a z r => gd (decide (kd M.1 a = n0 o)) (nx (j + 1) ls r b (M.1, M.2.1, upM M.2.2.1 a (n1 o) z, M.2.2.2))
  | 1 => pIR st fun a z r => gd (decide (kd M.1 a = n0 o) && z01 z) (nx (j + 1) ls r b (M.1, M.2.1, upM M.2.2.1 a (n1 o) z, M.2.2.2))
  | 2 => pLR st fun a z r => gd (decide (kd M.1 a = n0 o)) (nx (j + 1) ls r b (M.1, M.2.1, M.2.2.1, upM M.2.2.2 a (n1 o) z))
  | 3 => pQR st fun a q r => gd (decide (kd M.1 a = n0 o)) (nx (j + 1) ls r b (M.1, upM M.2.1 a (n1 o) q, M.2.2.1, M.2.2.2))
  | _ => pQR st fun a q r => gd (decide (kd M.1 a = n0 o)) (nx (j + 1) ls r b (setFz M.1 a (n1 o) q, M.2.1, M.2.2.1, M.2.2.2))

/-- new cells -/
def mNew (e : List (Nat × Nat × List (Option Nat))) (cells slots : Nat) (j : Nat) (ls r : List MV) (b : Nat × Nat) (M : MM) : Option MO :=
  gd (decide (cells ≤ b.1) && decide (slots ≤ b.2)) (nx (j + 1) ls (vR (some M.1.length) :: r) (b.1 - cells, b.2 - slots) (M.1 ++ e, zrN M.2.1 M.1.length cells none, zrN M.2.2.1 M.1.length cells 0, zrN M.2.2.2 M.1.length cells 0))
def mArr (kind : Nat) (j : Nat) (ls st : List MV) (b : Nat × Nat) (M : MM) : Option MO := pI st fun n r => gd (decide (0 ≤ n) && decide (n ≤ 1000)) (mNew [(kind, n.toNat, if frK kind = true then List.replicate n.toNat none else [])] 1 n.toNat j ls r b M)
def tg (o : Op) : Nat := n0 o
def mstep (o : Op) (j : Nat) (ls st : List MV) (b : Nat × Nat) (M : MM) : Option MO := match o.1 with
  | .nop => nx (j + 1) (killL ls o.2.2.1) st b M
  | .aconst_null => nx (j + 1) ls (vR none :: st) b M
  | .iconst n => nx (j + 1) ls (vI n :: st) b M
  | .bipush n => nx (j + 1) ls (vI n :: st) b M
  | .sipush n => nx (j + 1) ls (vI n :: st) b M
  | .ldc_w _ => nx (j + 1) ls (vI o.2.2.2.1 :: st) b M
  | .ldc2_w _ => nx (j + 1) ls (vL (Int64.ofInt o.2.2.2.1) :: st) b M
  | .lconst n => nx (j + 1) ls (vL (Int64.ofInt n.val) :: st) b M
  | .iload_n i => gtI ls i.val fun z => nx (j + 1) ls (vI z :: st) b M
  | .iload i => gtI ls i fun z => nx (j + 1) ls (vI z :: st) b M
  | .lload_n i => gtL ls i.val fun z => nx (j + 1) ls (vL z :: st) b M
  | .lload i => gtL ls i fun z => nx (j + 1) ls (vL z :: st) b M
  | .aload_n i => gtR ls i.val fun z => nx (j + 1) ls (vR z :: st) b M
  | .aload i => gtR ls i fun z => nx (j + 1) ls (vR z :: st) b M
  | .istore_n i => pI st fun z r => nx (j + 1) (stL ls i.val (vI z)) r b M
  | .istore i => pI st fun z r => nx (j + 1) (stL ls i (vI z)) r b M
  | .lstore_n i => pL st fun z r => nx (j + 1) ((stL ls i.val (vL z)).set (i.val + 1) vU) r b M
  | .lstore i => pL st fun z r => nx (j + 1) ((stL ls i (vL z)).set (i + 1) vU) r b M
  | .astore_n i => pQ st fun z r => nx (j + 1) (stL ls i.val (vR z)) r b M
  | .astore i => pQ st fun z r => nx (j + 1) (stL ls i (vR z)) r b M
  | .iinc i n => gtI ls i fun z => nx (j + 1) (stL ls i (vI (w32 (z + n)))) st b M
  | .iadd => pI2 st fun x y r => nx (j + 1) ls (vI (w32 (x + y)) :: r) b M
  | .isub => pI2 st fun x y r => nx (j + 1) ls (vI (w32 (x - y)) :: r) b M
  | .imul => pI2 st fun x y r => nx (j + 1) ls (vI (w32 (x * y)) :: r) b M
  | .iand => pI2 st fun x y r => nx (j + 1) ls (vI (iand x y) :: r) b M
  | .ior => pI2 st fun x y r => nx (j + 1) ls (vI (ior x y) :: r) b M
  | .ixor => pI2 st fun x y r => nx (j + 1) ls (vI (ixor x y) :: r) b M
  | .ishl => pI2 st fun x y r => nx (j + 1) ls (vI (ishl x y) :: r) b M
  | .ishr => pI2 st fun x y r => nx (j + 1) ls (vI (ishr x y) :: r) b M
  | .iushr => pI2 st fun x y r => nx (j + 1) ls (vI (iushr x y) :: r) b M
  | .idiv => pI2 st fun x y r => gd (decide (¬ y = 0)) (nx (j + 1) ls (vI (w32 (x.tdiv y)) :: r) b M)
  | .irem => pI2 st fun x y r => gd (decide (¬ y = 0)) (nx (j + 1) ls (vI (x.tmod y) :: r) b M)
  | .ladd => pL2 st fun x y r => nx (j + 1) ls (vL (x + y) :: r) b M
  | .lsub => pL2 st fun x y r => nx (j + 1) ls (vL (x - y) :: r) b M
  | .lmul => pL2 st fun x y r => nx (j + 1) ls (vL (x * y) :: r) b M
  | .land => pL2 st fun x y r => nx (j + 1) ls (vL (x &&& y) :: r) b M
  | .lor => pL2 st fun x y r => nx (j + 1) ls (vL (x ||| y) :: r) b M
  | .ldiv => pL2 st fun x y r => gd (decide (¬ y = 0)) (nx (j + 1) ls (vL (x / y) :: r) b M)
  | .lrem => pL2 st fun x y r => gd (decide (¬ y = 0)) (nx (j + 1) ls (vL (x - x / y * y) :: r) b M)
  | .lcmp => pL2 st fun x y r => nx (j + 1) ls (vI (lcmpI x y) :: r) b M
  | .lushr => pIL st fun x y r => nx (j + 1) ls (vL (lushr x y) :: r) b M
  | .lshl => pIL st fun x y r => nx (j + 1) ls (vL (lshl x y) :: r) b M
  | .i2l => pI st fun x r => nx (j + 1) ls (vL (Int64.ofInt x) :: r) b M
  | .l2i => pL st fun x r => nx (j + 1) ls (vI x.toInt32.toInt :: r) b M
  | .i2b => pI st fun x r => nx (j + 1) ls (vI (ib8 x) :: r) b M
  | .dup => match st with
    | Sum.inl z :: r => nx (j + 1) ls (vI z :: vI z :: r) b M
    | Sum.inr (Sum.inr (Sum.inl q)) :: r => nx (j + 1) ls (vR q :: vR q :: r) b M
    | _ => none
  | .dup2 => match st with
    | Sum.inl z :: Sum.inr (Sum.inr (Sum.inl q)) :: r => nx (j + 1) ls (vI z :: vR q :: vI z :: vR q :: r) b M
    | _ => none
  | .pop => pI st fun _ r => nx (j + 1) ls r b M
  | .ifCond c _ => pI st fun x r => cndI c x 0 (tg o) (j + 1) ls r b M
  | .if_icmp c _ => pI2 st fun x y r => cndI c x y (tg o) (j + 1) ls r b M
  | .goto _ => nx (tg o) ls st b M
  | .ifnull _ => pQ st fun q r => br q.isNone (tg o) (j + 1) ls r b M
  | .ifnonnull _ => pQ st fun q r => br q.isNone (j + 1) (tg o) ls r b M
  | .tableswitch _ _ _ _ => pI st fun x r => nx (swT x (tg o) o.2.2.2.2) ls r b M
  | .lookupswitch _ _ => pI st fun x r => nx (swT x (tg o) o.2.2.2.2) ls r b M
  | .getfield _ => mGet o j ls st b M
  | .putfield _ => mPut o j ls st b M
  | .getstatic _ => nx (j + 1) ls (vR (some (n0 o)) :: st) b M
  | .arraylength => pR st fun a r => gd (decide (19 ≤ kd M.1 a) && decide (kd M.1 a ≤ 22)) (nx (j + 1) ls (vI (ln M.1 a) :: r) b M)
  | .iaload => pIR st fun a i r => gd ((decide (kd M.1 a = 20) || decide (kd M.1 a = 19)) && inB M.1 a i) (nx (j + 1) ls (vI (M.2.2.1 a i) :: r) b M)
  | .baload => pIR st fun a i r => gd ((decide (kd M.1 a = 21) || decide (kd M.1 a = 22)) && inB M.1 a i) (nx (j + 1) ls (vI (M.2.2.1 a i) :: r) b M)
  | .aaload => pIR st fun a i r => gd (decide (23 ≤ kd M.1 a) && decide (kd M.1 a ≤ 27) && inB M.1 a i) (nx (j + 1) ls (vR (if frK (kd M.1 a) = true then fz M.1 a i.toNat else M.2.1 a i) :: r) b M)
  | .iastore => pIIR st fun a i z r => gd (decide (kd M.1 a = 20) && inB M.1 a i) (nx (j + 1) ls r b (M.1, M.2.1, upM M.2.2.1 a i z, M.2.2.2))
  | .bastore => pIIR st fun a i z r => gd ((decide (kd M.1 a = 21) || (decide (kd M.1 a = 22) && z01 z)) && inB M.1 a i) (nx (j + 1) ls r b (M.1, M.2.1, upM M.2.2.1 a i (ib8 z), M.2.2.2))
  | .aastore => pRIR st fun a i v r => gd (decide (23 ≤ kd M.1 a) && decide (kd M.1 a ≤ 26) && decide (kd M.1 v = elK (kd M.1 a)) && inB M.1 a i) (nx (j + 1) ls r b (if frK (kd M.1 a) = true then (setFz M.1 a i.toNat (some v), M.2.1, M.2.2.1, M.2.2.2) else (M.1, upM M.2.1 a i (some v), M.2.2.1, M.2.2.2)))
  | .new _ => mNew [(n0 o, n1 o, List.replicate (n1 o) none)] 1 (n1 o) j ls st b M
  | .newarray _ => mArr (n0 o) j ls st b M
  | .anewarray _ => mArr (n0 o) j ls st b M
  | .multianewarray _ _ => pI2 st fun x y r => gd (decide (x = 6) && decide (y = 2)) (mNew ((27, 6, (List.range 6).map fun i => some (M.1.length + 1 + i)) :: List.replicate 6 (20, 2, [])) 7 18 j ls r b M)
  | .invokevirtual _ => mInv (n0 o) (n1 o) (some (n2 o)) (n3 o) (n4 o) j ls st b M
  | .invokestatic _ => mInv (n0 o) (n1 o) none (n3 o) (n4 o) j ls st b M
  | .invokespecial _ => if n5 o = 9 then pR st fun _ r => gd (decide (r.length ≤ 4)) (nx (j + 1) ls r b M) else mInv (n0 o) (n1 o) (some (n2 o)) (n3 o) (n4 o) j ls st b M
  | .ireturn => match st with
    | [Sum.inl z] => gd (if n0 o = 1 then z01 z else true) (some (Sum.inr (Sum.inr (some (vI z)))))
    | _ => none
  | .lreturn => match st with
    | [Sum.inr (Sum.inl x)] => some (Sum.inr (Sum.inr (some (vL x))))
    | _ => none
  | .areturn => match st with
    | [Sum.inr (Sum.inr (Sum.inl q))] => some (Sum.inr (Sum.inr (some (vR q))))
    | _ => none
  | .return_ => match st with
    | [] => some (Sum.inr (Sum.inr none))
    | _ => none
  | _ => none
end
