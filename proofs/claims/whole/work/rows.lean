section
-- ===== PART A: goes FIRST, ahead of the names: the tables' words, and 'selects' of the private methods out of them =====
/-- a private method of a class that the tables say can be made, by its rows of tables_1 -/
def lw_okq (q : MethodName × Nat) : Prop := (q.1.cls ≠ "java/lang/invoke/MethodHandle" ∧ q.1.cls ≠ "java/lang/invoke/VarHandle") ∧ Cond.instantiable q.1.cls q.2 ∈ tables_1 ∧ Cond.privateMethod q.1 ∈ tables_1 ∧ Cond.instanceMethod q.1 ∈ tables_1
theorem lw_p0 : lw_okq (⟨"DictProof", "readPage", "()I"⟩, 14) := ⟨⟨by decide +kernel, by decide +kernel⟩, List.mem_of_getElem? (i := 15) (by decide +kernel), List.mem_of_getElem? (i := 357) (by decide +kernel), List.mem_of_getElem? (i := 358) (by decide +kernel)⟩
theorem lw_p1 : lw_okq (⟨"DictProof$Reader", "acceptsClass", "(I)Z"⟩, 5) := ⟨⟨by decide +kernel, by decide +kernel⟩, List.mem_of_getElem? (i := 151) (by decide +kernel), List.mem_of_getElem? (i := 373) (by decide +kernel), List.mem_of_getElem? (i := 374) (by decide +kernel)⟩
theorem lw_p2 : lw_okq (⟨"DictProof$Reader", "acceptsSecondDigit", "(I)Z"⟩, 5) := ⟨⟨by decide +kernel, by decide +kernel⟩, List.mem_of_getElem? (i := 151) (by decide +kernel), List.mem_of_getElem? (i := 385) (by decide +kernel), List.mem_of_getElem? (i := 386) (by decide +kernel)⟩
theorem lw_p3 : lw_okq (⟨"DictProof$Reader", "acceptsClassEnd", "(I)Z"⟩, 5) := ⟨⟨by decide +kernel, by decide +kernel⟩, List.mem_of_getElem? (i := 151) (by decide +kernel), List.mem_of_getElem? (i := 389) (by decide +kernel), List.mem_of_getElem? (i := 390) (by decide +kernel)⟩
theorem lw_p4 : lw_okq (⟨"DictProof$Reader", "acceptsKind", "(I)Z"⟩, 5) := ⟨⟨by decide +kernel, by decide +kernel⟩, List.mem_of_getElem? (i := 151) (by decide +kernel), List.mem_of_getElem? (i := 393) (by decide +kernel), List.mem_of_getElem? (i := 394) (by decide +kernel)⟩
theorem lw_p5 : lw_okq (⟨"DictProof$Reader", "acceptsOwner", "(I)Z"⟩, 5) := ⟨⟨by decide +kernel, by decide +kernel⟩, List.mem_of_getElem? (i := 151) (by decide +kernel), List.mem_of_getElem? (i := 412) (by decide +kernel), List.mem_of_getElem? (i := 413) (by decide +kernel)⟩
theorem lw_p6 : lw_okq (⟨"DictProof$Reader", "isClassDigit", "(I)Z"⟩, 5) := ⟨⟨by decide +kernel, by decide +kernel⟩, List.mem_of_getElem? (i := 151) (by decide +kernel), List.mem_of_getElem? (i := 416) (by decide +kernel), List.mem_of_getElem? (i := 417) (by decide +kernel)⟩
theorem lw_p7 : lw_okq (⟨"DictProof$Reader", "acceptsHead", "(I)Z"⟩, 5) := ⟨⟨by decide +kernel, by decide +kernel⟩, List.mem_of_getElem? (i := 151) (by decide +kernel), List.mem_of_getElem? (i := 420) (by decide +kernel), List.mem_of_getElem? (i := 421) (by decide +kernel)⟩
theorem lw_p8 : lw_okq (⟨"DictProof$Reader", "acceptsCondition", "(I)Z"⟩, 5) := ⟨⟨by decide +kernel, by decide +kernel⟩, List.mem_of_getElem? (i := 151) (by decide +kernel), List.mem_of_getElem? (i := 436) (by decide +kernel), List.mem_of_getElem? (i := 437) (by decide +kernel)⟩
theorem lw_p9 : lw_okq (⟨"DictProof$Reader", "acceptsNext", "(I)Z"⟩, 5) := ⟨⟨by decide +kernel, by decide +kernel⟩, List.mem_of_getElem? (i := 151) (by decide +kernel), List.mem_of_getElem? (i := 451) (by decide +kernel), List.mem_of_getElem? (i := 452) (by decide +kernel)⟩
theorem lw_p10 : lw_okq (⟨"DictProof$Reader", "acceptsGap", "(I)Z"⟩, 5) := ⟨⟨by decide +kernel, by decide +kernel⟩, List.mem_of_getElem? (i := 151) (by decide +kernel), List.mem_of_getElem? (i := 455) (by decide +kernel), List.mem_of_getElem? (i := 456) (by decide +kernel)⟩
theorem lw_p11 : lw_okq (⟨"DictProof$Book", "settleClass", "(I)V"⟩, 10) := ⟨⟨by decide +kernel, by decide +kernel⟩, List.mem_of_getElem? (i := 23) (by decide +kernel), List.mem_of_getElem? (i := 477) (by decide +kernel), List.mem_of_getElem? (i := 478) (by decide +kernel)⟩
theorem lw_p12 : lw_okq (⟨"DictProof$Book", "settleInstance", "(I)V"⟩, 10) := ⟨⟨by decide +kernel, by decide +kernel⟩, List.mem_of_getElem? (i := 23) (by decide +kernel), List.mem_of_getElem? (i := 481) (by decide +kernel), List.mem_of_getElem? (i := 482) (by decide +kernel)⟩
theorem lw_p13 : lw_okq (⟨"DictProof$Shape", "firstLike", "(I)I"⟩, 4) := ⟨⟨by decide +kernel, by decide +kernel⟩, List.mem_of_getElem? (i := 36) (by decide +kernel), List.mem_of_getElem? (i := 494) (by decide +kernel), List.mem_of_getElem? (i := 495) (by decide +kernel)⟩
theorem lw_p14 : lw_okq (⟨"DictProof$Shape", "isLike", "(II)Z"⟩, 4) := ⟨⟨by decide +kernel, by decide +kernel⟩, List.mem_of_getElem? (i := 36) (by decide +kernel), List.mem_of_getElem? (i := 498) (by decide +kernel), List.mem_of_getElem? (i := 499) (by decide +kernel)⟩
theorem lw_p15 : lw_okq (⟨"DictProof$Book", "needsAbove", "(II)I"⟩, 10) := ⟨⟨by decide +kernel, by decide +kernel⟩, List.mem_of_getElem? (i := 23) (by decide +kernel), List.mem_of_getElem? (i := 513) (by decide +kernel), List.mem_of_getElem? (i := 514) (by decide +kernel)⟩
def lw_privs_1 : List (MethodName × Nat) := [(⟨"DictProof", "readPage", "()I"⟩, 14), (⟨"DictProof$Reader", "acceptsClass", "(I)Z"⟩, 5), (⟨"DictProof$Reader", "acceptsSecondDigit", "(I)Z"⟩, 5), (⟨"DictProof$Reader", "acceptsClassEnd", "(I)Z"⟩, 5), (⟨"DictProof$Reader", "acceptsKind", "(I)Z"⟩, 5), (⟨"DictProof$Reader", "acceptsOwner", "(I)Z"⟩, 5), (⟨"DictProof$Reader", "isClassDigit", "(I)Z"⟩, 5), (⟨"DictProof$Reader", "acceptsHead", "(I)Z"⟩, 5), (⟨"DictProof$Reader", "acceptsCondition", "(I)Z"⟩, 5), (⟨"DictProof$Reader", "acceptsNext", "(I)Z"⟩, 5), (⟨"DictProof$Reader", "acceptsGap", "(I)Z"⟩, 5), (⟨"DictProof$Book", "settleClass", "(I)V"⟩, 10), (⟨"DictProof$Book", "settleInstance", "(I)V"⟩, 10), (⟨"DictProof$Shape", "firstLike", "(I)I"⟩, 4), (⟨"DictProof$Shape", "isLike", "(II)Z"⟩, 4), (⟨"DictProof$Book", "needsAbove", "(II)I"⟩, 10)]
theorem lw_r1 : ∀ q ∈ lw_privs_1, lw_okq q := List.forall_mem_cons.mpr ⟨lw_p0, List.forall_mem_cons.mpr ⟨lw_p1, List.forall_mem_cons.mpr ⟨lw_p2, List.forall_mem_cons.mpr ⟨lw_p3, List.forall_mem_cons.mpr ⟨lw_p4, List.forall_mem_cons.mpr ⟨lw_p5, List.forall_mem_cons.mpr ⟨lw_p6, List.forall_mem_cons.mpr ⟨lw_p7, List.forall_mem_cons.mpr ⟨lw_p8, List.forall_mem_cons.mpr ⟨lw_p9, List.forall_mem_cons.mpr ⟨lw_p10, List.forall_mem_cons.mpr ⟨lw_p11, List.forall_mem_cons.mpr ⟨lw_p12, List.forall_mem_cons.mpr ⟨lw_p13, List.forall_mem_cons.mpr ⟨lw_p14, List.forall_mem_cons.mpr ⟨lw_p15, fun _ h => absurd h List.not_mem_nil⟩⟩⟩⟩⟩⟩⟩⟩⟩⟩⟩⟩⟩⟩⟩⟩
theorem lw_p16 : lw_okq (⟨"DictProof$Book", "compareHeads", "(ILDictProof$Meeting;)V"⟩, 10) := ⟨⟨by decide +kernel, by decide +kernel⟩, List.mem_of_getElem? (i := 23) (by decide +kernel), List.mem_of_getElem? (i := 517) (by decide +kernel), List.mem_of_getElem? (i := 518) (by decide +kernel)⟩
theorem lw_p17 : lw_okq (⟨"DictProof$Meeting", "load", "(LDictProof$Shape;I)V"⟩, 8) := ⟨⟨by decide +kernel, by decide +kernel⟩, List.mem_of_getElem? (i := 173) (by decide +kernel), List.mem_of_getElem? (i := 529) (by decide +kernel), List.mem_of_getElem? (i := 530) (by decide +kernel)⟩
theorem lw_p18 : lw_okq (⟨"DictProof$Meeting", "expectAlike", "(II)V"⟩, 8) := ⟨⟨by decide +kernel, by decide +kernel⟩, List.mem_of_getElem? (i := 173) (by decide +kernel), List.mem_of_getElem? (i := 535) (by decide +kernel), List.mem_of_getElem? (i := 536) (by decide +kernel)⟩
theorem lw_p19 : lw_okq (⟨"DictProof$Meeting", "bringTogether", "()Z"⟩, 8) := ⟨⟨by decide +kernel, by decide +kernel⟩, List.mem_of_getElem? (i := 173) (by decide +kernel), List.mem_of_getElem? (i := 539) (by decide +kernel), List.mem_of_getElem? (i := 540) (by decide +kernel)⟩
theorem lw_p20 : lw_okq (⟨"DictProof$Meeting", "leaderOf", "(I)I"⟩, 8) := ⟨⟨by decide +kernel, by decide +kernel⟩, List.mem_of_getElem? (i := 173) (by decide +kernel), List.mem_of_getElem? (i := 543) (by decide +kernel), List.mem_of_getElem? (i := 544) (by decide +kernel)⟩
theorem lw_p21 : lw_okq (⟨"DictProof$Meeting", "joinGroups", "(II)Z"⟩, 8) := ⟨⟨by decide +kernel, by decide +kernel⟩, List.mem_of_getElem? (i := 173) (by decide +kernel), List.mem_of_getElem? (i := 547) (by decide +kernel), List.mem_of_getElem? (i := 548) (by decide +kernel)⟩
theorem lw_p22 : lw_okq (⟨"DictProof$Meeting", "comesToAnEnd", "()Z"⟩, 8) := ⟨⟨by decide +kernel, by decide +kernel⟩, List.mem_of_getElem? (i := 173) (by decide +kernel), List.mem_of_getElem? (i := 552) (by decide +kernel), List.mem_of_getElem? (i := 553) (by decide +kernel)⟩
theorem lw_p23 : lw_okq (⟨"DictProof$Meeting", "partEnds", "(I)Z"⟩, 8) := ⟨⟨by decide +kernel, by decide +kernel⟩, List.mem_of_getElem? (i := 173) (by decide +kernel), List.mem_of_getElem? (i := 556) (by decide +kernel), List.mem_of_getElem? (i := 557) (by decide +kernel)⟩
theorem lw_p24 : lw_okq (⟨"DictProof", "pageIsType", "()Z"⟩, 14) := ⟨⟨by decide +kernel, by decide +kernel⟩, List.mem_of_getElem? (i := 15) (by decide +kernel), List.mem_of_getElem? (i := 569) (by decide +kernel), List.mem_of_getElem? (i := 570) (by decide +kernel)⟩
theorem lw_p25 : lw_okq (⟨"DictProof", "isClass", "(I)Z"⟩, 14) := ⟨⟨by decide +kernel, by decide +kernel⟩, List.mem_of_getElem? (i := 15) (by decide +kernel), List.mem_of_getElem? (i := 582) (by decide +kernel), List.mem_of_getElem? (i := 583) (by decide +kernel)⟩
theorem lw_p26 : lw_okq (⟨"DictProof", "isInstance", "(I)Z"⟩, 14) := ⟨⟨by decide +kernel, by decide +kernel⟩, List.mem_of_getElem? (i := 15) (by decide +kernel), List.mem_of_getElem? (i := 596) (by decide +kernel), List.mem_of_getElem? (i := 597) (by decide +kernel)⟩
theorem lw_p27 : lw_okq (⟨"DictProof$Finder", "sortByKind", "([I)V"⟩, 5) := ⟨⟨by decide +kernel, by decide +kernel⟩, List.mem_of_getElem? (i := 233) (by decide +kernel), List.mem_of_getElem? (i := 616) (by decide +kernel), List.mem_of_getElem? (i := 617) (by decide +kernel)⟩
theorem lw_p28 : lw_okq (⟨"DictProof$Finder", "fittingAt", "(I)I"⟩, 5) := ⟨⟨by decide +kernel, by decide +kernel⟩, List.mem_of_getElem? (i := 233) (by decide +kernel), List.mem_of_getElem? (i := 620) (by decide +kernel), List.mem_of_getElem? (i := 621) (by decide +kernel)⟩
theorem lw_p29 : lw_okq (⟨"DictProof$Finder", "findOne", "(III)V"⟩, 5) := ⟨⟨by decide +kernel, by decide +kernel⟩, List.mem_of_getElem? (i := 233) (by decide +kernel), List.mem_of_getElem? (i := 625) (by decide +kernel), List.mem_of_getElem? (i := 626) (by decide +kernel)⟩
theorem lw_p30 : lw_okq (⟨"DictProof$Finder", "goalAt", "(II)LDictProof$Goal;"⟩, 5) := ⟨⟨by decide +kernel, by decide +kernel⟩, List.mem_of_getElem? (i := 233) (by decide +kernel), List.mem_of_getElem? (i := 629) (by decide +kernel), List.mem_of_getElem? (i := 630) (by decide +kernel)⟩
theorem lw_p31 : lw_okq (⟨"DictProof$Finder", "takenOf", "(I)I"⟩, 5) := ⟨⟨by decide +kernel, by decide +kernel⟩, List.mem_of_getElem? (i := 233) (by decide +kernel), List.mem_of_getElem? (i := 643) (by decide +kernel), List.mem_of_getElem? (i := 644) (by decide +kernel)⟩
def lw_privs_2 : List (MethodName × Nat) := [(⟨"DictProof$Book", "compareHeads", "(ILDictProof$Meeting;)V"⟩, 10), (⟨"DictProof$Meeting", "load", "(LDictProof$Shape;I)V"⟩, 8), (⟨"DictProof$Meeting", "expectAlike", "(II)V"⟩, 8), (⟨"DictProof$Meeting", "bringTogether", "()Z"⟩, 8), (⟨"DictProof$Meeting", "leaderOf", "(I)I"⟩, 8), (⟨"DictProof$Meeting", "joinGroups", "(II)Z"⟩, 8), (⟨"DictProof$Meeting", "comesToAnEnd", "()Z"⟩, 8), (⟨"DictProof$Meeting", "partEnds", "(I)Z"⟩, 8), (⟨"DictProof", "pageIsType", "()Z"⟩, 14), (⟨"DictProof", "isClass", "(I)Z"⟩, 14), (⟨"DictProof", "isInstance", "(I)Z"⟩, 14), (⟨"DictProof$Finder", "sortByKind", "([I)V"⟩, 5), (⟨"DictProof$Finder", "fittingAt", "(I)I"⟩, 5), (⟨"DictProof$Finder", "findOne", "(III)V"⟩, 5), (⟨"DictProof$Finder", "goalAt", "(II)LDictProof$Goal;"⟩, 5), (⟨"DictProof$Finder", "takenOf", "(I)I"⟩, 5)]
theorem lw_r2 : ∀ q ∈ lw_privs_2, lw_okq q := List.forall_mem_cons.mpr ⟨lw_p16, List.forall_mem_cons.mpr ⟨lw_p17, List.forall_mem_cons.mpr ⟨lw_p18, List.forall_mem_cons.mpr ⟨lw_p19, List.forall_mem_cons.mpr ⟨lw_p20, List.forall_mem_cons.mpr ⟨lw_p21, List.forall_mem_cons.mpr ⟨lw_p22, List.forall_mem_cons.mpr ⟨lw_p23, List.forall_mem_cons.mpr ⟨lw_p24, List.forall_mem_cons.mpr ⟨lw_p25, List.forall_mem_cons.mpr ⟨lw_p26, List.forall_mem_cons.mpr ⟨lw_p27, List.forall_mem_cons.mpr ⟨lw_p28, List.forall_mem_cons.mpr ⟨lw_p29, List.forall_mem_cons.mpr ⟨lw_p30, List.forall_mem_cons.mpr ⟨lw_p31, fun _ h => absurd h List.not_mem_nil⟩⟩⟩⟩⟩⟩⟩⟩⟩⟩⟩⟩⟩⟩⟩⟩
theorem lw_p32 : lw_okq (⟨"DictProof$Finder", "joinConditions", "(LDictProof$Goal;LDictProof$Rule;[I)V"⟩, 5) := ⟨⟨by decide +kernel, by decide +kernel⟩, List.mem_of_getElem? (i := 233) (by decide +kernel), List.mem_of_getElem? (i := 657) (by decide +kernel), List.mem_of_getElem? (i := 658) (by decide +kernel)⟩
theorem lw_p33 : lw_okq (⟨"DictProof", "lackedAsWorked", "(LDictProof$Rule;)I"⟩, 14) := ⟨⟨by decide +kernel, by decide +kernel⟩, List.mem_of_getElem? (i := 15) (by decide +kernel), List.mem_of_getElem? (i := 665) (by decide +kernel), List.mem_of_getElem? (i := 666) (by decide +kernel)⟩
theorem lw_p34 : lw_okq (⟨"DictProof", "overlap", "(II)Z"⟩, 14) := ⟨⟨by decide +kernel, by decide +kernel⟩, List.mem_of_getElem? (i := 15) (by decide +kernel), List.mem_of_getElem? (i := 688) (by decide +kernel), List.mem_of_getElem? (i := 689) (by decide +kernel)⟩
theorem lw_p35 : lw_okq (⟨"DictProof", "clash", "(II)Z"⟩, 14) := ⟨⟨by decide +kernel, by decide +kernel⟩, List.mem_of_getElem? (i := 15) (by decide +kernel), List.mem_of_getElem? (i := 699) (by decide +kernel), List.mem_of_getElem? (i := 700) (by decide +kernel)⟩
theorem lw_p36 : lw_okq (⟨"DictProof", "isFilled", "(I)Z"⟩, 14) := ⟨⟨by decide +kernel, by decide +kernel⟩, List.mem_of_getElem? (i := 15) (by decide +kernel), List.mem_of_getElem? (i := 711) (by decide +kernel), List.mem_of_getElem? (i := 712) (by decide +kernel)⟩
theorem lw_p37 : lw_okq (⟨"DictProof", "findGoal", "(II)LDictProof$Goal;"⟩, 14) := ⟨⟨by decide +kernel, by decide +kernel⟩, List.mem_of_getElem? (i := 15) (by decide +kernel), List.mem_of_getElem? (i := 720) (by decide +kernel), List.mem_of_getElem? (i := 721) (by decide +kernel)⟩
theorem lw_p38 : lw_okq (⟨"DictProof", "told", "(LDictProof$Goal;I)I"⟩, 14) := ⟨⟨by decide +kernel, by decide +kernel⟩, List.mem_of_getElem? (i := 15) (by decide +kernel), List.mem_of_getElem? (i := 724) (by decide +kernel), List.mem_of_getElem? (i := 725) (by decide +kernel)⟩
theorem lw_p39 : lw_okq (⟨"DictProof", "drawOf", "(I)I"⟩, 14) := ⟨⟨by decide +kernel, by decide +kernel⟩, List.mem_of_getElem? (i := 15) (by decide +kernel), List.mem_of_getElem? (i := 767) (by decide +kernel), List.mem_of_getElem? (i := 768) (by decide +kernel)⟩
theorem lw_p40 : lw_okq (⟨"DictProof", "drawShape", "()V"⟩, 14) := ⟨⟨by decide +kernel, by decide +kernel⟩, List.mem_of_getElem? (i := 15) (by decide +kernel), List.mem_of_getElem? (i := 775) (by decide +kernel), List.mem_of_getElem? (i := 776) (by decide +kernel)⟩
theorem lw_p41 : lw_okq (⟨"DictProof", "countPairs", "(Z)I"⟩, 14) := ⟨⟨by decide +kernel, by decide +kernel⟩, List.mem_of_getElem? (i := 15) (by decide +kernel), List.mem_of_getElem? (i := 804) (by decide +kernel), List.mem_of_getElem? (i := 805) (by decide +kernel)⟩
theorem lw_p42 : lw_okq (⟨"DictProof", "countLacked", "()I"⟩, 14) := ⟨⟨by decide +kernel, by decide +kernel⟩, List.mem_of_getElem? (i := 15) (by decide +kernel), List.mem_of_getElem? (i := 808) (by decide +kernel), List.mem_of_getElem? (i := 809) (by decide +kernel)⟩
theorem lw_p43 : lw_okq (⟨"DictProof$Desk", "isEarlier", "(I)Z"⟩, 5) := ⟨⟨by decide +kernel, by decide +kernel⟩, List.mem_of_getElem? (i := 205) (by decide +kernel), List.mem_of_getElem? (i := 816) (by decide +kernel), List.mem_of_getElem? (i := 817) (by decide +kernel)⟩
theorem lw_p44 : lw_okq (⟨"DictProof", "digestSlot", "(JI)J"⟩, 14) := ⟨⟨by decide +kernel, by decide +kernel⟩, List.mem_of_getElem? (i := 15) (by decide +kernel), List.mem_of_getElem? (i := 832) (by decide +kernel), List.mem_of_getElem? (i := 833) (by decide +kernel)⟩
theorem lw_p45 : lw_okq (⟨"DictProofModel", "read", "()I"⟩, 63) := ⟨⟨by decide +kernel, by decide +kernel⟩, List.mem_of_getElem? (i := 837) (by decide +kernel), List.mem_of_getElem? (i := 1049) (by decide +kernel), List.mem_of_getElem? (i := 1050) (by decide +kernel)⟩
theorem lw_p46 : lw_okq (⟨"DictProofModel", "readClasses", "()I"⟩, 63) := ⟨⟨by decide +kernel, by decide +kernel⟩, List.mem_of_getElem? (i := 837) (by decide +kernel), List.mem_of_getElem? (i := 1053) (by decide +kernel), List.mem_of_getElem? (i := 1054) (by decide +kernel)⟩
theorem lw_p47 : lw_okq (⟨"DictProofModel", "readClass", "(I)I"⟩, 63) := ⟨⟨by decide +kernel, by decide +kernel⟩, List.mem_of_getElem? (i := 837) (by decide +kernel), List.mem_of_getElem? (i := 1057) (by decide +kernel), List.mem_of_getElem? (i := 1058) (by decide +kernel)⟩
def lw_privs_3 : List (MethodName × Nat) := [(⟨"DictProof$Finder", "joinConditions", "(LDictProof$Goal;LDictProof$Rule;[I)V"⟩, 5), (⟨"DictProof", "lackedAsWorked", "(LDictProof$Rule;)I"⟩, 14), (⟨"DictProof", "overlap", "(II)Z"⟩, 14), (⟨"DictProof", "clash", "(II)Z"⟩, 14), (⟨"DictProof", "isFilled", "(I)Z"⟩, 14), (⟨"DictProof", "findGoal", "(II)LDictProof$Goal;"⟩, 14), (⟨"DictProof", "told", "(LDictProof$Goal;I)I"⟩, 14), (⟨"DictProof", "drawOf", "(I)I"⟩, 14), (⟨"DictProof", "drawShape", "()V"⟩, 14), (⟨"DictProof", "countPairs", "(Z)I"⟩, 14), (⟨"DictProof", "countLacked", "()I"⟩, 14), (⟨"DictProof$Desk", "isEarlier", "(I)Z"⟩, 5), (⟨"DictProof", "digestSlot", "(JI)J"⟩, 14), (⟨"DictProofModel", "read", "()I"⟩, 63), (⟨"DictProofModel", "readClasses", "()I"⟩, 63), (⟨"DictProofModel", "readClass", "(I)I"⟩, 63)]
theorem lw_r3 : ∀ q ∈ lw_privs_3, lw_okq q := List.forall_mem_cons.mpr ⟨lw_p32, List.forall_mem_cons.mpr ⟨lw_p33, List.forall_mem_cons.mpr ⟨lw_p34, List.forall_mem_cons.mpr ⟨lw_p35, List.forall_mem_cons.mpr ⟨lw_p36, List.forall_mem_cons.mpr ⟨lw_p37, List.forall_mem_cons.mpr ⟨lw_p38, List.forall_mem_cons.mpr ⟨lw_p39, List.forall_mem_cons.mpr ⟨lw_p40, List.forall_mem_cons.mpr ⟨lw_p41, List.forall_mem_cons.mpr ⟨lw_p42, List.forall_mem_cons.mpr ⟨lw_p43, List.forall_mem_cons.mpr ⟨lw_p44, List.forall_mem_cons.mpr ⟨lw_p45, List.forall_mem_cons.mpr ⟨lw_p46, List.forall_mem_cons.mpr ⟨lw_p47, fun _ h => absurd h List.not_mem_nil⟩⟩⟩⟩⟩⟩⟩⟩⟩⟩⟩⟩⟩⟩⟩⟩
theorem lw_p48 : lw_okq (⟨"DictProofModel", "at", "(I)I"⟩, 63) := ⟨⟨by decide +kernel, by decide +kernel⟩, List.mem_of_getElem? (i := 837) (by decide +kernel), List.mem_of_getElem? (i := 1061) (by decide +kernel), List.mem_of_getElem? (i := 1062) (by decide +kernel)⟩
theorem lw_p49 : lw_okq (⟨"DictProofModel", "figure", "(I)I"⟩, 63) := ⟨⟨by decide +kernel, by decide +kernel⟩, List.mem_of_getElem? (i := 837) (by decide +kernel), List.mem_of_getElem? (i := 1065) (by decide +kernel), List.mem_of_getElem? (i := 1066) (by decide +kernel)⟩
theorem lw_p50 : lw_okq (⟨"DictProofModel", "broken", "(I)I"⟩, 63) := ⟨⟨by decide +kernel, by decide +kernel⟩, List.mem_of_getElem? (i := 837) (by decide +kernel), List.mem_of_getElem? (i := 1069) (by decide +kernel), List.mem_of_getElem? (i := 1070) (by decide +kernel)⟩
theorem lw_p51 : lw_okq (⟨"DictProofModel", "readInstance", "(I)I"⟩, 63) := ⟨⟨by decide +kernel, by decide +kernel⟩, List.mem_of_getElem? (i := 837) (by decide +kernel), List.mem_of_getElem? (i := 1073) (by decide +kernel), List.mem_of_getElem? (i := 1074) (by decide +kernel)⟩
theorem lw_p52 : lw_okq (⟨"DictProofModel", "readHead", "(II)I"⟩, 63) := ⟨⟨by decide +kernel, by decide +kernel⟩, List.mem_of_getElem? (i := 837) (by decide +kernel), List.mem_of_getElem? (i := 1080) (by decide +kernel), List.mem_of_getElem? (i := 1081) (by decide +kernel)⟩
theorem lw_p53 : lw_okq (⟨"DictProofModel", "readConditions", "(II)I"⟩, 63) := ⟨⟨by decide +kernel, by decide +kernel⟩, List.mem_of_getElem? (i := 837) (by decide +kernel), List.mem_of_getElem? (i := 1087) (by decide +kernel), List.mem_of_getElem? (i := 1088) (by decide +kernel)⟩
theorem lw_p54 : lw_okq (⟨"DictProofModel", "isInHead", "(II)Z"⟩, 63) := ⟨⟨by decide +kernel, by decide +kernel⟩, List.mem_of_getElem? (i := 837) (by decide +kernel), List.mem_of_getElem? (i := 1091) (by decide +kernel), List.mem_of_getElem? (i := 1092) (by decide +kernel)⟩
theorem lw_p55 : lw_okq (⟨"DictProofModel", "takeInstance", "(I)V"⟩, 63) := ⟨⟨by decide +kernel, by decide +kernel⟩, List.mem_of_getElem? (i := 837) (by decide +kernel), List.mem_of_getElem? (i := 1105) (by decide +kernel), List.mem_of_getElem? (i := 1106) (by decide +kernel)⟩
theorem lw_p56 : lw_okq (⟨"DictProofModel", "laySpecial", "()V"⟩, 63) := ⟨⟨by decide +kernel, by decide +kernel⟩, List.mem_of_getElem? (i := 837) (by decide +kernel), List.mem_of_getElem? (i := 1109) (by decide +kernel), List.mem_of_getElem? (i := 1110) (by decide +kernel)⟩
theorem lw_p57 : lw_okq (⟨"DictProofModel", "layHead", "(I)V"⟩, 63) := ⟨⟨by decide +kernel, by decide +kernel⟩, List.mem_of_getElem? (i := 837) (by decide +kernel), List.mem_of_getElem? (i := 1113) (by decide +kernel), List.mem_of_getElem? (i := 1114) (by decide +kernel)⟩
theorem lw_p58 : lw_okq (⟨"DictProofModel", "laySizes", "()V"⟩, 63) := ⟨⟨by decide +kernel, by decide +kernel⟩, List.mem_of_getElem? (i := 837) (by decide +kernel), List.mem_of_getElem? (i := 1117) (by decide +kernel), List.mem_of_getElem? (i := 1118) (by decide +kernel)⟩
theorem lw_p59 : lw_okq (⟨"DictProofModel", "fitsAt", "(II)Z"⟩, 63) := ⟨⟨by decide +kernel, by decide +kernel⟩, List.mem_of_getElem? (i := 837) (by decide +kernel), List.mem_of_getElem? (i := 1121) (by decide +kernel), List.mem_of_getElem? (i := 1122) (by decide +kernel)⟩
theorem lw_p60 : lw_okq (⟨"DictProofModel", "isSameAt", "(II)Z"⟩, 63) := ⟨⟨by decide +kernel, by decide +kernel⟩, List.mem_of_getElem? (i := 837) (by decide +kernel), List.mem_of_getElem? (i := 1125) (by decide +kernel), List.mem_of_getElem? (i := 1126) (by decide +kernel)⟩
theorem lw_p61 : lw_okq (⟨"DictProofModel", "isClass", "(I)Z"⟩, 63) := ⟨⟨by decide +kernel, by decide +kernel⟩, List.mem_of_getElem? (i := 837) (by decide +kernel), List.mem_of_getElem? (i := 1137) (by decide +kernel), List.mem_of_getElem? (i := 1138) (by decide +kernel)⟩
theorem lw_p62 : lw_okq (⟨"DictProofModel", "aboutNow", "(II)I"⟩, 63) := ⟨⟨by decide +kernel, by decide +kernel⟩, List.mem_of_getElem? (i := 837) (by decide +kernel), List.mem_of_getElem? (i := 1141) (by decide +kernel), List.mem_of_getElem? (i := 1142) (by decide +kernel)⟩
theorem lw_p63 : lw_okq (⟨"DictProofModel", "instancesOf", "(I)I"⟩, 63) := ⟨⟨by decide +kernel, by decide +kernel⟩, List.mem_of_getElem? (i := 837) (by decide +kernel), List.mem_of_getElem? (i := 1145) (by decide +kernel), List.mem_of_getElem? (i := 1146) (by decide +kernel)⟩
def lw_privs_4 : List (MethodName × Nat) := [(⟨"DictProofModel", "at", "(I)I"⟩, 63), (⟨"DictProofModel", "figure", "(I)I"⟩, 63), (⟨"DictProofModel", "broken", "(I)I"⟩, 63), (⟨"DictProofModel", "readInstance", "(I)I"⟩, 63), (⟨"DictProofModel", "readHead", "(II)I"⟩, 63), (⟨"DictProofModel", "readConditions", "(II)I"⟩, 63), (⟨"DictProofModel", "isInHead", "(II)Z"⟩, 63), (⟨"DictProofModel", "takeInstance", "(I)V"⟩, 63), (⟨"DictProofModel", "laySpecial", "()V"⟩, 63), (⟨"DictProofModel", "layHead", "(I)V"⟩, 63), (⟨"DictProofModel", "laySizes", "()V"⟩, 63), (⟨"DictProofModel", "fitsAt", "(II)Z"⟩, 63), (⟨"DictProofModel", "isSameAt", "(II)Z"⟩, 63), (⟨"DictProofModel", "isClass", "(I)Z"⟩, 63), (⟨"DictProofModel", "aboutNow", "(II)I"⟩, 63), (⟨"DictProofModel", "instancesOf", "(I)I"⟩, 63)]
theorem lw_r4 : ∀ q ∈ lw_privs_4, lw_okq q := List.forall_mem_cons.mpr ⟨lw_p48, List.forall_mem_cons.mpr ⟨lw_p49, List.forall_mem_cons.mpr ⟨lw_p50, List.forall_mem_cons.mpr ⟨lw_p51, List.forall_mem_cons.mpr ⟨lw_p52, List.forall_mem_cons.mpr ⟨lw_p53, List.forall_mem_cons.mpr ⟨lw_p54, List.forall_mem_cons.mpr ⟨lw_p55, List.forall_mem_cons.mpr ⟨lw_p56, List.forall_mem_cons.mpr ⟨lw_p57, List.forall_mem_cons.mpr ⟨lw_p58, List.forall_mem_cons.mpr ⟨lw_p59, List.forall_mem_cons.mpr ⟨lw_p60, List.forall_mem_cons.mpr ⟨lw_p61, List.forall_mem_cons.mpr ⟨lw_p62, List.forall_mem_cons.mpr ⟨lw_p63, fun _ h => absurd h List.not_mem_nil⟩⟩⟩⟩⟩⟩⟩⟩⟩⟩⟩⟩⟩⟩⟩⟩
theorem lw_p64 : lw_okq (⟨"DictProofModel", "isInstance", "(I)Z"⟩, 63) := ⟨⟨by decide +kernel, by decide +kernel⟩, List.mem_of_getElem? (i := 837) (by decide +kernel), List.mem_of_getElem? (i := 1153) (by decide +kernel), List.mem_of_getElem? (i := 1154) (by decide +kernel)⟩
theorem lw_p65 : lw_okq (⟨"DictProofModel", "instanceNow", "(II)I"⟩, 63) := ⟨⟨by decide +kernel, by decide +kernel⟩, List.mem_of_getElem? (i := 837) (by decide +kernel), List.mem_of_getElem? (i := 1157) (by decide +kernel), List.mem_of_getElem? (i := 1158) (by decide +kernel)⟩
theorem lw_p66 : lw_okq (⟨"DictProofModel", "isSound", "(I)Z"⟩, 63) := ⟨⟨by decide +kernel, by decide +kernel⟩, List.mem_of_getElem? (i := 837) (by decide +kernel), List.mem_of_getElem? (i := 1161) (by decide +kernel), List.mem_of_getElem? (i := 1162) (by decide +kernel)⟩
theorem lw_p67 : lw_okq (⟨"DictProofModel", "sortsOf", "(I)I"⟩, 63) := ⟨⟨by decide +kernel, by decide +kernel⟩, List.mem_of_getElem? (i := 837) (by decide +kernel), List.mem_of_getElem? (i := 1165) (by decide +kernel), List.mem_of_getElem? (i := 1166) (by decide +kernel)⟩
theorem lw_p68 : lw_okq (⟨"DictProofModel", "askOf", "(I)I"⟩, 63) := ⟨⟨by decide +kernel, by decide +kernel⟩, List.mem_of_getElem? (i := 837) (by decide +kernel), List.mem_of_getElem? (i := 1172) (by decide +kernel), List.mem_of_getElem? (i := 1173) (by decide +kernel)⟩
theorem lw_p69 : lw_okq (⟨"DictProofModel", "lacksOf", "(I)I"⟩, 63) := ⟨⟨by decide +kernel, by decide +kernel⟩, List.mem_of_getElem? (i := 837) (by decide +kernel), List.mem_of_getElem? (i := 1180) (by decide +kernel), List.mem_of_getElem? (i := 1181) (by decide +kernel)⟩
theorem lw_p70 : lw_okq (⟨"DictProofModel", "layGoals", "()V"⟩, 63) := ⟨⟨by decide +kernel, by decide +kernel⟩, List.mem_of_getElem? (i := 837) (by decide +kernel), List.mem_of_getElem? (i := 1184) (by decide +kernel), List.mem_of_getElem? (i := 1185) (by decide +kernel)⟩
theorem lw_p71 : lw_okq (⟨"DictProofModel", "layNeed", "(II)V"⟩, 63) := ⟨⟨by decide +kernel, by decide +kernel⟩, List.mem_of_getElem? (i := 837) (by decide +kernel), List.mem_of_getElem? (i := 1188) (by decide +kernel), List.mem_of_getElem? (i := 1189) (by decide +kernel)⟩
theorem lw_p72 : lw_okq (⟨"DictProofModel", "layGoal", "(II)V"⟩, 63) := ⟨⟨by decide +kernel, by decide +kernel⟩, List.mem_of_getElem? (i := 837) (by decide +kernel), List.mem_of_getElem? (i := 1192) (by decide +kernel), List.mem_of_getElem? (i := 1193) (by decide +kernel)⟩
theorem lw_p73 : lw_okq (⟨"DictProofModel", "takes", "(II)I"⟩, 63) := ⟨⟨by decide +kernel, by decide +kernel⟩, List.mem_of_getElem? (i := 837) (by decide +kernel), List.mem_of_getElem? (i := 1196) (by decide +kernel), List.mem_of_getElem? (i := 1197) (by decide +kernel)⟩
theorem lw_p74 : lw_okq (⟨"DictProofModel", "meantFor", "(II)I"⟩, 63) := ⟨⟨by decide +kernel, by decide +kernel⟩, List.mem_of_getElem? (i := 837) (by decide +kernel), List.mem_of_getElem? (i := 1200) (by decide +kernel), List.mem_of_getElem? (i := 1201) (by decide +kernel)⟩
theorem lw_p75 : lw_okq (⟨"DictProofModel", "isOneSole", "(I)Z"⟩, 63) := ⟨⟨by decide +kernel, by decide +kernel⟩, List.mem_of_getElem? (i := 837) (by decide +kernel), List.mem_of_getElem? (i := 1204) (by decide +kernel), List.mem_of_getElem? (i := 1205) (by decide +kernel)⟩
theorem lw_p76 : lw_okq (⟨"DictProofModel", "ofRank", "(II)I"⟩, 63) := ⟨⟨by decide +kernel, by decide +kernel⟩, List.mem_of_getElem? (i := 837) (by decide +kernel), List.mem_of_getElem? (i := 1208) (by decide +kernel), List.mem_of_getElem? (i := 1209) (by decide +kernel)⟩
theorem lw_p77 : lw_okq (⟨"DictProofModel", "mostSpecial", "(I)I"⟩, 63) := ⟨⟨by decide +kernel, by decide +kernel⟩, List.mem_of_getElem? (i := 837) (by decide +kernel), List.mem_of_getElem? (i := 1212) (by decide +kernel), List.mem_of_getElem? (i := 1213) (by decide +kernel)⟩
theorem lw_p78 : lw_okq (⟨"DictProofModel", "addBelow", "(III)V"⟩, 63) := ⟨⟨by decide +kernel, by decide +kernel⟩, List.mem_of_getElem? (i := 837) (by decide +kernel), List.mem_of_getElem? (i := 1216) (by decide +kernel), List.mem_of_getElem? (i := 1217) (by decide +kernel)⟩
theorem lw_p79 : lw_okq (⟨"DictProofModel", "isGiven", "(II)Z"⟩, 63) := ⟨⟨by decide +kernel, by decide +kernel⟩, List.mem_of_getElem? (i := 837) (by decide +kernel), List.mem_of_getElem? (i := 1220) (by decide +kernel), List.mem_of_getElem? (i := 1221) (by decide +kernel)⟩
def lw_privs_5 : List (MethodName × Nat) := [(⟨"DictProofModel", "isInstance", "(I)Z"⟩, 63), (⟨"DictProofModel", "instanceNow", "(II)I"⟩, 63), (⟨"DictProofModel", "isSound", "(I)Z"⟩, 63), (⟨"DictProofModel", "sortsOf", "(I)I"⟩, 63), (⟨"DictProofModel", "askOf", "(I)I"⟩, 63), (⟨"DictProofModel", "lacksOf", "(I)I"⟩, 63), (⟨"DictProofModel", "layGoals", "()V"⟩, 63), (⟨"DictProofModel", "layNeed", "(II)V"⟩, 63), (⟨"DictProofModel", "layGoal", "(II)V"⟩, 63), (⟨"DictProofModel", "takes", "(II)I"⟩, 63), (⟨"DictProofModel", "meantFor", "(II)I"⟩, 63), (⟨"DictProofModel", "isOneSole", "(I)Z"⟩, 63), (⟨"DictProofModel", "ofRank", "(II)I"⟩, 63), (⟨"DictProofModel", "mostSpecial", "(I)I"⟩, 63), (⟨"DictProofModel", "addBelow", "(III)V"⟩, 63), (⟨"DictProofModel", "isGiven", "(II)Z"⟩, 63)]
theorem lw_r5 : ∀ q ∈ lw_privs_5, lw_okq q := List.forall_mem_cons.mpr ⟨lw_p64, List.forall_mem_cons.mpr ⟨lw_p65, List.forall_mem_cons.mpr ⟨lw_p66, List.forall_mem_cons.mpr ⟨lw_p67, List.forall_mem_cons.mpr ⟨lw_p68, List.forall_mem_cons.mpr ⟨lw_p69, List.forall_mem_cons.mpr ⟨lw_p70, List.forall_mem_cons.mpr ⟨lw_p71, List.forall_mem_cons.mpr ⟨lw_p72, List.forall_mem_cons.mpr ⟨lw_p73, List.forall_mem_cons.mpr ⟨lw_p74, List.forall_mem_cons.mpr ⟨lw_p75, List.forall_mem_cons.mpr ⟨lw_p76, List.forall_mem_cons.mpr ⟨lw_p77, List.forall_mem_cons.mpr ⟨lw_p78, List.forall_mem_cons.mpr ⟨lw_p79, fun _ h => absurd h List.not_mem_nil⟩⟩⟩⟩⟩⟩⟩⟩⟩⟩⟩⟩⟩⟩⟩⟩
theorem lw_p80 : lw_okq (⟨"DictProofModel", "pairNow", "(III)Z"⟩, 63) := ⟨⟨by decide +kernel, by decide +kernel⟩, List.mem_of_getElem? (i := 837) (by decide +kernel), List.mem_of_getElem? (i := 1236) (by decide +kernel), List.mem_of_getElem? (i := 1237) (by decide +kernel)⟩
theorem lw_p81 : lw_okq (⟨"DictProofModel", "overlap", "(II)Z"⟩, 63) := ⟨⟨by decide +kernel, by decide +kernel⟩, List.mem_of_getElem? (i := 837) (by decide +kernel), List.mem_of_getElem? (i := 1240) (by decide +kernel), List.mem_of_getElem? (i := 1241) (by decide +kernel)⟩
theorem lw_p82 : lw_okq (⟨"DictProofModel", "areOne", "(II)Z"⟩, 63) := ⟨⟨by decide +kernel, by decide +kernel⟩, List.mem_of_getElem? (i := 837) (by decide +kernel), List.mem_of_getElem? (i := 1244) (by decide +kernel), List.mem_of_getElem? (i := 1245) (by decide +kernel)⟩
theorem lw_p83 : lw_okq (⟨"DictProofModel", "addPair", "(II)V"⟩, 63) := ⟨⟨by decide +kernel, by decide +kernel⟩, List.mem_of_getElem? (i := 837) (by decide +kernel), List.mem_of_getElem? (i := 1248) (by decide +kernel), List.mem_of_getElem? (i := 1249) (by decide +kernel)⟩
theorem lw_p84 : lw_okq (⟨"DictProofModel", "standsFor", "(I)I"⟩, 63) := ⟨⟨by decide +kernel, by decide +kernel⟩, List.mem_of_getElem? (i := 837) (by decide +kernel), List.mem_of_getElem? (i := 1252) (by decide +kernel), List.mem_of_getElem? (i := 1253) (by decide +kernel)⟩
theorem lw_p85 : lw_okq (⟨"DictProofModel", "letterOf", "(I)I"⟩, 63) := ⟨⟨by decide +kernel, by decide +kernel⟩, List.mem_of_getElem? (i := 837) (by decide +kernel), List.mem_of_getElem? (i := 1256) (by decide +kernel), List.mem_of_getElem? (i := 1257) (by decide +kernel)⟩
theorem lw_p86 : lw_okq (⟨"DictProofModel", "variableOf", "(I)I"⟩, 63) := ⟨⟨by decide +kernel, by decide +kernel⟩, List.mem_of_getElem? (i := 837) (by decide +kernel), List.mem_of_getElem? (i := 1260) (by decide +kernel), List.mem_of_getElem? (i := 1261) (by decide +kernel)⟩
theorem lw_p87 : lw_okq (⟨"DictProofModel", "joins", "(II)Z"⟩, 63) := ⟨⟨by decide +kernel, by decide +kernel⟩, List.mem_of_getElem? (i := 837) (by decide +kernel), List.mem_of_getElem? (i := 1264) (by decide +kernel), List.mem_of_getElem? (i := 1265) (by decide +kernel)⟩
theorem lw_p88 : lw_okq (⟨"DictProofModel", "occurs", "(II)Z"⟩, 63) := ⟨⟨by decide +kernel, by decide +kernel⟩, List.mem_of_getElem? (i := 837) (by decide +kernel), List.mem_of_getElem? (i := 1268) (by decide +kernel), List.mem_of_getElem? (i := 1269) (by decide +kernel)⟩
theorem lw_p89 : lw_okq (⟨"DictProofModel", "behind", "(I)I"⟩, 63) := ⟨⟨by decide +kernel, by decide +kernel⟩, List.mem_of_getElem? (i := 837) (by decide +kernel), List.mem_of_getElem? (i := 1272) (by decide +kernel), List.mem_of_getElem? (i := 1273) (by decide +kernel)⟩
theorem lw_p90 : lw_okq (⟨"DictProofModel", "clash", "(II)Z"⟩, 63) := ⟨⟨by decide +kernel, by decide +kernel⟩, List.mem_of_getElem? (i := 837) (by decide +kernel), List.mem_of_getElem? (i := 1276) (by decide +kernel), List.mem_of_getElem? (i := 1277) (by decide +kernel)⟩
theorem lw_p91 : lw_okq (⟨"DictProofModel", "isSpecial", "(II)Z"⟩, 63) := ⟨⟨by decide +kernel, by decide +kernel⟩, List.mem_of_getElem? (i := 837) (by decide +kernel), List.mem_of_getElem? (i := 1280) (by decide +kernel), List.mem_of_getElem? (i := 1281) (by decide +kernel)⟩
theorem lw_p92 : lw_okq (⟨"DictProofModel", "isFilled", "(I)Z"⟩, 63) := ⟨⟨by decide +kernel, by decide +kernel⟩, List.mem_of_getElem? (i := 837) (by decide +kernel), List.mem_of_getElem? (i := 1288) (by decide +kernel), List.mem_of_getElem? (i := 1289) (by decide +kernel)⟩
theorem lw_p93 : lw_okq (⟨"DictProofModel", "laySlot", "(I)V"⟩, 63) := ⟨⟨by decide +kernel, by decide +kernel⟩, List.mem_of_getElem? (i := 837) (by decide +kernel), List.mem_of_getElem? (i := 1292) (by decide +kernel), List.mem_of_getElem? (i := 1293) (by decide +kernel)⟩
theorem lw_p94 : lw_okq (⟨"DictProofModel", "goalNow", "(II)I"⟩, 63) := ⟨⟨by decide +kernel, by decide +kernel⟩, List.mem_of_getElem? (i := 837) (by decide +kernel), List.mem_of_getElem? (i := 1300) (by decide +kernel), List.mem_of_getElem? (i := 1301) (by decide +kernel)⟩
theorem lw_p95 : lw_okq (⟨"DictProofModel", "differentGoals", "(I)I"⟩, 63) := ⟨⟨by decide +kernel, by decide +kernel⟩, List.mem_of_getElem? (i := 837) (by decide +kernel), List.mem_of_getElem? (i := 1304) (by decide +kernel), List.mem_of_getElem? (i := 1305) (by decide +kernel)⟩
def lw_privs_6 : List (MethodName × Nat) := [(⟨"DictProofModel", "pairNow", "(III)Z"⟩, 63), (⟨"DictProofModel", "overlap", "(II)Z"⟩, 63), (⟨"DictProofModel", "areOne", "(II)Z"⟩, 63), (⟨"DictProofModel", "addPair", "(II)V"⟩, 63), (⟨"DictProofModel", "standsFor", "(I)I"⟩, 63), (⟨"DictProofModel", "letterOf", "(I)I"⟩, 63), (⟨"DictProofModel", "variableOf", "(I)I"⟩, 63), (⟨"DictProofModel", "joins", "(II)Z"⟩, 63), (⟨"DictProofModel", "occurs", "(II)Z"⟩, 63), (⟨"DictProofModel", "behind", "(I)I"⟩, 63), (⟨"DictProofModel", "clash", "(II)Z"⟩, 63), (⟨"DictProofModel", "isSpecial", "(II)Z"⟩, 63), (⟨"DictProofModel", "isFilled", "(I)Z"⟩, 63), (⟨"DictProofModel", "laySlot", "(I)V"⟩, 63), (⟨"DictProofModel", "goalNow", "(II)I"⟩, 63), (⟨"DictProofModel", "differentGoals", "(I)I"⟩, 63)]
theorem lw_r6 : ∀ q ∈ lw_privs_6, lw_okq q := List.forall_mem_cons.mpr ⟨lw_p80, List.forall_mem_cons.mpr ⟨lw_p81, List.forall_mem_cons.mpr ⟨lw_p82, List.forall_mem_cons.mpr ⟨lw_p83, List.forall_mem_cons.mpr ⟨lw_p84, List.forall_mem_cons.mpr ⟨lw_p85, List.forall_mem_cons.mpr ⟨lw_p86, List.forall_mem_cons.mpr ⟨lw_p87, List.forall_mem_cons.mpr ⟨lw_p88, List.forall_mem_cons.mpr ⟨lw_p89, List.forall_mem_cons.mpr ⟨lw_p90, List.forall_mem_cons.mpr ⟨lw_p91, List.forall_mem_cons.mpr ⟨lw_p92, List.forall_mem_cons.mpr ⟨lw_p93, List.forall_mem_cons.mpr ⟨lw_p94, List.forall_mem_cons.mpr ⟨lw_p95, fun _ h => absurd h List.not_mem_nil⟩⟩⟩⟩⟩⟩⟩⟩⟩⟩⟩⟩⟩⟩⟩⟩
theorem lw_p96 : lw_okq (⟨"DictProofModel", "isNew", "(II)Z"⟩, 63) := ⟨⟨by decide +kernel, by decide +kernel⟩, List.mem_of_getElem? (i := 837) (by decide +kernel), List.mem_of_getElem? (i := 1308) (by decide +kernel), List.mem_of_getElem? (i := 1309) (by decide +kernel)⟩
theorem lw_p97 : lw_okq (⟨"DictProofModel", "mark", "(I)V"⟩, 63) := ⟨⟨by decide +kernel, by decide +kernel⟩, List.mem_of_getElem? (i := 837) (by decide +kernel), List.mem_of_getElem? (i := 1312) (by decide +kernel), List.mem_of_getElem? (i := 1313) (by decide +kernel)⟩
theorem lw_p98 : lw_okq (⟨"DictProofModel", "plainOf", "(I)I"⟩, 63) := ⟨⟨by decide +kernel, by decide +kernel⟩, List.mem_of_getElem? (i := 837) (by decide +kernel), List.mem_of_getElem? (i := 1316) (by decide +kernel), List.mem_of_getElem? (i := 1317) (by decide +kernel)⟩
theorem lw_p99 : lw_okq (⟨"DictProofModel", "entryAt", "(II)I"⟩, 63) := ⟨⟨by decide +kernel, by decide +kernel⟩, List.mem_of_getElem? (i := 837) (by decide +kernel), List.mem_of_getElem? (i := 1324) (by decide +kernel), List.mem_of_getElem? (i := 1325) (by decide +kernel)⟩
theorem lw_p100 : lw_okq (⟨"DictProofModel", "drawnNow", "(III)I"⟩, 63) := ⟨⟨by decide +kernel, by decide +kernel⟩, List.mem_of_getElem? (i := 837) (by decide +kernel), List.mem_of_getElem? (i := 1344) (by decide +kernel), List.mem_of_getElem? (i := 1345) (by decide +kernel)⟩
theorem lw_p101 : lw_okq (⟨"DictProofModel", "draw", "(I)I"⟩, 63) := ⟨⟨by decide +kernel, by decide +kernel⟩, List.mem_of_getElem? (i := 837) (by decide +kernel), List.mem_of_getElem? (i := 1348) (by decide +kernel), List.mem_of_getElem? (i := 1349) (by decide +kernel)⟩
theorem lw_p102 : lw_okq (⟨"DictProofModel", "drawType", "()V"⟩, 63) := ⟨⟨by decide +kernel, by decide +kernel⟩, List.mem_of_getElem? (i := 837) (by decide +kernel), List.mem_of_getElem? (i := 1356) (by decide +kernel), List.mem_of_getElem? (i := 1357) (by decide +kernel)⟩
theorem lw_p103 : lw_okq (⟨"DictProofModel", "addLetter", "(I)V"⟩, 63) := ⟨⟨by decide +kernel, by decide +kernel⟩, List.mem_of_getElem? (i := 837) (by decide +kernel), List.mem_of_getElem? (i := 1363) (by decide +kernel), List.mem_of_getElem? (i := 1364) (by decide +kernel)⟩
theorem lw_p104 : lw_okq (⟨"DictProofModel", "filled", "()I"⟩, 63) := ⟨⟨by decide +kernel, by decide +kernel⟩, List.mem_of_getElem? (i := 837) (by decide +kernel), List.mem_of_getElem? (i := 1371) (by decide +kernel), List.mem_of_getElem? (i := 1372) (by decide +kernel)⟩
theorem lw_p105 : lw_okq (⟨"DictProofModel", "howMany", "(I)I"⟩, 63) := ⟨⟨by decide +kernel, by decide +kernel⟩, List.mem_of_getElem? (i := 837) (by decide +kernel), List.mem_of_getElem? (i := 1383) (by decide +kernel), List.mem_of_getElem? (i := 1384) (by decide +kernel)⟩
theorem lw_p106 : lw_okq (⟨"DictProofModel", "unsound", "()I"⟩, 63) := ⟨⟨by decide +kernel, by decide +kernel⟩, List.mem_of_getElem? (i := 837) (by decide +kernel), List.mem_of_getElem? (i := 1387) (by decide +kernel), List.mem_of_getElem? (i := 1388) (by decide +kernel)⟩
theorem lw_p107 : lw_okq (⟨"DictProofModel", "pairsOf", "(I)I"⟩, 63) := ⟨⟨by decide +kernel, by decide +kernel⟩, List.mem_of_getElem? (i := 837) (by decide +kernel), List.mem_of_getElem? (i := 1391) (by decide +kernel), List.mem_of_getElem? (i := 1392) (by decide +kernel)⟩
theorem lw_p108 : lw_okq (⟨"DictProofModel", "lacksOfAll", "()I"⟩, 63) := ⟨⟨by decide +kernel, by decide +kernel⟩, List.mem_of_getElem? (i := 837) (by decide +kernel), List.mem_of_getElem? (i := 1395) (by decide +kernel), List.mem_of_getElem? (i := 1396) (by decide +kernel)⟩
theorem lw_p109 : lw_okq (⟨"DictProofModel", "differentTypes", "()I"⟩, 63) := ⟨⟨by decide +kernel, by decide +kernel⟩, List.mem_of_getElem? (i := 837) (by decide +kernel), List.mem_of_getElem? (i := 1399) (by decide +kernel), List.mem_of_getElem? (i := 1400) (by decide +kernel)⟩
theorem lw_p110 : lw_okq (⟨"DictProofModel", "isSlotLike", "(II)Z"⟩, 63) := ⟨⟨by decide +kernel, by decide +kernel⟩, List.mem_of_getElem? (i := 837) (by decide +kernel), List.mem_of_getElem? (i := 1403) (by decide +kernel), List.mem_of_getElem? (i := 1404) (by decide +kernel)⟩
theorem lw_p111 : lw_okq (⟨"DictProofModel", "mix", "(J)V"⟩, 63) := ⟨⟨by decide +kernel, by decide +kernel⟩, List.mem_of_getElem? (i := 837) (by decide +kernel), List.mem_of_getElem? (i := 1412) (by decide +kernel), List.mem_of_getElem? (i := 1413) (by decide +kernel)⟩
def lw_privs_7 : List (MethodName × Nat) := [(⟨"DictProofModel", "isNew", "(II)Z"⟩, 63), (⟨"DictProofModel", "mark", "(I)V"⟩, 63), (⟨"DictProofModel", "plainOf", "(I)I"⟩, 63), (⟨"DictProofModel", "entryAt", "(II)I"⟩, 63), (⟨"DictProofModel", "drawnNow", "(III)I"⟩, 63), (⟨"DictProofModel", "draw", "(I)I"⟩, 63), (⟨"DictProofModel", "drawType", "()V"⟩, 63), (⟨"DictProofModel", "addLetter", "(I)V"⟩, 63), (⟨"DictProofModel", "filled", "()I"⟩, 63), (⟨"DictProofModel", "howMany", "(I)I"⟩, 63), (⟨"DictProofModel", "unsound", "()I"⟩, 63), (⟨"DictProofModel", "pairsOf", "(I)I"⟩, 63), (⟨"DictProofModel", "lacksOfAll", "()I"⟩, 63), (⟨"DictProofModel", "differentTypes", "()I"⟩, 63), (⟨"DictProofModel", "isSlotLike", "(II)Z"⟩, 63), (⟨"DictProofModel", "mix", "(J)V"⟩, 63)]
theorem lw_r7 : ∀ q ∈ lw_privs_7, lw_okq q := List.forall_mem_cons.mpr ⟨lw_p96, List.forall_mem_cons.mpr ⟨lw_p97, List.forall_mem_cons.mpr ⟨lw_p98, List.forall_mem_cons.mpr ⟨lw_p99, List.forall_mem_cons.mpr ⟨lw_p100, List.forall_mem_cons.mpr ⟨lw_p101, List.forall_mem_cons.mpr ⟨lw_p102, List.forall_mem_cons.mpr ⟨lw_p103, List.forall_mem_cons.mpr ⟨lw_p104, List.forall_mem_cons.mpr ⟨lw_p105, List.forall_mem_cons.mpr ⟨lw_p106, List.forall_mem_cons.mpr ⟨lw_p107, List.forall_mem_cons.mpr ⟨lw_p108, List.forall_mem_cons.mpr ⟨lw_p109, List.forall_mem_cons.mpr ⟨lw_p110, List.forall_mem_cons.mpr ⟨lw_p111, fun _ h => absurd h List.not_mem_nil⟩⟩⟩⟩⟩⟩⟩⟩⟩⟩⟩⟩⟩⟩⟩⟩
theorem lw_p112 : lw_okq (⟨"DictProofModel", "mixSlot", "(I)V"⟩, 63) := ⟨⟨by decide +kernel, by decide +kernel⟩, List.mem_of_getElem? (i := 837) (by decide +kernel), List.mem_of_getElem? (i := 1417) (by decide +kernel), List.mem_of_getElem? (i := 1418) (by decide +kernel)⟩
def lw_privs_8 : List (MethodName × Nat) := [(⟨"DictProofModel", "mixSlot", "(I)V"⟩, 63)]
theorem lw_r8 : ∀ q ∈ lw_privs_8, lw_okq q := List.forall_mem_cons.mpr ⟨lw_p112, fun _ h => absurd h List.not_mem_nil⟩
def lw_privs : List (MethodName × Nat) := lw_privs_1 ++ (lw_privs_2 ++ (lw_privs_3 ++ (lw_privs_4 ++ (lw_privs_5 ++ (lw_privs_6 ++ (lw_privs_7 ++ (lw_privs_8)))))))
def lw_tbl : List Cond := k2_sels lw_privs ++ tables_1
theorem lw_privs_ok : ∀ q ∈ lw_privs, lw_okq q := by
  show ∀ q ∈ lw_privs_1 ++ (lw_privs_2 ++ (lw_privs_3 ++ (lw_privs_4 ++ (lw_privs_5 ++ (lw_privs_6 ++ (lw_privs_7 ++ (lw_privs_8))))))), lw_okq q
  exact List.forall_mem_append.mpr ⟨lw_r1, List.forall_mem_append.mpr ⟨lw_r2, List.forall_mem_append.mpr ⟨lw_r3, List.forall_mem_append.mpr ⟨lw_r4, List.forall_mem_append.mpr ⟨lw_r5, List.forall_mem_append.mpr ⟨lw_r6, List.forall_mem_append.mpr ⟨lw_r7, lw_r8⟩⟩⟩⟩⟩⟩⟩
-- ===== names of classes and fields, out of claim/NAMES.whole.lean.txt =====
def RX0 : String := "DictProof$Book"
def TX0 : u_T := fun k => match k with
  | 0 => ("DictProof$Book", "classes", "I", false)
  | 1 => ("DictProof$Book", "right", "[I", true)
  | 2 => ("DictProof$Book", "above", "[I", true)
  | 3 => ("DictProof$Book", "owned", "[I", true)
  | 4 => ("DictProof$Book", "instances", "I", false)
  | 5 => ("DictProof$Book", "rules", "[LDictProof$Rule;", true)
  | 6 => ("DictProof$Book", "sound", "I", false)
  | 7 => ("DictProof$Book", "finer", "[I", true)
  | 8 => ("DictProof$Book", "meets", "[I", true)
  | _ => ("DictProof$Book", "put", "[I", true)
def tyX0 : Nat → FieldType := fun k => match k with
  | 0 => .int
  | 1 => .array .int
  | 2 => .array .int
  | 3 => .array .int
  | 4 => .int
  | 5 => .array (.object "DictProof$Rule")
  | 6 => .int
  | 7 => .array .int
  | 8 => .array .int
  | _ => .array .int
abbrev wsX00 : List Cond := u_ws RX0 TX0 10
theorem nmX0 : ∀ a, a < 10 → ∀ b, b < 10 → a ≠ b → (TX0 a).2.1 ≠ (TX0 b).2.1 := by decide +kernel
theorem tyX0_ok : ∀ k, k < 10 → parseFieldDescriptor (TX0 k).2.2.1 = some (tyX0 k) := by decide +kernel
def RX1 : String := "DictProof$Desk"
def TX1 : u_T := fun k => match k with
  | 0 => ("DictProof$Desk", "kinds", "[I", true)
  | 1 => ("DictProof$Desk", "slots", "[LDictProof$Shape;", true)
  | 2 => ("DictProof$Desk", "seen", "I", false)
  | 3 => ("DictProof$Desk", "seenOf", "[I", true)
  | _ => ("DictProof$Desk", "leaves", "[I", true)
def tyX1 : Nat → FieldType := fun k => match k with
  | 0 => .array .int
  | 1 => .array (.object "DictProof$Shape")
  | 2 => .int
  | 3 => .array .int
  | _ => .array .int
abbrev wsX10 : List Cond := u_ws RX1 TX1 5
theorem nmX1 : ∀ a, a < 5 → ∀ b, b < 5 → a ≠ b → (TX1 a).2.1 ≠ (TX1 b).2.1 := by decide +kernel
theorem tyX1_ok : ∀ k, k < 5 → parseFieldDescriptor (TX1 k).2.2.1 = some (tyX1 k) := by decide +kernel
def RX2 : String := "DictProof$Finder"
def TX2 : u_T := fun k => match k with
  | 0 => ("DictProof$Finder", "goals", "[LDictProof$Goal;", true)
  | 1 => ("DictProof$Finder", "byKind", "[I", true)
  | 2 => ("DictProof$Finder", "puts", "[[I", true)
  | 3 => ("DictProof$Finder", "book", "LDictProof$Book;", false)
  | _ => ("DictProof$Finder", "shape", "LDictProof$Shape;", false)
def tyX2 : Nat → FieldType := fun k => match k with
  | 0 => .array (.object "DictProof$Goal")
  | 1 => .array .int
  | 2 => .array (.array .int)
  | 3 => .object "DictProof$Book"
  | _ => .object "DictProof$Shape"
abbrev wsX20 : List Cond := u_ws RX2 TX2 5
theorem nmX2 : ∀ a, a < 5 → ∀ b, b < 5 → a ≠ b → (TX2 a).2.1 ≠ (TX2 b).2.1 := by decide +kernel
theorem tyX2_ok : ∀ k, k < 5 → parseFieldDescriptor (TX2 k).2.2.1 = some (tyX2 k) := by decide +kernel
def RX3 : String := "DictProof$Goal"
def TX3 : u_T := fun k => match k with
  | 0 => ("DictProof$Goal", "outcome", "I", false)
  | 1 => ("DictProof$Goal", "length", "I", false)
  | 2 => ("DictProof$Goal", "worth", "I", false)
  | 3 => ("DictProof$Goal", "depth", "I", false)
  | 4 => ("DictProof$Goal", "needs", "I", false)
  | 5 => ("DictProof$Goal", "within", "J", false)
  | 6 => ("DictProof$Goal", "number", "I", false)
  | 7 => ("DictProof$Goal", "partCount", "I", false)
  | _ => ("DictProof$Goal", "parts", "[LDictProof$Goal;", true)
def tyX3 : Nat → FieldType := fun k => match k with
  | 0 => .int
  | 1 => .int
  | 2 => .int
  | 3 => .int
  | 4 => .int
  | 5 => .long
  | 6 => .int
  | 7 => .int
  | _ => .array (.object "DictProof$Goal")
abbrev wsX30 : List Cond := u_ws RX3 TX3 9
theorem nmX3 : ∀ a, a < 9 → ∀ b, b < 9 → a ≠ b → (TX3 a).2.1 ≠ (TX3 b).2.1 := by decide +kernel
theorem tyX3_ok : ∀ k, k < 9 → parseFieldDescriptor (TX3 k).2.2.1 = some (tyX3 k) := by decide +kernel
def RX4 : String := "DictProof$Meeting"
def TX4 : u_T := fun k => match k with
  | 0 => ("DictProof$Meeting", "signs", "[I", true)
  | 1 => ("DictProof$Meeting", "leaders", "[I", true)
  | 2 => ("DictProof$Meeting", "firstPart", "[I", true)
  | 3 => ("DictProof$Meeting", "secondPart", "[I", true)
  | 4 => ("DictProof$Meeting", "ending", "[Z", true)
  | 5 => ("DictProof$Meeting", "oneSide", "[I", true)
  | 6 => ("DictProof$Meeting", "otherSide", "[I", true)
  | _ => ("DictProof$Meeting", "pending", "I", false)
def tyX4 : Nat → FieldType := fun k => match k with
  | 0 => .array .int
  | 1 => .array .int
  | 2 => .array .int
  | 3 => .array .int
  | 4 => .array .boolean
  | 5 => .array .int
  | 6 => .array .int
  | _ => .int
abbrev wsX40 : List Cond := u_ws RX4 TX4 8
theorem nmX4 : ∀ a, a < 8 → ∀ b, b < 8 → a ≠ b → (TX4 a).2.1 ≠ (TX4 b).2.1 := by decide +kernel
theorem tyX4_ok : ∀ k, k < 8 → parseFieldDescriptor (TX4 k).2.2.1 = some (tyX4 k) := by decide +kernel
def RX5 : String := "DictProof$Reader"
def TX5 : u_T := fun k => match k with
  | 0 => ("DictProof$Reader", "into", "LDictProof$Book;", false)
  | 1 => ("DictProof$Reader", "rule", "LDictProof$Rule;", false)
  | 2 => ("DictProof$Reader", "state", "I", false)
  | 3 => ("DictProof$Reader", "digit", "I", false)
  | _ => ("DictProof$Reader", "lacking", "I", false)
def tyX5 : Nat → FieldType := fun k => match k with
  | 0 => .object "DictProof$Book"
  | 1 => .object "DictProof$Rule"
  | 2 => .int
  | 3 => .int
  | _ => .int
abbrev wsX50 : List Cond := u_ws RX5 TX5 5
theorem nmX5 : ∀ a, a < 5 → ∀ b, b < 5 → a ≠ b → (TX5 a).2.1 ≠ (TX5 b).2.1 := by decide +kernel
theorem tyX5_ok : ∀ k, k < 5 → parseFieldDescriptor (TX5 k).2.2.1 = some (tyX5 k) := by decide +kernel
def RX6 : String := "DictProof$Rule"
def TX6 : u_T := fun k => match k with
  | 0 => ("DictProof$Rule", "kindRead", "I", false)
  | 1 => ("DictProof$Rule", "owner", "I", false)
  | 2 => ("DictProof$Rule", "head", "LDictProof$Shape;", true)
  | 3 => ("DictProof$Rule", "conditions", "I", false)
  | 4 => ("DictProof$Rule", "wanted", "[I", true)
  | 5 => ("DictProof$Rule", "gap", "[I", true)
  | _ => ("DictProof$Rule", "granted", "I", false)
def tyX6 : Nat → FieldType := fun k => match k with
  | 0 => .int
  | 1 => .int
  | 2 => .object "DictProof$Shape"
  | 3 => .int
  | 4 => .array .int
  | 5 => .array .int
  | _ => .int
abbrev wsX60 : List Cond := u_ws RX6 TX6 7
theorem nmX6 : ∀ a, a < 7 → ∀ b, b < 7 → a ≠ b → (TX6 a).2.1 ≠ (TX6 b).2.1 := by decide +kernel
theorem tyX6_ok : ∀ k, k < 7 → parseFieldDescriptor (TX6 k).2.2.1 = some (tyX6 k) := by decide +kernel
def RX7 : String := "DictProof$Shape"
def TX7 : u_T := fun k => match k with
  | 0 => ("DictProof$Shape", "signs", "[I", true)
  | 1 => ("DictProof$Shape", "ends", "[I", true)
  | 2 => ("DictProof$Shape", "firsts", "[I", true)
  | _ => ("DictProof$Shape", "size", "I", false)
def tyX7 : Nat → FieldType := fun k => match k with
  | 0 => .array .int
  | 1 => .array .int
  | 2 => .array .int
  | _ => .int
abbrev wsX70 : List Cond := u_ws RX7 TX7 4
theorem nmX7 : ∀ a, a < 4 → ∀ b, b < 4 → a ≠ b → (TX7 a).2.1 ≠ (TX7 b).2.1 := by decide +kernel
theorem tyX7_ok : ∀ k, k < 4 → parseFieldDescriptor (TX7 k).2.2.1 = some (tyX7 k) := by decide +kernel
def RX8 : String := "DictProof"
def TX8 : u_T := fun k => match k with
  | 0 => ("DictProof", "page", "[I", true)
  | 1 => ("DictProof", "letters", "I", false)
  | 2 => ("DictProof", "current", "LDictProof$Book;", false)
  | 3 => ("DictProof", "draft", "LDictProof$Book;", false)
  | 4 => ("DictProof", "booksRead", "I", false)
  | 5 => ("DictProof", "reader", "LDictProof$Reader;", true)
  | 6 => ("DictProof", "meeting", "LDictProof$Meeting;", true)
  | 7 => ("DictProof", "desk", "LDictProof$Desk;", true)
  | 8 => ("DictProof", "kept", "LDictProof$Desk;", true)
  | 9 => ("DictProof", "hasImage", "Z", false)
  | 10 => ("DictProof", "finder", "LDictProof$Finder;", true)
  | 11 => ("DictProof", "put", "[I", true)
  | 12 => ("DictProof", "drawnShape", "LDictProof$Shape;", true)
  | _ => ("DictProof", "drawSeed", "J", false)
def tyX8 : Nat → FieldType := fun k => match k with
  | 0 => .array .int
  | 1 => .int
  | 2 => .object "DictProof$Book"
  | 3 => .object "DictProof$Book"
  | 4 => .int
  | 5 => .object "DictProof$Reader"
  | 6 => .object "DictProof$Meeting"
  | 7 => .object "DictProof$Desk"
  | 8 => .object "DictProof$Desk"
  | 9 => .boolean
  | 10 => .object "DictProof$Finder"
  | 11 => .array .int
  | 12 => .object "DictProof$Shape"
  | _ => .long
abbrev wsX80 : List Cond := u_ws RX8 TX8 14
theorem nmX8 : ∀ a, a < 14 → ∀ b, b < 14 → a ≠ b → (TX8 a).2.1 ≠ (TX8 b).2.1 := by decide +kernel
theorem tyX8_ok : ∀ k, k < 14 → parseFieldDescriptor (TX8 k).2.2.1 = some (tyX8 k) := by decide +kernel
def RX9 : String := "DictProofModel"
def TX9 : u_T := fun k => match k with
  | 0 => ("DictProofModel", "books", "I", false)
  | 1 => ("DictProofModel", "classes", "I", false)
  | 2 => ("DictProofModel", "rightAbove", "[I", true)
  | 3 => ("DictProofModel", "above", "[I", true)
  | 4 => ("DictProofModel", "instances", "I", false)
  | 5 => ("DictProofModel", "kindOf", "[I", true)
  | 6 => ("DictProofModel", "classOf", "[I", true)
  | 7 => ("DictProofModel", "head", "[I", true)
  | 8 => ("DictProofModel", "headSize", "[I", true)
  | 9 => ("DictProofModel", "conditions", "[I", true)
  | 10 => ("DictProofModel", "conditionClass", "[I", true)
  | 11 => ("DictProofModel", "conditionVariable", "[I", true)
  | 12 => ("DictProofModel", "special", "[I", true)
  | 13 => ("DictProofModel", "slot", "[I", true)
  | 14 => ("DictProofModel", "slotSize", "[I", true)
  | 15 => ("DictProofModel", "seen", "I", false)
  | 16 => ("DictProofModel", "seenInstance", "[I", true)
  | 17 => ("DictProofModel", "seenWhat", "[I", true)
  | 18 => ("DictProofModel", "seenSo", "[I", true)
  | 19 => ("DictProofModel", "pageLength", "I", false)
  | 20 => ("DictProofModel", "page", "[B", true)
  | 21 => ("DictProofModel", "isWhole", "Z", false)
  | 22 => ("DictProofModel", "isBroken", "Z", false)
  | 23 => ("DictProofModel", "newClasses", "I", false)
  | 24 => ("DictProofModel", "newInstances", "I", false)
  | 25 => ("DictProofModel", "newAbove", "[I", true)
  | 26 => ("DictProofModel", "newKind", "[I", true)
  | 27 => ("DictProofModel", "newClass", "[I", true)
  | 28 => ("DictProofModel", "newHeadAt", "[I", true)
  | 29 => ("DictProofModel", "newHeadSize", "[I", true)
  | 30 => ("DictProofModel", "newConditions", "[I", true)
  | 31 => ("DictProofModel", "newConditionAt", "[I", true)
  | 32 => ("DictProofModel", "now", "[I", true)
  | 33 => ("DictProofModel", "sizeAt", "[I", true)
  | 34 => ("DictProofModel", "nowSize", "I", false)
  | 35 => ("DictProofModel", "boundAt", "[I", true)
  | 36 => ("DictProofModel", "status", "[I", true)
  | 37 => ("DictProofModel", "taken", "[I", true)
  | 38 => ("DictProofModel", "firstBelow", "[I", true)
  | 39 => ("DictProofModel", "secondBelow", "[I", true)
  | 40 => ("DictProofModel", "entries", "[I", true)
  | 41 => ("DictProofModel", "worth", "[I", true)
  | 42 => ("DictProofModel", "deep", "[I", true)
  | 43 => ("DictProofModel", "needs", "[I", true)
  | 44 => ("DictProofModel", "marked", "[I", true)
  | 45 => ("DictProofModel", "one", "I", false)
  | 46 => ("DictProofModel", "other", "I", false)
  | 47 => ("DictProofModel", "bound", "[I", true)
  | 48 => ("DictProofModel", "pairOne", "[I", true)
  | 49 => ("DictProofModel", "pairOther", "[I", true)
  | 50 => ("DictProofModel", "pairs", "I", false)
  | 51 => ("DictProofModel", "waiting", "[I", true)
  | 52 => ("DictProofModel", "seedNow", "J", false)
  | 53 => ("DictProofModel", "isKept", "Z", false)
  | 54 => ("DictProofModel", "keptBook", "I", false)
  | 55 => ("DictProofModel", "keptSeen", "I", false)
  | 56 => ("DictProofModel", "keptKind", "[I", true)
  | 57 => ("DictProofModel", "keptSlot", "[I", true)
  | 58 => ("DictProofModel", "keptSize", "[I", true)
  | 59 => ("DictProofModel", "keptInstance", "[I", true)
  | 60 => ("DictProofModel", "keptWhat", "[I", true)
  | 61 => ("DictProofModel", "keptSo", "[I", true)
  | _ => ("DictProofModel", "h", "J", false)
def tyX9 : Nat → FieldType := fun k => match k with
  | 0 => .int
  | 1 => .int
  | 2 => .array .int
  | 3 => .array .int
  | 4 => .int
  | 5 => .array .int
  | 6 => .array .int
  | 7 => .array .int
  | 8 => .array .int
  | 9 => .array .int
  | 10 => .array .int
  | 11 => .array .int
  | 12 => .array .int
  | 13 => .array .int
  | 14 => .array .int
  | 15 => .int
  | 16 => .array .int
  | 17 => .array .int
  | 18 => .array .int
  | 19 => .int
  | 20 => .array .byte
  | 21 => .boolean
  | 22 => .boolean
  | 23 => .int
  | 24 => .int
  | 25 => .array .int
  | 26 => .array .int
  | 27 => .array .int
  | 28 => .array .int
  | 29 => .array .int
  | 30 => .array .int
  | 31 => .array .int
  | 32 => .array .int
  | 33 => .array .int
  | 34 => .int
  | 35 => .array .int
  | 36 => .array .int
  | 37 => .array .int
  | 38 => .array .int
  | 39 => .array .int
  | 40 => .array .int
  | 41 => .array .int
  | 42 => .array .int
  | 43 => .array .int
  | 44 => .array .int
  | 45 => .int
  | 46 => .int
  | 47 => .array .int
  | 48 => .array .int
  | 49 => .array .int
  | 50 => .int
  | 51 => .array .int
  | 52 => .long
  | 53 => .boolean
  | 54 => .int
  | 55 => .int
  | 56 => .array .int
  | 57 => .array .int
  | 58 => .array .int
  | 59 => .array .int
  | 60 => .array .int
  | 61 => .array .int
  | _ => .long
abbrev wsX90 : List Cond := u_ws RX9 TX9 63
theorem nmX9 : ∀ a, a < 63 → ∀ b, b < 63 → a ≠ b → (TX9 a).2.1 ≠ (TX9 b).2.1 := by decide +kernel
theorem tyX9_ok : ∀ k, k < 63 → parseFieldDescriptor (TX9 k).2.2.1 = some (tyX9 k) := by decide +kernel
def RJ6 : String := "java/lang/Integer"
def RJ13 : String := "java/lang/Long"
def RJ9 : String := "java/lang/Math"
def RL : String := "DictProofLaw"
abbrev vwCl : List vw_C := [(RX0, TX0, 10), (RX1, TX1, 5), (RX2, TX2, 5), (RX3, TX3, 9), (RX4, TX4, 8), (RX5, TX5, 5), (RX6, TX6, 7), (RX7, TX7, 4), (RX8, TX8, 14), (RX9, TX9, 63)]
end
section
-- ===== THE MINI-MACHINE: values, memory, one step (my own; the JVM is tied to it in the part 'sound') =====
/-- a value: an int, a long, a reference (null: none), or nothing that is known -/
abbrev MV : Type := Int ⊕ (Int64 ⊕ (Option Nat ⊕ Unit))
abbrev vI (z : Int) : MV := Sum.inl z
abbrev vL (x : Int64) : MV := Sum.inr (Sum.inl x)
abbrev vR (r : Option Nat) : MV := Sum.inr (Sum.inr (Sum.inl r))
abbrev vU : MV := Sum.inr (Sum.inr (Sum.inr ()))
/-- the cells: kind, length, frozen references -/
abbrev MS : Type := List (Nat × Nat × List (Option Nat))
/-- the memory: cells; references, ints, longs by cell and place -/
abbrev MM : Type := MS × (Nat → Int → Option Nat) × (Nat → Int → Int) × (Nat → Int → Int64)
abbrev MC : Type := Nat × List MV × List MV × (Nat × Nat) × MM
/-- what a step comes to: the next place; a call, with what is behind it; an answer -/
abbrev MO : Type := MC ⊕ ((Nat × List MV × MC) ⊕ Option MV)
/-- an instruction of a table: the instruction, (pc, length), numbers, a constant, places of a switch -/
abbrev Op : Type := Instr × (Nat × Nat) × List Nat × Int × List (Int × Nat)
def w32 (z : Int) : Int := (Int32.ofInt z).toInt
def iand (x y : Int) : Int := (Int32.ofInt x &&& Int32.ofInt y).toInt
def ior (x y : Int) : Int := (Int32.ofInt x ||| Int32.ofInt y).toInt
def ixor (x y : Int) : Int := (Int32.ofInt x ^^^ Int32.ofInt y).toInt
def ishl (x y : Int) : Int := (Int32.ofInt x <<< (Int32.ofInt y &&& 31)).toInt
def ishr (x y : Int) : Int := (Int32.ofInt x >>> (Int32.ofInt y &&& 31)).toInt
def iushr (x y : Int) : Int := ((Int32.ofInt x).toUInt32 >>> ((Int32.ofInt y).toUInt32 &&& Int32.toUInt32 31)).toInt32.toInt
def ib8 (x : Int) : Int := (Int32.ofInt x).toInt8.toInt32.toInt
def lushr (x : Int64) (y : Int) : Int64 := (x.toUInt64 >>> ((Int32.ofInt y).toInt64.toUInt64 &&& Int64.toUInt64 63)).toInt64
def lshl (x : Int64) (y : Int) : Int64 := x <<< ((Int32.ofInt y).toInt64 &&& 63)
def lcmpI (x y : Int64) : Int := (lg_cmp x y).toInt
def kd (S : MS) (a : Nat) : Nat := match S[a]? with
  | some e => e.1
  | none => 999
def ln (S : MS) (a : Nat) : Nat := match S[a]? with
  | some e => e.2.1
  | none => 0
def fz (S : MS) (a k : Nat) : Option Nat := match S[a]? with
  | some e => e.2.2.getD k none
  | none => none
def frL (S : MS) (a : Nat) : Nat := match S[a]? with
  | some e => e.2.2.length
  | none => 0
def setFz (S : MS) (a k : Nat) (r : Option Nat) : MS := match S[a]? with
  | some e => S.set a (e.1, e.2.1, e.2.2.set k r)
  | none => S
def upr {α : Type} (f : Int → α) (i : Int) (z : α) : Int → α := fun i' => if i' = i then z else f i'
def upM {α : Type} (I : Nat → Int → α) (a : Nat) (i : Int) (z : α) : Nat → Int → α := fun b => if b = a then upr (I a) i z else I b
def zrM {α : Type} (I : Nat → Int → α) (a : Nat) (d : α) : Nat → Int → α := fun b => if b = a then (fun _ => d) else I b
def zrN {α : Type} (I : Nat → Int → α) (a n : Nat) (d : α) : Nat → Int → α := fun b => if a ≤ b ∧ b < a + n then (fun _ => d) else I b
def nx (j : Nat) (ls st : List MV) (b : Nat × Nat) (M : MM) : Option MO := some (Sum.inl (j, ls, st, b, M))
def killL : List MV → List Nat → List MV
  | ls, [] => ls
  | ls, i :: r => killL (ls.set i vU) r
/-- a value is put into a place: a long that began just before it is lost -/
def stL (ls : List MV) (i : Nat) (v : MV) : List MV := match i with
  | 0 => ls.set 0 v
  | i' + 1 => match ls[i']? with
    | some (Sum.inr (Sum.inl _)) => (ls.set i' vU).set (i' + 1) v
    | _ => ls.set (i' + 1) v
def gtI (ls : List MV) (i : Nat) (f : Int → Option MO) : Option MO := match ls[i]? with
  | some (Sum.inl z) => f z
  | _ => none
def gtL (ls : List MV) (i : Nat) (f : Int64 → Option MO) : Option MO := match ls[i]? with
  | some (Sum.inr (Sum.inl z)) => f z
  | _ => none
def gtR (ls : List MV) (i : Nat) (f : Option Nat → Option MO) : Option MO := match ls[i]? with
  | some (Sum.inr (Sum.inr (Sum.inl r))) => f r
  | _ => none
def pI (st : List MV) (f : Int → List MV → Option MO) : Option MO := match st with
  | Sum.inl x :: r => f x r
  | _ => none
def pI2 (st : List MV) (f : Int → Int → List MV → Option MO) : Option MO := match st with
  | Sum.inl y :: Sum.inl x :: r => f x y r
  | _ => none
def pL (st : List MV) (f : Int64 → List MV → Option MO) : Option MO := match st with
  | Sum.inr (Sum.inl x) :: r => f x r
  | _ => none
def pL2 (st : List MV) (f : Int64 → Int64 → List MV → Option MO) : Option MO := match st with
  | Sum.inr (Sum.inl y) :: Sum.inr (Sum.inl x) :: r => f x y r
  | _ => none
def pIL (st : List MV) (f : Int64 → Int → List MV → Option MO) : Option MO := match st with
  | Sum.inl y :: Sum.inr (Sum.inl x) :: r => f x y r
  | _ => none
/-- a reference, null too -/
def pQ (st : List MV) (f : Option Nat → List MV → Option MO) : Option MO := match st with
  | Sum.inr (Sum.inr (Sum.inl q)) :: r => f q r
  | _ => none
/-- a reference that isn't null -/
def pR (st : List MV) (f : Nat → List MV → Option MO) : Option MO := match st with
  | Sum.inr (Sum.inr (Sum.inl (some a))) :: r => f a r
  | _ => none
def pIR (st : List MV) (f : Nat → Int → List MV → Option MO) : Option MO := match st with
  | Sum.inl i :: Sum.inr (Sum.inr (Sum.inl (some a))) :: r => f a i r
  | _ => none
def pIIR (st : List MV) (f : Nat → Int → Int → List MV → Option MO) : Option MO := match st with
  | Sum.inl z :: Sum.inl i :: Sum.inr (Sum.inr (Sum.inl (some a))) :: r => f a i z r
  | _ => none
def pRIR (st : List MV) (f : Nat → Int → Nat → List MV → Option MO) : Option MO := match st with
  | Sum.inr (Sum.inr (Sum.inl (some v))) :: Sum.inl i :: Sum.inr (Sum.inr (Sum.inl (some a))) :: r => f a i v r
  | _ => none
def pLR (st : List MV) (f : Nat → Int64 → List MV → Option MO) : Option MO := match st with
  | Sum.inr (Sum.inl x) :: Sum.inr (Sum.inr (Sum.inl (some a))) :: r => f a x r
  | _ => none
def pQR (st : List MV) (f : Nat → Option Nat → List MV → Option MO) : Option MO := match st with
  | Sum.inr (Sum.inr (Sum.inl q)) :: Sum.inr (Sum.inr (Sum.inl (some a))) :: r => f a q r
  | _ => none
def gd (c : Bool) (o : Option MO) : Option MO := if c = true then o else none
/-- two places: the first one if c -/
def br (c : Bool) (j1 j2 : Nat) (ls st : List MV) (b : Nat × Nat) (M : MM) : Option MO := if c = true then nx j1 ls st b M else nx j2 ls st b M
def cndI (c : Jvm.ClassFile.Cond) (x y : Int) (jt jf : Nat) (ls st : List MV) (b : Nat × Nat) (M : MM) : Option MO := match c with
  | .eq => br (decide (x = y)) jt jf ls st b M
  | .ne => br (decide (x = y)) jf jt ls st b M
  | .lt => br (decide (x < y)) jt jf ls st b M
  | .ge => br (decide (x < y)) jf jt ls st b M
  | .gt => br (decide (x ≤ y)) jf jt ls st b M
  | .le => br (decide (x ≤ y)) jt jf ls st b M
def swT (x : Int) (d : Nat) : List (Int × Nat) → Nat
  | [] => d
  | (c, t) :: r => if x = c then t else swT x d r
def z01 (z : Int) : Bool := decide (z = 0) || decide (z = 1)
def inB (S : MS) (a : Nat) (i : Int) : Bool := decide (0 ≤ i) && decide (i < (ln S a : Int))
/-- which cells hold what is in S (frozen), by kind -/
def frK (k : Nat) : Bool := k == 23 || k == 24 || k == 25 || k == 27
/-- the kind of what an array of references of a kind holds -/
def elK (k : Nat) : Nat := match k with
  | 23 => 6
  | 24 => 7
  | 25 => 3
  | 26 => 3
  | _ => 998
/-- as in the places of a frame: behind a long one more -/
def flL : List MV → List MV
  | [] => []
  | Sum.inr (Sum.inl x) :: r => vL x :: vU :: flL r
  | v :: r => v :: flL r
def mInv (k n : Nat) (rc : Option Nat) (mc ms mx : Nat) (j : Nat) (ls st : List MV) (b : Nat × Nat) (M : MM) : Option MO :=
  gd (decide (n ≤ st.length) && decide ((st.drop n).length ≤ 4) && decide (mc ≤ b.1) && decide (ms ≤ b.2) && decide ((flL (st.take n).reverse).length ≤ mx) &&
      (match rc with
        | none => true
        | some ci => match (st.take n).reverse with
          | Sum.inr (Sum.inr (Sum.inl (some a))) :: _ => decide (kd M.1 a = ci)
          | _ => false))
    (some (Sum.inr (Sum.inl (k, (st.take n).reverse, (j + 1, ls, st.drop n, (b.1 - mc, b.2 - ms), M)))))
def n0 (o : Op) : Nat := o.2.2.1.getD 0 0
def n1 (o : Op) : Nat := o.2.2.1.getD 1 0
def n2 (o : Op) : Nat := o.2.2.1.getD 2 0
def n3 (o : Op) : Nat := o.2.2.1.getD 3 0
def n4 (o : Op) : Nat := o.2.2.1.getD 4 0
def n5 (o : Op) : Nat := o.2.2.1.getD 5 0
def n6 (o : Op) : Nat := o.2.2.1.getD 6 0
def mGet (o : Op) (j : Nat) (ls st : List MV) (b : Nat × Nat) (M : MM) : Option MO := pR st fun a r => gd (decide (kd M.1 a = n0 o)) <| match n2 o with
  | 0 => nx (j + 1) ls (vI (M.2.2.1 a (n1 o)) :: r) b M
  | 1 => nx (j + 1) ls (vI (M.2.2.1 a (n1 o)) :: r) b M
  | 2 => nx (j + 1) ls (vL (M.2.2.2 a (n1 o)) :: r) b M
  | 3 => nx (j + 1) ls (vR (M.2.1 a (n1 o)) :: r) b M
  | _ => nx (j + 1) ls (vR (fz M.1 a (n1 o)) :: r) b M
def mPut (o : Op) (j : Nat) (ls st : List MV) (b : Nat × Nat) (M : MM) : Option MO := match n2 o with
  | 0 => pIR st fun a z r => gd (decide (kd M.1 a = n0 o)) (nx (j + 1) ls r b (M.1, M.2.1, upM M.2.2.1 a (n1 o) z, M.2.2.2))
  | 1 => pIR st fun a z r => gd (decide (kd M.1 a = n0 o) && z01 z) (nx (j + 1) ls r b (M.1, M.2.1, upM M.2.2.1 a (n1 o) z, M.2.2.2))
  | 2 => pLR st fun a z r => gd (decide (kd M.1 a = n0 o)) (nx (j + 1) ls r b (M.1, M.2.1, M.2.2.1, upM M.2.2.2 a (n1 o) z))
  | 3 => pQR st fun a q r => gd (decide (kd M.1 a = n0 o)) (nx (j + 1) ls r b (M.1, upM M.2.1 a (n1 o) q, M.2.2.1, M.2.2.2))
  | _ => pQR st fun a q r => gd (decide (kd M.1 a = n0 o) && decide (n1 o < frL M.1 a)) (nx (j + 1) ls r b (setFz M.1 a (n1 o) q, M.2.1, M.2.2.1, M.2.2.2))

/-- new cells -/
def mNew (e : List (Nat × Nat × List (Option Nat))) (cells slots : Nat) (j : Nat) (ls r : List MV) (b : Nat × Nat) (M : MM) : Option MO :=
  gd (decide (cells ≤ b.1) && decide (slots ≤ b.2)) (nx (j + 1) ls (vR (some M.1.length) :: r) (b.1 - cells, b.2 - slots) (M.1 ++ e, zrN M.2.1 M.1.length cells none, zrN M.2.2.1 M.1.length cells 0, zrN M.2.2.2 M.1.length cells 0))
def mArr (kind : Nat) (j : Nat) (ls st : List MV) (b : Nat × Nat) (M : MM) : Option MO := pI st fun n r => gd (decide (0 ≤ n) && decide (n ≤ 1000)) (mNew [(kind, n.toNat, if frK kind = true then List.replicate n.toNat none else [])] 1 n.toNat j ls r b M)
def tg (o : Op) : Nat := n0 o
def mstep (o : Op) (j : Nat) (ls st : List MV) (b : Nat × Nat) (M : MM) : Option MO := match o.1 with
  | .nop => nx (j + 1) (killL ls o.2.2.1) st b M
  | .aconst_null => nx (j + 1) ls (vR none :: st) b M
  | .iconst n => nx (j + 1) ls (vI n :: st) b M
  | .bipush n => nx (j + 1) ls (vI n :: st) b M
  | .sipush n => nx (j + 1) ls (vI n :: st) b M
  | .ldc_w _ => nx (j + 1) ls (vI o.2.2.2.1 :: st) b M
  | .ldc2_w _ => nx (j + 1) ls (vL (Int64.ofInt o.2.2.2.1) :: st) b M
  | .lconst n => nx (j + 1) ls (vL (Int64.ofInt n.val) :: st) b M
  | .iload_n i => gtI ls i.val fun z => nx (j + 1) ls (vI z :: st) b M
  | .iload i => gtI ls i fun z => nx (j + 1) ls (vI z :: st) b M
  | .lload_n i => gtL ls i.val fun z => nx (j + 1) ls (vL z :: st) b M
  | .lload i => gtL ls i fun z => nx (j + 1) ls (vL z :: st) b M
  | .aload_n i => gtR ls i.val fun z => nx (j + 1) ls (vR z :: st) b M
  | .aload i => gtR ls i fun z => nx (j + 1) ls (vR z :: st) b M
  | .istore_n i => pI st fun z r => nx (j + 1) (stL ls i.val (vI z)) r b M
  | .istore i => pI st fun z r => nx (j + 1) (stL ls i (vI z)) r b M
  | .lstore_n i => pL st fun z r => nx (j + 1) ((stL ls i.val (vL z)).set (i.val + 1) vU) r b M
  | .lstore i => pL st fun z r => nx (j + 1) ((stL ls i (vL z)).set (i + 1) vU) r b M
  | .astore_n i => pQ st fun z r => nx (j + 1) (stL ls i.val (vR z)) r b M
  | .astore i => pQ st fun z r => nx (j + 1) (stL ls i (vR z)) r b M
  | .iinc i n => gtI ls i fun z => nx (j + 1) (stL ls i (vI (w32 (z + n)))) st b M
  | .iadd => pI2 st fun x y r => nx (j + 1) ls (vI (w32 (x + y)) :: r) b M
  | .isub => pI2 st fun x y r => nx (j + 1) ls (vI (w32 (x - y)) :: r) b M
  | .imul => pI2 st fun x y r => nx (j + 1) ls (vI (w32 (x * y)) :: r) b M
  | .iand => pI2 st fun x y r => nx (j + 1) ls (vI (iand x y) :: r) b M
  | .ior => pI2 st fun x y r => nx (j + 1) ls (vI (ior x y) :: r) b M
  | .ixor => pI2 st fun x y r => nx (j + 1) ls (vI (ixor x y) :: r) b M
  | .ishl => pI2 st fun x y r => nx (j + 1) ls (vI (ishl x y) :: r) b M
  | .ishr => pI2 st fun x y r => nx (j + 1) ls (vI (ishr x y) :: r) b M
  | .iushr => pI2 st fun x y r => nx (j + 1) ls (vI (iushr x y) :: r) b M
  | .idiv => pI2 st fun x y r => gd (decide (¬ y = 0)) (nx (j + 1) ls (vI (w32 (x.tdiv y)) :: r) b M)
  | .irem => pI2 st fun x y r => gd (decide (¬ y = 0)) (nx (j + 1) ls (vI (x.tmod y) :: r) b M)
  | .ladd => pL2 st fun x y r => nx (j + 1) ls (vL (x + y) :: r) b M
  | .lsub => pL2 st fun x y r => nx (j + 1) ls (vL (x - y) :: r) b M
  | .lmul => pL2 st fun x y r => nx (j + 1) ls (vL (x * y) :: r) b M
  | .land => pL2 st fun x y r => nx (j + 1) ls (vL (x &&& y) :: r) b M
  | .lor => pL2 st fun x y r => nx (j + 1) ls (vL (x ||| y) :: r) b M
  | .ldiv => pL2 st fun x y r => gd (decide (¬ y = 0)) (nx (j + 1) ls (vL (x / y) :: r) b M)
  | .lrem => pL2 st fun x y r => gd (decide (¬ y = 0)) (nx (j + 1) ls (vL (x - x / y * y) :: r) b M)
  | .lcmp => pL2 st fun x y r => nx (j + 1) ls (vI (lcmpI x y) :: r) b M
  | .lushr => pIL st fun x y r => nx (j + 1) ls (vL (lushr x y) :: r) b M
  | .lshl => pIL st fun x y r => nx (j + 1) ls (vL (lshl x y) :: r) b M
  | .i2l => pI st fun x r => nx (j + 1) ls (vL (Int64.ofInt x) :: r) b M
  | .l2i => pL st fun x r => nx (j + 1) ls (vI x.toInt32.toInt :: r) b M
  | .i2b => pI st fun x r => nx (j + 1) ls (vI (ib8 x) :: r) b M
  | .dup => match st with
    | Sum.inl z :: r => nx (j + 1) ls (vI z :: vI z :: r) b M
    | Sum.inr (Sum.inr (Sum.inl q)) :: r => nx (j + 1) ls (vR q :: vR q :: r) b M
    | _ => none
  | .dup2 => match st with
    | Sum.inl z :: Sum.inr (Sum.inr (Sum.inl q)) :: r => nx (j + 1) ls (vI z :: vR q :: vI z :: vR q :: r) b M
    | _ => none
  | .pop => pI st fun _ r => nx (j + 1) ls r b M
  | .ifCond c _ => pI st fun x r => cndI c x 0 (tg o) (j + 1) ls r b M
  | .if_icmp c _ => pI2 st fun x y r => cndI c x y (tg o) (j + 1) ls r b M
  | .goto _ => nx (tg o) ls st b M
  | .ifnull _ => pQ st fun q r => br q.isNone (tg o) (j + 1) ls r b M
  | .ifnonnull _ => pQ st fun q r => br q.isNone (j + 1) (tg o) ls r b M
  | .tableswitch _ _ _ _ => pI st fun x r => nx (swT x (tg o) o.2.2.2.2) ls r b M
  | .lookupswitch _ _ => pI st fun x r => nx (swT x (tg o) o.2.2.2.2) ls r b M
  | .getfield _ => mGet o j ls st b M
  | .putfield _ => mPut o j ls st b M
  | .getstatic _ => nx (j + 1) ls (vR (some (n0 o)) :: st) b M
  | .arraylength => pR st fun a r => gd (decide (19 ≤ kd M.1 a) && decide (kd M.1 a ≤ 22)) (nx (j + 1) ls (vI (ln M.1 a) :: r) b M)
  | .iaload => pIR st fun a i r => gd ((decide (kd M.1 a = 20) || decide (kd M.1 a = 19)) && inB M.1 a i) (nx (j + 1) ls (vI (M.2.2.1 a i) :: r) b M)
  | .baload => pIR st fun a i r => gd ((decide (kd M.1 a = 21) || decide (kd M.1 a = 22)) && inB M.1 a i) (nx (j + 1) ls (vI (M.2.2.1 a i) :: r) b M)
  | .aaload => pIR st fun a i r => gd (decide (23 ≤ kd M.1 a) && decide (kd M.1 a ≤ 27) && inB M.1 a i) (nx (j + 1) ls (vR (if frK (kd M.1 a) = true then fz M.1 a i.toNat else M.2.1 a i) :: r) b M)
  | .iastore => pIIR st fun a i z r => gd (decide (kd M.1 a = 20) && inB M.1 a i) (nx (j + 1) ls r b (M.1, M.2.1, upM M.2.2.1 a i z, M.2.2.2))
  | .bastore => pIIR st fun a i z r => gd ((decide (kd M.1 a = 21) || (decide (kd M.1 a = 22) && z01 z)) && inB M.1 a i) (nx (j + 1) ls r b (M.1, M.2.1, upM M.2.2.1 a i (ib8 z), M.2.2.2))
  | .aastore => pRIR st fun a i v r => gd (decide (23 ≤ kd M.1 a) && decide (kd M.1 a ≤ 26) && decide (kd M.1 v = elK (kd M.1 a)) && inB M.1 a i && (!frK (kd M.1 a) || decide (i.toNat < frL M.1 a))) (nx (j + 1) ls r b (if frK (kd M.1 a) = true then (setFz M.1 a i.toNat (some v), M.2.1, M.2.2.1, M.2.2.2) else (M.1, upM M.2.1 a i (some v), M.2.2.1, M.2.2.2)))
  | .new _ => mNew [(n0 o, n1 o, List.replicate (n1 o) none)] 1 (n1 o) j ls st b M
  | .newarray _ => mArr (n0 o) j ls st b M
  | .anewarray _ => mArr (n0 o) j ls st b M
  | .multianewarray _ _ => pI2 st fun x y r => gd (decide (x = 6) && decide (y = 2)) (mNew ((27, 6, (List.range 6).map fun i => some (M.1.length + 1 + i)) :: List.replicate 6 (20, 2, [])) 7 18 j ls r b M)
  | .invokevirtual _ => mInv (n0 o) (n1 o) (some (n2 o)) (n3 o) (n4 o) (n6 o) j ls st b M
  | .invokestatic _ => mInv (n0 o) (n1 o) none (n3 o) (n4 o) (n6 o) j ls st b M
  | .invokespecial _ => if n5 o = 9 then pR st fun _ r => gd (decide (r.length ≤ 4)) (nx (j + 1) ls r b M) else mInv (n0 o) (n1 o) (some (n2 o)) (n3 o) (n4 o) (n6 o) j ls st b M
  | .ireturn => match st with
    | [Sum.inl z] => gd (if n0 o = 1 then z01 z else true) (some (Sum.inr (Sum.inr (some (vI z)))))
    | _ => none
  | .lreturn => match st with
    | [Sum.inr (Sum.inl x)] => some (Sum.inr (Sum.inr (some (vL x))))
    | _ => none
  | .areturn => match st with
    | [Sum.inr (Sum.inr (Sum.inl q))] => some (Sum.inr (Sum.inr (some (vR q))))
    | _ => none
  | .return_ => match st with
    | [] => some (Sum.inr (Sum.inr none))
    | _ => none
  | _ => none
end
section
-- ===== THE PROGRAM as tables of the mini-machine, printed by tool/gen_prog.py out of the listing =====
def clsN : List String := ["DictProof$Book", "DictProof$Desk", "DictProof$Finder", "DictProof$Goal", "DictProof$Meeting", "DictProof$Reader", "DictProof$Rule", "DictProof$Shape", "DictProof", "DictProofModel", "DictProofLaw", "java/lang/Integer", "java/lang/Long", "java/lang/Math"]
def cnm (o : Nat) : String := clsN.getD o ""
def cT (o : Nat) : u_T := match o with
  | 0 => TX0
  | 1 => TX1
  | 2 => TX2
  | 3 => TX3
  | 4 => TX4
  | 5 => TX5
  | 6 => TX6
  | 7 => TX7
  | 8 => TX8
  | 9 => TX9
  | _ => TX0
def cTy (o : Nat) : Nat → FieldType := match o with
  | 0 => tyX0
  | 1 => tyX1
  | 2 => tyX2
  | 3 => tyX3
  | 4 => tyX4
  | 5 => tyX5
  | 6 => tyX6
  | 7 => tyX7
  | 8 => tyX8
  | 9 => tyX9
  | _ => tyX0
def cN (o : Nat) : Nat := [10, 5, 5, 9, 8, 5, 7, 4, 14, 63].getD o 0
/-- DictProofLaw.law ([I)Z -/
def tb_0 : List Op := [(.new 7, (0, 3), [8, 14], 0, []),
  (.dup, (3, 1), [], 0, []),
  (.invokespecial 9, (4, 3), [1, 1, 8, 239, 1610, 0, 1], 0, []),
  (.nop, (7, 0), [1, 2, 3], 0, []),
  (.astore_n 1, (7, 1), [], 0, []),
  (.new 10, (8, 3), [9, 63], 0, []),
  (.dup, (11, 1), [], 0, []),
  (.invokespecial 12, (12, 3), [42, 1, 9, 45, 914, 0, 1], 0, []),
  (.nop, (15, 0), [2, 3], 0, []),
  (.astore_n 2, (15, 1), [], 0, []),
  (.iconst 0, (16, 1), [], 0, []),
  (.istore_n 3, (17, 1), [], 0, []),
  (.nop, (18, 0), [], 0, []),
  (.iload_n 3, (18, 1), [], 0, []),
  (.aload_n 0, (19, 1), [], 0, []),
  (.arraylength, (20, 1), [], 0, []),
  (.iconst 5, (21, 1), [], 0, []),
  (.isub, (22, 1), [], 0, []),
  (.if_icmp .gt 725, (23, 3), [595], 0, []),
  (.nop, (26, 0), [], 0, []),
  (.aload_n 0, (26, 1), [], 0, []),
  (.iload_n 3, (27, 1), [], 0, []),
  (.iaload, (28, 1), [], 0, []),
  (.bipush 31, (29, 2), [], 0, []),
  (.iand, (31, 1), [], 0, []),
  (.tableswitch 710 0 20 #[100, 123, 136, 149, 162, 185, 218, 251, 284, 317, 360, 393, 436, 479, 532, 591, 604, 647, 660, 673, 696], (32, 100), [592], 0, [(0, 26), (1, 47), (2, 58), (3, 69), (4, 80), (5, 101), (6, 132), (7, 163), (8, 194), (9, 225), (10, 266), (11, 297), (12, 338), (13, 379), (14, 430), (15, 485), (16, 496), (17, 537), (18, 548), (19, 559), (20, 580)]),
  (.nop, (132, 0), [], 0, []),
  (.aload_n 1, (132, 1), [], 0, []),
  (.aload_n 0, (133, 1), [], 0, []),
  (.iload_n 3, (134, 1), [], 0, []),
  (.iconst 1, (135, 1), [], 0, []),
  (.iadd, (136, 1), [], 0, []),
  (.iaload, (137, 1), [], 0, []),
  (.invokevirtual 13, (138, 3), [2, 2, 8, 0, 0, 0, 2], 0, []),
  (.nop, (141, 0), [], 0, []),
  (.aload_n 2, (141, 1), [], 0, []),
  (.aload_n 0, (142, 1), [], 0, []),
  (.iload_n 3, (143, 1), [], 0, []),
  (.iconst 1, (144, 1), [], 0, []),
  (.iadd, (145, 1), [], 0, []),
  (.iaload, (146, 1), [], 0, []),
  (.invokevirtual 17, (147, 3), [48, 2, 9, 0, 0, 0, 2], 0, []),
  (.nop, (150, 0), [], 0, []),
  (.if_icmp .eq 592, (150, 3), [592], 0, []),
  (.nop, (153, 0), [0, 1, 2, 3], 0, []),
  (.iconst 0, (153, 1), [], 0, []),
  (.ireturn, (154, 1), [1], 0, []),
  (.nop, (155, 0), [], 0, []),
  (.aload_n 1, (155, 1), [], 0, []),
  (.invokevirtual 18, (156, 3), [3, 1, 8, 0, 0, 0, 2], 0, []),
  (.nop, (159, 0), [], 0, []),
  (.aload_n 2, (159, 1), [], 0, []),
  (.invokevirtual 22, (160, 3), [49, 1, 9, 0, 0, 0, 2], 0, []),
  (.nop, (163, 0), [], 0, []),
  (.if_icmp .eq 579, (163, 3), [592], 0, []),
  (.nop, (166, 0), [0, 1, 2, 3], 0, []),
  (.iconst 0, (166, 1), [], 0, []),
  (.ireturn, (167, 1), [1], 0, []),
  (.nop, (168, 0), [], 0, []),
  (.aload_n 1, (168, 1), [], 0, []),
  (.invokevirtual 23, (169, 3), [4, 1, 8, 0, 0, 0, 1], 0, []),
  (.nop, (172, 0), [], 0, []),
  (.aload_n 2, (172, 1), [], 0, []),
  (.invokevirtual 26, (173, 3), [61, 1, 9, 0, 0, 0, 1], 0, []),
  (.nop, (176, 0), [], 0, []),
  (.if_icmp .eq 566, (176, 3), [592], 0, []),
  (.nop, (179, 0), [0, 1, 2, 3], 0, []),
  (.iconst 0, (179, 1), [], 0, []),
  (.ireturn, (180, 1), [1], 0, []),
  (.nop, (181, 0), [], 0, []),
  (.aload_n 1, (181, 1), [], 0, []),
  (.invokevirtual 27, (182, 3), [5, 1, 8, 0, 0, 0, 2], 0, []),
  (.nop, (185, 0), [], 0, []),
  (.aload_n 2, (185, 1), [], 0, []),
  (.invokevirtual 30, (186, 3), [62, 1, 9, 0, 0, 0, 3], 0, []),
  (.nop, (189, 0), [], 0, []),
  (.if_icmp .eq 553, (189, 3), [592], 0, []),
  (.nop, (192, 0), [0, 1, 2, 3], 0, []),
  (.iconst 0, (192, 1), [], 0, []),
  (.ireturn, (193, 1), [1], 0, []),
  (.nop, (194, 0), [], 0, []),
  (.aload_n 1, (194, 1), [], 0, []),
  (.aload_n 0, (195, 1), [], 0, []),
  (.iload_n 3, (196, 1), [], 0, []),
  (.iconst 1, (197, 1), [], 0, []),
  (.iadd, (198, 1), [], 0, []),
  (.iaload, (199, 1), [], 0, []),
  (.invokevirtual 31, (200, 3), [6, 2, 8, 0, 0, 0, 4], 0, []),
  (.nop, (203, 0), [], 0, []),
  (.aload_n 2, (203, 1), [], 0, []),
  (.aload_n 0, (204, 1), [], 0, []),
  (.iload_n 3, (205, 1), [], 0, []),
  (.iconst 1, (206, 1), [], 0, []),
  (.iadd, (207, 1), [], 0, []),
  (.iaload, (208, 1), [], 0, []),
  (.invokevirtual 34, (209, 3), [88, 2, 9, 0, 0, 0, 5], 0, []),
  (.nop, (212, 0), [], 0, []),
  (.if_icmp .eq 530, (212, 3), [592], 0, []),
  (.nop, (215, 0), [0, 1, 2, 3], 0, []),
  (.iconst 0, (215, 1), [], 0, []),
  (.ireturn, (216, 1), [1], 0, []),
  (.nop, (217, 0), [], 0, []),
  (.aload_n 1, (217, 1), [], 0, []),
  (.aload_n 0, (218, 1), [], 0, []),
  (.iload_n 3, (219, 1), [], 0, []),
  (.iconst 1, (220, 1), [], 0, []),
  (.iadd, (221, 1), [], 0, []),
  (.iaload, (222, 1), [], 0, []),
  (.aload_n 0, (223, 1), [], 0, []),
  (.iload_n 3, (224, 1), [], 0, []),
  (.iconst 2, (225, 1), [], 0, []),
  (.iadd, (226, 1), [], 0, []),
  (.iaload, (227, 1), [], 0, []),
  (.invokevirtual 35, (228, 3), [9, 3, 8, 0, 0, 0, 3], 0, []),
  (.nop, (231, 0), [], 0, []),
  (.aload_n 2, (231, 1), [], 0, []),
  (.aload_n 0, (232, 1), [], 0, []),
  (.iload_n 3, (233, 1), [], 0, []),
  (.iconst 1, (234, 1), [], 0, []),
  (.iadd, (235, 1), [], 0, []),
  (.iaload, (236, 1), [], 0, []),
  (.aload_n 0, (237, 1), [], 0, []),
  (.iload_n 3, (238, 1), [], 0, []),
  (.iconst 2, (239, 1), [], 0, []),
  (.iadd, (240, 1), [], 0, []),
  (.iaload, (241, 1), [], 0, []),
  (.invokevirtual 39, (242, 3), [91, 3, 9, 0, 0, 0, 3], 0, []),
  (.nop, (245, 0), [], 0, []),
  (.if_icmp .eq 497, (245, 3), [592], 0, []),
  (.nop, (248, 0), [0, 1, 2, 3], 0, []),
  (.iconst 0, (248, 1), [], 0, []),
  (.ireturn, (249, 1), [1], 0, []),
  (.nop, (250, 0), [], 0, []),
  (.aload_n 1, (250, 1), [], 0, []),
  (.aload_n 0, (251, 1), [], 0, []),
  (.iload_n 3, (252, 1), [], 0, []),
  (.iconst 1, (253, 1), [], 0, []),
  (.iadd, (254, 1), [], 0, []),
  (.iaload, (255, 1), [], 0, []),
  (.aload_n 0, (256, 1), [], 0, []),
  (.iload_n 3, (257, 1), [], 0, []),
  (.iconst 2, (258, 1), [], 0, []),
  (.iadd, (259, 1), [], 0, []),
  (.iaload, (260, 1), [], 0, []),
  (.invokevirtual 40, (261, 3), [10, 3, 8, 0, 0, 0, 4], 0, []),
  (.nop, (264, 0), [], 0, []),
  (.aload_n 2, (264, 1), [], 0, []),
  (.aload_n 0, (265, 1), [], 0, []),
  (.iload_n 3, (266, 1), [], 0, []),
  (.iconst 1, (267, 1), [], 0, []),
  (.iadd, (268, 1), [], 0, []),
  (.iaload, (269, 1), [], 0, []),
  (.aload_n 0, (270, 1), [], 0, []),
  (.iload_n 3, (271, 1), [], 0, []),
  (.iconst 2, (272, 1), [], 0, []),
  (.iadd, (273, 1), [], 0, []),
  (.iaload, (274, 1), [], 0, []),
  (.invokevirtual 43, (275, 3), [95, 3, 9, 0, 0, 0, 3], 0, []),
  (.nop, (278, 0), [], 0, []),
  (.if_icmp .eq 464, (278, 3), [592], 0, []),
  (.nop, (281, 0), [0, 1, 2, 3], 0, []),
  (.iconst 0, (281, 1), [], 0, []),
  (.ireturn, (282, 1), [1], 0, []),
  (.nop, (283, 0), [], 0, []),
  (.aload_n 1, (283, 1), [], 0, []),
  (.aload_n 0, (284, 1), [], 0, []),
  (.iload_n 3, (285, 1), [], 0, []),
  (.iconst 1, (286, 1), [], 0, []),
  (.iadd, (287, 1), [], 0, []),
  (.iaload, (288, 1), [], 0, []),
  (.aload_n 0, (289, 1), [], 0, []),
  (.iload_n 3, (290, 1), [], 0, []),
  (.iconst 2, (291, 1), [], 0, []),
  (.iadd, (292, 1), [], 0, []),
  (.iaload, (293, 1), [], 0, []),
  (.invokevirtual 44, (294, 3), [11, 3, 8, 0, 0, 0, 5], 0, []),
  (.nop, (297, 0), [], 0, []),
  (.aload_n 2, (297, 1), [], 0, []),
  (.aload_n 0, (298, 1), [], 0, []),
  (.iload_n 3, (299, 1), [], 0, []),
  (.iconst 1, (300, 1), [], 0, []),
  (.iadd, (301, 1), [], 0, []),
  (.iaload, (302, 1), [], 0, []),
  (.aload_n 0, (303, 1), [], 0, []),
  (.iload_n 3, (304, 1), [], 0, []),
  (.iconst 2, (305, 1), [], 0, []),
  (.iadd, (306, 1), [], 0, []),
  (.iaload, (307, 1), [], 0, []),
  (.invokevirtual 47, (308, 3), [96, 3, 9, 0, 0, 0, 4], 0, []),
  (.nop, (311, 0), [], 0, []),
  (.if_icmp .eq 431, (311, 3), [592], 0, []),
  (.nop, (314, 0), [0, 1, 2, 3], 0, []),
  (.iconst 0, (314, 1), [], 0, []),
  (.ireturn, (315, 1), [1], 0, []),
  (.nop, (316, 0), [], 0, []),
  (.aload_n 1, (316, 1), [], 0, []),
  (.aload_n 0, (317, 1), [], 0, []),
  (.iload_n 3, (318, 1), [], 0, []),
  (.iconst 1, (319, 1), [], 0, []),
  (.iadd, (320, 1), [], 0, []),
  (.iaload, (321, 1), [], 0, []),
  (.aload_n 0, (322, 1), [], 0, []),
  (.iload_n 3, (323, 1), [], 0, []),
  (.iconst 2, (324, 1), [], 0, []),
  (.iadd, (325, 1), [], 0, []),
  (.iaload, (326, 1), [], 0, []),
  (.invokevirtual 48, (327, 3), [12, 3, 8, 0, 0, 0, 4], 0, []),
  (.nop, (330, 0), [], 0, []),
  (.aload_n 2, (330, 1), [], 0, []),
  (.aload_n 0, (331, 1), [], 0, []),
  (.iload_n 3, (332, 1), [], 0, []),
  (.iconst 1, (333, 1), [], 0, []),
  (.iadd, (334, 1), [], 0, []),
  (.iaload, (335, 1), [], 0, []),
  (.aload_n 0, (336, 1), [], 0, []),
  (.iload_n 3, (337, 1), [], 0, []),
  (.iconst 2, (338, 1), [], 0, []),
  (.iadd, (339, 1), [], 0, []),
  (.iaload, (340, 1), [], 0, []),
  (.invokevirtual 51, (341, 3), [97, 3, 9, 0, 0, 0, 4], 0, []),
  (.nop, (344, 0), [], 0, []),
  (.if_icmp .eq 398, (344, 3), [592], 0, []),
  (.nop, (347, 0), [0, 1, 2, 3], 0, []),
  (.iconst 0, (347, 1), [], 0, []),
  (.ireturn, (348, 1), [1], 0, []),
  (.nop, (349, 0), [], 0, []),
  (.aload_n 1, (349, 1), [], 0, []),
  (.aload_n 0, (350, 1), [], 0, []),
  (.iload_n 3, (351, 1), [], 0, []),
  (.iconst 1, (352, 1), [], 0, []),
  (.iadd, (353, 1), [], 0, []),
  (.iaload, (354, 1), [], 0, []),
  (.aload_n 0, (355, 1), [], 0, []),
  (.iload_n 3, (356, 1), [], 0, []),
  (.iconst 2, (357, 1), [], 0, []),
  (.iadd, (358, 1), [], 0, []),
  (.iaload, (359, 1), [], 0, []),
  (.aload_n 0, (360, 1), [], 0, []),
  (.iload_n 3, (361, 1), [], 0, []),
  (.iconst 3, (362, 1), [], 0, []),
  (.iadd, (363, 1), [], 0, []),
  (.iaload, (364, 1), [], 0, []),
  (.invokevirtual 52, (365, 3), [13, 4, 8, 0, 0, 0, 4], 0, []),
  (.nop, (368, 0), [], 0, []),
  (.aload_n 2, (368, 1), [], 0, []),
  (.aload_n 0, (369, 1), [], 0, []),
  (.iload_n 3, (370, 1), [], 0, []),
  (.iconst 1, (371, 1), [], 0, []),
  (.iadd, (372, 1), [], 0, []),
  (.iaload, (373, 1), [], 0, []),
  (.aload_n 0, (374, 1), [], 0, []),
  (.iload_n 3, (375, 1), [], 0, []),
  (.iconst 2, (376, 1), [], 0, []),
  (.iadd, (377, 1), [], 0, []),
  (.iaload, (378, 1), [], 0, []),
  (.aload_n 0, (379, 1), [], 0, []),
  (.iload_n 3, (380, 1), [], 0, []),
  (.iconst 3, (381, 1), [], 0, []),
  (.iadd, (382, 1), [], 0, []),
  (.iaload, (383, 1), [], 0, []),
  (.invokevirtual 56, (384, 3), [110, 4, 9, 0, 0, 0, 4], 0, []),
  (.nop, (387, 0), [], 0, []),
  (.if_icmp .eq 355, (387, 3), [592], 0, []),
  (.nop, (390, 0), [0, 1, 2, 3], 0, []),
  (.iconst 0, (390, 1), [], 0, []),
  (.ireturn, (391, 1), [1], 0, []),
  (.nop, (392, 0), [], 0, []),
  (.aload_n 1, (392, 1), [], 0, []),
  (.aload_n 0, (393, 1), [], 0, []),
  (.iload_n 3, (394, 1), [], 0, []),
  (.iconst 1, (395, 1), [], 0, []),
  (.iadd, (396, 1), [], 0, []),
  (.iaload, (397, 1), [], 0, []),
  (.aload_n 0, (398, 1), [], 0, []),
  (.iload_n 3, (399, 1), [], 0, []),
  (.iconst 2, (400, 1), [], 0, []),
  (.iadd, (401, 1), [], 0, []),
  (.iaload, (402, 1), [], 0, []),
  (.invokevirtual 57, (403, 3), [14, 3, 8, 0, 0, 0, 3], 0, []),
  (.nop, (406, 0), [], 0, []),
  (.aload_n 2, (406, 1), [], 0, []),
  (.aload_n 0, (407, 1), [], 0, []),
  (.iload_n 3, (408, 1), [], 0, []),
  (.iconst 1, (409, 1), [], 0, []),
  (.iadd, (410, 1), [], 0, []),
  (.iaload, (411, 1), [], 0, []),
  (.aload_n 0, (412, 1), [], 0, []),
  (.iload_n 3, (413, 1), [], 0, []),
  (.iconst 2, (414, 1), [], 0, []),
  (.iadd, (415, 1), [], 0, []),
  (.iaload, (416, 1), [], 0, []),
  (.invokevirtual 60, (417, 3), [111, 3, 9, 0, 0, 0, 3], 0, []),
  (.nop, (420, 0), [], 0, []),
  (.if_icmp .eq 322, (420, 3), [592], 0, []),
  (.nop, (423, 0), [0, 1, 2, 3], 0, []),
  (.iconst 0, (423, 1), [], 0, []),
  (.ireturn, (424, 1), [1], 0, []),
  (.nop, (425, 0), [], 0, []),
  (.aload_n 1, (425, 1), [], 0, []),
  (.aload_n 0, (426, 1), [], 0, []),
  (.iload_n 3, (427, 1), [], 0, []),
  (.iconst 1, (428, 1), [], 0, []),
  (.iadd, (429, 1), [], 0, []),
  (.iaload, (430, 1), [], 0, []),
  (.aload_n 0, (431, 1), [], 0, []),
  (.iload_n 3, (432, 1), [], 0, []),
  (.iconst 2, (433, 1), [], 0, []),
  (.iadd, (434, 1), [], 0, []),
  (.iaload, (435, 1), [], 0, []),
  (.aload_n 0, (436, 1), [], 0, []),
  (.iload_n 3, (437, 1), [], 0, []),
  (.iconst 3, (438, 1), [], 0, []),
  (.iadd, (439, 1), [], 0, []),
  (.iaload, (440, 1), [], 0, []),
  (.invokevirtual 61, (441, 3), [24, 4, 8, 0, 0, 0, 4], 0, []),
  (.nop, (444, 0), [], 0, []),
  (.aload_n 2, (444, 1), [], 0, []),
  (.aload_n 0, (445, 1), [], 0, []),
  (.iload_n 3, (446, 1), [], 0, []),
  (.iconst 1, (447, 1), [], 0, []),
  (.iadd, (448, 1), [], 0, []),
  (.iaload, (449, 1), [], 0, []),
  (.aload_n 0, (450, 1), [], 0, []),
  (.iload_n 3, (451, 1), [], 0, []),
  (.iconst 2, (452, 1), [], 0, []),
  (.iadd, (453, 1), [], 0, []),
  (.iaload, (454, 1), [], 0, []),
  (.aload_n 0, (455, 1), [], 0, []),
  (.iload_n 3, (456, 1), [], 0, []),
  (.iconst 3, (457, 1), [], 0, []),
  (.iadd, (458, 1), [], 0, []),
  (.iaload, (459, 1), [], 0, []),
  (.invokevirtual 64, (460, 3), [113, 4, 9, 0, 0, 0, 4], 0, []),
  (.nop, (463, 0), [], 0, []),
  (.if_icmp .eq 279, (463, 3), [592], 0, []),
  (.nop, (466, 0), [0, 1, 2, 3], 0, []),
  (.iconst 0, (466, 1), [], 0, []),
  (.ireturn, (467, 1), [1], 0, []),
  (.nop, (468, 0), [], 0, []),
  (.aload_n 1, (468, 1), [], 0, []),
  (.aload_n 0, (469, 1), [], 0, []),
  (.iload_n 3, (470, 1), [], 0, []),
  (.iconst 1, (471, 1), [], 0, []),
  (.iadd, (472, 1), [], 0, []),
  (.iaload, (473, 1), [], 0, []),
  (.aload_n 0, (474, 1), [], 0, []),
  (.iload_n 3, (475, 1), [], 0, []),
  (.iconst 2, (476, 1), [], 0, []),
  (.iadd, (477, 1), [], 0, []),
  (.iaload, (478, 1), [], 0, []),
  (.aload_n 0, (479, 1), [], 0, []),
  (.iload_n 3, (480, 1), [], 0, []),
  (.iconst 3, (481, 1), [], 0, []),
  (.iadd, (482, 1), [], 0, []),
  (.iaload, (483, 1), [], 0, []),
  (.invokevirtual 65, (484, 3), [25, 4, 8, 0, 0, 0, 5], 0, []),
  (.nop, (487, 0), [], 0, []),
  (.aload_n 2, (487, 1), [], 0, []),
  (.aload_n 0, (488, 1), [], 0, []),
  (.iload_n 3, (489, 1), [], 0, []),
  (.iconst 1, (490, 1), [], 0, []),
  (.iadd, (491, 1), [], 0, []),
  (.iaload, (492, 1), [], 0, []),
  (.aload_n 0, (493, 1), [], 0, []),
  (.iload_n 3, (494, 1), [], 0, []),
  (.iconst 2, (495, 1), [], 0, []),
  (.iadd, (496, 1), [], 0, []),
  (.iaload, (497, 1), [], 0, []),
  (.aload_n 0, (498, 1), [], 0, []),
  (.iload_n 3, (499, 1), [], 0, []),
  (.iconst 3, (500, 1), [], 0, []),
  (.iadd, (501, 1), [], 0, []),
  (.iaload, (502, 1), [], 0, []),
  (.invokevirtual 68, (503, 3), [114, 4, 9, 0, 0, 0, 5], 0, []),
  (.nop, (506, 0), [], 0, []),
  (.if_icmp .eq 236, (506, 3), [592], 0, []),
  (.nop, (509, 0), [0, 1, 2, 3], 0, []),
  (.iconst 0, (509, 1), [], 0, []),
  (.ireturn, (510, 1), [1], 0, []),
  (.nop, (511, 0), [], 0, []),
  (.aload_n 1, (511, 1), [], 0, []),
  (.aload_n 0, (512, 1), [], 0, []),
  (.iload_n 3, (513, 1), [], 0, []),
  (.iconst 1, (514, 1), [], 0, []),
  (.iadd, (515, 1), [], 0, []),
  (.iaload, (516, 1), [], 0, []),
  (.aload_n 0, (517, 1), [], 0, []),
  (.iload_n 3, (518, 1), [], 0, []),
  (.iconst 2, (519, 1), [], 0, []),
  (.iadd, (520, 1), [], 0, []),
  (.iaload, (521, 1), [], 0, []),
  (.aload_n 0, (522, 1), [], 0, []),
  (.iload_n 3, (523, 1), [], 0, []),
  (.iconst 3, (524, 1), [], 0, []),
  (.iadd, (525, 1), [], 0, []),
  (.iaload, (526, 1), [], 0, []),
  (.aload_n 0, (527, 1), [], 0, []),
  (.iload_n 3, (528, 1), [], 0, []),
  (.iconst 4, (529, 1), [], 0, []),
  (.iadd, (530, 1), [], 0, []),
  (.iaload, (531, 1), [], 0, []),
  (.invokevirtual 69, (532, 3), [26, 5, 8, 0, 0, 0, 7], 0, []),
  (.nop, (535, 0), [], 0, []),
  (.aload_n 2, (535, 1), [], 0, []),
  (.aload_n 0, (536, 1), [], 0, []),
  (.iload_n 3, (537, 1), [], 0, []),
  (.iconst 1, (538, 1), [], 0, []),
  (.iadd, (539, 1), [], 0, []),
  (.iaload, (540, 1), [], 0, []),
  (.aload_n 0, (541, 1), [], 0, []),
  (.iload_n 3, (542, 1), [], 0, []),
  (.iconst 2, (543, 1), [], 0, []),
  (.iadd, (544, 1), [], 0, []),
  (.iaload, (545, 1), [], 0, []),
  (.aload_n 0, (546, 1), [], 0, []),
  (.iload_n 3, (547, 1), [], 0, []),
  (.iconst 3, (548, 1), [], 0, []),
  (.iadd, (549, 1), [], 0, []),
  (.iaload, (550, 1), [], 0, []),
  (.aload_n 0, (551, 1), [], 0, []),
  (.iload_n 3, (552, 1), [], 0, []),
  (.iconst 4, (553, 1), [], 0, []),
  (.iadd, (554, 1), [], 0, []),
  (.iaload, (555, 1), [], 0, []),
  (.invokevirtual 73, (556, 3), [115, 5, 9, 0, 0, 0, 8], 0, []),
  (.nop, (559, 0), [], 0, []),
  (.if_icmp .eq 183, (559, 3), [592], 0, []),
  (.nop, (562, 0), [0, 1, 2, 3], 0, []),
  (.iconst 0, (562, 1), [], 0, []),
  (.ireturn, (563, 1), [1], 0, []),
  (.nop, (564, 0), [], 0, []),
  (.aload_n 1, (564, 1), [], 0, []),
  (.aload_n 0, (565, 1), [], 0, []),
  (.iload_n 3, (566, 1), [], 0, []),
  (.iconst 1, (567, 1), [], 0, []),
  (.iadd, (568, 1), [], 0, []),
  (.iaload, (569, 1), [], 0, []),
  (.aload_n 0, (570, 1), [], 0, []),
  (.iload_n 3, (571, 1), [], 0, []),
  (.iconst 2, (572, 1), [], 0, []),
  (.iadd, (573, 1), [], 0, []),
  (.iaload, (574, 1), [], 0, []),
  (.aload_n 0, (575, 1), [], 0, []),
  (.iload_n 3, (576, 1), [], 0, []),
  (.iconst 3, (577, 1), [], 0, []),
  (.iadd, (578, 1), [], 0, []),
  (.iaload, (579, 1), [], 0, []),
  (.ifCond .eq 7, (580, 3), [451], 0, []),
  (.nop, (583, 0), [], 0, []),
  (.iconst 1, (583, 1), [], 0, []),
  (.goto 4, (584, 3), [453], 0, []),
  (.nop, (587, 0), [], 0, []),
  (.iconst 0, (587, 1), [], 0, []),
  (.nop, (588, 0), [], 0, []),
  (.invokevirtual 74, (588, 3), [30, 4, 8, 0, 0, 0, 4], 0, []),
  (.nop, (591, 0), [], 0, []),
  (.aload_n 2, (591, 1), [], 0, []),
  (.aload_n 0, (592, 1), [], 0, []),
  (.iload_n 3, (593, 1), [], 0, []),
  (.iconst 1, (594, 1), [], 0, []),
  (.iadd, (595, 1), [], 0, []),
  (.iaload, (596, 1), [], 0, []),
  (.aload_n 0, (597, 1), [], 0, []),
  (.iload_n 3, (598, 1), [], 0, []),
  (.iconst 2, (599, 1), [], 0, []),
  (.iadd, (600, 1), [], 0, []),
  (.iaload, (601, 1), [], 0, []),
  (.aload_n 0, (602, 1), [], 0, []),
  (.iload_n 3, (603, 1), [], 0, []),
  (.iconst 3, (604, 1), [], 0, []),
  (.iadd, (605, 1), [], 0, []),
  (.iaload, (606, 1), [], 0, []),
  (.ifCond .eq 7, (607, 3), [476], 0, []),
  (.nop, (610, 0), [], 0, []),
  (.iconst 1, (610, 1), [], 0, []),
  (.goto 4, (611, 3), [478], 0, []),
  (.nop, (614, 0), [], 0, []),
  (.iconst 0, (614, 1), [], 0, []),
  (.nop, (615, 0), [], 0, []),
  (.invokevirtual 78, (615, 3), [117, 4, 9, 0, 0, 0, 4], 0, []),
  (.nop, (618, 0), [], 0, []),
  (.if_icmp .eq 124, (618, 3), [592], 0, []),
  (.nop, (621, 0), [0, 1, 2, 3], 0, []),
  (.iconst 0, (621, 1), [], 0, []),
  (.ireturn, (622, 1), [1], 0, []),
  (.nop, (623, 0), [], 0, []),
  (.aload_n 1, (623, 1), [], 0, []),
  (.invokevirtual 79, (624, 3), [31, 1, 8, 0, 0, 0, 2], 0, []),
  (.nop, (627, 0), [], 0, []),
  (.aload_n 2, (627, 1), [], 0, []),
  (.invokevirtual 82, (628, 3), [118, 1, 9, 0, 0, 0, 2], 0, []),
  (.nop, (631, 0), [], 0, []),
  (.if_icmp .eq 111, (631, 3), [592], 0, []),
  (.nop, (634, 0), [0, 1, 2, 3], 0, []),
  (.iconst 0, (634, 1), [], 0, []),
  (.ireturn, (635, 1), [1], 0, []),
  (.nop, (636, 0), [], 0, []),
  (.aload_n 1, (636, 1), [], 0, []),
  (.aload_n 0, (637, 1), [], 0, []),
  (.iload_n 3, (638, 1), [], 0, []),
  (.iconst 1, (639, 1), [], 0, []),
  (.iadd, (640, 1), [], 0, []),
  (.iaload, (641, 1), [], 0, []),
  (.aload_n 0, (642, 1), [], 0, []),
  (.iload_n 3, (643, 1), [], 0, []),
  (.iconst 2, (644, 1), [], 0, []),
  (.iadd, (645, 1), [], 0, []),
  (.iaload, (646, 1), [], 0, []),
  (.aload_n 0, (647, 1), [], 0, []),
  (.iload_n 3, (648, 1), [], 0, []),
  (.iconst 3, (649, 1), [], 0, []),
  (.iadd, (650, 1), [], 0, []),
  (.iaload, (651, 1), [], 0, []),
  (.invokevirtual 83, (652, 3), [32, 4, 8, 0, 0, 0, 8], 0, []),
  (.nop, (655, 0), [], 0, []),
  (.aload_n 2, (655, 1), [], 0, []),
  (.aload_n 0, (656, 1), [], 0, []),
  (.iload_n 3, (657, 1), [], 0, []),
  (.iconst 1, (658, 1), [], 0, []),
  (.iadd, (659, 1), [], 0, []),
  (.iaload, (660, 1), [], 0, []),
  (.aload_n 0, (661, 1), [], 0, []),
  (.iload_n 3, (662, 1), [], 0, []),
  (.iconst 2, (663, 1), [], 0, []),
  (.iadd, (664, 1), [], 0, []),
  (.iaload, (665, 1), [], 0, []),
  (.aload_n 0, (666, 1), [], 0, []),
  (.iload_n 3, (667, 1), [], 0, []),
  (.iconst 3, (668, 1), [], 0, []),
  (.iadd, (669, 1), [], 0, []),
  (.iaload, (670, 1), [], 0, []),
  (.invokevirtual 86, (671, 3), [126, 4, 9, 0, 0, 0, 4], 0, []),
  (.nop, (674, 0), [], 0, []),
  (.if_icmp .eq 68, (674, 3), [592], 0, []),
  (.nop, (677, 0), [0, 1, 2, 3], 0, []),
  (.iconst 0, (677, 1), [], 0, []),
  (.ireturn, (678, 1), [1], 0, []),
  (.nop, (679, 0), [], 0, []),
  (.aload_n 1, (679, 1), [], 0, []),
  (.invokevirtual 87, (680, 3), [35, 1, 8, 0, 0, 0, 1], 0, []),
  (.nop, (683, 0), [], 0, []),
  (.aload_n 2, (683, 1), [], 0, []),
  (.invokevirtual 90, (684, 3), [128, 1, 9, 0, 0, 0, 2], 0, []),
  (.nop, (687, 0), [], 0, []),
  (.if_icmp .eq 55, (687, 3), [592], 0, []),
  (.nop, (690, 0), [0, 1, 2, 3], 0, []),
  (.iconst 0, (690, 1), [], 0, []),
  (.ireturn, (691, 1), [1], 0, []),
  (.nop, (692, 0), [], 0, []),
  (.aload_n 1, (692, 1), [], 0, []),
  (.invokevirtual 91, (693, 3), [36, 1, 8, 0, 0, 0, 1], 0, []),
  (.nop, (696, 0), [], 0, []),
  (.aload_n 2, (696, 1), [], 0, []),
  (.invokevirtual 94, (697, 3), [129, 1, 9, 0, 0, 0, 2], 0, []),
  (.nop, (700, 0), [], 0, []),
  (.if_icmp .eq 42, (700, 3), [592], 0, []),
  (.nop, (703, 0), [0, 1, 2, 3], 0, []),
  (.iconst 0, (703, 1), [], 0, []),
  (.ireturn, (704, 1), [1], 0, []),
  (.nop, (705, 0), [], 0, []),
  (.aload_n 1, (705, 1), [], 0, []),
  (.aload_n 0, (706, 1), [], 0, []),
  (.iload_n 3, (707, 1), [], 0, []),
  (.iconst 1, (708, 1), [], 0, []),
  (.iadd, (709, 1), [], 0, []),
  (.iaload, (710, 1), [], 0, []),
  (.invokevirtual 95, (711, 3), [37, 2, 8, 0, 0, 0, 2], 0, []),
  (.nop, (714, 0), [], 0, []),
  (.aload_n 2, (714, 1), [], 0, []),
  (.aload_n 0, (715, 1), [], 0, []),
  (.iload_n 3, (716, 1), [], 0, []),
  (.iconst 1, (717, 1), [], 0, []),
  (.iadd, (718, 1), [], 0, []),
  (.iaload, (719, 1), [], 0, []),
  (.invokevirtual 98, (720, 3), [136, 2, 9, 0, 0, 0, 2], 0, []),
  (.nop, (723, 0), [], 0, []),
  (.if_icmp .eq 19, (723, 3), [592], 0, []),
  (.nop, (726, 0), [0, 1, 2, 3], 0, []),
  (.iconst 0, (726, 1), [], 0, []),
  (.ireturn, (727, 1), [1], 0, []),
  (.nop, (728, 0), [], 0, []),
  (.aload_n 1, (728, 1), [], 0, []),
  (.invokevirtual 99, (729, 3), [38, 1, 8, 0, 0, 0, 5], 0, []),
  (.nop, (732, 0), [], 0, []),
  (.aload_n 2, (732, 1), [], 0, []),
  (.invokevirtual 103, (733, 3), [139, 1, 9, 0, 0, 0, 3], 0, []),
  (.nop, (736, 0), [], 0, []),
  (.lcmp, (736, 1), [], 0, []),
  (.ifCond .eq 5, (737, 3), [592], 0, []),
  (.nop, (740, 0), [0, 1, 2, 3], 0, []),
  (.iconst 0, (740, 1), [], 0, []),
  (.ireturn, (741, 1), [1], 0, []),
  (.nop, (742, 0), [], 0, []),
  (.iinc 3 5, (742, 3), [], 0, []),
  (.goto (-727), (745, 3), [12], 0, []),
  (.nop, (748, 0), [0, 1, 2, 3], 0, []),
  (.iconst 1, (748, 1), [], 0, []),
  (.ireturn, (749, 1), [1], 0, [])]
/-- DictProof.<init> ()V -/
def tb_1 : List Op := [(.aload_n 0, (0, 1), [], 0, []),
  (.invokespecial 1, (1, 3), [0, 0, 0, 0, 0, 9], 0, []),
  (.aload_n 0, (4, 1), [], 0, []),
  (.bipush 84, (5, 2), [], 0, []),
  (.newarray .int, (7, 2), [20], 0, []),
  (.putfield 9, (9, 3), [8, 0, 4], 0, []),
  (.aload_n 0, (12, 1), [], 0, []),
  (.iconst 0, (13, 1), [], 0, []),
  (.putfield 13, (14, 3), [8, 1, 0], 0, []),
  (.aload_n 0, (17, 1), [], 0, []),
  (.new 17, (18, 3), [0, 10], 0, []),
  (.dup, (21, 1), [], 0, []),
  (.invokespecial 19, (22, 3), [140, 1, 0, 49, 284, 0, 2], 0, []),
  (.nop, (25, 0), [], 0, []),
  (.putfield 20, (25, 3), [8, 2, 3], 0, []),
  (.aload_n 0, (28, 1), [], 0, []),
  (.new 17, (29, 3), [0, 10], 0, []),
  (.dup, (32, 1), [], 0, []),
  (.invokespecial 19, (33, 3), [140, 1, 0, 49, 284, 0, 2], 0, []),
  (.nop, (36, 0), [], 0, []),
  (.putfield 24, (36, 3), [8, 3, 3], 0, []),
  (.aload_n 0, (39, 1), [], 0, []),
  (.iconst 0, (40, 1), [], 0, []),
  (.putfield 27, (41, 3), [8, 4, 0], 0, []),
  (.aload_n 0, (44, 1), [], 0, []),
  (.new 30, (45, 3), [5, 5], 0, []),
  (.dup, (48, 1), [], 0, []),
  (.invokespecial 32, (49, 3), [186, 1, 5, 0, 0, 1, 1], 0, []),
  (.nop, (52, 0), [], 0, []),
  (.putfield 33, (52, 3), [8, 5, 4], 0, []),
  (.aload_n 0, (55, 1), [], 0, []),
  (.new 37, (56, 3), [4, 8], 0, []),
  (.dup, (59, 1), [], 0, []),
  (.invokespecial 39, (60, 3), [177, 1, 4, 7, 130, 1, 1], 0, []),
  (.nop, (63, 0), [], 0, []),
  (.putfield 40, (63, 3), [8, 6, 4], 0, []),
  (.aload_n 0, (66, 1), [], 0, []),
  (.new 44, (67, 3), [1, 5], 0, []),
  (.dup, (70, 1), [], 0, []),
  (.invokespecial 46, (71, 3), [154, 1, 1, 20, 146, 0, 2], 0, []),
  (.nop, (74, 0), [], 0, []),
  (.putfield 47, (74, 3), [8, 7, 4], 0, []),
  (.aload_n 0, (77, 1), [], 0, []),
  (.new 44, (78, 3), [1, 5], 0, []),
  (.dup, (81, 1), [], 0, []),
  (.invokespecial 46, (82, 3), [154, 1, 1, 20, 146, 0, 2], 0, []),
  (.nop, (85, 0), [], 0, []),
  (.putfield 51, (85, 3), [8, 8, 4], 0, []),
  (.aload_n 0, (88, 1), [], 0, []),
  (.iconst 0, (89, 1), [], 0, []),
  (.putfield 54, (90, 3), [8, 9, 1], 0, []),
  (.aload_n 0, (93, 1), [], 0, []),
  (.new 58, (94, 3), [2, 5], 0, []),
  (.dup, (97, 1), [], 0, []),
  (.invokespecial 60, (98, 3), [162, 1, 2, 81, 455, 0, 2], 0, []),
  (.nop, (101, 0), [], 0, []),
  (.putfield 61, (101, 3), [8, 10, 4], 0, []),
  (.aload_n 0, (104, 1), [], 0, []),
  (.iconst 2, (105, 1), [], 0, []),
  (.newarray .int, (106, 2), [20], 0, []),
  (.putfield 65, (108, 3), [8, 11, 4], 0, []),
  (.aload_n 0, (111, 1), [], 0, []),
  (.new 68, (112, 3), [7, 4], 0, []),
  (.dup, (115, 1), [], 0, []),
  (.invokespecial 70, (116, 3), [206, 1, 7, 3, 27, 1, 1], 0, []),
  (.nop, (119, 0), [], 0, []),
  (.putfield 71, (119, 3), [8, 12, 4], 0, []),
  (.aload_n 0, (122, 1), [], 0, []),
  (.lconst 0, (123, 1), [], 0, []),
  (.putfield 75, (124, 3), [8, 13, 2], 0, []),
  (.return_, (127, 1), [], 0, [])]
/-- DictProof.letter (I)I -/
def tb_2 : List Op := [(.iload_n 1, (0, 1), [], 0, []),
  (.bipush 32, (1, 2), [], 0, []),
  (.if_icmp .lt 9, (3, 3), [7], 0, []),
  (.nop, (6, 0), [], 0, []),
  (.iload_n 1, (6, 1), [], 0, []),
  (.bipush 126, (7, 2), [], 0, []),
  (.if_icmp .le 6, (9, 3), [10], 0, []),
  (.nop, (12, 0), [0, 1], 0, []),
  (.bipush (-102), (12, 2), [], 0, []),
  (.ireturn, (14, 1), [0], 0, []),
  (.nop, (15, 0), [], 0, []),
  (.aload_n 0, (15, 1), [], 0, []),
  (.getfield 13, (16, 3), [8, 1, 0], 0, []),
  (.bipush 84, (19, 2), [], 0, []),
  (.if_icmp .lt 6, (21, 3), [18], 0, []),
  (.nop, (24, 0), [0, 1], 0, []),
  (.bipush (-104), (24, 2), [], 0, []),
  (.ireturn, (26, 1), [0], 0, []),
  (.nop, (27, 0), [], 0, []),
  (.aload_n 0, (27, 1), [], 0, []),
  (.getfield 9, (28, 3), [8, 0, 4], 0, []),
  (.aload_n 0, (31, 1), [], 0, []),
  (.getfield 13, (32, 3), [8, 1, 0], 0, []),
  (.iload_n 1, (35, 1), [], 0, []),
  (.iastore, (36, 1), [], 0, []),
  (.aload_n 0, (37, 1), [], 0, []),
  (.dup, (38, 1), [], 0, []),
  (.getfield 13, (39, 3), [8, 1, 0], 0, []),
  (.iconst 1, (42, 1), [], 0, []),
  (.iadd, (43, 1), [], 0, []),
  (.putfield 13, (44, 3), [8, 1, 0], 0, []),
  (.aload_n 0, (47, 1), [], 0, []),
  (.getfield 13, (48, 3), [8, 1, 0], 0, []),
  (.ireturn, (51, 1), [0], 0, [])]
/-- DictProof.blank ()I -/
def tb_3 : List Op := [(.aload_n 0, (0, 1), [], 0, []),
  (.getfield 13, (1, 3), [8, 1, 0], 0, []),
  (.istore_n 1, (4, 1), [], 0, []),
  (.aload_n 0, (5, 1), [], 0, []),
  (.iconst 0, (6, 1), [], 0, []),
  (.putfield 13, (7, 3), [8, 1, 0], 0, []),
  (.iload_n 1, (10, 1), [], 0, []),
  (.ireturn, (11, 1), [0], 0, [])]
/-- DictProof.fault ()I -/
def tb_4 : List Op := [(.aload_n 0, (0, 1), [], 0, []),
  (.invokevirtual 79, (1, 3), [7, 1, 8, 0, 0, 0, 2], 0, []),
  (.nop, (4, 0), [0], 0, []),
  (.ireturn, (4, 1), [0], 0, [])]
/-- DictProof.book ()I -/
def tb_5 : List Op := [(.aload_n 0, (0, 1), [], 0, []),
  (.invokevirtual 79, (1, 3), [7, 1, 8, 0, 0, 0, 2], 0, []),
  (.nop, (4, 0), [1], 0, []),
  (.aload_n 0, (4, 1), [], 0, []),
  (.getfield 13, (5, 3), [8, 1, 0], 0, []),
  (.if_icmp .lt 13, (8, 3), [12], 0, []),
  (.nop, (11, 0), [1], 0, []),
  (.aload_n 0, (11, 1), [], 0, []),
  (.getfield 33, (12, 3), [8, 5, 4], 0, []),
  (.invokevirtual 83, (15, 3), [188, 1, 5, 0, 0, 0, 1], 0, []),
  (.nop, (18, 0), [1], 0, []),
  (.ifCond .ne 6, (18, 3), [15], 0, []),
  (.nop, (21, 0), [0, 1], 0, []),
  (.bipush (-103), (21, 2), [], 0, []),
  (.ireturn, (23, 1), [0], 0, []),
  (.nop, (24, 0), [1], 0, []),
  (.aload_n 0, (24, 1), [], 0, []),
  (.getfield 20, (25, 3), [8, 2, 3], 0, []),
  (.astore_n 1, (28, 1), [], 0, []),
  (.aload_n 0, (29, 1), [], 0, []),
  (.aload_n 0, (30, 1), [], 0, []),
  (.getfield 24, (31, 3), [8, 3, 3], 0, []),
  (.putfield 20, (34, 3), [8, 2, 3], 0, []),
  (.aload_n 0, (37, 1), [], 0, []),
  (.aload_n 1, (38, 1), [], 0, []),
  (.putfield 24, (39, 3), [8, 3, 3], 0, []),
  (.aload_n 0, (42, 1), [], 0, []),
  (.getfield 20, (43, 3), [8, 2, 3], 0, []),
  (.aload_n 0, (46, 1), [], 0, []),
  (.getfield 40, (47, 3), [8, 6, 4], 0, []),
  (.invokevirtual 87, (50, 3), [145, 2, 0, 0, 0, 0, 3], 0, []),
  (.nop, (53, 0), [1], 0, []),
  (.aload_n 0, (53, 1), [], 0, []),
  (.getfield 47, (54, 3), [8, 7, 4], 0, []),
  (.aload_n 0, (57, 1), [], 0, []),
  (.getfield 20, (58, 3), [8, 2, 3], 0, []),
  (.invokevirtual 91, (61, 3), [155, 2, 1, 0, 0, 0, 3], 0, []),
  (.nop, (64, 0), [1], 0, []),
  (.aload_n 0, (64, 1), [], 0, []),
  (.iconst 0, (65, 1), [], 0, []),
  (.putfield 54, (66, 3), [8, 9, 1], 0, []),
  (.aload_n 0, (69, 1), [], 0, []),
  (.iconst 0, (70, 1), [], 0, []),
  (.putfield 13, (71, 3), [8, 1, 0], 0, []),
  (.aload_n 0, (74, 1), [], 0, []),
  (.dup, (75, 1), [], 0, []),
  (.getfield 27, (76, 3), [8, 4, 0], 0, []),
  (.iconst 1, (79, 1), [], 0, []),
  (.iadd, (80, 1), [], 0, []),
  (.putfield 27, (81, 3), [8, 4, 0], 0, []),
  (.aload_n 0, (84, 1), [], 0, []),
  (.getfield 20, (85, 3), [8, 2, 3], 0, []),
  (.getfield 95, (88, 3), [0, 4, 0], 0, []),
  (.ireturn, (91, 1), [0], 0, [])]
/-- DictProof.type (I)I -/
def tb_6 : List Op := [(.iload_n 1, (0, 1), [], 0, []),
  (.ifCond .lt 8, (1, 3), [6], 0, []),
  (.nop, (4, 0), [2, 3], 0, []),
  (.iload_n 1, (4, 1), [], 0, []),
  (.iconst 4, (5, 1), [], 0, []),
  (.if_icmp .lt 6, (6, 3), [9], 0, []),
  (.nop, (9, 0), [0, 1, 2, 3], 0, []),
  (.bipush (-101), (9, 2), [], 0, []),
  (.ireturn, (11, 1), [0], 0, []),
  (.nop, (12, 0), [2, 3], 0, []),
  (.aload_n 0, (12, 1), [], 0, []),
  (.getfield 27, (13, 3), [8, 4, 0], 0, []),
  (.ifCond .eq 10, (16, 3), [18], 0, []),
  (.nop, (19, 0), [2, 3], 0, []),
  (.aload_n 0, (19, 1), [], 0, []),
  (.invokevirtual 98, (20, 3), [8, 1, 8, 0, 0, 0, 4], 0, []),
  (.nop, (23, 0), [2, 3], 0, []),
  (.ifCond .ne 6, (23, 3), [21], 0, []),
  (.nop, (26, 0), [0, 1, 2, 3], 0, []),
  (.bipush (-103), (26, 2), [], 0, []),
  (.ireturn, (28, 1), [0], 0, []),
  (.nop, (29, 0), [2, 3], 0, []),
  (.aload_n 0, (29, 1), [], 0, []),
  (.getfield 13, (30, 3), [8, 1, 0], 0, []),
  (.bipush 9, (33, 2), [], 0, []),
  (.if_icmp .le 6, (35, 3), [29], 0, []),
  (.nop, (38, 0), [0, 1, 2, 3], 0, []),
  (.bipush (-104), (38, 2), [], 0, []),
  (.ireturn, (40, 1), [0], 0, []),
  (.nop, (41, 0), [2, 3], 0, []),
  (.aload_n 0, (41, 1), [], 0, []),
  (.getfield 47, (42, 3), [8, 7, 4], 0, []),
  (.getfield 101, (45, 3), [1, 1, 4], 0, []),
  (.iload_n 1, (48, 1), [], 0, []),
  (.aaload, (49, 1), [], 0, []),
  (.astore_n 2, (50, 1), [], 0, []),
  (.aload_n 2, (51, 1), [], 0, []),
  (.invokevirtual 105, (52, 3), [210, 1, 7, 0, 0, 0, 1], 0, []),
  (.nop, (55, 0), [1, 3], 0, []),
  (.iconst 0, (55, 1), [], 0, []),
  (.istore_n 3, (56, 1), [], 0, []),
  (.nop, (57, 0), [1], 0, []),
  (.iload_n 3, (57, 1), [], 0, []),
  (.aload_n 0, (58, 1), [], 0, []),
  (.getfield 13, (59, 3), [8, 1, 0], 0, []),
  (.if_icmp .ge 22, (62, 3), [58], 0, []),
  (.nop, (65, 0), [1], 0, []),
  (.aload_n 2, (65, 1), [], 0, []),
  (.aload_n 0, (66, 1), [], 0, []),
  (.getfield 9, (67, 3), [8, 0, 4], 0, []),
  (.iload_n 3, (70, 1), [], 0, []),
  (.iaload, (71, 1), [], 0, []),
  (.invokestatic 108, (72, 3), [207, 1, 0, 0, 0, 0, 1], 0, []),
  (.nop, (75, 0), [1], 0, []),
  (.invokevirtual 112, (75, 3), [211, 2, 7, 0, 0, 0, 2], 0, []),
  (.nop, (78, 0), [1], 0, []),
  (.iinc 3 1, (78, 3), [], 0, []),
  (.goto (-24), (81, 3), [41], 0, []),
  (.nop, (84, 0), [1, 3], 0, []),
  (.aload_n 2, (84, 1), [], 0, []),
  (.invokevirtual 116, (85, 3), [212, 1, 7, 0, 0, 0, 4], 0, []),
  (.nop, (88, 0), [1, 3], 0, []),
  (.aload_n 0, (88, 1), [], 0, []),
  (.iconst 0, (89, 1), [], 0, []),
  (.putfield 13, (90, 3), [8, 1, 0], 0, []),
  (.aload_n 2, (93, 1), [], 0, []),
  (.getfield 118, (94, 3), [7, 3, 0], 0, []),
  (.ireturn, (97, 1), [0], 0, [])]
/-- DictProof.readPage ()I -/
def tb_7 : List Op := [(.aload_n 0, (0, 1), [], 0, []),
  (.getfield 33, (1, 3), [8, 5, 4], 0, []),
  (.aload_n 0, (4, 1), [], 0, []),
  (.getfield 24, (5, 3), [8, 3, 3], 0, []),
  (.invokevirtual 121, (8, 3), [187, 2, 5, 0, 0, 0, 2], 0, []),
  (.nop, (11, 0), [1], 0, []),
  (.iconst 0, (11, 1), [], 0, []),
  (.istore_n 1, (12, 1), [], 0, []),
  (.nop, (13, 0), [], 0, []),
  (.iload_n 1, (13, 1), [], 0, []),
  (.aload_n 0, (14, 1), [], 0, []),
  (.getfield 13, (15, 3), [8, 1, 0], 0, []),
  (.if_icmp .ge 27, (18, 3), [29], 0, []),
  (.nop, (21, 0), [], 0, []),
  (.aload_n 0, (21, 1), [], 0, []),
  (.getfield 33, (22, 3), [8, 5, 4], 0, []),
  (.aload_n 0, (25, 1), [], 0, []),
  (.getfield 9, (26, 3), [8, 0, 4], 0, []),
  (.iload_n 1, (29, 1), [], 0, []),
  (.iaload, (30, 1), [], 0, []),
  (.invokevirtual 124, (31, 3), [189, 2, 5, 0, 0, 0, 2], 0, []),
  (.nop, (34, 0), [], 0, []),
  (.ifCond .ne 5, (34, 3), [26], 0, []),
  (.nop, (37, 0), [0], 0, []),
  (.iload_n 1, (37, 1), [], 0, []),
  (.ireturn, (38, 1), [0], 0, []),
  (.nop, (39, 0), [], 0, []),
  (.iinc 1 1, (39, 3), [], 0, []),
  (.goto (-29), (42, 3), [8], 0, []),
  (.nop, (45, 0), [1], 0, []),
  (.aload_n 0, (45, 1), [], 0, []),
  (.getfield 13, (46, 3), [8, 1, 0], 0, []),
  (.ireturn, (49, 1), [0], 0, [])]
/-- DictProof.pageIsType ()Z -/
def tb_8 : List Op := [(.iconst 1, (0, 1), [], 0, []),
  (.istore_n 1, (1, 1), [], 0, []),
  (.iconst 0, (2, 1), [], 0, []),
  (.istore_n 2, (3, 1), [], 0, []),
  (.nop, (4, 0), [3], 0, []),
  (.iload_n 2, (4, 1), [], 0, []),
  (.aload_n 0, (5, 1), [], 0, []),
  (.getfield 13, (6, 3), [8, 1, 0], 0, []),
  (.if_icmp .ge 39, (9, 3), [37], 0, []),
  (.nop, (12, 0), [3], 0, []),
  (.aload_n 0, (12, 1), [], 0, []),
  (.getfield 9, (13, 3), [8, 0, 4], 0, []),
  (.iload_n 2, (16, 1), [], 0, []),
  (.iaload, (17, 1), [], 0, []),
  (.invokestatic 108, (18, 3), [207, 1, 0, 0, 0, 0, 1], 0, []),
  (.nop, (21, 0), [3], 0, []),
  (.istore_n 3, (21, 1), [], 0, []),
  (.iload_n 3, (22, 1), [], 0, []),
  (.iconst (-1), (23, 1), [], 0, []),
  (.if_icmp .eq 7, (24, 3), [23], 0, []),
  (.nop, (27, 0), [], 0, []),
  (.iload_n 1, (27, 1), [], 0, []),
  (.ifCond .ne 5, (28, 3), [26], 0, []),
  (.nop, (31, 0), [0, 1, 2, 3], 0, []),
  (.iconst 0, (31, 1), [], 0, []),
  (.ireturn, (32, 1), [1], 0, []),
  (.nop, (33, 0), [], 0, []),
  (.iload_n 1, (33, 1), [], 0, []),
  (.iload_n 3, (34, 1), [], 0, []),
  (.invokestatic 128, (35, 3), [208, 1, 0, 0, 0, 0, 1], 0, []),
  (.nop, (38, 0), [1, 3], 0, []),
  (.iconst 1, (38, 1), [], 0, []),
  (.isub, (39, 1), [], 0, []),
  (.iadd, (40, 1), [], 0, []),
  (.istore_n 1, (41, 1), [], 0, []),
  (.iinc 2 1, (42, 3), [], 0, []),
  (.goto (-41), (45, 3), [4], 0, []),
  (.nop, (48, 0), [0, 2, 3], 0, []),
  (.iload_n 1, (48, 1), [], 0, []),
  (.ifCond .ne 7, (49, 3), [43], 0, []),
  (.nop, (52, 0), [0, 1, 2, 3], 0, []),
  (.iconst 1, (52, 1), [], 0, []),
  (.goto 4, (53, 3), [45], 0, []),
  (.nop, (56, 0), [0, 1, 2, 3], 0, []),
  (.iconst 0, (56, 1), [], 0, []),
  (.nop, (57, 0), [0, 1, 2, 3], 0, []),
  (.ireturn, (57, 1), [1], 0, [])]
/-- DictProof.about (II)I -/
def tb_9 : List Op := [(.aload_n 0, (0, 1), [], 0, []),
  (.iload_n 1, (1, 1), [], 0, []),
  (.invokevirtual 131, (2, 3), [15, 2, 8, 0, 0, 0, 2], 0, []),
  (.nop, (5, 0), [], 0, []),
  (.ifCond .ne 6, (5, 3), [8], 0, []),
  (.nop, (8, 0), [0, 1, 2], 0, []),
  (.bipush (-101), (8, 2), [], 0, []),
  (.ireturn, (10, 1), [0], 0, []),
  (.nop, (11, 0), [], 0, []),
  (.iload_n 2, (11, 1), [], 0, []),
  (.tableswitch 61 0 2 #[28, 38, 48], (12, 28), [34], 0, [(0, 11), (1, 18), (2, 25)]),
  (.nop, (40, 0), [2], 0, []),
  (.aload_n 0, (40, 1), [], 0, []),
  (.getfield 20, (41, 3), [8, 2, 3], 0, []),
  (.getfield 134, (44, 3), [0, 1, 4], 0, []),
  (.iload_n 1, (47, 1), [], 0, []),
  (.iaload, (48, 1), [], 0, []),
  (.ireturn, (49, 1), [0], 0, []),
  (.nop, (50, 0), [2], 0, []),
  (.aload_n 0, (50, 1), [], 0, []),
  (.getfield 20, (51, 3), [8, 2, 3], 0, []),
  (.getfield 137, (54, 3), [0, 2, 4], 0, []),
  (.iload_n 1, (57, 1), [], 0, []),
  (.iaload, (58, 1), [], 0, []),
  (.ireturn, (59, 1), [0], 0, []),
  (.nop, (60, 0), [2], 0, []),
  (.aload_n 0, (60, 1), [], 0, []),
  (.getfield 20, (61, 3), [8, 2, 3], 0, []),
  (.getfield 140, (64, 3), [0, 3, 4], 0, []),
  (.iload_n 1, (67, 1), [], 0, []),
  (.iaload, (68, 1), [], 0, []),
  (.invokestatic 143, (69, 3), [221, 1, 0, 0, 0, 0, 1], 0, []),
  (.nop, (72, 0), [0, 1, 2], 0, []),
  (.ireturn, (72, 1), [0], 0, []),
  (.nop, (73, 0), [0, 1, 2], 0, []),
  (.bipush (-102), (73, 2), [], 0, []),
  (.ireturn, (75, 1), [0], 0, [])]
/-- DictProof.instance (II)I -/
def tb_10 : List Op := [(.aload_n 0, (0, 1), [], 0, []),
  (.iload_n 1, (1, 1), [], 0, []),
  (.invokevirtual 148, (2, 3), [16, 2, 8, 0, 0, 0, 2], 0, []),
  (.nop, (5, 0), [3], 0, []),
  (.ifCond .ne 6, (5, 3), [8], 0, []),
  (.nop, (8, 0), [0, 1, 2, 3], 0, []),
  (.bipush (-101), (8, 2), [], 0, []),
  (.ireturn, (10, 1), [0], 0, []),
  (.nop, (11, 0), [3], 0, []),
  (.aload_n 0, (11, 1), [], 0, []),
  (.getfield 20, (12, 3), [8, 2, 3], 0, []),
  (.getfield 151, (15, 3), [0, 5, 4], 0, []),
  (.iload_n 1, (18, 1), [], 0, []),
  (.aaload, (19, 1), [], 0, []),
  (.astore_n 3, (20, 1), [], 0, []),
  (.iload_n 2, (21, 1), [], 0, []),
  (.tableswitch 135 0 7 #[46, 56, 61, 69, 74, 86, 95, 107], (22, 46), [79], 0, [(0, 17), (1, 24), (2, 28), (3, 33), (4, 37), (5, 46), (6, 53), (7, 62)]),
  (.nop, (68, 0), [2, 3], 0, []),
  (.aload_n 0, (68, 1), [], 0, []),
  (.getfield 47, (69, 3), [8, 7, 4], 0, []),
  (.getfield 155, (72, 3), [1, 0, 4], 0, []),
  (.iload_n 1, (75, 1), [], 0, []),
  (.iaload, (76, 1), [], 0, []),
  (.ireturn, (77, 1), [0], 0, []),
  (.nop, (78, 0), [0, 1, 2], 0, []),
  (.aload_n 3, (78, 1), [], 0, []),
  (.getfield 158, (79, 3), [6, 1, 0], 0, []),
  (.ireturn, (82, 1), [0], 0, []),
  (.nop, (83, 0), [0, 1, 2], 0, []),
  (.aload_n 3, (83, 1), [], 0, []),
  (.getfield 163, (84, 3), [6, 2, 4], 0, []),
  (.getfield 118, (87, 3), [7, 3, 0], 0, []),
  (.ireturn, (90, 1), [0], 0, []),
  (.nop, (91, 0), [0, 1, 2], 0, []),
  (.aload_n 3, (91, 1), [], 0, []),
  (.getfield 166, (92, 3), [6, 3, 0], 0, []),
  (.ireturn, (95, 1), [0], 0, []),
  (.nop, (96, 0), [2, 3], 0, []),
  (.aload_n 0, (96, 1), [], 0, []),
  (.getfield 20, (97, 3), [8, 2, 3], 0, []),
  (.getfield 169, (100, 3), [0, 6, 0], 0, []),
  (.iload_n 1, (103, 1), [], 0, []),
  (.ishr, (104, 1), [], 0, []),
  (.iconst 1, (105, 1), [], 0, []),
  (.iand, (106, 1), [], 0, []),
  (.ireturn, (107, 1), [0], 0, []),
  (.nop, (108, 0), [2, 3], 0, []),
  (.aload_n 0, (108, 1), [], 0, []),
  (.getfield 47, (109, 3), [8, 7, 4], 0, []),
  (.iload_n 1, (112, 1), [], 0, []),
  (.invokevirtual 172, (113, 3), [158, 2, 1, 0, 0, 0, 4], 0, []),
  (.nop, (116, 0), [0, 1, 2, 3], 0, []),
  (.ireturn, (116, 1), [0], 0, []),
  (.nop, (117, 0), [2, 3], 0, []),
  (.aload_n 0, (117, 1), [], 0, []),
  (.getfield 47, (118, 3), [8, 7, 4], 0, []),
  (.iload_n 1, (121, 1), [], 0, []),
  (.invokevirtual 172, (122, 3), [158, 2, 1, 0, 0, 0, 4], 0, []),
  (.nop, (125, 0), [0, 1, 2, 3], 0, []),
  (.invokestatic 175, (125, 3), [22, 1, 0, 0, 0, 0, 7], 0, []),
  (.nop, (128, 0), [0, 1, 2, 3], 0, []),
  (.ireturn, (128, 1), [0], 0, []),
  (.nop, (129, 0), [1, 2], 0, []),
  (.aload_n 0, (129, 1), [], 0, []),
  (.getfield 61, (130, 3), [8, 10, 4], 0, []),
  (.aload_n 0, (133, 1), [], 0, []),
  (.getfield 20, (134, 3), [8, 2, 3], 0, []),
  (.aload_n 0, (137, 1), [], 0, []),
  (.getfield 47, (138, 3), [8, 7, 4], 0, []),
  (.getfield 155, (141, 3), [1, 0, 4], 0, []),
  (.aload_n 3, (144, 1), [], 0, []),
  (.getfield 163, (145, 3), [6, 2, 4], 0, []),
  (.invokevirtual 178, (148, 3), [163, 4, 2, 0, 0, 0, 7], 0, []),
  (.nop, (151, 0), [1, 2], 0, []),
  (.aload_n 0, (151, 1), [], 0, []),
  (.aload_n 3, (152, 1), [], 0, []),
  (.invokevirtual 182, (153, 3), [23, 2, 8, 0, 0, 0, 6], 0, []),
  (.nop, (156, 0), [0, 1, 2, 3], 0, []),
  (.ireturn, (156, 1), [0], 0, []),
  (.nop, (157, 0), [0, 1, 2, 3], 0, []),
  (.bipush (-102), (157, 2), [], 0, []),
  (.ireturn, (159, 1), [0], 0, [])]
/-- DictProof.as (II)I -/
def tb_11 : List Op := [(.aload_n 0, (0, 1), [], 0, []),
  (.iload_n 1, (1, 1), [], 0, []),
  (.invokevirtual 148, (2, 3), [16, 2, 8, 0, 0, 0, 2], 0, []),
  (.nop, (5, 0), [3, 4], 0, []),
  (.ifCond .ne 6, (5, 3), [8], 0, []),
  (.nop, (8, 0), [0, 1, 2, 3, 4], 0, []),
  (.bipush (-101), (8, 2), [], 0, []),
  (.ireturn, (10, 1), [0], 0, []),
  (.nop, (11, 0), [3, 4], 0, []),
  (.iload_n 2, (11, 1), [], 0, []),
  (.invokestatic 186, (12, 3), [18, 1, 0, 0, 0, 0, 1], 0, []),
  (.nop, (15, 0), [3, 4], 0, []),
  (.ifCond .ne 6, (15, 3), [16], 0, []),
  (.nop, (18, 0), [0, 1, 2, 3, 4], 0, []),
  (.bipush (-102), (18, 2), [], 0, []),
  (.ireturn, (20, 1), [0], 0, []),
  (.nop, (21, 0), [3, 4], 0, []),
  (.aload_n 0, (21, 1), [], 0, []),
  (.getfield 47, (22, 3), [8, 7, 4], 0, []),
  (.getfield 155, (25, 3), [1, 0, 4], 0, []),
  (.iload_n 1, (28, 1), [], 0, []),
  (.iaload, (29, 1), [], 0, []),
  (.istore_n 3, (30, 1), [], 0, []),
  (.iload_n 2, (31, 1), [], 0, []),
  (.ifCond .eq 18, (32, 3), [37], 0, []),
  (.nop, (35, 0), [0, 4], 0, []),
  (.iload_n 2, (35, 1), [], 0, []),
  (.iload_n 3, (36, 1), [], 0, []),
  (.if_icmp .eq 13, (37, 3), [37], 0, []),
  (.nop, (40, 0), [0, 4], 0, []),
  (.iload_n 2, (40, 1), [], 0, []),
  (.iconst 3, (41, 1), [], 0, []),
  (.if_icmp .ne 12, (42, 3), [40], 0, []),
  (.nop, (45, 0), [0, 2, 4], 0, []),
  (.iload_n 3, (45, 1), [], 0, []),
  (.iconst 4, (46, 1), [], 0, []),
  (.if_icmp .ne 7, (47, 3), [40], 0, []),
  (.nop, (50, 0), [0, 2, 3, 4], 0, []),
  (.iconst 1, (50, 1), [], 0, []),
  (.goto 4, (51, 3), [42], 0, []),
  (.nop, (54, 0), [0, 2, 3, 4], 0, []),
  (.iconst 0, (54, 1), [], 0, []),
  (.nop, (55, 0), [0, 2, 3, 4], 0, []),
  (.istore 4, (55, 2), [], 0, []),
  (.iload 4, (57, 2), [], 0, []),
  (.ifCond .eq 7, (59, 3), [49], 0, []),
  (.nop, (62, 0), [0, 2, 3, 4], 0, []),
  (.iload_n 1, (62, 1), [], 0, []),
  (.goto 4, (63, 3), [51], 0, []),
  (.nop, (66, 0), [0, 1, 2, 3, 4], 0, []),
  (.iconst (-1), (66, 1), [], 0, []),
  (.nop, (67, 0), [0, 1, 2, 3, 4], 0, []),
  (.ireturn, (67, 1), [0], 0, [])]
/-- DictProof.change (II)I -/
def tb_12 : List Op := [(.aload_n 0, (0, 1), [], 0, []),
  (.iload_n 1, (1, 1), [], 0, []),
  (.invokevirtual 148, (2, 3), [16, 2, 8, 0, 0, 0, 2], 0, []),
  (.nop, (5, 0), [3], 0, []),
  (.ifCond .ne 6, (5, 3), [8], 0, []),
  (.nop, (8, 0), [0, 1, 2, 3], 0, []),
  (.bipush (-101), (8, 2), [], 0, []),
  (.ireturn, (10, 1), [0], 0, []),
  (.nop, (11, 0), [3], 0, []),
  (.iload_n 2, (11, 1), [], 0, []),
  (.invokestatic 186, (12, 3), [18, 1, 0, 0, 0, 0, 1], 0, []),
  (.nop, (15, 0), [3], 0, []),
  (.ifCond .ne 6, (15, 3), [16], 0, []),
  (.nop, (18, 0), [0, 1, 2, 3], 0, []),
  (.bipush (-102), (18, 2), [], 0, []),
  (.ireturn, (20, 1), [0], 0, []),
  (.nop, (21, 0), [3], 0, []),
  (.aload_n 0, (21, 1), [], 0, []),
  (.getfield 47, (22, 3), [8, 7, 4], 0, []),
  (.getfield 155, (25, 3), [1, 0, 4], 0, []),
  (.iload_n 1, (28, 1), [], 0, []),
  (.iaload, (29, 1), [], 0, []),
  (.istore_n 3, (30, 1), [], 0, []),
  (.aload_n 0, (31, 1), [], 0, []),
  (.getfield 47, (32, 3), [8, 7, 4], 0, []),
  (.getfield 155, (35, 3), [1, 0, 4], 0, []),
  (.iload_n 1, (38, 1), [], 0, []),
  (.iload_n 2, (39, 1), [], 0, []),
  (.iastore, (40, 1), [], 0, []),
  (.iload_n 3, (41, 1), [], 0, []),
  (.ireturn, (42, 1), [0], 0, [])]
/-- DictProof.pair (III)I -/
def tb_13 : List Op := [(.aload_n 0, (0, 1), [], 0, []),
  (.iload_n 1, (1, 1), [], 0, []),
  (.invokevirtual 148, (2, 3), [16, 2, 8, 0, 0, 0, 2], 0, []),
  (.nop, (5, 0), [], 0, []),
  (.ifCond .eq 16, (5, 3), [15], 0, []),
  (.nop, (8, 0), [], 0, []),
  (.aload_n 0, (8, 1), [], 0, []),
  (.iload_n 2, (9, 1), [], 0, []),
  (.invokevirtual 148, (10, 3), [16, 2, 8, 0, 0, 0, 2], 0, []),
  (.nop, (13, 0), [], 0, []),
  (.ifCond .eq 8, (13, 3), [15], 0, []),
  (.nop, (16, 0), [], 0, []),
  (.iload_n 1, (16, 1), [], 0, []),
  (.iload_n 2, (17, 1), [], 0, []),
  (.if_icmp .ne 6, (18, 3), [18], 0, []),
  (.nop, (21, 0), [0, 1, 2, 3], 0, []),
  (.bipush (-101), (21, 2), [], 0, []),
  (.ireturn, (23, 1), [0], 0, []),
  (.nop, (24, 0), [], 0, []),
  (.iload_n 3, (24, 1), [], 0, []),
  (.tableswitch 60 0 2 #[27, 37, 47], (25, 27), [49], 0, [(0, 21), (1, 30), (2, 39)]),
  (.nop, (52, 0), [3], 0, []),
  (.aload_n 0, (52, 1), [], 0, []),
  (.iload_n 1, (53, 1), [], 0, []),
  (.iload_n 2, (54, 1), [], 0, []),
  (.invokevirtual 189, (55, 3), [20, 3, 8, 0, 0, 0, 3], 0, []),
  (.nop, (58, 0), [0, 1, 2, 3], 0, []),
  (.invokestatic 193, (58, 3), [19, 1, 0, 0, 0, 0, 1], 0, []),
  (.nop, (61, 0), [0, 1, 2, 3], 0, []),
  (.ireturn, (61, 1), [0], 0, []),
  (.nop, (62, 0), [3], 0, []),
  (.aload_n 0, (62, 1), [], 0, []),
  (.iload_n 1, (63, 1), [], 0, []),
  (.iload_n 2, (64, 1), [], 0, []),
  (.invokevirtual 197, (65, 3), [21, 3, 8, 0, 0, 0, 4], 0, []),
  (.nop, (68, 0), [0, 1, 2, 3], 0, []),
  (.invokestatic 193, (68, 3), [19, 1, 0, 0, 0, 0, 1], 0, []),
  (.nop, (71, 0), [0, 1, 2, 3], 0, []),
  (.ireturn, (71, 1), [0], 0, []),
  (.nop, (72, 0), [3], 0, []),
  (.aload_n 0, (72, 1), [], 0, []),
  (.getfield 20, (73, 3), [8, 2, 3], 0, []),
  (.iload_n 1, (76, 1), [], 0, []),
  (.iload_n 2, (77, 1), [], 0, []),
  (.invokevirtual 200, (78, 3), [149, 3, 0, 0, 0, 0, 3], 0, []),
  (.nop, (81, 0), [0, 1, 2, 3], 0, []),
  (.invokestatic 193, (81, 3), [19, 1, 0, 0, 0, 0, 1], 0, []),
  (.nop, (84, 0), [0, 1, 2, 3], 0, []),
  (.ireturn, (84, 1), [0], 0, []),
  (.nop, (85, 0), [0, 1, 2, 3], 0, []),
  (.bipush (-102), (85, 2), [], 0, []),
  (.ireturn, (87, 1), [0], 0, [])]
/-- DictProof.fits (II)I -/
def tb_14 : List Op := [(.aload_n 0, (0, 1), [], 0, []),
  (.iload_n 1, (1, 1), [], 0, []),
  (.invokevirtual 148, (2, 3), [16, 2, 8, 0, 0, 0, 2], 0, []),
  (.nop, (5, 0), [], 0, []),
  (.ifCond .eq 11, (5, 3), [11], 0, []),
  (.nop, (8, 0), [], 0, []),
  (.aload_n 0, (8, 1), [], 0, []),
  (.iload_n 2, (9, 1), [], 0, []),
  (.invokevirtual 203, (10, 3), [17, 2, 8, 0, 0, 0, 2], 0, []),
  (.nop, (13, 0), [], 0, []),
  (.ifCond .ne 6, (13, 3), [14], 0, []),
  (.nop, (16, 0), [0, 1, 2], 0, []),
  (.bipush (-101), (16, 2), [], 0, []),
  (.ireturn, (18, 1), [0], 0, []),
  (.nop, (19, 0), [], 0, []),
  (.aload_n 0, (19, 1), [], 0, []),
  (.getfield 20, (20, 3), [8, 2, 3], 0, []),
  (.getfield 151, (23, 3), [0, 5, 4], 0, []),
  (.iload_n 1, (26, 1), [], 0, []),
  (.aaload, (27, 1), [], 0, []),
  (.getfield 163, (28, 3), [6, 2, 4], 0, []),
  (.aload_n 0, (31, 1), [], 0, []),
  (.getfield 47, (32, 3), [8, 7, 4], 0, []),
  (.getfield 101, (35, 3), [1, 1, 4], 0, []),
  (.iload_n 2, (38, 1), [], 0, []),
  (.aaload, (39, 1), [], 0, []),
  (.iconst 0, (40, 1), [], 0, []),
  (.aload_n 0, (41, 1), [], 0, []),
  (.getfield 65, (42, 3), [8, 11, 4], 0, []),
  (.invokevirtual 206, (45, 3), [218, 4, 7, 0, 0, 0, 7], 0, []),
  (.nop, (48, 0), [0, 1, 2], 0, []),
  (.invokestatic 193, (48, 3), [19, 1, 0, 0, 0, 0, 1], 0, []),
  (.nop, (51, 0), [0, 1, 2], 0, []),
  (.ireturn, (51, 1), [0], 0, [])]
/-- DictProof.isClass (I)Z -/
def tb_15 : List Op := [(.iload_n 1, (0, 1), [], 0, []),
  (.ifCond .lt 18, (1, 3), [11], 0, []),
  (.nop, (4, 0), [], 0, []),
  (.iload_n 1, (4, 1), [], 0, []),
  (.aload_n 0, (5, 1), [], 0, []),
  (.getfield 20, (6, 3), [8, 2, 3], 0, []),
  (.getfield 210, (9, 3), [0, 0, 0], 0, []),
  (.if_icmp .ge 7, (12, 3), [11], 0, []),
  (.nop, (15, 0), [0, 1], 0, []),
  (.iconst 1, (15, 1), [], 0, []),
  (.goto 4, (16, 3), [13], 0, []),
  (.nop, (19, 0), [0, 1], 0, []),
  (.iconst 0, (19, 1), [], 0, []),
  (.nop, (20, 0), [0, 1], 0, []),
  (.ireturn, (20, 1), [1], 0, [])]
/-- DictProof.isInstance (I)Z -/
def tb_16 : List Op := [(.iload_n 1, (0, 1), [], 0, []),
  (.ifCond .lt 18, (1, 3), [11], 0, []),
  (.nop, (4, 0), [], 0, []),
  (.iload_n 1, (4, 1), [], 0, []),
  (.aload_n 0, (5, 1), [], 0, []),
  (.getfield 20, (6, 3), [8, 2, 3], 0, []),
  (.getfield 95, (9, 3), [0, 4, 0], 0, []),
  (.if_icmp .ge 7, (12, 3), [11], 0, []),
  (.nop, (15, 0), [0, 1], 0, []),
  (.iconst 1, (15, 1), [], 0, []),
  (.goto 4, (16, 3), [13], 0, []),
  (.nop, (19, 0), [0, 1], 0, []),
  (.iconst 0, (19, 1), [], 0, []),
  (.nop, (20, 0), [0, 1], 0, []),
  (.ireturn, (20, 1), [1], 0, [])]
/-- DictProof.isFilled (I)Z -/
def tb_17 : List Op := [(.iload_n 1, (0, 1), [], 0, []),
  (.ifCond .lt 27, (1, 3), [17], 0, []),
  (.nop, (4, 0), [], 0, []),
  (.iload_n 1, (4, 1), [], 0, []),
  (.iconst 4, (5, 1), [], 0, []),
  (.if_icmp .ge 22, (6, 3), [17], 0, []),
  (.nop, (9, 0), [], 0, []),
  (.aload_n 0, (9, 1), [], 0, []),
  (.getfield 47, (10, 3), [8, 7, 4], 0, []),
  (.getfield 101, (13, 3), [1, 1, 4], 0, []),
  (.iload_n 1, (16, 1), [], 0, []),
  (.aaload, (17, 1), [], 0, []),
  (.getfield 118, (18, 3), [7, 3, 0], 0, []),
  (.ifCond .le 7, (21, 3), [17], 0, []),
  (.nop, (24, 0), [0, 1], 0, []),
  (.iconst 1, (24, 1), [], 0, []),
  (.goto 4, (25, 3), [19], 0, []),
  (.nop, (28, 0), [0, 1], 0, []),
  (.iconst 0, (28, 1), [], 0, []),
  (.nop, (29, 0), [0, 1], 0, []),
  (.ireturn, (29, 1), [1], 0, [])]
/-- DictProof.isKind (I)Z -/
def tb_18 : List Op := [(.iload_n 0, (0, 1), [], 0, []),
  (.ifCond .lt 12, (1, 3), [9], 0, []),
  (.nop, (4, 0), [], 0, []),
  (.iload_n 0, (4, 1), [], 0, []),
  (.iconst 5, (5, 1), [], 0, []),
  (.if_icmp .ge 7, (6, 3), [9], 0, []),
  (.nop, (9, 0), [0], 0, []),
  (.iconst 1, (9, 1), [], 0, []),
  (.goto 4, (10, 3), [11], 0, []),
  (.nop, (13, 0), [0], 0, []),
  (.iconst 0, (13, 1), [], 0, []),
  (.nop, (14, 0), [0], 0, []),
  (.ireturn, (14, 1), [1], 0, [])]
/-- DictProof.asNumber (Z)I -/
def tb_19 : List Op := [(.iload_n 0, (0, 1), [], 0, []),
  (.ifCond .eq 7, (1, 3), [5], 0, []),
  (.nop, (4, 0), [0], 0, []),
  (.iconst 1, (4, 1), [], 0, []),
  (.goto 4, (5, 3), [7], 0, []),
  (.nop, (8, 0), [0], 0, []),
  (.iconst 0, (8, 1), [], 0, []),
  (.nop, (9, 0), [0], 0, []),
  (.ireturn, (9, 1), [0], 0, [])]
/-- DictProof.overlap (II)Z -/
def tb_20 : List Op := [(.aload_n 0, (0, 1), [], 0, []),
  (.getfield 20, (1, 3), [8, 2, 3], 0, []),
  (.getfield 151, (4, 3), [0, 5, 4], 0, []),
  (.iload_n 1, (7, 1), [], 0, []),
  (.aaload, (8, 1), [], 0, []),
  (.getfield 158, (9, 3), [6, 1, 0], 0, []),
  (.aload_n 0, (12, 1), [], 0, []),
  (.getfield 20, (13, 3), [8, 2, 3], 0, []),
  (.getfield 151, (16, 3), [0, 5, 4], 0, []),
  (.iload_n 2, (19, 1), [], 0, []),
  (.aaload, (20, 1), [], 0, []),
  (.getfield 158, (21, 3), [6, 1, 0], 0, []),
  (.if_icmp .ne 45, (24, 3), [40], 0, []),
  (.nop, (27, 0), [], 0, []),
  (.aload_n 0, (27, 1), [], 0, []),
  (.getfield 47, (28, 3), [8, 7, 4], 0, []),
  (.getfield 155, (31, 3), [1, 0, 4], 0, []),
  (.iload_n 1, (34, 1), [], 0, []),
  (.iaload, (35, 1), [], 0, []),
  (.iconst 2, (36, 1), [], 0, []),
  (.if_icmp .eq 32, (37, 3), [40], 0, []),
  (.nop, (40, 0), [], 0, []),
  (.aload_n 0, (40, 1), [], 0, []),
  (.getfield 47, (41, 3), [8, 7, 4], 0, []),
  (.getfield 155, (44, 3), [1, 0, 4], 0, []),
  (.iload_n 2, (47, 1), [], 0, []),
  (.iaload, (48, 1), [], 0, []),
  (.iconst 2, (49, 1), [], 0, []),
  (.if_icmp .eq 19, (50, 3), [40], 0, []),
  (.nop, (53, 0), [], 0, []),
  (.aload_n 0, (53, 1), [], 0, []),
  (.getfield 20, (54, 3), [8, 2, 3], 0, []),
  (.iload_n 1, (57, 1), [], 0, []),
  (.iload_n 2, (58, 1), [], 0, []),
  (.invokevirtual 213, (59, 3), [150, 3, 0, 0, 0, 0, 3], 0, []),
  (.nop, (62, 0), [0, 1, 2], 0, []),
  (.ifCond .eq 7, (62, 3), [40], 0, []),
  (.nop, (65, 0), [0, 1, 2], 0, []),
  (.iconst 1, (65, 1), [], 0, []),
  (.goto 4, (66, 3), [42], 0, []),
  (.nop, (69, 0), [0, 1, 2], 0, []),
  (.iconst 0, (69, 1), [], 0, []),
  (.nop, (70, 0), [0, 1, 2], 0, []),
  (.ireturn, (70, 1), [1], 0, [])]
/-- DictProof.clash (II)Z -/
def tb_21 : List Op := [(.aload_n 0, (0, 1), [], 0, []),
  (.iload_n 1, (1, 1), [], 0, []),
  (.iload_n 2, (2, 1), [], 0, []),
  (.invokevirtual 189, (3, 3), [20, 3, 8, 0, 0, 0, 3], 0, []),
  (.nop, (6, 0), [3], 0, []),
  (.ifCond .ne 5, (6, 3), [9], 0, []),
  (.nop, (9, 0), [0, 1, 2, 3], 0, []),
  (.iconst 0, (9, 1), [], 0, []),
  (.ireturn, (10, 1), [1], 0, []),
  (.nop, (11, 0), [3], 0, []),
  (.aload_n 0, (11, 1), [], 0, []),
  (.getfield 20, (12, 3), [8, 2, 3], 0, []),
  (.iload_n 1, (15, 1), [], 0, []),
  (.iload_n 2, (16, 1), [], 0, []),
  (.invokevirtual 200, (17, 3), [149, 3, 0, 0, 0, 0, 3], 0, []),
  (.nop, (20, 0), [3], 0, []),
  (.ifCond .ne 15, (20, 3), [25], 0, []),
  (.nop, (23, 0), [3], 0, []),
  (.aload_n 0, (23, 1), [], 0, []),
  (.getfield 20, (24, 3), [8, 2, 3], 0, []),
  (.iload_n 2, (27, 1), [], 0, []),
  (.iload_n 1, (28, 1), [], 0, []),
  (.invokevirtual 200, (29, 3), [149, 3, 0, 0, 0, 0, 3], 0, []),
  (.nop, (32, 0), [3], 0, []),
  (.ifCond .eq 7, (32, 3), [28], 0, []),
  (.nop, (35, 0), [3], 0, []),
  (.iconst 1, (35, 1), [], 0, []),
  (.goto 4, (36, 3), [30], 0, []),
  (.nop, (39, 0), [3], 0, []),
  (.iconst 0, (39, 1), [], 0, []),
  (.nop, (40, 0), [3], 0, []),
  (.istore_n 3, (40, 1), [], 0, []),
  (.iload_n 3, (41, 1), [], 0, []),
  (.ifCond .eq 29, (42, 3), [50], 0, []),
  (.nop, (45, 0), [3], 0, []),
  (.aload_n 0, (45, 1), [], 0, []),
  (.getfield 47, (46, 3), [8, 7, 4], 0, []),
  (.getfield 155, (49, 3), [1, 0, 4], 0, []),
  (.iload_n 1, (52, 1), [], 0, []),
  (.iaload, (53, 1), [], 0, []),
  (.iconst 4, (54, 1), [], 0, []),
  (.if_icmp .eq 16, (55, 3), [50], 0, []),
  (.nop, (58, 0), [1, 3], 0, []),
  (.aload_n 0, (58, 1), [], 0, []),
  (.getfield 47, (59, 3), [8, 7, 4], 0, []),
  (.getfield 155, (62, 3), [1, 0, 4], 0, []),
  (.iload_n 2, (65, 1), [], 0, []),
  (.iaload, (66, 1), [], 0, []),
  (.iconst 4, (67, 1), [], 0, []),
  (.if_icmp .ne 7, (68, 3), [53], 0, []),
  (.nop, (71, 0), [0, 1, 2, 3], 0, []),
  (.iconst 1, (71, 1), [], 0, []),
  (.goto 4, (72, 3), [55], 0, []),
  (.nop, (75, 0), [0, 1, 2, 3], 0, []),
  (.iconst 0, (75, 1), [], 0, []),
  (.nop, (76, 0), [0, 1, 2, 3], 0, []),
  (.ireturn, (76, 1), [1], 0, [])]
/-- DictProof.askAmong (I)I -/
def tb_22 : List Op := [(.iload_n 0, (0, 1), [], 0, []),
  (.ifCond .ne 5, (1, 3), [5], 0, []),
  (.nop, (4, 0), [0, 1, 2, 3, 4, 5, 6], 0, []),
  (.iconst (-1), (4, 1), [], 0, []),
  (.ireturn, (5, 1), [0], 0, []),
  (.nop, (6, 0), [1, 2, 3, 4, 5, 6], 0, []),
  (.iconst (-1), (6, 1), [], 0, []),
  (.istore_n 1, (7, 1), [], 0, []),
  (.bipush 6, (8, 2), [], 0, []),
  (.istore_n 2, (10, 1), [], 0, []),
  (.iconst 0, (11, 1), [], 0, []),
  (.istore_n 3, (12, 1), [], 0, []),
  (.nop, (13, 0), [4, 5, 6], 0, []),
  (.iload_n 3, (13, 1), [], 0, []),
  (.getstatic 216, (14, 3), [1], 0, []),
  (.arraylength, (17, 1), [], 0, []),
  (.if_icmp .ge 55, (18, 3), [52], 0, []),
  (.nop, (21, 0), [4, 5, 6], 0, []),
  (.iload_n 0, (21, 1), [], 0, []),
  (.getstatic 216, (22, 3), [1], 0, []),
  (.iload_n 3, (25, 1), [], 0, []),
  (.iaload, (26, 1), [], 0, []),
  (.iand, (27, 1), [], 0, []),
  (.invokestatic 143, (28, 3), [221, 1, 0, 0, 0, 0, 1], 0, []),
  (.nop, (31, 0), [4, 5, 6], 0, []),
  (.istore 4, (31, 2), [], 0, []),
  (.iload_n 0, (33, 1), [], 0, []),
  (.getstatic 216, (34, 3), [1], 0, []),
  (.iload_n 3, (37, 1), [], 0, []),
  (.iaload, (38, 1), [], 0, []),
  (.iconst (-1), (39, 1), [], 0, []),
  (.ixor, (40, 1), [], 0, []),
  (.iand, (41, 1), [], 0, []),
  (.invokestatic 143, (42, 3), [221, 1, 0, 0, 0, 0, 1], 0, []),
  (.nop, (45, 0), [5, 6], 0, []),
  (.istore 5, (45, 2), [], 0, []),
  (.iload 4, (47, 2), [], 0, []),
  (.iload 5, (49, 2), [], 0, []),
  (.invokestatic 219, (51, 3), [223, 2, 0, 0, 0, 0, 2], 0, []),
  (.nop, (54, 0), [4, 5, 6], 0, []),
  (.istore 6, (54, 2), [], 0, []),
  (.iload 6, (56, 2), [], 0, []),
  (.iload_n 2, (58, 1), [], 0, []),
  (.if_icmp .ge 8, (59, 3), [49], 0, []),
  (.nop, (62, 0), [1, 2, 4, 5], 0, []),
  (.iload 6, (62, 2), [], 0, []),
  (.istore_n 2, (64, 1), [], 0, []),
  (.iload_n 3, (65, 1), [], 0, []),
  (.istore_n 1, (66, 1), [], 0, []),
  (.nop, (67, 0), [4, 5, 6], 0, []),
  (.iinc 3 1, (67, 3), [], 0, []),
  (.goto (-57), (70, 3), [12], 0, []),
  (.nop, (73, 0), [0, 2, 3, 4, 5, 6], 0, []),
  (.iload_n 1, (73, 1), [], 0, []),
  (.ireturn, (74, 1), [0], 0, [])]
/-- DictProof.lackedAsWorked (LDictProof$Rule;)I -/
def tb_23 : List Op := [(.iconst 0, (0, 1), [], 0, []),
  (.istore_n 2, (1, 1), [], 0, []),
  (.iconst 0, (2, 1), [], 0, []),
  (.istore_n 3, (3, 1), [], 0, []),
  (.nop, (4, 0), [4, 5], 0, []),
  (.iload_n 3, (4, 1), [], 0, []),
  (.aload_n 1, (5, 1), [], 0, []),
  (.getfield 158, (6, 3), [6, 1, 0], 0, []),
  (.if_icmp .ge 81, (9, 3), [61], 0, []),
  (.nop, (12, 0), [4, 5], 0, []),
  (.aload_n 0, (12, 1), [], 0, []),
  (.getfield 61, (13, 3), [8, 10, 4], 0, []),
  (.iload_n 3, (16, 1), [], 0, []),
  (.invokevirtual 225, (17, 3), [164, 2, 2, 0, 0, 0, 2], 0, []),
  (.nop, (20, 0), [4, 5], 0, []),
  (.astore 4, (20, 2), [], 0, []),
  (.aload 4, (22, 2), [], 0, []),
  (.getfield 229, (24, 3), [3, 0, 0], 0, []),
  (.iconst 1, (27, 1), [], 0, []),
  (.if_icmp .ne 22, (28, 3), [32], 0, []),
  (.nop, (31, 0), [5], 0, []),
  (.aload 4, (31, 2), [], 0, []),
  (.getfield 234, (33, 3), [3, 4, 0], 0, []),
  (.aload_n 1, (36, 1), [], 0, []),
  (.getfield 237, (37, 3), [6, 6, 0], 0, []),
  (.iconst (-1), (40, 1), [], 0, []),
  (.ixor, (41, 1), [], 0, []),
  (.iand, (42, 1), [], 0, []),
  (.ifCond .ne 7, (43, 3), [32], 0, []),
  (.nop, (46, 0), [4, 5], 0, []),
  (.iconst 1, (46, 1), [], 0, []),
  (.goto 4, (47, 3), [34], 0, []),
  (.nop, (50, 0), [4, 5], 0, []),
  (.iconst 0, (50, 1), [], 0, []),
  (.nop, (51, 0), [4, 5], 0, []),
  (.istore 5, (51, 2), [], 0, []),
  (.aload_n 0, (53, 1), [], 0, []),
  (.getfield 20, (54, 3), [8, 2, 3], 0, []),
  (.getfield 134, (57, 3), [0, 1, 4], 0, []),
  (.aload_n 1, (60, 1), [], 0, []),
  (.getfield 158, (61, 3), [6, 1, 0], 0, []),
  (.iaload, (64, 1), [], 0, []),
  (.iload_n 3, (65, 1), [], 0, []),
  (.ishr, (66, 1), [], 0, []),
  (.iconst 1, (67, 1), [], 0, []),
  (.iand, (68, 1), [], 0, []),
  (.iconst 1, (69, 1), [], 0, []),
  (.if_icmp .ne 14, (70, 3), [58], 0, []),
  (.nop, (73, 0), [4], 0, []),
  (.iload 5, (73, 2), [], 0, []),
  (.ifCond .ne 9, (75, 3), [58], 0, []),
  (.nop, (78, 0), [4, 5], 0, []),
  (.iload_n 2, (78, 1), [], 0, []),
  (.iconst 1, (79, 1), [], 0, []),
  (.iload_n 3, (80, 1), [], 0, []),
  (.ishl, (81, 1), [], 0, []),
  (.ior, (82, 1), [], 0, []),
  (.istore_n 2, (83, 1), [], 0, []),
  (.nop, (84, 0), [4, 5], 0, []),
  (.iinc 3 1, (84, 3), [], 0, []),
  (.goto (-83), (87, 3), [4], 0, []),
  (.nop, (90, 0), [0, 1, 3, 4, 5], 0, []),
  (.iload_n 2, (90, 1), [], 0, []),
  (.ireturn, (91, 1), [0], 0, [])]
/-- DictProof.goal (III)I -/
def tb_24 : List Op := [(.aload_n 0, (0, 1), [], 0, []),
  (.iload_n 1, (1, 1), [], 0, []),
  (.invokevirtual 131, (2, 3), [15, 2, 8, 0, 0, 0, 2], 0, []),
  (.nop, (5, 0), [], 0, []),
  (.ifCond .eq 11, (5, 3), [11], 0, []),
  (.nop, (8, 0), [], 0, []),
  (.aload_n 0, (8, 1), [], 0, []),
  (.iload_n 2, (9, 1), [], 0, []),
  (.invokevirtual 203, (10, 3), [17, 2, 8, 0, 0, 0, 2], 0, []),
  (.nop, (13, 0), [], 0, []),
  (.ifCond .ne 6, (13, 3), [14], 0, []),
  (.nop, (16, 0), [0, 1, 2, 3], 0, []),
  (.bipush (-101), (16, 2), [], 0, []),
  (.ireturn, (18, 1), [0], 0, []),
  (.nop, (19, 0), [], 0, []),
  (.iload_n 3, (19, 1), [], 0, []),
  (.ifCond .lt 9, (20, 3), [21], 0, []),
  (.nop, (23, 0), [], 0, []),
  (.iload_n 3, (23, 1), [], 0, []),
  (.bipush 6, (24, 2), [], 0, []),
  (.if_icmp .le 6, (26, 3), [24], 0, []),
  (.nop, (29, 0), [0, 1, 2, 3], 0, []),
  (.bipush (-102), (29, 2), [], 0, []),
  (.ireturn, (31, 1), [0], 0, []),
  (.nop, (32, 0), [], 0, []),
  (.aload_n 0, (32, 1), [], 0, []),
  (.aload_n 0, (33, 1), [], 0, []),
  (.iload_n 1, (34, 1), [], 0, []),
  (.iload_n 2, (35, 1), [], 0, []),
  (.invokevirtual 240, (36, 3), [27, 3, 8, 0, 0, 0, 3], 0, []),
  (.nop, (39, 0), [0, 1, 2], 0, []),
  (.iload_n 3, (39, 1), [], 0, []),
  (.invokevirtual 244, (40, 3), [28, 3, 8, 0, 0, 0, 3], 0, []),
  (.nop, (43, 0), [0, 1, 2, 3], 0, []),
  (.ireturn, (43, 1), [0], 0, [])]
/-- DictProof.entry (III)I -/
def tb_25 : List Op := [(.aload_n 0, (0, 1), [], 0, []),
  (.iload_n 1, (1, 1), [], 0, []),
  (.invokevirtual 131, (2, 3), [15, 2, 8, 0, 0, 0, 2], 0, []),
  (.nop, (5, 0), [4], 0, []),
  (.ifCond .eq 11, (5, 3), [11], 0, []),
  (.nop, (8, 0), [4], 0, []),
  (.aload_n 0, (8, 1), [], 0, []),
  (.iload_n 2, (9, 1), [], 0, []),
  (.invokevirtual 203, (10, 3), [17, 2, 8, 0, 0, 0, 2], 0, []),
  (.nop, (13, 0), [4], 0, []),
  (.ifCond .ne 6, (13, 3), [14], 0, []),
  (.nop, (16, 0), [0, 1, 2, 3, 4], 0, []),
  (.bipush (-101), (16, 2), [], 0, []),
  (.ireturn, (18, 1), [0], 0, []),
  (.nop, (19, 0), [4], 0, []),
  (.aload_n 0, (19, 1), [], 0, []),
  (.iload_n 1, (20, 1), [], 0, []),
  (.iload_n 2, (21, 1), [], 0, []),
  (.invokevirtual 240, (22, 3), [27, 3, 8, 0, 0, 0, 3], 0, []),
  (.nop, (25, 0), [0, 1, 2, 4], 0, []),
  (.astore 4, (25, 2), [], 0, []),
  (.aload 4, (27, 2), [], 0, []),
  (.getfield 229, (29, 3), [3, 0, 0], 0, []),
  (.iconst 1, (32, 1), [], 0, []),
  (.if_icmp .ne 16, (33, 3), [33], 0, []),
  (.nop, (36, 0), [0, 1, 2], 0, []),
  (.iload_n 3, (36, 1), [], 0, []),
  (.ifCond .lt 12, (37, 3), [33], 0, []),
  (.nop, (40, 0), [0, 1, 2], 0, []),
  (.iload_n 3, (40, 1), [], 0, []),
  (.aload 4, (41, 2), [], 0, []),
  (.getfield 248, (43, 3), [3, 1, 0], 0, []),
  (.if_icmp .lt 6, (46, 3), [36], 0, []),
  (.nop, (49, 0), [0, 1, 2, 3, 4], 0, []),
  (.bipush (-101), (49, 2), [], 0, []),
  (.ireturn, (51, 1), [0], 0, []),
  (.nop, (52, 0), [0, 1, 2], 0, []),
  (.aload 4, (52, 2), [], 0, []),
  (.iload_n 3, (54, 1), [], 0, []),
  (.invokevirtual 251, (55, 3), [176, 2, 3, 0, 0, 0, 7], 0, []),
  (.nop, (58, 0), [0, 1, 2, 3, 4], 0, []),
  (.ireturn, (58, 1), [0], 0, [])]
/-- DictProof.need (IIII)I -/
def tb_26 : List Op := [(.aload_n 0, (0, 1), [], 0, []),
  (.iload_n 1, (1, 1), [], 0, []),
  (.invokevirtual 131, (2, 3), [15, 2, 8, 0, 0, 0, 2], 0, []),
  (.nop, (5, 0), [5, 6], 0, []),
  (.ifCond .eq 11, (5, 3), [11], 0, []),
  (.nop, (8, 0), [5, 6], 0, []),
  (.aload_n 0, (8, 1), [], 0, []),
  (.iload_n 2, (9, 1), [], 0, []),
  (.invokevirtual 203, (10, 3), [17, 2, 8, 0, 0, 0, 2], 0, []),
  (.nop, (13, 0), [5, 6], 0, []),
  (.ifCond .ne 6, (13, 3), [14], 0, []),
  (.nop, (16, 0), [0, 1, 2, 3, 4, 5, 6], 0, []),
  (.bipush (-101), (16, 2), [], 0, []),
  (.ireturn, (18, 1), [0], 0, []),
  (.nop, (19, 0), [5, 6], 0, []),
  (.aload_n 0, (19, 1), [], 0, []),
  (.iload_n 3, (20, 1), [], 0, []),
  (.invokevirtual 131, (21, 3), [15, 2, 8, 0, 0, 0, 2], 0, []),
  (.nop, (24, 0), [5, 6], 0, []),
  (.ifCond .eq 14, (24, 3), [27], 0, []),
  (.nop, (27, 0), [5, 6], 0, []),
  (.iload 4, (27, 2), [], 0, []),
  (.ifCond .lt 9, (29, 3), [27], 0, []),
  (.nop, (32, 0), [5, 6], 0, []),
  (.iload 4, (32, 2), [], 0, []),
  (.iconst 2, (34, 1), [], 0, []),
  (.if_icmp .lt 6, (35, 3), [30], 0, []),
  (.nop, (38, 0), [0, 1, 2, 3, 4, 5, 6], 0, []),
  (.bipush (-102), (38, 2), [], 0, []),
  (.ireturn, (40, 1), [0], 0, []),
  (.nop, (41, 0), [5, 6], 0, []),
  (.aload_n 0, (41, 1), [], 0, []),
  (.iload_n 1, (42, 1), [], 0, []),
  (.iload_n 2, (43, 1), [], 0, []),
  (.invokevirtual 240, (44, 3), [27, 3, 8, 0, 0, 0, 3], 0, []),
  (.nop, (47, 0), [1, 2, 5, 6], 0, []),
  (.getfield 234, (47, 3), [3, 4, 0], 0, []),
  (.istore 5, (50, 2), [], 0, []),
  (.iload_n 3, (52, 1), [], 0, []),
  (.iload 4, (53, 2), [], 0, []),
  (.invokestatic 254, (55, 3), [29, 2, 0, 0, 0, 0, 2], 0, []),
  (.nop, (58, 0), [1, 2, 3, 4, 6], 0, []),
  (.istore 6, (58, 2), [], 0, []),
  (.iload 5, (60, 2), [], 0, []),
  (.iload 6, (62, 2), [], 0, []),
  (.iand, (64, 1), [], 0, []),
  (.ifCond .ne 5, (65, 3), [50], 0, []),
  (.nop, (68, 0), [0, 1, 2, 3, 4, 5, 6], 0, []),
  (.iconst 0, (68, 1), [], 0, []),
  (.ireturn, (69, 1), [0], 0, []),
  (.nop, (70, 0), [1, 2, 3, 4], 0, []),
  (.aload_n 0, (70, 1), [], 0, []),
  (.getfield 20, (71, 3), [8, 2, 3], 0, []),
  (.iload 5, (74, 2), [], 0, []),
  (.invokevirtual 257, (76, 3), [152, 2, 0, 0, 0, 0, 5], 0, []),
  (.nop, (79, 0), [0, 1, 2, 3, 4, 5], 0, []),
  (.iload 6, (79, 2), [], 0, []),
  (.iand, (81, 1), [], 0, []),
  (.ifCond .eq 7, (82, 3), [62], 0, []),
  (.nop, (85, 0), [0, 1, 2, 3, 4, 5, 6], 0, []),
  (.iconst 2, (85, 1), [], 0, []),
  (.goto 4, (86, 3), [64], 0, []),
  (.nop, (89, 0), [0, 1, 2, 3, 4, 5, 6], 0, []),
  (.iconst 1, (89, 1), [], 0, []),
  (.nop, (90, 0), [0, 1, 2, 3, 4, 5, 6], 0, []),
  (.ireturn, (90, 1), [0], 0, [])]
/-- DictProof.findGoal (II)LDictProof$Goal; -/
def tb_27 : List Op := [(.aload_n 0, (0, 1), [], 0, []),
  (.getfield 61, (1, 3), [8, 10, 4], 0, []),
  (.aload_n 0, (4, 1), [], 0, []),
  (.getfield 20, (5, 3), [8, 2, 3], 0, []),
  (.aload_n 0, (8, 1), [], 0, []),
  (.getfield 47, (9, 3), [8, 7, 4], 0, []),
  (.getfield 155, (12, 3), [1, 0, 4], 0, []),
  (.aload_n 0, (15, 1), [], 0, []),
  (.getfield 47, (16, 3), [8, 7, 4], 0, []),
  (.getfield 101, (19, 3), [1, 1, 4], 0, []),
  (.iload_n 2, (22, 1), [], 0, []),
  (.aaload, (23, 1), [], 0, []),
  (.invokevirtual 178, (24, 3), [163, 4, 2, 0, 0, 0, 7], 0, []),
  (.nop, (27, 0), [2], 0, []),
  (.aload_n 0, (27, 1), [], 0, []),
  (.getfield 61, (28, 3), [8, 10, 4], 0, []),
  (.iload_n 1, (31, 1), [], 0, []),
  (.invokevirtual 225, (32, 3), [164, 2, 2, 0, 0, 0, 2], 0, []),
  (.nop, (35, 0), [0, 1, 2], 0, []),
  (.areturn, (35, 1), [], 0, [])]
/-- DictProof.told (LDictProof$Goal;I)I -/
def tb_28 : List Op := [(.iload_n 2, (0, 1), [], 0, []),
  (.ifCond .ne 8, (1, 3), [6], 0, []),
  (.nop, (4, 0), [0, 2], 0, []),
  (.aload_n 1, (4, 1), [], 0, []),
  (.getfield 229, (5, 3), [3, 0, 0], 0, []),
  (.ireturn, (8, 1), [0], 0, []),
  (.nop, (9, 0), [], 0, []),
  (.aload_n 1, (9, 1), [], 0, []),
  (.getfield 229, (10, 3), [3, 0, 0], 0, []),
  (.iconst 1, (13, 1), [], 0, []),
  (.if_icmp .eq 5, (14, 3), [14], 0, []),
  (.nop, (17, 0), [0, 1, 2], 0, []),
  (.iconst (-1), (17, 1), [], 0, []),
  (.ireturn, (18, 1), [0], 0, []),
  (.nop, (19, 0), [], 0, []),
  (.iload_n 2, (19, 1), [], 0, []),
  (.tableswitch 67 1 5 #[36, 41, 46, 54, 59], (20, 36), [41], 0, [(1, 17), (2, 21), (3, 25), (4, 31), (5, 35)]),
  (.nop, (56, 0), [0, 2], 0, []),
  (.aload_n 1, (56, 1), [], 0, []),
  (.getfield 248, (57, 3), [3, 1, 0], 0, []),
  (.ireturn, (60, 1), [0], 0, []),
  (.nop, (61, 0), [0, 2], 0, []),
  (.aload_n 1, (61, 1), [], 0, []),
  (.getfield 260, (62, 3), [3, 2, 0], 0, []),
  (.ireturn, (65, 1), [0], 0, []),
  (.nop, (66, 0), [0, 2], 0, []),
  (.aload_n 1, (66, 1), [], 0, []),
  (.getfield 263, (67, 3), [3, 5, 2], 0, []),
  (.invokestatic 266, (70, 3), [222, 1, 0, 0, 0, 0, 2], 0, []),
  (.nop, (73, 0), [0, 1, 2], 0, []),
  (.ireturn, (73, 1), [0], 0, []),
  (.nop, (74, 0), [0, 2], 0, []),
  (.aload_n 1, (74, 1), [], 0, []),
  (.getfield 271, (75, 3), [3, 3, 0], 0, []),
  (.ireturn, (78, 1), [0], 0, []),
  (.nop, (79, 0), [0, 2], 0, []),
  (.aload_n 1, (79, 1), [], 0, []),
  (.getfield 234, (80, 3), [3, 4, 0], 0, []),
  (.invokestatic 143, (83, 3), [221, 1, 0, 0, 0, 0, 1], 0, []),
  (.nop, (86, 0), [0, 1, 2], 0, []),
  (.ireturn, (86, 1), [0], 0, []),
  (.nop, (87, 0), [2], 0, []),
  (.aload_n 0, (87, 1), [], 0, []),
  (.getfield 20, (88, 3), [8, 2, 3], 0, []),
  (.aload_n 1, (91, 1), [], 0, []),
  (.getfield 234, (92, 3), [3, 4, 0], 0, []),
  (.invokevirtual 257, (95, 3), [152, 2, 0, 0, 0, 0, 5], 0, []),
  (.nop, (98, 0), [0, 1, 2], 0, []),
  (.invokestatic 143, (98, 3), [221, 1, 0, 0, 0, 0, 1], 0, []),
  (.nop, (101, 0), [0, 1, 2], 0, []),
  (.ireturn, (101, 1), [0], 0, [])]
/-- DictProof.needBit (II)I -/
def tb_29 : List Op := [(.iconst 1, (0, 1), [], 0, []),
  (.iconst 2, (1, 1), [], 0, []),
  (.iload_n 0, (2, 1), [], 0, []),
  (.imul, (3, 1), [], 0, []),
  (.iload_n 1, (4, 1), [], 0, []),
  (.iadd, (5, 1), [], 0, []),
  (.ishl, (6, 1), [], 0, []),
  (.ireturn, (7, 1), [0], 0, [])]
/-- DictProof.see (IIZ)I -/
def tb_30 : List Op := [(.aload_n 0, (0, 1), [], 0, []),
  (.iload_n 1, (1, 1), [], 0, []),
  (.invokevirtual 148, (2, 3), [16, 2, 8, 0, 0, 0, 2], 0, []),
  (.nop, (5, 0), [], 0, []),
  (.ifCond .ne 6, (5, 3), [8], 0, []),
  (.nop, (8, 0), [0, 1, 2, 3], 0, []),
  (.bipush (-101), (8, 2), [], 0, []),
  (.ireturn, (10, 1), [0], 0, []),
  (.nop, (11, 0), [], 0, []),
  (.iload_n 2, (11, 1), [], 0, []),
  (.ifCond .lt 11, (12, 3), [16], 0, []),
  (.nop, (15, 0), [], 0, []),
  (.iload_n 2, (15, 1), [], 0, []),
  (.getstatic 216, (16, 3), [1], 0, []),
  (.arraylength, (19, 1), [], 0, []),
  (.if_icmp .lt 6, (20, 3), [19], 0, []),
  (.nop, (23, 0), [0, 1, 2, 3], 0, []),
  (.bipush (-102), (23, 2), [], 0, []),
  (.ireturn, (25, 1), [0], 0, []),
  (.nop, (26, 0), [], 0, []),
  (.aload_n 0, (26, 1), [], 0, []),
  (.getfield 47, (27, 3), [8, 7, 4], 0, []),
  (.getfield 274, (30, 3), [1, 2, 0], 0, []),
  (.bipush 6, (33, 2), [], 0, []),
  (.if_icmp .lt 6, (35, 3), [28], 0, []),
  (.nop, (38, 0), [0, 1, 2, 3], 0, []),
  (.bipush (-104), (38, 2), [], 0, []),
  (.ireturn, (40, 1), [0], 0, []),
  (.nop, (41, 0), [], 0, []),
  (.aload_n 0, (41, 1), [], 0, []),
  (.getfield 47, (42, 3), [8, 7, 4], 0, []),
  (.iload_n 1, (45, 1), [], 0, []),
  (.iload_n 3, (46, 1), [], 0, []),
  (.ifCond .eq 11, (47, 3), [39], 0, []),
  (.nop, (50, 0), [1, 3], 0, []),
  (.getstatic 216, (50, 3), [1], 0, []),
  (.iload_n 2, (53, 1), [], 0, []),
  (.iaload, (54, 1), [], 0, []),
  (.goto 10, (55, 3), [45], 0, []),
  (.nop, (58, 0), [1, 3], 0, []),
  (.getstatic 216, (58, 3), [1], 0, []),
  (.iload_n 2, (61, 1), [], 0, []),
  (.iaload, (62, 1), [], 0, []),
  (.iconst (-1), (63, 1), [], 0, []),
  (.ixor, (64, 1), [], 0, []),
  (.nop, (65, 0), [1, 2, 3], 0, []),
  (.invokevirtual 277, (65, 3), [157, 3, 1, 0, 0, 0, 3], 0, []),
  (.nop, (68, 0), [1, 2, 3], 0, []),
  (.aload_n 0, (68, 1), [], 0, []),
  (.getfield 47, (69, 3), [8, 7, 4], 0, []),
  (.getfield 274, (72, 3), [1, 2, 0], 0, []),
  (.ireturn, (75, 1), [0], 0, [])]
/-- DictProof.forget ()I -/
def tb_31 : List Op := [(.aload_n 0, (0, 1), [], 0, []),
  (.getfield 47, (1, 3), [8, 7, 4], 0, []),
  (.getfield 274, (4, 3), [1, 2, 0], 0, []),
  (.istore_n 1, (7, 1), [], 0, []),
  (.aload_n 0, (8, 1), [], 0, []),
  (.getfield 47, (9, 3), [8, 7, 4], 0, []),
  (.iconst 0, (12, 1), [], 0, []),
  (.putfield 274, (13, 3), [1, 2, 0], 0, []),
  (.iload_n 1, (16, 1), [], 0, []),
  (.ireturn, (17, 1), [0], 0, [])]
/-- DictProof.drawn (III)I -/
def tb_32 : List Op := [(.iload_n 1, (0, 1), [], 0, []),
  (.iconst 1, (1, 1), [], 0, []),
  (.if_icmp .lt 22, (2, 3), [17], 0, []),
  (.nop, (5, 0), [4, 5, 6, 7], 0, []),
  (.iload_n 1, (5, 1), [], 0, []),
  (.bipush 30, (6, 2), [], 0, []),
  (.if_icmp .gt 16, (8, 3), [17], 0, []),
  (.nop, (11, 0), [4, 5, 6, 7], 0, []),
  (.iload_n 2, (11, 1), [], 0, []),
  (.ifCond .lt 12, (12, 3), [17], 0, []),
  (.nop, (15, 0), [4, 5, 6, 7], 0, []),
  (.iload_n 3, (15, 1), [], 0, []),
  (.ifCond .lt 8, (16, 3), [17], 0, []),
  (.nop, (19, 0), [4, 5, 6, 7], 0, []),
  (.iload_n 3, (19, 1), [], 0, []),
  (.iconst 2, (20, 1), [], 0, []),
  (.if_icmp .le 6, (21, 3), [20], 0, []),
  (.nop, (24, 0), [0, 1, 2, 3, 4, 5, 6, 7], 0, []),
  (.bipush (-102), (24, 2), [], 0, []),
  (.ireturn, (26, 1), [0], 0, []),
  (.nop, (27, 0), [4, 5, 6, 7], 0, []),
  (.aload_n 0, (27, 1), [], 0, []),
  (.getfield 27, (28, 3), [8, 4, 0], 0, []),
  (.ifCond .ne 6, (31, 3), [27], 0, []),
  (.nop, (34, 0), [0, 1, 2, 3, 4, 5, 6, 7], 0, []),
  (.bipush (-103), (34, 2), [], 0, []),
  (.ireturn, (36, 1), [0], 0, []),
  (.nop, (37, 0), [4, 5, 6, 7], 0, []),
  (.aload_n 0, (37, 1), [], 0, []),
  (.iload_n 2, (38, 1), [], 0, []),
  (.i2l, (39, 1), [], 0, []),
  (.putfield 75, (40, 3), [8, 13, 2], 0, []),
  (.iconst 0, (43, 1), [], 0, []),
  (.istore 4, (44, 2), [], 0, []),
  (.iconst 0, (46, 1), [], 0, []),
  (.istore 5, (47, 2), [], 0, []),
  (.iconst 0, (49, 1), [], 0, []),
  (.istore 6, (50, 2), [], 0, []),
  (.nop, (52, 0), [2, 7], 0, []),
  (.iload 6, (52, 2), [], 0, []),
  (.iload_n 1, (54, 1), [], 0, []),
  (.if_icmp .ge 89, (55, 3), [91], 0, []),
  (.nop, (58, 0), [2, 7], 0, []),
  (.aload_n 0, (58, 1), [], 0, []),
  (.aload_n 0, (59, 1), [], 0, []),
  (.getfield 20, (60, 3), [8, 2, 3], 0, []),
  (.getfield 210, (63, 3), [0, 0, 0], 0, []),
  (.invokevirtual 281, (66, 3), [33, 2, 8, 0, 0, 0, 2], 0, []),
  (.nop, (69, 0), [2, 7], 0, []),
  (.istore 7, (69, 2), [], 0, []),
  (.aload_n 0, (71, 1), [], 0, []),
  (.invokevirtual 284, (72, 3), [34, 1, 8, 0, 0, 0, 5], 0, []),
  (.nop, (75, 0), [2], 0, []),
  (.aload_n 0, (75, 1), [], 0, []),
  (.getfield 61, (76, 3), [8, 10, 4], 0, []),
  (.aload_n 0, (79, 1), [], 0, []),
  (.getfield 20, (80, 3), [8, 2, 3], 0, []),
  (.aload_n 0, (83, 1), [], 0, []),
  (.getfield 47, (84, 3), [8, 7, 4], 0, []),
  (.getfield 155, (87, 3), [1, 0, 4], 0, []),
  (.aload_n 0, (90, 1), [], 0, []),
  (.getfield 71, (91, 3), [8, 12, 4], 0, []),
  (.invokevirtual 178, (94, 3), [163, 4, 2, 0, 0, 0, 7], 0, []),
  (.nop, (97, 0), [2], 0, []),
  (.iload 4, (97, 2), [], 0, []),
  (.aload_n 0, (99, 1), [], 0, []),
  (.getfield 61, (100, 3), [8, 10, 4], 0, []),
  (.iload 7, (103, 2), [], 0, []),
  (.invokevirtual 225, (105, 3), [164, 2, 2, 0, 0, 0, 2], 0, []),
  (.nop, (108, 0), [2, 4, 7], 0, []),
  (.getfield 229, (108, 3), [3, 0, 0], 0, []),
  (.iconst 1, (111, 1), [], 0, []),
  (.if_icmp .ne 7, (112, 3), [76], 0, []),
  (.nop, (115, 0), [2, 4, 7], 0, []),
  (.iconst 1, (115, 1), [], 0, []),
  (.goto 4, (116, 3), [78], 0, []),
  (.nop, (119, 0), [2, 4, 7], 0, []),
  (.iconst 0, (119, 1), [], 0, []),
  (.nop, (120, 0), [2, 4, 7], 0, []),
  (.invokestatic 193, (120, 3), [19, 1, 0, 0, 0, 0, 1], 0, []),
  (.nop, (123, 0), [2, 4, 7], 0, []),
  (.iadd, (123, 1), [], 0, []),
  (.istore 4, (124, 2), [], 0, []),
  (.iload 5, (126, 2), [], 0, []),
  (.aload_n 0, (128, 1), [], 0, []),
  (.getfield 71, (129, 3), [8, 12, 4], 0, []),
  (.getfield 118, (132, 3), [7, 3, 0], 0, []),
  (.iadd, (135, 1), [], 0, []),
  (.istore 5, (136, 2), [], 0, []),
  (.iinc 6 1, (138, 3), [], 0, []),
  (.goto (-89), (141, 3), [38], 0, []),
  (.nop, (144, 0), [1, 2, 6, 7], 0, []),
  (.iload_n 3, (144, 1), [], 0, []),
  (.ifCond .ne 6, (145, 3), [97], 0, []),
  (.nop, (148, 0), [0, 1, 2, 3, 5, 6, 7], 0, []),
  (.iload 4, (148, 2), [], 0, []),
  (.ireturn, (150, 1), [0], 0, []),
  (.nop, (151, 0), [1, 2, 4, 6, 7], 0, []),
  (.iload_n 3, (151, 1), [], 0, []),
  (.iconst 1, (152, 1), [], 0, []),
  (.if_icmp .ne 8, (153, 3), [104], 0, []),
  (.nop, (156, 0), [0, 1, 2, 3, 4, 6, 7], 0, []),
  (.iload 5, (156, 2), [], 0, []),
  (.goto 8, (158, 3), [108], 0, []),
  (.nop, (161, 0), [1, 2, 3, 4, 5, 6, 7], 0, []),
  (.aload_n 0, (161, 1), [], 0, []),
  (.getfield 75, (162, 3), [8, 13, 2], 0, []),
  (.l2i, (165, 1), [], 0, []),
  (.nop, (166, 0), [0, 1, 2, 3, 4, 5, 6, 7], 0, []),
  (.ireturn, (166, 1), [0], 0, [])]
/-- DictProof.drawOf (I)I -/
def tb_33 : List Op := [(.aload_n 0, (0, 1), [], 0, []),
  (.ldc2_w 287, (1, 3), [], 1103515245, []),
  (.aload_n 0, (4, 1), [], 0, []),
  (.getfield 75, (5, 3), [8, 13, 2], 0, []),
  (.lmul, (8, 1), [], 0, []),
  (.ldc2_w 289, (9, 3), [], 12345, []),
  (.ladd, (12, 1), [], 0, []),
  (.ldc2_w 291, (13, 3), [], 2147483647, []),
  (.land, (16, 1), [], 0, []),
  (.putfield 75, (17, 3), [8, 13, 2], 0, []),
  (.iload_n 1, (20, 1), [], 0, []),
  (.iconst 1, (21, 1), [], 0, []),
  (.if_icmp .ge 7, (22, 3), [16], 0, []),
  (.nop, (25, 0), [0, 1], 0, []),
  (.iconst 0, (25, 1), [], 0, []),
  (.goto 15, (26, 3), [25], 0, []),
  (.nop, (29, 0), [], 0, []),
  (.aload_n 0, (29, 1), [], 0, []),
  (.getfield 75, (30, 3), [8, 13, 2], 0, []),
  (.ldc2_w 293, (33, 3), [], 65536, []),
  (.ldiv, (36, 1), [], 0, []),
  (.iload_n 1, (37, 1), [], 0, []),
  (.i2l, (38, 1), [], 0, []),
  (.lrem, (39, 1), [], 0, []),
  (.l2i, (40, 1), [], 0, []),
  (.nop, (41, 0), [0, 1], 0, []),
  (.ireturn, (41, 1), [0], 0, [])]
/-- DictProof.drawShape ()V -/
def tb_34 : List Op := [(.aload_n 0, (0, 1), [], 0, []),
  (.getfield 71, (1, 3), [8, 12, 4], 0, []),
  (.invokevirtual 105, (4, 3), [210, 1, 7, 0, 0, 0, 1], 0, []),
  (.nop, (7, 0), [1, 2, 3, 4], 0, []),
  (.aload_n 0, (7, 1), [], 0, []),
  (.iconst 4, (8, 1), [], 0, []),
  (.invokevirtual 281, (9, 3), [33, 2, 8, 0, 0, 0, 2], 0, []),
  (.nop, (12, 0), [1, 2, 3, 4], 0, []),
  (.istore_n 1, (12, 1), [], 0, []),
  (.aload_n 0, (13, 1), [], 0, []),
  (.getfield 71, (14, 3), [8, 12, 4], 0, []),
  (.iload_n 1, (17, 1), [], 0, []),
  (.invokevirtual 112, (18, 3), [211, 2, 7, 0, 0, 0, 2], 0, []),
  (.nop, (21, 0), [2, 3, 4], 0, []),
  (.iconst 0, (21, 1), [], 0, []),
  (.istore_n 2, (22, 1), [], 0, []),
  (.nop, (23, 0), [3, 4], 0, []),
  (.iload_n 2, (23, 1), [], 0, []),
  (.iload_n 1, (24, 1), [], 0, []),
  (.invokestatic 128, (25, 3), [208, 1, 0, 0, 0, 0, 1], 0, []),
  (.nop, (28, 0), [3, 4], 0, []),
  (.if_icmp .ge 53, (28, 3), [55], 0, []),
  (.nop, (31, 0), [3, 4], 0, []),
  (.aload_n 0, (31, 1), [], 0, []),
  (.iconst 4, (32, 1), [], 0, []),
  (.invokevirtual 281, (33, 3), [33, 2, 8, 0, 0, 0, 2], 0, []),
  (.nop, (36, 0), [3, 4], 0, []),
  (.istore_n 3, (36, 1), [], 0, []),
  (.aload_n 0, (37, 1), [], 0, []),
  (.getfield 71, (38, 3), [8, 12, 4], 0, []),
  (.iload_n 3, (41, 1), [], 0, []),
  (.invokevirtual 112, (42, 3), [211, 2, 7, 0, 0, 0, 2], 0, []),
  (.nop, (45, 0), [4], 0, []),
  (.iconst 0, (45, 1), [], 0, []),
  (.istore 4, (46, 2), [], 0, []),
  (.nop, (48, 0), [], 0, []),
  (.iload 4, (48, 2), [], 0, []),
  (.iload_n 3, (50, 1), [], 0, []),
  (.invokestatic 128, (51, 3), [208, 1, 0, 0, 0, 0, 1], 0, []),
  (.nop, (54, 0), [], 0, []),
  (.if_icmp .ge 21, (54, 3), [52], 0, []),
  (.nop, (57, 0), [], 0, []),
  (.aload_n 0, (57, 1), [], 0, []),
  (.getfield 71, (58, 3), [8, 12, 4], 0, []),
  (.aload_n 0, (61, 1), [], 0, []),
  (.iconst 2, (62, 1), [], 0, []),
  (.invokevirtual 281, (63, 3), [33, 2, 8, 0, 0, 0, 2], 0, []),
  (.nop, (66, 0), [], 0, []),
  (.invokevirtual 112, (66, 3), [211, 2, 7, 0, 0, 0, 2], 0, []),
  (.nop, (69, 0), [], 0, []),
  (.iinc 4 1, (69, 3), [], 0, []),
  (.goto (-24), (72, 3), [35], 0, []),
  (.nop, (75, 0), [3, 4], 0, []),
  (.iinc 2 1, (75, 3), [], 0, []),
  (.goto (-55), (78, 3), [16], 0, []),
  (.nop, (81, 0), [1, 2, 3, 4], 0, []),
  (.aload_n 0, (81, 1), [], 0, []),
  (.getfield 71, (82, 3), [8, 12, 4], 0, []),
  (.invokevirtual 116, (85, 3), [212, 1, 7, 0, 0, 0, 4], 0, []),
  (.nop, (88, 0), [0, 1, 2, 3, 4], 0, []),
  (.return_, (88, 1), [], 0, [])]
/-- DictProof.image ()I -/
def tb_35 : List Op := [(.aload_n 0, (0, 1), [], 0, []),
  (.getfield 27, (1, 3), [8, 4, 0], 0, []),
  (.ifCond .ne 6, (4, 3), [6], 0, []),
  (.nop, (7, 0), [0], 0, []),
  (.bipush (-103), (7, 2), [], 0, []),
  (.ireturn, (9, 1), [0], 0, []),
  (.nop, (10, 0), [], 0, []),
  (.aload_n 0, (10, 1), [], 0, []),
  (.getfield 51, (11, 3), [8, 8, 4], 0, []),
  (.aload_n 0, (14, 1), [], 0, []),
  (.getfield 47, (15, 3), [8, 7, 4], 0, []),
  (.invokevirtual 295, (18, 3), [156, 2, 1, 0, 0, 0, 3], 0, []),
  (.nop, (21, 0), [], 0, []),
  (.aload_n 0, (21, 1), [], 0, []),
  (.iconst 1, (22, 1), [], 0, []),
  (.putfield 54, (23, 3), [8, 9, 1], 0, []),
  (.aload_n 0, (26, 1), [], 0, []),
  (.getfield 47, (27, 3), [8, 7, 4], 0, []),
  (.invokevirtual 299, (30, 3), [159, 1, 1, 0, 0, 0, 3], 0, []),
  (.nop, (33, 0), [0], 0, []),
  (.ireturn, (33, 1), [0], 0, [])]
/-- DictProof.restore ()I -/
def tb_36 : List Op := [(.aload_n 0, (0, 1), [], 0, []),
  (.getfield 54, (1, 3), [8, 9, 1], 0, []),
  (.ifCond .ne 6, (4, 3), [6], 0, []),
  (.nop, (7, 0), [0], 0, []),
  (.bipush (-103), (7, 2), [], 0, []),
  (.ireturn, (9, 1), [0], 0, []),
  (.nop, (10, 0), [], 0, []),
  (.aload_n 0, (10, 1), [], 0, []),
  (.getfield 47, (11, 3), [8, 7, 4], 0, []),
  (.aload_n 0, (14, 1), [], 0, []),
  (.getfield 51, (15, 3), [8, 8, 4], 0, []),
  (.invokevirtual 295, (18, 3), [156, 2, 1, 0, 0, 0, 3], 0, []),
  (.nop, (21, 0), [], 0, []),
  (.aload_n 0, (21, 1), [], 0, []),
  (.getfield 47, (22, 3), [8, 7, 4], 0, []),
  (.invokevirtual 299, (25, 3), [159, 1, 1, 0, 0, 0, 3], 0, []),
  (.nop, (28, 0), [0], 0, []),
  (.ireturn, (28, 1), [0], 0, [])]
/-- DictProof.count (I)I -/
def tb_37 : List Op := [(.iload_n 1, (0, 1), [], 0, []),
  (.tableswitch 145 0 10 #[59, 67, 75, 94, 100, 106, 111, 119, 127, 135, 140], (1, 59), [65], 0, [(0, 2), (1, 7), (2, 12), (3, 23), (4, 29), (5, 35), (6, 40), (7, 46), (8, 52), (9, 57), (10, 61)]),
  (.nop, (60, 0), [1], 0, []),
  (.aload_n 0, (60, 1), [], 0, []),
  (.getfield 20, (61, 3), [8, 2, 3], 0, []),
  (.getfield 210, (64, 3), [0, 0, 0], 0, []),
  (.ireturn, (67, 1), [0], 0, []),
  (.nop, (68, 0), [1], 0, []),
  (.aload_n 0, (68, 1), [], 0, []),
  (.getfield 20, (69, 3), [8, 2, 3], 0, []),
  (.getfield 95, (72, 3), [0, 4, 0], 0, []),
  (.ireturn, (75, 1), [0], 0, []),
  (.nop, (76, 0), [1], 0, []),
  (.aload_n 0, (76, 1), [], 0, []),
  (.getfield 20, (77, 3), [8, 2, 3], 0, []),
  (.getfield 95, (80, 3), [0, 4, 0], 0, []),
  (.aload_n 0, (83, 1), [], 0, []),
  (.getfield 20, (84, 3), [8, 2, 3], 0, []),
  (.getfield 169, (87, 3), [0, 6, 0], 0, []),
  (.invokestatic 143, (90, 3), [221, 1, 0, 0, 0, 0, 1], 0, []),
  (.nop, (93, 0), [0, 1], 0, []),
  (.isub, (93, 1), [], 0, []),
  (.ireturn, (94, 1), [0], 0, []),
  (.nop, (95, 0), [1], 0, []),
  (.aload_n 0, (95, 1), [], 0, []),
  (.iconst 0, (96, 1), [], 0, []),
  (.invokevirtual 302, (97, 3), [40, 2, 8, 0, 0, 0, 5], 0, []),
  (.nop, (100, 0), [0, 1], 0, []),
  (.ireturn, (100, 1), [0], 0, []),
  (.nop, (101, 0), [1], 0, []),
  (.aload_n 0, (101, 1), [], 0, []),
  (.iconst 1, (102, 1), [], 0, []),
  (.invokevirtual 302, (103, 3), [40, 2, 8, 0, 0, 0, 5], 0, []),
  (.nop, (106, 0), [0, 1], 0, []),
  (.ireturn, (106, 1), [0], 0, []),
  (.nop, (107, 0), [1], 0, []),
  (.aload_n 0, (107, 1), [], 0, []),
  (.invokevirtual 305, (108, 3), [41, 1, 8, 0, 0, 0, 3], 0, []),
  (.nop, (111, 0), [0, 1], 0, []),
  (.ireturn, (111, 1), [0], 0, []),
  (.nop, (112, 0), [1], 0, []),
  (.aload_n 0, (112, 1), [], 0, []),
  (.getfield 47, (113, 3), [8, 7, 4], 0, []),
  (.invokevirtual 299, (116, 3), [159, 1, 1, 0, 0, 0, 3], 0, []),
  (.nop, (119, 0), [0, 1], 0, []),
  (.ireturn, (119, 1), [0], 0, []),
  (.nop, (120, 0), [1], 0, []),
  (.aload_n 0, (120, 1), [], 0, []),
  (.getfield 47, (121, 3), [8, 7, 4], 0, []),
  (.invokevirtual 308, (124, 3), [160, 1, 1, 0, 0, 0, 3], 0, []),
  (.nop, (127, 0), [0, 1], 0, []),
  (.ireturn, (127, 1), [0], 0, []),
  (.nop, (128, 0), [1], 0, []),
  (.aload_n 0, (128, 1), [], 0, []),
  (.getfield 47, (129, 3), [8, 7, 4], 0, []),
  (.getfield 274, (132, 3), [1, 2, 0], 0, []),
  (.ireturn, (135, 1), [0], 0, []),
  (.nop, (136, 0), [1], 0, []),
  (.aload_n 0, (136, 1), [], 0, []),
  (.getfield 13, (137, 3), [8, 1, 0], 0, []),
  (.ireturn, (140, 1), [0], 0, []),
  (.nop, (141, 0), [1], 0, []),
  (.aload_n 0, (141, 1), [], 0, []),
  (.getfield 27, (142, 3), [8, 4, 0], 0, []),
  (.ireturn, (145, 1), [0], 0, []),
  (.nop, (146, 0), [0, 1], 0, []),
  (.bipush (-102), (146, 2), [], 0, []),
  (.ireturn, (148, 1), [0], 0, [])]
/-- DictProof.digest ()J -/
def tb_38 : List Op := [(.ldc2_w 311, (0, 3), [], 1367, []),
  (.lstore_n 1, (3, 1), [], 0, []),
  (.iconst 0, (4, 1), [], 0, []),
  (.istore_n 3, (5, 1), [], 0, []),
  (.nop, (6, 0), [2, 4], 0, []),
  (.iload_n 3, (6, 1), [], 0, []),
  (.aload_n 0, (7, 1), [], 0, []),
  (.getfield 20, (8, 3), [8, 2, 3], 0, []),
  (.getfield 210, (11, 3), [0, 0, 0], 0, []),
  (.if_icmp .ge 39, (14, 3), [34], 0, []),
  (.nop, (17, 0), [2, 4], 0, []),
  (.iconst 0, (17, 1), [], 0, []),
  (.istore 4, (18, 2), [], 0, []),
  (.nop, (20, 0), [2], 0, []),
  (.iload 4, (20, 2), [], 0, []),
  (.iconst 2, (22, 1), [], 0, []),
  (.if_icmp .gt 24, (23, 3), [31], 0, []),
  (.nop, (26, 0), [2], 0, []),
  (.ldc2_w 313, (26, 3), [], 31, []),
  (.lload_n 1, (29, 1), [], 0, []),
  (.lmul, (30, 1), [], 0, []),
  (.aload_n 0, (31, 1), [], 0, []),
  (.iload_n 3, (32, 1), [], 0, []),
  (.iload 4, (33, 2), [], 0, []),
  (.invokevirtual 315, (35, 3), [9, 3, 8, 0, 0, 0, 3], 0, []),
  (.nop, (38, 0), [1, 2], 0, []),
  (.i2l, (38, 1), [], 0, []),
  (.ladd, (39, 1), [], 0, []),
  (.lstore_n 1, (40, 1), [], 0, []),
  (.iinc 4 1, (41, 3), [], 0, []),
  (.goto (-24), (44, 3), [13], 0, []),
  (.nop, (47, 0), [2, 4], 0, []),
  (.iinc 3 1, (47, 3), [], 0, []),
  (.goto (-44), (50, 3), [4], 0, []),
  (.nop, (53, 0), [2, 3, 4], 0, []),
  (.iconst 0, (53, 1), [], 0, []),
  (.istore_n 3, (54, 1), [], 0, []),
  (.nop, (55, 0), [2, 4], 0, []),
  (.iload_n 3, (55, 1), [], 0, []),
  (.aload_n 0, (56, 1), [], 0, []),
  (.getfield 20, (57, 3), [8, 2, 3], 0, []),
  (.getfield 95, (60, 3), [0, 4, 0], 0, []),
  (.if_icmp .ge 40, (63, 3), [67], 0, []),
  (.nop, (66, 0), [2, 4], 0, []),
  (.iconst 0, (66, 1), [], 0, []),
  (.istore 4, (67, 2), [], 0, []),
  (.nop, (69, 0), [2], 0, []),
  (.iload 4, (69, 2), [], 0, []),
  (.bipush 7, (71, 2), [], 0, []),
  (.if_icmp .gt 24, (73, 3), [64], 0, []),
  (.nop, (76, 0), [2], 0, []),
  (.ldc2_w 313, (76, 3), [], 31, []),
  (.lload_n 1, (79, 1), [], 0, []),
  (.lmul, (80, 1), [], 0, []),
  (.aload_n 0, (81, 1), [], 0, []),
  (.iload_n 3, (82, 1), [], 0, []),
  (.iload 4, (83, 2), [], 0, []),
  (.invokevirtual 318, (85, 3), [10, 3, 8, 0, 0, 0, 4], 0, []),
  (.nop, (88, 0), [1, 2], 0, []),
  (.i2l, (88, 1), [], 0, []),
  (.ladd, (89, 1), [], 0, []),
  (.lstore_n 1, (90, 1), [], 0, []),
  (.iinc 4 1, (91, 3), [], 0, []),
  (.goto (-25), (94, 3), [46], 0, []),
  (.nop, (97, 0), [2, 4], 0, []),
  (.iinc 3 1, (97, 3), [], 0, []),
  (.goto (-45), (100, 3), [37], 0, []),
  (.nop, (103, 0), [2, 3, 4], 0, []),
  (.iconst 0, (103, 1), [], 0, []),
  (.istore_n 3, (104, 1), [], 0, []),
  (.nop, (105, 0), [2, 4], 0, []),
  (.iload_n 3, (105, 1), [], 0, []),
  (.iconst 4, (106, 1), [], 0, []),
  (.if_icmp .ge 16, (107, 3), [83], 0, []),
  (.nop, (110, 0), [2, 4], 0, []),
  (.aload_n 0, (110, 1), [], 0, []),
  (.lload_n 1, (111, 1), [], 0, []),
  (.iload_n 3, (112, 1), [], 0, []),
  (.invokevirtual 321, (113, 3), [39, 3, 8, 0, 0, 0, 8], 0, []),
  (.nop, (116, 0), [1, 2, 4], 0, []),
  (.lstore_n 1, (116, 1), [], 0, []),
  (.iinc 3 1, (117, 3), [], 0, []),
  (.goto (-15), (120, 3), [70], 0, []),
  (.nop, (123, 0), [2, 3, 4], 0, []),
  (.iconst 0, (123, 1), [], 0, []),
  (.istore_n 3, (124, 1), [], 0, []),
  (.nop, (125, 0), [2, 4], 0, []),
  (.iload_n 3, (125, 1), [], 0, []),
  (.aload_n 0, (126, 1), [], 0, []),
  (.getfield 13, (127, 3), [8, 1, 0], 0, []),
  (.if_icmp .ge 23, (130, 3), [104], 0, []),
  (.nop, (133, 0), [2, 4], 0, []),
  (.ldc2_w 313, (133, 3), [], 31, []),
  (.lload_n 1, (136, 1), [], 0, []),
  (.lmul, (137, 1), [], 0, []),
  (.aload_n 0, (138, 1), [], 0, []),
  (.getfield 9, (139, 3), [8, 0, 4], 0, []),
  (.iload_n 3, (142, 1), [], 0, []),
  (.iaload, (143, 1), [], 0, []),
  (.i2l, (144, 1), [], 0, []),
  (.ladd, (145, 1), [], 0, []),
  (.lstore_n 1, (146, 1), [], 0, []),
  (.iinc 3 1, (147, 3), [], 0, []),
  (.goto (-25), (150, 3), [86], 0, []),
  (.nop, (153, 0), [2, 3, 4], 0, []),
  (.iconst 0, (153, 1), [], 0, []),
  (.istore_n 3, (154, 1), [], 0, []),
  (.nop, (155, 0), [2, 4], 0, []),
  (.iload_n 3, (155, 1), [], 0, []),
  (.bipush 10, (156, 2), [], 0, []),
  (.if_icmp .gt 22, (158, 3), [124], 0, []),
  (.nop, (161, 0), [2, 4], 0, []),
  (.ldc2_w 313, (161, 3), [], 31, []),
  (.lload_n 1, (164, 1), [], 0, []),
  (.lmul, (165, 1), [], 0, []),
  (.aload_n 0, (166, 1), [], 0, []),
  (.iload_n 3, (167, 1), [], 0, []),
  (.invokevirtual 325, (168, 3), [37, 2, 8, 0, 0, 0, 2], 0, []),
  (.nop, (171, 0), [1, 2, 4], 0, []),
  (.i2l, (171, 1), [], 0, []),
  (.ladd, (172, 1), [], 0, []),
  (.lstore_n 1, (173, 1), [], 0, []),
  (.iinc 3 1, (174, 3), [], 0, []),
  (.goto (-22), (177, 3), [107], 0, []),
  (.nop, (180, 0), [0, 2, 3, 4], 0, []),
  (.lload_n 1, (180, 1), [], 0, []),
  (.lreturn, (181, 1), [], 0, [])]
/-- DictProof.digestSlot (JI)J -/
def tb_39 : List Op := [(.aload_n 0, (0, 1), [], 0, []),
  (.iload_n 3, (1, 1), [], 0, []),
  (.invokevirtual 203, (2, 3), [17, 2, 8, 0, 0, 0, 2], 0, []),
  (.nop, (5, 0), [2, 4, 5, 6, 7], 0, []),
  (.ifCond .ne 5, (5, 3), [8], 0, []),
  (.nop, (8, 0), [0, 2, 3, 4, 5, 6, 7], 0, []),
  (.lload_n 1, (8, 1), [], 0, []),
  (.lreturn, (9, 1), [], 0, []),
  (.nop, (10, 0), [2, 4, 5, 6, 7], 0, []),
  (.lload_n 1, (10, 1), [], 0, []),
  (.lstore 4, (11, 2), [], 0, []),
  (.aload_n 0, (13, 1), [], 0, []),
  (.getfield 61, (14, 3), [8, 10, 4], 0, []),
  (.aload_n 0, (17, 1), [], 0, []),
  (.getfield 20, (18, 3), [8, 2, 3], 0, []),
  (.aload_n 0, (21, 1), [], 0, []),
  (.getfield 47, (22, 3), [8, 7, 4], 0, []),
  (.getfield 155, (25, 3), [1, 0, 4], 0, []),
  (.aload_n 0, (28, 1), [], 0, []),
  (.getfield 47, (29, 3), [8, 7, 4], 0, []),
  (.getfield 101, (32, 3), [1, 1, 4], 0, []),
  (.iload_n 3, (35, 1), [], 0, []),
  (.aaload, (36, 1), [], 0, []),
  (.invokevirtual 178, (37, 3), [163, 4, 2, 0, 0, 0, 7], 0, []),
  (.nop, (40, 0), [1, 2, 3, 5, 6, 7], 0, []),
  (.iconst 0, (40, 1), [], 0, []),
  (.istore 6, (41, 2), [], 0, []),
  (.nop, (43, 0), [1, 2, 3, 5, 7], 0, []),
  (.iload 6, (43, 2), [], 0, []),
  (.aload_n 0, (45, 1), [], 0, []),
  (.getfield 20, (46, 3), [8, 2, 3], 0, []),
  (.getfield 210, (49, 3), [0, 0, 0], 0, []),
  (.if_icmp .ge 50, (52, 3), [61], 0, []),
  (.nop, (55, 0), [1, 2, 3, 5, 7], 0, []),
  (.iconst 0, (55, 1), [], 0, []),
  (.istore 7, (56, 2), [], 0, []),
  (.nop, (58, 0), [1, 2, 3, 5], 0, []),
  (.iload 7, (58, 2), [], 0, []),
  (.bipush 6, (60, 2), [], 0, []),
  (.if_icmp .gt 34, (62, 3), [58], 0, []),
  (.nop, (65, 0), [1, 2, 3, 5], 0, []),
  (.ldc2_w 313, (65, 3), [], 31, []),
  (.lload 4, (68, 2), [], 0, []),
  (.lmul, (70, 1), [], 0, []),
  (.aload_n 0, (71, 1), [], 0, []),
  (.aload_n 0, (72, 1), [], 0, []),
  (.getfield 61, (73, 3), [8, 10, 4], 0, []),
  (.iload 6, (76, 2), [], 0, []),
  (.invokevirtual 225, (78, 3), [164, 2, 2, 0, 0, 0, 2], 0, []),
  (.nop, (81, 0), [1, 2, 3, 4, 5], 0, []),
  (.iload 7, (81, 2), [], 0, []),
  (.invokevirtual 244, (83, 3), [28, 3, 8, 0, 0, 0, 3], 0, []),
  (.nop, (86, 0), [1, 2, 3, 4, 5], 0, []),
  (.i2l, (86, 1), [], 0, []),
  (.ladd, (87, 1), [], 0, []),
  (.lstore 4, (88, 2), [], 0, []),
  (.iinc 7 1, (90, 3), [], 0, []),
  (.goto (-35), (93, 3), [36], 0, []),
  (.nop, (96, 0), [1, 2, 3, 5, 7], 0, []),
  (.iinc 6 1, (96, 3), [], 0, []),
  (.goto (-56), (99, 3), [27], 0, []),
  (.nop, (102, 0), [0, 1, 2, 3, 5, 6, 7], 0, []),
  (.lload 4, (102, 2), [], 0, []),
  (.lreturn, (104, 1), [], 0, [])]
/-- DictProof.countPairs (Z)I -/
def tb_40 : List Op := [(.iconst 0, (0, 1), [], 0, []),
  (.istore_n 2, (1, 1), [], 0, []),
  (.iconst 0, (2, 1), [], 0, []),
  (.istore_n 3, (3, 1), [], 0, []),
  (.nop, (4, 0), [4], 0, []),
  (.iload_n 3, (4, 1), [], 0, []),
  (.aload_n 0, (5, 1), [], 0, []),
  (.getfield 20, (6, 3), [8, 2, 3], 0, []),
  (.getfield 95, (9, 3), [0, 4, 0], 0, []),
  (.if_icmp .ge 59, (12, 3), [47], 0, []),
  (.nop, (15, 0), [4], 0, []),
  (.iload_n 3, (15, 1), [], 0, []),
  (.iconst 1, (16, 1), [], 0, []),
  (.iadd, (17, 1), [], 0, []),
  (.istore 4, (18, 2), [], 0, []),
  (.nop, (20, 0), [], 0, []),
  (.iload 4, (20, 2), [], 0, []),
  (.aload_n 0, (22, 1), [], 0, []),
  (.getfield 20, (23, 3), [8, 2, 3], 0, []),
  (.getfield 95, (26, 3), [0, 4, 0], 0, []),
  (.if_icmp .ge 36, (29, 3), [44], 0, []),
  (.nop, (32, 0), [], 0, []),
  (.iload_n 2, (32, 1), [], 0, []),
  (.iload_n 1, (33, 1), [], 0, []),
  (.ifCond .eq 13, (34, 3), [32], 0, []),
  (.nop, (37, 0), [2], 0, []),
  (.aload_n 0, (37, 1), [], 0, []),
  (.iload_n 3, (38, 1), [], 0, []),
  (.iload 4, (39, 2), [], 0, []),
  (.invokevirtual 197, (41, 3), [21, 3, 8, 0, 0, 0, 4], 0, []),
  (.nop, (44, 0), [2], 0, []),
  (.goto 10, (44, 3), [37], 0, []),
  (.nop, (47, 0), [2], 0, []),
  (.aload_n 0, (47, 1), [], 0, []),
  (.iload_n 3, (48, 1), [], 0, []),
  (.iload 4, (49, 2), [], 0, []),
  (.invokevirtual 189, (51, 3), [20, 3, 8, 0, 0, 0, 3], 0, []),
  (.nop, (54, 0), [2], 0, []),
  (.invokestatic 193, (54, 3), [19, 1, 0, 0, 0, 0, 1], 0, []),
  (.nop, (57, 0), [2], 0, []),
  (.iadd, (57, 1), [], 0, []),
  (.istore_n 2, (58, 1), [], 0, []),
  (.iinc 4 1, (59, 3), [], 0, []),
  (.goto (-42), (62, 3), [15], 0, []),
  (.nop, (65, 0), [4], 0, []),
  (.iinc 3 1, (65, 3), [], 0, []),
  (.goto (-64), (68, 3), [4], 0, []),
  (.nop, (71, 0), [0, 1, 3, 4], 0, []),
  (.iload_n 2, (71, 1), [], 0, []),
  (.ireturn, (72, 1), [0], 0, [])]
/-- DictProof.countLacked ()I -/
def tb_41 : List Op := [(.iconst 0, (0, 1), [], 0, []),
  (.istore_n 1, (1, 1), [], 0, []),
  (.iconst 0, (2, 1), [], 0, []),
  (.istore_n 2, (3, 1), [], 0, []),
  (.nop, (4, 0), [], 0, []),
  (.iload_n 2, (4, 1), [], 0, []),
  (.aload_n 0, (5, 1), [], 0, []),
  (.getfield 20, (6, 3), [8, 2, 3], 0, []),
  (.getfield 95, (9, 3), [0, 4, 0], 0, []),
  (.if_icmp .ge 58, (12, 3), [41], 0, []),
  (.nop, (15, 0), [], 0, []),
  (.aload_n 0, (15, 1), [], 0, []),
  (.getfield 61, (16, 3), [8, 10, 4], 0, []),
  (.aload_n 0, (19, 1), [], 0, []),
  (.getfield 20, (20, 3), [8, 2, 3], 0, []),
  (.aload_n 0, (23, 1), [], 0, []),
  (.getfield 47, (24, 3), [8, 7, 4], 0, []),
  (.getfield 155, (27, 3), [1, 0, 4], 0, []),
  (.aload_n 0, (30, 1), [], 0, []),
  (.getfield 20, (31, 3), [8, 2, 3], 0, []),
  (.getfield 151, (34, 3), [0, 5, 4], 0, []),
  (.iload_n 2, (37, 1), [], 0, []),
  (.aaload, (38, 1), [], 0, []),
  (.getfield 163, (39, 3), [6, 2, 4], 0, []),
  (.invokevirtual 178, (42, 3), [163, 4, 2, 0, 0, 0, 7], 0, []),
  (.nop, (45, 0), [], 0, []),
  (.iload_n 1, (45, 1), [], 0, []),
  (.aload_n 0, (46, 1), [], 0, []),
  (.aload_n 0, (47, 1), [], 0, []),
  (.getfield 20, (48, 3), [8, 2, 3], 0, []),
  (.getfield 151, (51, 3), [0, 5, 4], 0, []),
  (.iload_n 2, (54, 1), [], 0, []),
  (.aaload, (55, 1), [], 0, []),
  (.invokevirtual 182, (56, 3), [23, 2, 8, 0, 0, 0, 6], 0, []),
  (.nop, (59, 0), [1], 0, []),
  (.invokestatic 143, (59, 3), [221, 1, 0, 0, 0, 0, 1], 0, []),
  (.nop, (62, 0), [1], 0, []),
  (.iadd, (62, 1), [], 0, []),
  (.istore_n 1, (63, 1), [], 0, []),
  (.iinc 2 1, (64, 3), [], 0, []),
  (.goto (-63), (67, 3), [4], 0, []),
  (.nop, (70, 0), [0, 2], 0, []),
  (.iload_n 1, (70, 1), [], 0, []),
  (.ireturn, (71, 1), [0], 0, [])]
/-- DictProofModel.<init> ()V -/
def tb_42 : List Op := [(.aload_n 0, (0, 1), [], 0, []),
  (.invokespecial 1, (1, 3), [0, 0, 0, 0, 0, 9], 0, []),
  (.aload_n 0, (4, 1), [], 0, []),
  (.iconst 4, (5, 1), [], 0, []),
  (.newarray .int, (6, 2), [20], 0, []),
  (.putfield 7, (8, 3), [9, 2, 4], 0, []),
  (.aload_n 0, (11, 1), [], 0, []),
  (.iconst 4, (12, 1), [], 0, []),
  (.newarray .int, (13, 2), [20], 0, []),
  (.putfield 13, (15, 3), [9, 3, 4], 0, []),
  (.aload_n 0, (18, 1), [], 0, []),
  (.bipush 6, (19, 2), [], 0, []),
  (.newarray .int, (21, 2), [20], 0, []),
  (.putfield 16, (23, 3), [9, 5, 4], 0, []),
  (.aload_n 0, (26, 1), [], 0, []),
  (.bipush 6, (27, 2), [], 0, []),
  (.newarray .int, (29, 2), [20], 0, []),
  (.putfield 19, (31, 3), [9, 6, 4], 0, []),
  (.aload_n 0, (34, 1), [], 0, []),
  (.bipush 30, (35, 2), [], 0, []),
  (.newarray .int, (37, 2), [20], 0, []),
  (.putfield 22, (39, 3), [9, 7, 4], 0, []),
  (.aload_n 0, (42, 1), [], 0, []),
  (.bipush 6, (43, 2), [], 0, []),
  (.newarray .int, (45, 2), [20], 0, []),
  (.putfield 25, (47, 3), [9, 8, 4], 0, []),
  (.aload_n 0, (50, 1), [], 0, []),
  (.bipush 6, (51, 2), [], 0, []),
  (.newarray .int, (53, 2), [20], 0, []),
  (.putfield 28, (55, 3), [9, 9, 4], 0, []),
  (.aload_n 0, (58, 1), [], 0, []),
  (.bipush 12, (59, 2), [], 0, []),
  (.newarray .int, (61, 2), [20], 0, []),
  (.putfield 31, (63, 3), [9, 10, 4], 0, []),
  (.aload_n 0, (66, 1), [], 0, []),
  (.bipush 12, (67, 2), [], 0, []),
  (.newarray .int, (69, 2), [20], 0, []),
  (.putfield 34, (71, 3), [9, 11, 4], 0, []),
  (.aload_n 0, (74, 1), [], 0, []),
  (.bipush 36, (75, 2), [], 0, []),
  (.newarray .int, (77, 2), [20], 0, []),
  (.putfield 37, (79, 3), [9, 12, 4], 0, []),
  (.aload_n 0, (82, 1), [], 0, []),
  (.bipush 36, (83, 2), [], 0, []),
  (.newarray .int, (85, 2), [20], 0, []),
  (.putfield 40, (87, 3), [9, 13, 4], 0, []),
  (.aload_n 0, (90, 1), [], 0, []),
  (.iconst 4, (91, 1), [], 0, []),
  (.newarray .int, (92, 2), [20], 0, []),
  (.putfield 43, (94, 3), [9, 14, 4], 0, []),
  (.aload_n 0, (97, 1), [], 0, []),
  (.bipush 6, (98, 2), [], 0, []),
  (.newarray .int, (100, 2), [20], 0, []),
  (.putfield 46, (102, 3), [9, 16, 4], 0, []),
  (.aload_n 0, (105, 1), [], 0, []),
  (.bipush 6, (106, 2), [], 0, []),
  (.newarray .int, (108, 2), [20], 0, []),
  (.putfield 49, (110, 3), [9, 17, 4], 0, []),
  (.aload_n 0, (113, 1), [], 0, []),
  (.bipush 6, (114, 2), [], 0, []),
  (.newarray .int, (116, 2), [20], 0, []),
  (.putfield 52, (118, 3), [9, 18, 4], 0, []),
  (.aload_n 0, (121, 1), [], 0, []),
  (.bipush 84, (122, 2), [], 0, []),
  (.newarray .byte, (124, 2), [21], 0, []),
  (.putfield 55, (126, 3), [9, 20, 4], 0, []),
  (.aload_n 0, (129, 1), [], 0, []),
  (.iconst 4, (130, 1), [], 0, []),
  (.newarray .int, (131, 2), [20], 0, []),
  (.putfield 59, (133, 3), [9, 25, 4], 0, []),
  (.aload_n 0, (136, 1), [], 0, []),
  (.bipush 6, (137, 2), [], 0, []),
  (.newarray .int, (139, 2), [20], 0, []),
  (.putfield 62, (141, 3), [9, 26, 4], 0, []),
  (.aload_n 0, (144, 1), [], 0, []),
  (.bipush 6, (145, 2), [], 0, []),
  (.newarray .int, (147, 2), [20], 0, []),
  (.putfield 65, (149, 3), [9, 27, 4], 0, []),
  (.aload_n 0, (152, 1), [], 0, []),
  (.bipush 6, (153, 2), [], 0, []),
  (.newarray .int, (155, 2), [20], 0, []),
  (.putfield 68, (157, 3), [9, 28, 4], 0, []),
  (.aload_n 0, (160, 1), [], 0, []),
  (.bipush 6, (161, 2), [], 0, []),
  (.newarray .int, (163, 2), [20], 0, []),
  (.putfield 71, (165, 3), [9, 29, 4], 0, []),
  (.aload_n 0, (168, 1), [], 0, []),
  (.bipush 6, (169, 2), [], 0, []),
  (.newarray .int, (171, 2), [20], 0, []),
  (.putfield 74, (173, 3), [9, 30, 4], 0, []),
  (.aload_n 0, (176, 1), [], 0, []),
  (.bipush 12, (177, 2), [], 0, []),
  (.newarray .int, (179, 2), [20], 0, []),
  (.putfield 77, (181, 3), [9, 31, 4], 0, []),
  (.aload_n 0, (184, 1), [], 0, []),
  (.bipush 9, (185, 2), [], 0, []),
  (.newarray .int, (187, 2), [20], 0, []),
  (.putfield 80, (189, 3), [9, 32, 4], 0, []),
  (.aload_n 0, (192, 1), [], 0, []),
  (.bipush 9, (193, 2), [], 0, []),
  (.newarray .int, (195, 2), [20], 0, []),
  (.putfield 83, (197, 3), [9, 33, 4], 0, []),
  (.aload_n 0, (200, 1), [], 0, []),
  (.iconst 2, (201, 1), [], 0, []),
  (.newarray .int, (202, 2), [20], 0, []),
  (.putfield 86, (204, 3), [9, 35, 4], 0, []),
  (.aload_n 0, (207, 1), [], 0, []),
  (.bipush 36, (208, 2), [], 0, []),
  (.newarray .int, (210, 2), [20], 0, []),
  (.putfield 89, (212, 3), [9, 36, 4], 0, []),
  (.aload_n 0, (215, 1), [], 0, []),
  (.bipush 36, (216, 2), [], 0, []),
  (.newarray .int, (218, 2), [20], 0, []),
  (.putfield 92, (220, 3), [9, 37, 4], 0, []),
  (.aload_n 0, (223, 1), [], 0, []),
  (.bipush 36, (224, 2), [], 0, []),
  (.newarray .int, (226, 2), [20], 0, []),
  (.putfield 95, (228, 3), [9, 38, 4], 0, []),
  (.aload_n 0, (231, 1), [], 0, []),
  (.bipush 36, (232, 2), [], 0, []),
  (.newarray .int, (234, 2), [20], 0, []),
  (.putfield 98, (236, 3), [9, 39, 4], 0, []),
  (.aload_n 0, (239, 1), [], 0, []),
  (.bipush 36, (240, 2), [], 0, []),
  (.newarray .int, (242, 2), [20], 0, []),
  (.putfield 101, (244, 3), [9, 40, 4], 0, []),
  (.aload_n 0, (247, 1), [], 0, []),
  (.bipush 36, (248, 2), [], 0, []),
  (.newarray .int, (250, 2), [20], 0, []),
  (.putfield 104, (252, 3), [9, 41, 4], 0, []),
  (.aload_n 0, (255, 1), [], 0, []),
  (.bipush 36, (256, 2), [], 0, []),
  (.newarray .int, (258, 2), [20], 0, []),
  (.putfield 107, (260, 3), [9, 42, 4], 0, []),
  (.aload_n 0, (263, 1), [], 0, []),
  (.bipush 36, (264, 2), [], 0, []),
  (.newarray .int, (266, 2), [20], 0, []),
  (.putfield 110, (268, 3), [9, 43, 4], 0, []),
  (.aload_n 0, (271, 1), [], 0, []),
  (.bipush 36, (272, 2), [], 0, []),
  (.newarray .int, (274, 2), [20], 0, []),
  (.putfield 113, (276, 3), [9, 44, 4], 0, []),
  (.aload_n 0, (279, 1), [], 0, []),
  (.iconst 4, (280, 1), [], 0, []),
  (.newarray .int, (281, 2), [20], 0, []),
  (.putfield 116, (283, 3), [9, 47, 4], 0, []),
  (.aload_n 0, (286, 1), [], 0, []),
  (.bipush 64, (287, 2), [], 0, []),
  (.newarray .int, (289, 2), [20], 0, []),
  (.putfield 119, (291, 3), [9, 48, 4], 0, []),
  (.aload_n 0, (294, 1), [], 0, []),
  (.bipush 64, (295, 2), [], 0, []),
  (.newarray .int, (297, 2), [20], 0, []),
  (.putfield 122, (299, 3), [9, 49, 4], 0, []),
  (.aload_n 0, (302, 1), [], 0, []),
  (.bipush 64, (303, 2), [], 0, []),
  (.newarray .int, (305, 2), [20], 0, []),
  (.putfield 125, (307, 3), [9, 51, 4], 0, []),
  (.aload_n 0, (310, 1), [], 0, []),
  (.bipush 6, (311, 2), [], 0, []),
  (.newarray .int, (313, 2), [20], 0, []),
  (.putfield 128, (315, 3), [9, 56, 4], 0, []),
  (.aload_n 0, (318, 1), [], 0, []),
  (.bipush 36, (319, 2), [], 0, []),
  (.newarray .int, (321, 2), [20], 0, []),
  (.putfield 131, (323, 3), [9, 57, 4], 0, []),
  (.aload_n 0, (326, 1), [], 0, []),
  (.iconst 4, (327, 1), [], 0, []),
  (.newarray .int, (328, 2), [20], 0, []),
  (.putfield 134, (330, 3), [9, 58, 4], 0, []),
  (.aload_n 0, (333, 1), [], 0, []),
  (.bipush 6, (334, 2), [], 0, []),
  (.newarray .int, (336, 2), [20], 0, []),
  (.putfield 137, (338, 3), [9, 59, 4], 0, []),
  (.aload_n 0, (341, 1), [], 0, []),
  (.bipush 6, (342, 2), [], 0, []),
  (.newarray .int, (344, 2), [20], 0, []),
  (.putfield 140, (346, 3), [9, 60, 4], 0, []),
  (.aload_n 0, (349, 1), [], 0, []),
  (.bipush 6, (350, 2), [], 0, []),
  (.newarray .int, (352, 2), [20], 0, []),
  (.putfield 143, (354, 3), [9, 61, 4], 0, []),
  (.return_, (357, 1), [], 0, [])]
/-- DictProofModel.within (III)Z -/
def tb_43 : List Op := [(.iload_n 0, (0, 1), [], 0, []),
  (.iload_n 1, (1, 1), [], 0, []),
  (.if_icmp .lt 12, (2, 3), [10], 0, []),
  (.nop, (5, 0), [1], 0, []),
  (.iload_n 0, (5, 1), [], 0, []),
  (.iload_n 2, (6, 1), [], 0, []),
  (.if_icmp .gt 7, (7, 3), [10], 0, []),
  (.nop, (10, 0), [0, 1, 2], 0, []),
  (.iconst 1, (10, 1), [], 0, []),
  (.goto 4, (11, 3), [12], 0, []),
  (.nop, (14, 0), [0, 1, 2], 0, []),
  (.iconst 0, (14, 1), [], 0, []),
  (.nop, (15, 0), [0, 1, 2], 0, []),
  (.ireturn, (15, 1), [1], 0, [])]
/-- DictProofModel.isIn (II)Z -/
def tb_44 : List Op := [(.iload_n 0, (0, 1), [], 0, []),
  (.iload_n 1, (1, 1), [], 0, []),
  (.ishr, (2, 1), [], 0, []),
  (.iconst 1, (3, 1), [], 0, []),
  (.iand, (4, 1), [], 0, []),
  (.iconst 1, (5, 1), [], 0, []),
  (.if_icmp .ne 7, (6, 3), [10], 0, []),
  (.nop, (9, 0), [0, 1], 0, []),
  (.iconst 1, (9, 1), [], 0, []),
  (.goto 4, (10, 3), [12], 0, []),
  (.nop, (13, 0), [0, 1], 0, []),
  (.iconst 0, (13, 1), [], 0, []),
  (.nop, (14, 0), [0, 1], 0, []),
  (.ireturn, (14, 1), [1], 0, [])]
/-- DictProofModel.size (I)I -/
def tb_45 : List Op := [(.iconst 0, (0, 1), [], 0, []),
  (.istore_n 1, (1, 1), [], 0, []),
  (.iconst 0, (2, 1), [], 0, []),
  (.istore_n 2, (3, 1), [], 0, []),
  (.nop, (4, 0), [], 0, []),
  (.iload_n 2, (4, 1), [], 0, []),
  (.bipush 16, (5, 2), [], 0, []),
  (.if_icmp .ge 17, (7, 3), [19], 0, []),
  (.nop, (10, 0), [], 0, []),
  (.iload_n 1, (10, 1), [], 0, []),
  (.iload_n 0, (11, 1), [], 0, []),
  (.iload_n 2, (12, 1), [], 0, []),
  (.ishr, (13, 1), [], 0, []),
  (.iconst 1, (14, 1), [], 0, []),
  (.iand, (15, 1), [], 0, []),
  (.iadd, (16, 1), [], 0, []),
  (.istore_n 1, (17, 1), [], 0, []),
  (.iinc 2 1, (18, 3), [], 0, []),
  (.goto (-17), (21, 3), [4], 0, []),
  (.nop, (24, 0), [0, 2], 0, []),
  (.iload_n 1, (24, 1), [], 0, []),
  (.ireturn, (25, 1), [0], 0, [])]
/-- DictProofModel.isVariable (I)Z -/
def tb_46 : List Op := [(.iload_n 0, (0, 1), [], 0, []),
  (.bipush 120, (1, 2), [], 0, []),
  (.if_icmp .eq 9, (3, 3), [7], 0, []),
  (.nop, (6, 0), [], 0, []),
  (.iload_n 0, (6, 1), [], 0, []),
  (.bipush 121, (7, 2), [], 0, []),
  (.if_icmp .ne 7, (9, 3), [10], 0, []),
  (.nop, (12, 0), [0], 0, []),
  (.iconst 1, (12, 1), [], 0, []),
  (.goto 4, (13, 3), [12], 0, []),
  (.nop, (16, 0), [0], 0, []),
  (.iconst 0, (16, 1), [], 0, []),
  (.nop, (17, 0), [0], 0, []),
  (.ireturn, (17, 1), [1], 0, [])]
/-- DictProofModel.wants (I)I -/
def tb_47 : List Op := [(.iload_n 0, (0, 1), [], 0, []),
  (.lookupswitch 65 #[(98, 59), (105, 59), (108, 61), (112, 63), (120, 59), (121, 59)], (1, 59), [11], 0, [(98, 2), (105, 2), (108, 5), (112, 8), (120, 2), (121, 2)]),
  (.nop, (60, 0), [0], 0, []),
  (.iconst 0, (60, 1), [], 0, []),
  (.ireturn, (61, 1), [0], 0, []),
  (.nop, (62, 0), [0], 0, []),
  (.iconst 1, (62, 1), [], 0, []),
  (.ireturn, (63, 1), [0], 0, []),
  (.nop, (64, 0), [0], 0, []),
  (.iconst 2, (64, 1), [], 0, []),
  (.ireturn, (65, 1), [0], 0, []),
  (.nop, (66, 0), [0], 0, []),
  (.iconst (-1), (66, 1), [], 0, []),
  (.ireturn, (67, 1), [0], 0, [])]
/-- DictProofModel.letter (I)I -/
def tb_48 : List Op := [(.iload_n 1, (0, 1), [], 0, []),
  (.bipush 32, (1, 2), [], 0, []),
  (.bipush 126, (3, 2), [], 0, []),
  (.invokestatic 146, (5, 3), [43, 3, 0, 0, 0, 0, 3], 0, []),
  (.nop, (8, 0), [], 0, []),
  (.ifCond .ne 6, (8, 3), [9], 0, []),
  (.nop, (11, 0), [0, 1], 0, []),
  (.bipush (-102), (11, 2), [], 0, []),
  (.ireturn, (13, 1), [0], 0, []),
  (.nop, (14, 0), [], 0, []),
  (.aload_n 0, (14, 1), [], 0, []),
  (.getfield 150, (15, 3), [9, 19, 0], 0, []),
  (.bipush 84, (18, 2), [], 0, []),
  (.if_icmp .ne 6, (20, 3), [17], 0, []),
  (.nop, (23, 0), [0, 1], 0, []),
  (.bipush (-104), (23, 2), [], 0, []),
  (.ireturn, (25, 1), [0], 0, []),
  (.nop, (26, 0), [], 0, []),
  (.aload_n 0, (26, 1), [], 0, []),
  (.getfield 55, (27, 3), [9, 20, 4], 0, []),
  (.aload_n 0, (30, 1), [], 0, []),
  (.getfield 150, (31, 3), [9, 19, 0], 0, []),
  (.iload_n 1, (34, 1), [], 0, []),
  (.i2b, (35, 1), [], 0, []),
  (.bastore, (36, 1), [], 0, []),
  (.aload_n 0, (37, 1), [], 0, []),
  (.dup, (38, 1), [], 0, []),
  (.getfield 150, (39, 3), [9, 19, 0], 0, []),
  (.iconst 1, (42, 1), [], 0, []),
  (.iadd, (43, 1), [], 0, []),
  (.putfield 150, (44, 3), [9, 19, 0], 0, []),
  (.aload_n 0, (47, 1), [], 0, []),
  (.getfield 150, (48, 3), [9, 19, 0], 0, []),
  (.ireturn, (51, 1), [0], 0, [])]
/-- DictProofModel.blank ()I -/
def tb_49 : List Op := [(.aload_n 0, (0, 1), [], 0, []),
  (.getfield 150, (1, 3), [9, 19, 0], 0, []),
  (.istore_n 1, (4, 1), [], 0, []),
  (.aload_n 0, (5, 1), [], 0, []),
  (.iconst 0, (6, 1), [], 0, []),
  (.putfield 150, (7, 3), [9, 19, 0], 0, []),
  (.iload_n 1, (10, 1), [], 0, []),
  (.ireturn, (11, 1), [0], 0, [])]
/-- DictProofModel.kindBy (I)I -/
def tb_50 : List Op := [(.iload_n 0, (0, 1), [], 0, []),
  (.lookupswitch 61 #[(100, 53), (102, 57), (104, 55), (110, 51), (115, 59)], (1, 51), [17], 0, [(100, 5), (102, 11), (104, 8), (110, 2), (115, 14)]),
  (.nop, (52, 0), [0], 0, []),
  (.iconst 0, (52, 1), [], 0, []),
  (.ireturn, (53, 1), [0], 0, []),
  (.nop, (54, 0), [0], 0, []),
  (.iconst 1, (54, 1), [], 0, []),
  (.ireturn, (55, 1), [0], 0, []),
  (.nop, (56, 0), [0], 0, []),
  (.iconst 2, (56, 1), [], 0, []),
  (.ireturn, (57, 1), [0], 0, []),
  (.nop, (58, 0), [0], 0, []),
  (.iconst 3, (58, 1), [], 0, []),
  (.ireturn, (59, 1), [0], 0, []),
  (.nop, (60, 0), [0], 0, []),
  (.iconst 4, (60, 1), [], 0, []),
  (.ireturn, (61, 1), [0], 0, []),
  (.nop, (62, 0), [0], 0, []),
  (.iconst (-1), (62, 1), [], 0, []),
  (.ireturn, (63, 1), [0], 0, [])]
/-- DictProofModel.at (I)I -/
def tb_51 : List Op := [(.iload_n 1, (0, 1), [], 0, []),
  (.aload_n 0, (1, 1), [], 0, []),
  (.getfield 150, (2, 3), [9, 19, 0], 0, []),
  (.if_icmp .ge 12, (5, 3), [10], 0, []),
  (.nop, (8, 0), [], 0, []),
  (.aload_n 0, (8, 1), [], 0, []),
  (.getfield 55, (9, 3), [9, 20, 4], 0, []),
  (.iload_n 1, (12, 1), [], 0, []),
  (.baload, (13, 1), [], 0, []),
  (.goto 4, (14, 3), [12], 0, []),
  (.nop, (17, 0), [0, 1], 0, []),
  (.iconst 0, (17, 1), [], 0, []),
  (.nop, (18, 0), [0, 1], 0, []),
  (.ireturn, (18, 1), [0], 0, [])]
/-- DictProofModel.figure (I)I -/
def tb_52 : List Op := [(.aload_n 0, (0, 1), [], 0, []),
  (.iload_n 1, (1, 1), [], 0, []),
  (.invokevirtual 154, (2, 3), [51, 2, 9, 0, 0, 0, 2], 0, []),
  (.nop, (5, 0), [0, 1], 0, []),
  (.bipush 48, (5, 2), [], 0, []),
  (.isub, (7, 1), [], 0, []),
  (.ireturn, (8, 1), [0], 0, [])]
/-- DictProofModel.broken (I)I -/
def tb_53 : List Op := [(.aload_n 0, (0, 1), [], 0, []),
  (.iconst 1, (1, 1), [], 0, []),
  (.putfield 158, (2, 3), [9, 22, 1], 0, []),
  (.iload_n 1, (5, 1), [], 0, []),
  (.ireturn, (6, 1), [0], 0, [])]
/-- DictProofModel.readClass (I)I -/
def tb_54 : List Op := [(.aload_n 0, (0, 1), [], 0, []),
  (.getfield 59, (1, 3), [9, 25, 4], 0, []),
  (.aload_n 0, (4, 1), [], 0, []),
  (.getfield 162, (5, 3), [9, 23, 0], 0, []),
  (.iconst 0, (8, 1), [], 0, []),
  (.iastore, (9, 1), [], 0, []),
  (.aload_n 0, (10, 1), [], 0, []),
  (.iload_n 1, (11, 1), [], 0, []),
  (.invokevirtual 154, (12, 3), [51, 2, 9, 0, 0, 0, 2], 0, []),
  (.nop, (15, 0), [2, 3], 0, []),
  (.bipush 45, (15, 2), [], 0, []),
  (.if_icmp .ne 17, (17, 3), [23], 0, []),
  (.nop, (20, 0), [2, 3], 0, []),
  (.aload_n 0, (20, 1), [], 0, []),
  (.dup, (21, 1), [], 0, []),
  (.getfield 162, (22, 3), [9, 23, 0], 0, []),
  (.iconst 1, (25, 1), [], 0, []),
  (.iadd, (26, 1), [], 0, []),
  (.putfield 162, (27, 3), [9, 23, 0], 0, []),
  (.iload_n 1, (30, 1), [], 0, []),
  (.iconst 1, (31, 1), [], 0, []),
  (.iadd, (32, 1), [], 0, []),
  (.ireturn, (33, 1), [0], 0, []),
  (.nop, (34, 0), [2, 3], 0, []),
  (.iload_n 1, (34, 1), [], 0, []),
  (.istore_n 2, (35, 1), [], 0, []),
  (.iconst (-1), (36, 1), [], 0, []),
  (.istore_n 3, (37, 1), [], 0, []),
  (.nop, (38, 0), [], 0, []),
  (.iload_n 2, (38, 1), [], 0, []),
  (.iload_n 1, (39, 1), [], 0, []),
  (.iconst 2, (40, 1), [], 0, []),
  (.iadd, (41, 1), [], 0, []),
  (.if_icmp .ge 75, (42, 3), [88], 0, []),
  (.nop, (45, 0), [], 0, []),
  (.iload_n 2, (45, 1), [], 0, []),
  (.iload_n 1, (46, 1), [], 0, []),
  (.if_icmp .eq 17, (47, 3), [48], 0, []),
  (.nop, (50, 0), [], 0, []),
  (.aload_n 0, (50, 1), [], 0, []),
  (.iload_n 2, (51, 1), [], 0, []),
  (.invokevirtual 165, (52, 3), [52, 2, 9, 0, 0, 0, 2], 0, []),
  (.nop, (55, 0), [], 0, []),
  (.iconst 0, (55, 1), [], 0, []),
  (.bipush 9, (56, 2), [], 0, []),
  (.invokestatic 146, (58, 3), [43, 3, 0, 0, 0, 0, 3], 0, []),
  (.nop, (61, 0), [], 0, []),
  (.ifCond .eq 56, (61, 3), [88], 0, []),
  (.nop, (64, 0), [], 0, []),
  (.aload_n 0, (64, 1), [], 0, []),
  (.iload_n 2, (65, 1), [], 0, []),
  (.invokevirtual 165, (66, 3), [52, 2, 9, 0, 0, 0, 2], 0, []),
  (.nop, (69, 0), [], 0, []),
  (.iload_n 3, (69, 1), [], 0, []),
  (.iconst 1, (70, 1), [], 0, []),
  (.iadd, (71, 1), [], 0, []),
  (.aload_n 0, (72, 1), [], 0, []),
  (.getfield 162, (73, 3), [9, 23, 0], 0, []),
  (.iconst 1, (76, 1), [], 0, []),
  (.isub, (77, 1), [], 0, []),
  (.invokestatic 146, (78, 3), [43, 3, 0, 0, 0, 0, 3], 0, []),
  (.nop, (81, 0), [3], 0, []),
  (.ifCond .ne 9, (81, 3), [69], 0, []),
  (.nop, (84, 0), [1, 3], 0, []),
  (.aload_n 0, (84, 1), [], 0, []),
  (.iload_n 2, (85, 1), [], 0, []),
  (.invokevirtual 168, (86, 3), [53, 2, 9, 0, 0, 0, 2], 0, []),
  (.nop, (89, 0), [0, 1, 2, 3], 0, []),
  (.ireturn, (89, 1), [0], 0, []),
  (.nop, (90, 0), [3], 0, []),
  (.aload_n 0, (90, 1), [], 0, []),
  (.iload_n 2, (91, 1), [], 0, []),
  (.invokevirtual 165, (92, 3), [52, 2, 9, 0, 0, 0, 2], 0, []),
  (.nop, (95, 0), [3], 0, []),
  (.istore_n 3, (95, 1), [], 0, []),
  (.aload_n 0, (96, 1), [], 0, []),
  (.getfield 59, (97, 3), [9, 25, 4], 0, []),
  (.aload_n 0, (100, 1), [], 0, []),
  (.getfield 162, (101, 3), [9, 23, 0], 0, []),
  (.dup2, (104, 1), [], 0, []),
  (.iaload, (105, 1), [], 0, []),
  (.iconst 1, (106, 1), [], 0, []),
  (.iload_n 3, (107, 1), [], 0, []),
  (.ishl, (108, 1), [], 0, []),
  (.ior, (109, 1), [], 0, []),
  (.iastore, (110, 1), [], 0, []),
  (.iinc 2 1, (111, 3), [], 0, []),
  (.goto (-76), (114, 3), [28], 0, []),
  (.nop, (117, 0), [1, 3], 0, []),
  (.aload_n 0, (117, 1), [], 0, []),
  (.dup, (118, 1), [], 0, []),
  (.getfield 162, (119, 3), [9, 23, 0], 0, []),
  (.iconst 1, (122, 1), [], 0, []),
  (.iadd, (123, 1), [], 0, []),
  (.putfield 162, (124, 3), [9, 23, 0], 0, []),
  (.iload_n 2, (127, 1), [], 0, []),
  (.ireturn, (128, 1), [0], 0, [])]
/-- DictProofModel.readClasses ()I -/
def tb_55 : List Op := [(.aload_n 0, (0, 1), [], 0, []),
  (.iconst 0, (1, 1), [], 0, []),
  (.invokevirtual 171, (2, 3), [54, 2, 9, 0, 0, 0, 4], 0, []),
  (.nop, (5, 0), [1], 0, []),
  (.istore_n 1, (5, 1), [], 0, []),
  (.nop, (6, 0), [], 0, []),
  (.aload_n 0, (6, 1), [], 0, []),
  (.getfield 158, (7, 3), [9, 22, 1], 0, []),
  (.ifCond .ne 32, (10, 3), [30], 0, []),
  (.nop, (13, 0), [], 0, []),
  (.aload_n 0, (13, 1), [], 0, []),
  (.getfield 162, (14, 3), [9, 23, 0], 0, []),
  (.iconst 4, (17, 1), [], 0, []),
  (.if_icmp .ge 24, (18, 3), [30], 0, []),
  (.nop, (21, 0), [], 0, []),
  (.aload_n 0, (21, 1), [], 0, []),
  (.iload_n 1, (22, 1), [], 0, []),
  (.invokevirtual 154, (23, 3), [51, 2, 9, 0, 0, 0, 2], 0, []),
  (.nop, (26, 0), [], 0, []),
  (.bipush 44, (26, 2), [], 0, []),
  (.if_icmp .ne 14, (28, 3), [30], 0, []),
  (.nop, (31, 0), [], 0, []),
  (.aload_n 0, (31, 1), [], 0, []),
  (.iload_n 1, (32, 1), [], 0, []),
  (.iconst 1, (33, 1), [], 0, []),
  (.iadd, (34, 1), [], 0, []),
  (.invokevirtual 171, (35, 3), [54, 2, 9, 0, 0, 0, 4], 0, []),
  (.nop, (38, 0), [1], 0, []),
  (.istore_n 1, (38, 1), [], 0, []),
  (.goto (-33), (39, 3), [5], 0, []),
  (.nop, (42, 0), [0], 0, []),
  (.iload_n 1, (42, 1), [], 0, []),
  (.ireturn, (43, 1), [0], 0, [])]
/-- DictProofModel.readHead (II)I -/
def tb_56 : List Op := [(.iload_n 1, (0, 1), [], 0, []),
  (.istore_n 3, (1, 1), [], 0, []),
  (.iconst 1, (2, 1), [], 0, []),
  (.istore 4, (3, 2), [], 0, []),
  (.nop, (5, 0), [5], 0, []),
  (.iload 4, (5, 2), [], 0, []),
  (.ifCond .le 53, (7, 3), [43], 0, []),
  (.nop, (10, 0), [5], 0, []),
  (.aload_n 0, (10, 1), [], 0, []),
  (.iload_n 3, (11, 1), [], 0, []),
  (.invokevirtual 154, (12, 3), [51, 2, 9, 0, 0, 0, 2], 0, []),
  (.nop, (15, 0), [5], 0, []),
  (.invokestatic 174, (15, 3), [47, 1, 0, 0, 0, 0, 1], 0, []),
  (.nop, (18, 0), [5], 0, []),
  (.istore 5, (18, 2), [], 0, []),
  (.iload 5, (20, 2), [], 0, []),
  (.iconst (-1), (22, 1), [], 0, []),
  (.if_icmp .eq 16, (23, 3), [28], 0, []),
  (.nop, (26, 0), [], 0, []),
  (.iload_n 3, (26, 1), [], 0, []),
  (.iload_n 1, (27, 1), [], 0, []),
  (.isub, (28, 1), [], 0, []),
  (.iload 4, (29, 2), [], 0, []),
  (.iadd, (31, 1), [], 0, []),
  (.iload 5, (32, 2), [], 0, []),
  (.iadd, (34, 1), [], 0, []),
  (.iconst 5, (35, 1), [], 0, []),
  (.if_icmp .le 9, (36, 3), [34], 0, []),
  (.nop, (39, 0), [1, 2, 4, 5], 0, []),
  (.aload_n 0, (39, 1), [], 0, []),
  (.iload_n 3, (40, 1), [], 0, []),
  (.invokevirtual 168, (41, 3), [53, 2, 9, 0, 0, 0, 2], 0, []),
  (.nop, (44, 0), [0, 1, 2, 3, 4, 5], 0, []),
  (.ireturn, (44, 1), [0], 0, []),
  (.nop, (45, 0), [], 0, []),
  (.iload 4, (45, 2), [], 0, []),
  (.iload 5, (47, 2), [], 0, []),
  (.iconst 1, (49, 1), [], 0, []),
  (.isub, (50, 1), [], 0, []),
  (.iadd, (51, 1), [], 0, []),
  (.istore 4, (52, 2), [], 0, []),
  (.iinc 3 1, (54, 3), [], 0, []),
  (.goto (-52), (57, 3), [4], 0, []),
  (.nop, (60, 0), [4, 5], 0, []),
  (.aload_n 0, (60, 1), [], 0, []),
  (.getfield 68, (61, 3), [9, 28, 4], 0, []),
  (.iload_n 2, (64, 1), [], 0, []),
  (.iload_n 1, (65, 1), [], 0, []),
  (.iastore, (66, 1), [], 0, []),
  (.aload_n 0, (67, 1), [], 0, []),
  (.getfield 71, (68, 3), [9, 29, 4], 0, []),
  (.iload_n 2, (71, 1), [], 0, []),
  (.iload_n 3, (72, 1), [], 0, []),
  (.iload_n 1, (73, 1), [], 0, []),
  (.isub, (74, 1), [], 0, []),
  (.iastore, (75, 1), [], 0, []),
  (.iload_n 3, (76, 1), [], 0, []),
  (.ireturn, (77, 1), [0], 0, [])]
/-- DictProofModel.isInHead (II)Z -/
def tb_57 : List Op := [(.iconst 0, (0, 1), [], 0, []),
  (.istore_n 3, (1, 1), [], 0, []),
  (.iconst 0, (2, 1), [], 0, []),
  (.istore 4, (3, 2), [], 0, []),
  (.nop, (5, 0), [], 0, []),
  (.iload 4, (5, 2), [], 0, []),
  (.aload_n 0, (7, 1), [], 0, []),
  (.getfield 71, (8, 3), [9, 29, 4], 0, []),
  (.iload_n 1, (11, 1), [], 0, []),
  (.iaload, (12, 1), [], 0, []),
  (.if_icmp .ge 36, (13, 3), [35], 0, []),
  (.nop, (16, 0), [], 0, []),
  (.iload_n 3, (16, 1), [], 0, []),
  (.ifCond .ne 20, (17, 3), [26], 0, []),
  (.nop, (20, 0), [3], 0, []),
  (.aload_n 0, (20, 1), [], 0, []),
  (.aload_n 0, (21, 1), [], 0, []),
  (.getfield 68, (22, 3), [9, 28, 4], 0, []),
  (.iload_n 1, (25, 1), [], 0, []),
  (.iaload, (26, 1), [], 0, []),
  (.iload 4, (27, 2), [], 0, []),
  (.iadd, (29, 1), [], 0, []),
  (.invokevirtual 154, (30, 3), [51, 2, 9, 0, 0, 0, 2], 0, []),
  (.nop, (33, 0), [3], 0, []),
  (.iload_n 2, (33, 1), [], 0, []),
  (.if_icmp .ne 7, (34, 3), [29], 0, []),
  (.nop, (37, 0), [3], 0, []),
  (.iconst 1, (37, 1), [], 0, []),
  (.goto 4, (38, 3), [31], 0, []),
  (.nop, (41, 0), [3], 0, []),
  (.iconst 0, (41, 1), [], 0, []),
  (.nop, (42, 0), [3], 0, []),
  (.istore_n 3, (42, 1), [], 0, []),
  (.iinc 4 1, (43, 3), [], 0, []),
  (.goto (-41), (46, 3), [4], 0, []),
  (.nop, (49, 0), [0, 1, 2, 4], 0, []),
  (.iload_n 3, (49, 1), [], 0, []),
  (.ireturn, (50, 1), [1], 0, [])]
/-- DictProofModel.readConditions (II)I -/
def tb_58 : List Op := [(.iload_n 1, (0, 1), [], 0, []),
  (.istore_n 3, (1, 1), [], 0, []),
  (.aload_n 0, (2, 1), [], 0, []),
  (.getfield 74, (3, 3), [9, 30, 4], 0, []),
  (.iload_n 2, (6, 1), [], 0, []),
  (.iconst 0, (7, 1), [], 0, []),
  (.iastore, (8, 1), [], 0, []),
  (.aload_n 0, (9, 1), [], 0, []),
  (.iload_n 2, (10, 1), [], 0, []),
  (.bipush 120, (11, 2), [], 0, []),
  (.invokevirtual 177, (13, 3), [57, 3, 9, 0, 0, 0, 5], 0, []),
  (.nop, (16, 0), [1, 4], 0, []),
  (.ifCond .ne 13, (16, 3), [20], 0, []),
  (.nop, (19, 0), [1, 4], 0, []),
  (.aload_n 0, (19, 1), [], 0, []),
  (.iload_n 2, (20, 1), [], 0, []),
  (.bipush 121, (21, 2), [], 0, []),
  (.invokevirtual 177, (23, 3), [57, 3, 9, 0, 0, 0, 5], 0, []),
  (.nop, (26, 0), [1, 4], 0, []),
  (.ifCond .eq 7, (26, 3), [23], 0, []),
  (.nop, (29, 0), [1, 4], 0, []),
  (.iconst 1, (29, 1), [], 0, []),
  (.goto 4, (30, 3), [25], 0, []),
  (.nop, (33, 0), [1, 4], 0, []),
  (.iconst 0, (33, 1), [], 0, []),
  (.nop, (34, 0), [1, 4], 0, []),
  (.istore 4, (34, 2), [], 0, []),
  (.nop, (36, 0), [1], 0, []),
  (.aload_n 0, (36, 1), [], 0, []),
  (.getfield 74, (37, 3), [9, 30, 4], 0, []),
  (.iload_n 2, (40, 1), [], 0, []),
  (.iaload, (41, 1), [], 0, []),
  (.iconst 2, (42, 1), [], 0, []),
  (.if_icmp .ge 108, (43, 3), [114], 0, []),
  (.nop, (46, 0), [1], 0, []),
  (.iload 4, (46, 2), [], 0, []),
  (.ifCond .eq 103, (48, 3), [114], 0, []),
  (.nop, (51, 0), [1], 0, []),
  (.aload_n 0, (51, 1), [], 0, []),
  (.iload_n 3, (52, 1), [], 0, []),
  (.invokevirtual 165, (53, 3), [52, 2, 9, 0, 0, 0, 2], 0, []),
  (.nop, (56, 0), [1], 0, []),
  (.iconst 0, (56, 1), [], 0, []),
  (.bipush 9, (57, 2), [], 0, []),
  (.invokestatic 146, (59, 3), [43, 3, 0, 0, 0, 0, 3], 0, []),
  (.nop, (62, 0), [1], 0, []),
  (.ifCond .eq 89, (62, 3), [114], 0, []),
  (.nop, (65, 0), [1], 0, []),
  (.aload_n 0, (65, 1), [], 0, []),
  (.iload_n 3, (66, 1), [], 0, []),
  (.invokevirtual 165, (67, 3), [52, 2, 9, 0, 0, 0, 2], 0, []),
  (.nop, (70, 0), [1], 0, []),
  (.aload_n 0, (70, 1), [], 0, []),
  (.getfield 162, (71, 3), [9, 23, 0], 0, []),
  (.if_icmp .lt 9, (74, 3), [61], 0, []),
  (.nop, (77, 0), [1, 2, 4], 0, []),
  (.aload_n 0, (77, 1), [], 0, []),
  (.iload_n 3, (78, 1), [], 0, []),
  (.invokevirtual 168, (79, 3), [53, 2, 9, 0, 0, 0, 2], 0, []),
  (.nop, (82, 0), [0, 1, 2, 3, 4], 0, []),
  (.ireturn, (82, 1), [0], 0, []),
  (.nop, (83, 0), [1], 0, []),
  (.aload_n 0, (83, 1), [], 0, []),
  (.iload_n 3, (84, 1), [], 0, []),
  (.iconst 1, (85, 1), [], 0, []),
  (.iadd, (86, 1), [], 0, []),
  (.invokevirtual 154, (87, 3), [51, 2, 9, 0, 0, 0, 2], 0, []),
  (.nop, (90, 0), [1], 0, []),
  (.invokestatic 181, (90, 3), [46, 1, 0, 0, 0, 0, 1], 0, []),
  (.nop, (93, 0), [1], 0, []),
  (.ifCond .eq 18, (93, 3), [83], 0, []),
  (.nop, (96, 0), [1], 0, []),
  (.aload_n 0, (96, 1), [], 0, []),
  (.iload_n 2, (97, 1), [], 0, []),
  (.aload_n 0, (98, 1), [], 0, []),
  (.iload_n 3, (99, 1), [], 0, []),
  (.iconst 1, (100, 1), [], 0, []),
  (.iadd, (101, 1), [], 0, []),
  (.invokevirtual 154, (102, 3), [51, 2, 9, 0, 0, 0, 2], 0, []),
  (.nop, (105, 0), [1], 0, []),
  (.invokevirtual 177, (105, 3), [57, 3, 9, 0, 0, 0, 5], 0, []),
  (.nop, (108, 0), [1], 0, []),
  (.ifCond .ne 11, (108, 3), [91], 0, []),
  (.nop, (111, 0), [1, 2, 4], 0, []),
  (.aload_n 0, (111, 1), [], 0, []),
  (.iload_n 3, (112, 1), [], 0, []),
  (.iconst 1, (113, 1), [], 0, []),
  (.iadd, (114, 1), [], 0, []),
  (.invokevirtual 168, (115, 3), [53, 2, 9, 0, 0, 0, 2], 0, []),
  (.nop, (118, 0), [0, 1, 2, 3, 4], 0, []),
  (.ireturn, (118, 1), [0], 0, []),
  (.nop, (119, 0), [1], 0, []),
  (.aload_n 0, (119, 1), [], 0, []),
  (.getfield 77, (120, 3), [9, 31, 4], 0, []),
  (.iconst 2, (123, 1), [], 0, []),
  (.iload_n 2, (124, 1), [], 0, []),
  (.imul, (125, 1), [], 0, []),
  (.aload_n 0, (126, 1), [], 0, []),
  (.getfield 74, (127, 3), [9, 30, 4], 0, []),
  (.iload_n 2, (130, 1), [], 0, []),
  (.iaload, (131, 1), [], 0, []),
  (.iadd, (132, 1), [], 0, []),
  (.iload_n 3, (133, 1), [], 0, []),
  (.iastore, (134, 1), [], 0, []),
  (.aload_n 0, (135, 1), [], 0, []),
  (.getfield 74, (136, 3), [9, 30, 4], 0, []),
  (.iload_n 2, (139, 1), [], 0, []),
  (.dup2, (140, 1), [], 0, []),
  (.iaload, (141, 1), [], 0, []),
  (.iconst 1, (142, 1), [], 0, []),
  (.iadd, (143, 1), [], 0, []),
  (.iastore, (144, 1), [], 0, []),
  (.iinc 3 2, (145, 3), [], 0, []),
  (.goto (-112), (148, 3), [27], 0, []),
  (.nop, (151, 0), [0, 1, 2, 4], 0, []),
  (.iload_n 3, (151, 1), [], 0, []),
  (.ireturn, (152, 1), [0], 0, [])]
/-- DictProofModel.readInstance (I)I -/
def tb_59 : List Op := [(.aload_n 0, (0, 1), [], 0, []),
  (.getfield 185, (1, 3), [9, 24, 0], 0, []),
  (.istore_n 2, (4, 1), [], 0, []),
  (.aload_n 0, (5, 1), [], 0, []),
  (.getfield 62, (6, 3), [9, 26, 4], 0, []),
  (.iload_n 2, (9, 1), [], 0, []),
  (.aload_n 0, (10, 1), [], 0, []),
  (.iload_n 1, (11, 1), [], 0, []),
  (.invokevirtual 154, (12, 3), [51, 2, 9, 0, 0, 0, 2], 0, []),
  (.nop, (15, 0), [3], 0, []),
  (.invokestatic 188, (15, 3), [50, 1, 0, 0, 0, 0, 1], 0, []),
  (.nop, (18, 0), [3], 0, []),
  (.iastore, (18, 1), [], 0, []),
  (.aload_n 0, (19, 1), [], 0, []),
  (.getfield 62, (20, 3), [9, 26, 4], 0, []),
  (.iload_n 2, (23, 1), [], 0, []),
  (.iaload, (24, 1), [], 0, []),
  (.iconst (-1), (25, 1), [], 0, []),
  (.if_icmp .ne 9, (26, 3), [25], 0, []),
  (.nop, (29, 0), [2, 3], 0, []),
  (.aload_n 0, (29, 1), [], 0, []),
  (.iload_n 1, (30, 1), [], 0, []),
  (.invokevirtual 168, (31, 3), [53, 2, 9, 0, 0, 0, 2], 0, []),
  (.nop, (34, 0), [0, 1, 2, 3], 0, []),
  (.ireturn, (34, 1), [0], 0, []),
  (.nop, (35, 0), [3], 0, []),
  (.aload_n 0, (35, 1), [], 0, []),
  (.getfield 65, (36, 3), [9, 27, 4], 0, []),
  (.iload_n 2, (39, 1), [], 0, []),
  (.aload_n 0, (40, 1), [], 0, []),
  (.iload_n 1, (41, 1), [], 0, []),
  (.iconst 1, (42, 1), [], 0, []),
  (.iadd, (43, 1), [], 0, []),
  (.invokevirtual 165, (44, 3), [52, 2, 9, 0, 0, 0, 2], 0, []),
  (.nop, (47, 0), [3], 0, []),
  (.iastore, (47, 1), [], 0, []),
  (.aload_n 0, (48, 1), [], 0, []),
  (.getfield 65, (49, 3), [9, 27, 4], 0, []),
  (.iload_n 2, (52, 1), [], 0, []),
  (.iaload, (53, 1), [], 0, []),
  (.iconst 0, (54, 1), [], 0, []),
  (.aload_n 0, (55, 1), [], 0, []),
  (.getfield 162, (56, 3), [9, 23, 0], 0, []),
  (.iconst 1, (59, 1), [], 0, []),
  (.isub, (60, 1), [], 0, []),
  (.invokestatic 146, (61, 3), [43, 3, 0, 0, 0, 0, 3], 0, []),
  (.nop, (64, 0), [3], 0, []),
  (.ifCond .ne 11, (64, 3), [56], 0, []),
  (.nop, (67, 0), [2, 3], 0, []),
  (.aload_n 0, (67, 1), [], 0, []),
  (.iload_n 1, (68, 1), [], 0, []),
  (.iconst 1, (69, 1), [], 0, []),
  (.iadd, (70, 1), [], 0, []),
  (.invokevirtual 168, (71, 3), [53, 2, 9, 0, 0, 0, 2], 0, []),
  (.nop, (74, 0), [0, 1, 2, 3], 0, []),
  (.ireturn, (74, 1), [0], 0, []),
  (.nop, (75, 0), [3], 0, []),
  (.aload_n 0, (75, 1), [], 0, []),
  (.iload_n 1, (76, 1), [], 0, []),
  (.iconst 2, (77, 1), [], 0, []),
  (.iadd, (78, 1), [], 0, []),
  (.iload_n 2, (79, 1), [], 0, []),
  (.invokevirtual 191, (80, 3), [56, 3, 9, 0, 0, 0, 6], 0, []),
  (.nop, (83, 0), [1, 3], 0, []),
  (.istore_n 3, (83, 1), [], 0, []),
  (.aload_n 0, (84, 1), [], 0, []),
  (.getfield 158, (85, 3), [9, 22, 1], 0, []),
  (.ifCond .ne 10, (88, 3), [75], 0, []),
  (.nop, (91, 0), [1], 0, []),
  (.aload_n 0, (91, 1), [], 0, []),
  (.iload_n 3, (92, 1), [], 0, []),
  (.iload_n 2, (93, 1), [], 0, []),
  (.invokevirtual 195, (94, 3), [58, 3, 9, 0, 0, 0, 5], 0, []),
  (.nop, (97, 0), [1, 2, 3], 0, []),
  (.istore_n 3, (97, 1), [], 0, []),
  (.nop, (98, 0), [1, 2], 0, []),
  (.aload_n 0, (98, 1), [], 0, []),
  (.dup, (99, 1), [], 0, []),
  (.getfield 185, (100, 3), [9, 24, 0], 0, []),
  (.iconst 1, (103, 1), [], 0, []),
  (.iadd, (104, 1), [], 0, []),
  (.putfield 185, (105, 3), [9, 24, 0], 0, []),
  (.iload_n 3, (108, 1), [], 0, []),
  (.ireturn, (109, 1), [0], 0, [])]
/-- DictProofModel.read ()I -/
def tb_60 : List Op := [(.aload_n 0, (0, 1), [], 0, []),
  (.iconst 0, (1, 1), [], 0, []),
  (.putfield 198, (2, 3), [9, 21, 1], 0, []),
  (.aload_n 0, (5, 1), [], 0, []),
  (.iconst 0, (6, 1), [], 0, []),
  (.putfield 158, (7, 3), [9, 22, 1], 0, []),
  (.aload_n 0, (10, 1), [], 0, []),
  (.iconst 0, (11, 1), [], 0, []),
  (.putfield 162, (12, 3), [9, 23, 0], 0, []),
  (.aload_n 0, (15, 1), [], 0, []),
  (.iconst 0, (16, 1), [], 0, []),
  (.putfield 185, (17, 3), [9, 24, 0], 0, []),
  (.aload_n 0, (20, 1), [], 0, []),
  (.invokevirtual 201, (21, 3), [55, 1, 9, 0, 0, 0, 2], 0, []),
  (.nop, (24, 0), [1], 0, []),
  (.istore_n 1, (24, 1), [], 0, []),
  (.aload_n 0, (25, 1), [], 0, []),
  (.getfield 158, (26, 3), [9, 22, 1], 0, []),
  (.ifCond .ne 13, (29, 3), [26], 0, []),
  (.nop, (32, 0), [], 0, []),
  (.aload_n 0, (32, 1), [], 0, []),
  (.iload_n 1, (33, 1), [], 0, []),
  (.invokevirtual 154, (34, 3), [51, 2, 9, 0, 0, 0, 2], 0, []),
  (.nop, (37, 0), [], 0, []),
  (.bipush 59, (37, 2), [], 0, []),
  (.if_icmp .eq 5, (39, 3), [29], 0, []),
  (.nop, (42, 0), [0], 0, []),
  (.iload_n 1, (42, 1), [], 0, []),
  (.ireturn, (43, 1), [0], 0, []),
  (.nop, (44, 0), [], 0, []),
  (.aload_n 0, (44, 1), [], 0, []),
  (.iload_n 1, (45, 1), [], 0, []),
  (.iconst 1, (46, 1), [], 0, []),
  (.iadd, (47, 1), [], 0, []),
  (.invokevirtual 205, (48, 3), [59, 2, 9, 0, 0, 0, 4], 0, []),
  (.nop, (51, 0), [1], 0, []),
  (.istore_n 1, (51, 1), [], 0, []),
  (.nop, (52, 0), [], 0, []),
  (.aload_n 0, (52, 1), [], 0, []),
  (.getfield 158, (53, 3), [9, 22, 1], 0, []),
  (.ifCond .ne 33, (56, 3), [62], 0, []),
  (.nop, (59, 0), [], 0, []),
  (.aload_n 0, (59, 1), [], 0, []),
  (.getfield 185, (60, 3), [9, 24, 0], 0, []),
  (.bipush 6, (63, 2), [], 0, []),
  (.if_icmp .ge 24, (65, 3), [62], 0, []),
  (.nop, (68, 0), [], 0, []),
  (.aload_n 0, (68, 1), [], 0, []),
  (.iload_n 1, (69, 1), [], 0, []),
  (.invokevirtual 154, (70, 3), [51, 2, 9, 0, 0, 0, 2], 0, []),
  (.nop, (73, 0), [], 0, []),
  (.bipush 44, (73, 2), [], 0, []),
  (.if_icmp .ne 14, (75, 3), [62], 0, []),
  (.nop, (78, 0), [], 0, []),
  (.aload_n 0, (78, 1), [], 0, []),
  (.iload_n 1, (79, 1), [], 0, []),
  (.iconst 1, (80, 1), [], 0, []),
  (.iadd, (81, 1), [], 0, []),
  (.invokevirtual 205, (82, 3), [59, 2, 9, 0, 0, 0, 4], 0, []),
  (.nop, (85, 0), [1], 0, []),
  (.istore_n 1, (85, 1), [], 0, []),
  (.goto (-34), (86, 3), [37], 0, []),
  (.nop, (89, 0), [], 0, []),
  (.aload_n 0, (89, 1), [], 0, []),
  (.aload_n 0, (90, 1), [], 0, []),
  (.getfield 158, (91, 3), [9, 22, 1], 0, []),
  (.ifCond .ne 15, (94, 3), [75], 0, []),
  (.nop, (97, 0), [], 0, []),
  (.iload_n 1, (97, 1), [], 0, []),
  (.aload_n 0, (98, 1), [], 0, []),
  (.getfield 150, (99, 3), [9, 19, 0], 0, []),
  (.if_icmp .ne 7, (102, 3), [75], 0, []),
  (.nop, (105, 0), [0], 0, []),
  (.iconst 1, (105, 1), [], 0, []),
  (.goto 4, (106, 3), [77], 0, []),
  (.nop, (109, 0), [0], 0, []),
  (.iconst 0, (109, 1), [], 0, []),
  (.nop, (110, 0), [0], 0, []),
  (.putfield 198, (110, 3), [9, 21, 1], 0, []),
  (.iload_n 1, (113, 1), [], 0, []),
  (.ireturn, (114, 1), [0], 0, [])]
/-- DictProofModel.fault ()I -/
def tb_61 : List Op := [(.aload_n 0, (0, 1), [], 0, []),
  (.invokevirtual 208, (1, 3), [60, 1, 9, 0, 0, 0, 2], 0, []),
  (.nop, (4, 0), [0], 0, []),
  (.ireturn, (4, 1), [0], 0, [])]
/-- DictProofModel.book ()I -/
def tb_62 : List Op := [(.aload_n 0, (0, 1), [], 0, []),
  (.invokevirtual 208, (1, 3), [60, 1, 9, 0, 0, 0, 2], 0, []),
  (.nop, (4, 0), [1, 2], 0, []),
  (.pop, (4, 1), [], 0, []),
  (.aload_n 0, (5, 1), [], 0, []),
  (.getfield 198, (6, 3), [9, 21, 1], 0, []),
  (.ifCond .ne 6, (9, 3), [10], 0, []),
  (.nop, (12, 0), [0, 1, 2], 0, []),
  (.bipush (-103), (12, 2), [], 0, []),
  (.ireturn, (14, 1), [0], 0, []),
  (.nop, (15, 0), [1, 2], 0, []),
  (.aload_n 0, (15, 1), [], 0, []),
  (.aload_n 0, (16, 1), [], 0, []),
  (.getfield 162, (17, 3), [9, 23, 0], 0, []),
  (.putfield 211, (20, 3), [9, 1, 0], 0, []),
  (.iconst 0, (23, 1), [], 0, []),
  (.istore_n 1, (24, 1), [], 0, []),
  (.nop, (25, 0), [2], 0, []),
  (.iload_n 1, (25, 1), [], 0, []),
  (.aload_n 0, (26, 1), [], 0, []),
  (.getfield 211, (27, 3), [9, 1, 0], 0, []),
  (.if_icmp .ge 78, (30, 3), [75], 0, []),
  (.nop, (33, 0), [2], 0, []),
  (.aload_n 0, (33, 1), [], 0, []),
  (.getfield 7, (34, 3), [9, 2, 4], 0, []),
  (.iload_n 1, (37, 1), [], 0, []),
  (.aload_n 0, (38, 1), [], 0, []),
  (.getfield 59, (39, 3), [9, 25, 4], 0, []),
  (.iload_n 1, (42, 1), [], 0, []),
  (.iaload, (43, 1), [], 0, []),
  (.iastore, (44, 1), [], 0, []),
  (.aload_n 0, (45, 1), [], 0, []),
  (.getfield 13, (46, 3), [9, 3, 4], 0, []),
  (.iload_n 1, (49, 1), [], 0, []),
  (.aload_n 0, (50, 1), [], 0, []),
  (.getfield 59, (51, 3), [9, 25, 4], 0, []),
  (.iload_n 1, (54, 1), [], 0, []),
  (.iaload, (55, 1), [], 0, []),
  (.iastore, (56, 1), [], 0, []),
  (.iconst 0, (57, 1), [], 0, []),
  (.istore_n 2, (58, 1), [], 0, []),
  (.nop, (59, 0), [], 0, []),
  (.iload_n 2, (59, 1), [], 0, []),
  (.iload_n 1, (60, 1), [], 0, []),
  (.if_icmp .ge 41, (61, 3), [72], 0, []),
  (.nop, (64, 0), [], 0, []),
  (.aload_n 0, (64, 1), [], 0, []),
  (.getfield 13, (65, 3), [9, 3, 4], 0, []),
  (.iload_n 1, (68, 1), [], 0, []),
  (.dup2, (69, 1), [], 0, []),
  (.iaload, (70, 1), [], 0, []),
  (.aload_n 0, (71, 1), [], 0, []),
  (.getfield 59, (72, 3), [9, 25, 4], 0, []),
  (.iload_n 1, (75, 1), [], 0, []),
  (.iaload, (76, 1), [], 0, []),
  (.iload_n 2, (77, 1), [], 0, []),
  (.invokestatic 214, (78, 3), [44, 2, 0, 0, 0, 0, 2], 0, []),
  (.nop, (81, 0), [], 0, []),
  (.ifCond .eq 12, (81, 3), [65], 0, []),
  (.nop, (84, 0), [], 0, []),
  (.aload_n 0, (84, 1), [], 0, []),
  (.getfield 13, (85, 3), [9, 3, 4], 0, []),
  (.iload_n 2, (88, 1), [], 0, []),
  (.iaload, (89, 1), [], 0, []),
  (.goto 4, (90, 3), [67], 0, []),
  (.nop, (93, 0), [], 0, []),
  (.iconst 0, (93, 1), [], 0, []),
  (.nop, (94, 0), [], 0, []),
  (.ior, (94, 1), [], 0, []),
  (.iastore, (95, 1), [], 0, []),
  (.iinc 2 1, (96, 3), [], 0, []),
  (.goto (-40), (99, 3), [41], 0, []),
  (.nop, (102, 0), [2], 0, []),
  (.iinc 1 1, (102, 3), [], 0, []),
  (.goto (-80), (105, 3), [17], 0, []),
  (.nop, (108, 0), [1, 2], 0, []),
  (.aload_n 0, (108, 1), [], 0, []),
  (.aload_n 0, (109, 1), [], 0, []),
  (.getfield 185, (110, 3), [9, 24, 0], 0, []),
  (.putfield 217, (113, 3), [9, 4, 0], 0, []),
  (.iconst 0, (116, 1), [], 0, []),
  (.istore_n 1, (117, 1), [], 0, []),
  (.nop, (118, 0), [2], 0, []),
  (.iload_n 1, (118, 1), [], 0, []),
  (.aload_n 0, (119, 1), [], 0, []),
  (.getfield 217, (120, 3), [9, 4, 0], 0, []),
  (.if_icmp .ge 14, (123, 3), [94], 0, []),
  (.nop, (126, 0), [2], 0, []),
  (.aload_n 0, (126, 1), [], 0, []),
  (.iload_n 1, (127, 1), [], 0, []),
  (.invokevirtual 220, (128, 3), [63, 2, 9, 0, 0, 0, 4], 0, []),
  (.nop, (131, 0), [2], 0, []),
  (.iinc 1 1, (131, 3), [], 0, []),
  (.goto (-16), (134, 3), [82], 0, []),
  (.nop, (137, 0), [1, 2], 0, []),
  (.aload_n 0, (137, 1), [], 0, []),
  (.invokevirtual 224, (138, 3), [69, 1, 9, 0, 0, 0, 4], 0, []),
  (.nop, (141, 0), [1, 2], 0, []),
  (.iconst 0, (141, 1), [], 0, []),
  (.istore_n 1, (142, 1), [], 0, []),
  (.nop, (143, 0), [2], 0, []),
  (.iload_n 1, (143, 1), [], 0, []),
  (.iconst 4, (144, 1), [], 0, []),
  (.if_icmp .ge 16, (145, 3), [112], 0, []),
  (.nop, (148, 0), [2], 0, []),
  (.aload_n 0, (148, 1), [], 0, []),
  (.getfield 43, (149, 3), [9, 14, 4], 0, []),
  (.iload_n 1, (152, 1), [], 0, []),
  (.iconst 0, (153, 1), [], 0, []),
  (.iastore, (154, 1), [], 0, []),
  (.iinc 1 1, (155, 3), [], 0, []),
  (.goto (-15), (158, 3), [100], 0, []),
  (.nop, (161, 0), [1, 2], 0, []),
  (.aload_n 0, (161, 1), [], 0, []),
  (.dup, (162, 1), [], 0, []),
  (.getfield 227, (163, 3), [9, 0, 0], 0, []),
  (.iconst 1, (166, 1), [], 0, []),
  (.iadd, (167, 1), [], 0, []),
  (.putfield 227, (168, 3), [9, 0, 0], 0, []),
  (.aload_n 0, (171, 1), [], 0, []),
  (.iconst 0, (172, 1), [], 0, []),
  (.putfield 230, (173, 3), [9, 15, 0], 0, []),
  (.aload_n 0, (176, 1), [], 0, []),
  (.iconst 0, (177, 1), [], 0, []),
  (.putfield 150, (178, 3), [9, 19, 0], 0, []),
  (.aload_n 0, (181, 1), [], 0, []),
  (.getfield 217, (182, 3), [9, 4, 0], 0, []),
  (.ireturn, (185, 1), [0], 0, [])]
/-- DictProofModel.takeInstance (I)V -/
def tb_63 : List Op := [(.aload_n 0, (0, 1), [], 0, []),
  (.getfield 16, (1, 3), [9, 5, 4], 0, []),
  (.iload_n 1, (4, 1), [], 0, []),
  (.aload_n 0, (5, 1), [], 0, []),
  (.getfield 62, (6, 3), [9, 26, 4], 0, []),
  (.iload_n 1, (9, 1), [], 0, []),
  (.iaload, (10, 1), [], 0, []),
  (.iastore, (11, 1), [], 0, []),
  (.aload_n 0, (12, 1), [], 0, []),
  (.getfield 19, (13, 3), [9, 6, 4], 0, []),
  (.iload_n 1, (16, 1), [], 0, []),
  (.aload_n 0, (17, 1), [], 0, []),
  (.getfield 65, (18, 3), [9, 27, 4], 0, []),
  (.iload_n 1, (21, 1), [], 0, []),
  (.iaload, (22, 1), [], 0, []),
  (.iastore, (23, 1), [], 0, []),
  (.aload_n 0, (24, 1), [], 0, []),
  (.getfield 25, (25, 3), [9, 8, 4], 0, []),
  (.iload_n 1, (28, 1), [], 0, []),
  (.aload_n 0, (29, 1), [], 0, []),
  (.getfield 71, (30, 3), [9, 29, 4], 0, []),
  (.iload_n 1, (33, 1), [], 0, []),
  (.iaload, (34, 1), [], 0, []),
  (.iastore, (35, 1), [], 0, []),
  (.iconst 0, (36, 1), [], 0, []),
  (.istore_n 2, (37, 1), [], 0, []),
  (.nop, (38, 0), [3], 0, []),
  (.iload_n 2, (38, 1), [], 0, []),
  (.aload_n 0, (39, 1), [], 0, []),
  (.getfield 25, (40, 3), [9, 8, 4], 0, []),
  (.iload_n 1, (43, 1), [], 0, []),
  (.iaload, (44, 1), [], 0, []),
  (.if_icmp .ge 31, (45, 3), [53], 0, []),
  (.nop, (48, 0), [3], 0, []),
  (.aload_n 0, (48, 1), [], 0, []),
  (.getfield 22, (49, 3), [9, 7, 4], 0, []),
  (.iconst 5, (52, 1), [], 0, []),
  (.iload_n 1, (53, 1), [], 0, []),
  (.imul, (54, 1), [], 0, []),
  (.iload_n 2, (55, 1), [], 0, []),
  (.iadd, (56, 1), [], 0, []),
  (.aload_n 0, (57, 1), [], 0, []),
  (.aload_n 0, (58, 1), [], 0, []),
  (.getfield 68, (59, 3), [9, 28, 4], 0, []),
  (.iload_n 1, (62, 1), [], 0, []),
  (.iaload, (63, 1), [], 0, []),
  (.iload_n 2, (64, 1), [], 0, []),
  (.iadd, (65, 1), [], 0, []),
  (.invokevirtual 154, (66, 3), [51, 2, 9, 0, 0, 0, 2], 0, []),
  (.nop, (69, 0), [3], 0, []),
  (.iastore, (69, 1), [], 0, []),
  (.iinc 2 1, (70, 3), [], 0, []),
  (.goto (-35), (73, 3), [26], 0, []),
  (.nop, (76, 0), [2, 3], 0, []),
  (.aload_n 0, (76, 1), [], 0, []),
  (.getfield 28, (77, 3), [9, 9, 4], 0, []),
  (.iload_n 1, (80, 1), [], 0, []),
  (.aload_n 0, (81, 1), [], 0, []),
  (.getfield 74, (82, 3), [9, 30, 4], 0, []),
  (.iload_n 1, (85, 1), [], 0, []),
  (.iaload, (86, 1), [], 0, []),
  (.iastore, (87, 1), [], 0, []),
  (.iconst 0, (88, 1), [], 0, []),
  (.istore_n 2, (89, 1), [], 0, []),
  (.nop, (90, 0), [3], 0, []),
  (.iload_n 2, (90, 1), [], 0, []),
  (.aload_n 0, (91, 1), [], 0, []),
  (.getfield 28, (92, 3), [9, 9, 4], 0, []),
  (.iload_n 1, (95, 1), [], 0, []),
  (.iaload, (96, 1), [], 0, []),
  (.if_icmp .ge 55, (97, 3), [111], 0, []),
  (.nop, (100, 0), [3], 0, []),
  (.aload_n 0, (100, 1), [], 0, []),
  (.getfield 77, (101, 3), [9, 31, 4], 0, []),
  (.iconst 2, (104, 1), [], 0, []),
  (.iload_n 1, (105, 1), [], 0, []),
  (.imul, (106, 1), [], 0, []),
  (.iload_n 2, (107, 1), [], 0, []),
  (.iadd, (108, 1), [], 0, []),
  (.iaload, (109, 1), [], 0, []),
  (.istore_n 3, (110, 1), [], 0, []),
  (.aload_n 0, (111, 1), [], 0, []),
  (.getfield 31, (112, 3), [9, 10, 4], 0, []),
  (.iconst 2, (115, 1), [], 0, []),
  (.iload_n 1, (116, 1), [], 0, []),
  (.imul, (117, 1), [], 0, []),
  (.iload_n 2, (118, 1), [], 0, []),
  (.iadd, (119, 1), [], 0, []),
  (.aload_n 0, (120, 1), [], 0, []),
  (.iload_n 3, (121, 1), [], 0, []),
  (.invokevirtual 165, (122, 3), [52, 2, 9, 0, 0, 0, 2], 0, []),
  (.nop, (125, 0), [], 0, []),
  (.iastore, (125, 1), [], 0, []),
  (.aload_n 0, (126, 1), [], 0, []),
  (.getfield 34, (127, 3), [9, 11, 4], 0, []),
  (.iconst 2, (130, 1), [], 0, []),
  (.iload_n 1, (131, 1), [], 0, []),
  (.imul, (132, 1), [], 0, []),
  (.iload_n 2, (133, 1), [], 0, []),
  (.iadd, (134, 1), [], 0, []),
  (.aload_n 0, (135, 1), [], 0, []),
  (.iload_n 3, (136, 1), [], 0, []),
  (.iconst 1, (137, 1), [], 0, []),
  (.iadd, (138, 1), [], 0, []),
  (.invokevirtual 154, (139, 3), [51, 2, 9, 0, 0, 0, 2], 0, []),
  (.nop, (142, 0), [3], 0, []),
  (.bipush 120, (142, 2), [], 0, []),
  (.isub, (144, 1), [], 0, []),
  (.iastore, (145, 1), [], 0, []),
  (.iinc 2 1, (146, 3), [], 0, []),
  (.goto (-59), (149, 3), [64], 0, []),
  (.nop, (152, 0), [0, 1, 2, 3], 0, []),
  (.return_, (152, 1), [], 0, [])]
/-- DictProofModel.laySizes ()V -/
def tb_64 : List Op := [(.aload_n 0, (0, 1), [], 0, []),
  (.getfield 233, (1, 3), [9, 34, 0], 0, []),
  (.iconst 1, (4, 1), [], 0, []),
  (.isub, (5, 1), [], 0, []),
  (.istore_n 1, (6, 1), [], 0, []),
  (.nop, (7, 0), [2, 3], 0, []),
  (.iload_n 1, (7, 1), [], 0, []),
  (.ifCond .lt 52, (8, 3), [44], 0, []),
  (.nop, (11, 0), [2, 3], 0, []),
  (.iload_n 1, (11, 1), [], 0, []),
  (.iconst 1, (12, 1), [], 0, []),
  (.iadd, (13, 1), [], 0, []),
  (.istore_n 2, (14, 1), [], 0, []),
  (.iconst 0, (15, 1), [], 0, []),
  (.istore_n 3, (16, 1), [], 0, []),
  (.nop, (17, 0), [], 0, []),
  (.iload_n 3, (17, 1), [], 0, []),
  (.aload_n 0, (18, 1), [], 0, []),
  (.getfield 80, (19, 3), [9, 32, 4], 0, []),
  (.iload_n 1, (22, 1), [], 0, []),
  (.iaload, (23, 1), [], 0, []),
  (.invokestatic 174, (24, 3), [47, 1, 0, 0, 0, 0, 1], 0, []),
  (.nop, (27, 0), [], 0, []),
  (.if_icmp .ge 18, (27, 3), [34], 0, []),
  (.nop, (30, 0), [], 0, []),
  (.iload_n 2, (30, 1), [], 0, []),
  (.aload_n 0, (31, 1), [], 0, []),
  (.getfield 83, (32, 3), [9, 33, 4], 0, []),
  (.iload_n 2, (35, 1), [], 0, []),
  (.iaload, (36, 1), [], 0, []),
  (.iadd, (37, 1), [], 0, []),
  (.istore_n 2, (38, 1), [], 0, []),
  (.iinc 3 1, (39, 3), [], 0, []),
  (.goto (-25), (42, 3), [15], 0, []),
  (.nop, (45, 0), [3], 0, []),
  (.aload_n 0, (45, 1), [], 0, []),
  (.getfield 83, (46, 3), [9, 33, 4], 0, []),
  (.iload_n 1, (49, 1), [], 0, []),
  (.iload_n 2, (50, 1), [], 0, []),
  (.iload_n 1, (51, 1), [], 0, []),
  (.isub, (52, 1), [], 0, []),
  (.iastore, (53, 1), [], 0, []),
  (.iinc 1 (-1), (54, 3), [], 0, []),
  (.goto (-50), (57, 3), [5], 0, []),
  (.nop, (60, 0), [0, 1, 2, 3], 0, []),
  (.return_, (60, 1), [], 0, [])]
/-- DictProofModel.layHead (I)V -/
def tb_65 : List Op := [(.aload_n 0, (0, 1), [], 0, []),
  (.aload_n 0, (1, 1), [], 0, []),
  (.getfield 25, (2, 3), [9, 8, 4], 0, []),
  (.iload_n 1, (5, 1), [], 0, []),
  (.iaload, (6, 1), [], 0, []),
  (.putfield 233, (7, 3), [9, 34, 0], 0, []),
  (.iconst 0, (10, 1), [], 0, []),
  (.istore_n 2, (11, 1), [], 0, []),
  (.nop, (12, 0), [], 0, []),
  (.iload_n 2, (12, 1), [], 0, []),
  (.aload_n 0, (13, 1), [], 0, []),
  (.getfield 233, (14, 3), [9, 34, 0], 0, []),
  (.if_icmp .ge 25, (17, 3), [28], 0, []),
  (.nop, (20, 0), [], 0, []),
  (.aload_n 0, (20, 1), [], 0, []),
  (.getfield 80, (21, 3), [9, 32, 4], 0, []),
  (.iload_n 2, (24, 1), [], 0, []),
  (.aload_n 0, (25, 1), [], 0, []),
  (.getfield 22, (26, 3), [9, 7, 4], 0, []),
  (.iconst 5, (29, 1), [], 0, []),
  (.iload_n 1, (30, 1), [], 0, []),
  (.imul, (31, 1), [], 0, []),
  (.iload_n 2, (32, 1), [], 0, []),
  (.iadd, (33, 1), [], 0, []),
  (.iaload, (34, 1), [], 0, []),
  (.iastore, (35, 1), [], 0, []),
  (.iinc 2 1, (36, 3), [], 0, []),
  (.goto (-27), (39, 3), [8], 0, []),
  (.nop, (42, 0), [1, 2], 0, []),
  (.aload_n 0, (42, 1), [], 0, []),
  (.invokevirtual 236, (43, 3), [64, 1, 9, 0, 0, 0, 4], 0, []),
  (.nop, (46, 0), [0, 1, 2], 0, []),
  (.return_, (46, 1), [], 0, [])]
/-- DictProofModel.laySlot (I)V -/
def tb_66 : List Op := [(.aload_n 0, (0, 1), [], 0, []),
  (.aload_n 0, (1, 1), [], 0, []),
  (.getfield 43, (2, 3), [9, 14, 4], 0, []),
  (.iload_n 1, (5, 1), [], 0, []),
  (.iaload, (6, 1), [], 0, []),
  (.putfield 233, (7, 3), [9, 34, 0], 0, []),
  (.iconst 0, (10, 1), [], 0, []),
  (.istore_n 2, (11, 1), [], 0, []),
  (.nop, (12, 0), [], 0, []),
  (.iload_n 2, (12, 1), [], 0, []),
  (.aload_n 0, (13, 1), [], 0, []),
  (.getfield 233, (14, 3), [9, 34, 0], 0, []),
  (.if_icmp .ge 26, (17, 3), [28], 0, []),
  (.nop, (20, 0), [], 0, []),
  (.aload_n 0, (20, 1), [], 0, []),
  (.getfield 80, (21, 3), [9, 32, 4], 0, []),
  (.iload_n 2, (24, 1), [], 0, []),
  (.aload_n 0, (25, 1), [], 0, []),
  (.getfield 40, (26, 3), [9, 13, 4], 0, []),
  (.bipush 9, (29, 2), [], 0, []),
  (.iload_n 1, (31, 1), [], 0, []),
  (.imul, (32, 1), [], 0, []),
  (.iload_n 2, (33, 1), [], 0, []),
  (.iadd, (34, 1), [], 0, []),
  (.iaload, (35, 1), [], 0, []),
  (.iastore, (36, 1), [], 0, []),
  (.iinc 2 1, (37, 3), [], 0, []),
  (.goto (-28), (40, 3), [8], 0, []),
  (.nop, (43, 0), [1, 2], 0, []),
  (.aload_n 0, (43, 1), [], 0, []),
  (.invokevirtual 236, (44, 3), [64, 1, 9, 0, 0, 0, 4], 0, []),
  (.nop, (47, 0), [0, 1, 2], 0, []),
  (.return_, (47, 1), [], 0, [])]
/-- DictProofModel.isSameAt (II)Z -/
def tb_67 : List Op := [(.aload_n 0, (0, 1), [], 0, []),
  (.getfield 83, (1, 3), [9, 33, 4], 0, []),
  (.iload_n 1, (4, 1), [], 0, []),
  (.iaload, (5, 1), [], 0, []),
  (.aload_n 0, (6, 1), [], 0, []),
  (.getfield 83, (7, 3), [9, 33, 4], 0, []),
  (.iload_n 2, (10, 1), [], 0, []),
  (.iaload, (11, 1), [], 0, []),
  (.if_icmp .ne 7, (12, 3), [12], 0, []),
  (.nop, (15, 0), [3, 4], 0, []),
  (.iconst 1, (15, 1), [], 0, []),
  (.goto 4, (16, 3), [14], 0, []),
  (.nop, (19, 0), [3, 4], 0, []),
  (.iconst 0, (19, 1), [], 0, []),
  (.nop, (20, 0), [3, 4], 0, []),
  (.istore_n 3, (20, 1), [], 0, []),
  (.iconst 0, (21, 1), [], 0, []),
  (.istore 4, (22, 2), [], 0, []),
  (.nop, (24, 0), [], 0, []),
  (.iload 4, (24, 2), [], 0, []),
  (.aload_n 0, (26, 1), [], 0, []),
  (.getfield 83, (27, 3), [9, 33, 4], 0, []),
  (.iload_n 1, (30, 1), [], 0, []),
  (.iaload, (31, 1), [], 0, []),
  (.if_icmp .ge 40, (32, 3), [51], 0, []),
  (.nop, (35, 0), [], 0, []),
  (.iload_n 3, (35, 1), [], 0, []),
  (.ifCond .eq 36, (36, 3), [51], 0, []),
  (.nop, (39, 0), [3], 0, []),
  (.aload_n 0, (39, 1), [], 0, []),
  (.getfield 80, (40, 3), [9, 32, 4], 0, []),
  (.iload_n 1, (43, 1), [], 0, []),
  (.iload 4, (44, 2), [], 0, []),
  (.iadd, (46, 1), [], 0, []),
  (.iaload, (47, 1), [], 0, []),
  (.aload_n 0, (48, 1), [], 0, []),
  (.getfield 80, (49, 3), [9, 32, 4], 0, []),
  (.iload_n 2, (52, 1), [], 0, []),
  (.iload 4, (53, 2), [], 0, []),
  (.iadd, (55, 1), [], 0, []),
  (.iaload, (56, 1), [], 0, []),
  (.if_icmp .ne 7, (57, 3), [45], 0, []),
  (.nop, (60, 0), [3], 0, []),
  (.iconst 1, (60, 1), [], 0, []),
  (.goto 4, (61, 3), [47], 0, []),
  (.nop, (64, 0), [3], 0, []),
  (.iconst 0, (64, 1), [], 0, []),
  (.nop, (65, 0), [3], 0, []),
  (.istore_n 3, (65, 1), [], 0, []),
  (.iinc 4 1, (66, 3), [], 0, []),
  (.goto (-45), (69, 3), [18], 0, []),
  (.nop, (72, 0), [0, 1, 2, 4], 0, []),
  (.iload_n 3, (72, 1), [], 0, []),
  (.ireturn, (73, 1), [1], 0, [])]
/-- DictProofModel.fitsAt (II)Z -/
def tb_68 : List Op := [(.aload_n 0, (0, 1), [], 0, []),
  (.getfield 86, (1, 3), [9, 35, 4], 0, []),
  (.iconst 0, (4, 1), [], 0, []),
  (.iconst (-1), (5, 1), [], 0, []),
  (.iastore, (6, 1), [], 0, []),
  (.aload_n 0, (7, 1), [], 0, []),
  (.getfield 86, (8, 3), [9, 35, 4], 0, []),
  (.iconst 1, (11, 1), [], 0, []),
  (.iconst (-1), (12, 1), [], 0, []),
  (.iastore, (13, 1), [], 0, []),
  (.iload_n 2, (14, 1), [], 0, []),
  (.istore_n 3, (15, 1), [], 0, []),
  (.iconst 0, (16, 1), [], 0, []),
  (.istore 4, (17, 2), [], 0, []),
  (.nop, (19, 0), [2, 5, 6], 0, []),
  (.iload 4, (19, 2), [], 0, []),
  (.aload_n 0, (21, 1), [], 0, []),
  (.getfield 25, (22, 3), [9, 8, 4], 0, []),
  (.iload_n 1, (25, 1), [], 0, []),
  (.iaload, (26, 1), [], 0, []),
  (.if_icmp .ge 101, (27, 3), [88], 0, []),
  (.nop, (30, 0), [2, 5, 6], 0, []),
  (.aload_n 0, (30, 1), [], 0, []),
  (.getfield 22, (31, 3), [9, 7, 4], 0, []),
  (.iconst 5, (34, 1), [], 0, []),
  (.iload_n 1, (35, 1), [], 0, []),
  (.imul, (36, 1), [], 0, []),
  (.iload 4, (37, 2), [], 0, []),
  (.iadd, (39, 1), [], 0, []),
  (.iaload, (40, 1), [], 0, []),
  (.istore 5, (41, 2), [], 0, []),
  (.iload 5, (43, 2), [], 0, []),
  (.invokestatic 181, (45, 3), [46, 1, 0, 0, 0, 0, 1], 0, []),
  (.nop, (48, 0), [2, 6], 0, []),
  (.ifCond .ne 22, (48, 3), [48], 0, []),
  (.nop, (51, 0), [2, 6], 0, []),
  (.aload_n 0, (51, 1), [], 0, []),
  (.getfield 80, (52, 3), [9, 32, 4], 0, []),
  (.iload_n 3, (55, 1), [], 0, []),
  (.iaload, (56, 1), [], 0, []),
  (.iload 5, (57, 2), [], 0, []),
  (.if_icmp .eq 5, (59, 3), [45], 0, []),
  (.nop, (62, 0), [0, 1, 2, 3, 4, 5, 6], 0, []),
  (.iconst 0, (62, 1), [], 0, []),
  (.ireturn, (63, 1), [1], 0, []),
  (.nop, (64, 0), [2, 5, 6], 0, []),
  (.iinc 3 1, (64, 3), [], 0, []),
  (.goto 55, (67, 3), [85], 0, []),
  (.nop, (70, 0), [2, 6], 0, []),
  (.iload 5, (70, 2), [], 0, []),
  (.bipush 120, (72, 2), [], 0, []),
  (.isub, (74, 1), [], 0, []),
  (.istore 6, (75, 2), [], 0, []),
  (.aload_n 0, (77, 1), [], 0, []),
  (.getfield 86, (78, 3), [9, 35, 4], 0, []),
  (.iload 6, (81, 2), [], 0, []),
  (.iaload, (83, 1), [], 0, []),
  (.iconst (-1), (84, 1), [], 0, []),
  (.if_icmp .eq 20, (85, 3), [72], 0, []),
  (.nop, (88, 0), [2, 5], 0, []),
  (.aload_n 0, (88, 1), [], 0, []),
  (.aload_n 0, (89, 1), [], 0, []),
  (.getfield 86, (90, 3), [9, 35, 4], 0, []),
  (.iload 6, (93, 2), [], 0, []),
  (.iaload, (95, 1), [], 0, []),
  (.iload_n 3, (96, 1), [], 0, []),
  (.invokevirtual 239, (97, 3), [67, 3, 9, 0, 0, 0, 5], 0, []),
  (.nop, (100, 0), [2, 5], 0, []),
  (.ifCond .ne 5, (100, 3), [72], 0, []),
  (.nop, (103, 0), [0, 1, 2, 3, 4, 5, 6], 0, []),
  (.iconst 0, (103, 1), [], 0, []),
  (.ireturn, (104, 1), [1], 0, []),
  (.nop, (105, 0), [2, 5], 0, []),
  (.aload_n 0, (105, 1), [], 0, []),
  (.getfield 86, (106, 3), [9, 35, 4], 0, []),
  (.iload 6, (109, 2), [], 0, []),
  (.iload_n 3, (111, 1), [], 0, []),
  (.iastore, (112, 1), [], 0, []),
  (.iload_n 3, (113, 1), [], 0, []),
  (.aload_n 0, (114, 1), [], 0, []),
  (.getfield 83, (115, 3), [9, 33, 4], 0, []),
  (.iload_n 3, (118, 1), [], 0, []),
  (.iaload, (119, 1), [], 0, []),
  (.iadd, (120, 1), [], 0, []),
  (.istore_n 3, (121, 1), [], 0, []),
  (.nop, (122, 0), [2, 5, 6], 0, []),
  (.iinc 4 1, (122, 3), [], 0, []),
  (.goto (-106), (125, 3), [14], 0, []),
  (.nop, (128, 0), [0, 1, 2, 3, 4, 5, 6], 0, []),
  (.iconst 1, (128, 1), [], 0, []),
  (.ireturn, (129, 1), [1], 0, [])]
/-- DictProofModel.laySpecial ()V -/
def tb_69 : List Op := [(.iconst 0, (0, 1), [], 0, []),
  (.istore_n 1, (1, 1), [], 0, []),
  (.nop, (2, 0), [2, 3], 0, []),
  (.iload_n 1, (2, 1), [], 0, []),
  (.aload_n 0, (3, 1), [], 0, []),
  (.getfield 217, (4, 3), [9, 4, 0], 0, []),
  (.if_icmp .ge 71, (7, 3), [58], 0, []),
  (.nop, (10, 0), [2, 3], 0, []),
  (.iconst 0, (10, 1), [], 0, []),
  (.istore_n 2, (11, 1), [], 0, []),
  (.nop, (12, 0), [3], 0, []),
  (.iload_n 2, (12, 1), [], 0, []),
  (.aload_n 0, (13, 1), [], 0, []),
  (.getfield 217, (14, 3), [9, 4, 0], 0, []),
  (.if_icmp .ge 55, (17, 3), [55], 0, []),
  (.nop, (20, 0), [3], 0, []),
  (.aload_n 0, (20, 1), [], 0, []),
  (.iload_n 1, (21, 1), [], 0, []),
  (.invokevirtual 242, (22, 3), [65, 2, 9, 0, 0, 0, 3], 0, []),
  (.nop, (25, 0), [3], 0, []),
  (.aload_n 0, (25, 1), [], 0, []),
  (.iload_n 2, (26, 1), [], 0, []),
  (.iconst 0, (27, 1), [], 0, []),
  (.invokevirtual 245, (28, 3), [68, 3, 9, 0, 0, 0, 7], 0, []),
  (.nop, (31, 0), [3], 0, []),
  (.istore_n 3, (31, 1), [], 0, []),
  (.aload_n 0, (32, 1), [], 0, []),
  (.iload_n 2, (33, 1), [], 0, []),
  (.invokevirtual 242, (34, 3), [65, 2, 9, 0, 0, 0, 3], 0, []),
  (.nop, (37, 0), [], 0, []),
  (.aload_n 0, (37, 1), [], 0, []),
  (.getfield 37, (38, 3), [9, 12, 4], 0, []),
  (.bipush 6, (41, 2), [], 0, []),
  (.iload_n 1, (43, 1), [], 0, []),
  (.imul, (44, 1), [], 0, []),
  (.iload_n 2, (45, 1), [], 0, []),
  (.iadd, (46, 1), [], 0, []),
  (.iload_n 3, (47, 1), [], 0, []),
  (.ifCond .eq 16, (48, 3), [49], 0, []),
  (.nop, (51, 0), [3], 0, []),
  (.aload_n 0, (51, 1), [], 0, []),
  (.iload_n 1, (52, 1), [], 0, []),
  (.iconst 0, (53, 1), [], 0, []),
  (.invokevirtual 245, (54, 3), [68, 3, 9, 0, 0, 0, 7], 0, []),
  (.nop, (57, 0), [3], 0, []),
  (.ifCond .ne 7, (57, 3), [49], 0, []),
  (.nop, (60, 0), [3], 0, []),
  (.iconst 1, (60, 1), [], 0, []),
  (.goto 4, (61, 3), [51], 0, []),
  (.nop, (64, 0), [3], 0, []),
  (.iconst 0, (64, 1), [], 0, []),
  (.nop, (65, 0), [3], 0, []),
  (.iastore, (65, 1), [], 0, []),
  (.iinc 2 1, (66, 3), [], 0, []),
  (.goto (-57), (69, 3), [10], 0, []),
  (.nop, (72, 0), [2, 3], 0, []),
  (.iinc 1 1, (72, 3), [], 0, []),
  (.goto (-73), (75, 3), [2], 0, []),
  (.nop, (78, 0), [0, 1, 2, 3], 0, []),
  (.return_, (78, 1), [], 0, [])]
/-- DictProofModel.isSound (I)Z -/
def tb_70 : List Op := [(.aload_n 0, (0, 1), [], 0, []),
  (.getfield 28, (1, 3), [9, 9, 4], 0, []),
  (.iload_n 1, (4, 1), [], 0, []),
  (.iaload, (5, 1), [], 0, []),
  (.ifCond .eq 27, (6, 3), [22], 0, []),
  (.nop, (9, 0), [], 0, []),
  (.aload_n 0, (9, 1), [], 0, []),
  (.getfield 25, (10, 3), [9, 8, 4], 0, []),
  (.iload_n 1, (13, 1), [], 0, []),
  (.iaload, (14, 1), [], 0, []),
  (.iconst 1, (15, 1), [], 0, []),
  (.if_icmp .gt 17, (16, 3), [22], 0, []),
  (.nop, (19, 0), [], 0, []),
  (.aload_n 0, (19, 1), [], 0, []),
  (.getfield 22, (20, 3), [9, 7, 4], 0, []),
  (.iconst 5, (23, 1), [], 0, []),
  (.iload_n 1, (24, 1), [], 0, []),
  (.imul, (25, 1), [], 0, []),
  (.iaload, (26, 1), [], 0, []),
  (.invokestatic 181, (27, 3), [46, 1, 0, 0, 0, 0, 1], 0, []),
  (.nop, (30, 0), [0, 1], 0, []),
  (.ifCond .ne 7, (30, 3), [25], 0, []),
  (.nop, (33, 0), [0, 1], 0, []),
  (.iconst 1, (33, 1), [], 0, []),
  (.goto 4, (34, 3), [27], 0, []),
  (.nop, (37, 0), [0, 1], 0, []),
  (.iconst 0, (37, 1), [], 0, []),
  (.nop, (38, 0), [0, 1], 0, []),
  (.ireturn, (38, 1), [1], 0, [])]
/-- DictProofModel.meantFor (II)I -/
def tb_71 : List Op := [(.iconst 0, (0, 1), [], 0, []),
  (.istore_n 3, (1, 1), [], 0, []),
  (.iconst 0, (2, 1), [], 0, []),
  (.istore 4, (3, 2), [], 0, []),
  (.nop, (5, 0), [5], 0, []),
  (.iload 4, (5, 2), [], 0, []),
  (.aload_n 0, (7, 1), [], 0, []),
  (.getfield 217, (8, 3), [9, 4, 0], 0, []),
  (.if_icmp .ge 73, (11, 3), [58], 0, []),
  (.nop, (14, 0), [5], 0, []),
  (.aload_n 0, (14, 1), [], 0, []),
  (.getfield 19, (15, 3), [9, 6, 4], 0, []),
  (.iload 4, (18, 2), [], 0, []),
  (.iaload, (20, 1), [], 0, []),
  (.iload_n 1, (21, 1), [], 0, []),
  (.if_icmp .ne 37, (22, 3), [39], 0, []),
  (.nop, (25, 0), [5], 0, []),
  (.aload_n 0, (25, 1), [], 0, []),
  (.getfield 16, (26, 3), [9, 5, 4], 0, []),
  (.iload 4, (29, 2), [], 0, []),
  (.iaload, (31, 1), [], 0, []),
  (.iconst 2, (32, 1), [], 0, []),
  (.if_icmp .eq 26, (33, 3), [39], 0, []),
  (.nop, (36, 0), [5], 0, []),
  (.aload_n 0, (36, 1), [], 0, []),
  (.iload 4, (37, 2), [], 0, []),
  (.invokevirtual 248, (39, 3), [70, 2, 9, 0, 0, 0, 2], 0, []),
  (.nop, (42, 0), [5], 0, []),
  (.ifCond .eq 17, (42, 3), [39], 0, []),
  (.nop, (45, 0), [5], 0, []),
  (.aload_n 0, (45, 1), [], 0, []),
  (.iload 4, (46, 2), [], 0, []),
  (.iload_n 2, (48, 1), [], 0, []),
  (.invokevirtual 245, (49, 3), [68, 3, 9, 0, 0, 0, 7], 0, []),
  (.nop, (52, 0), [5], 0, []),
  (.ifCond .eq 7, (52, 3), [39], 0, []),
  (.nop, (55, 0), [5], 0, []),
  (.iconst 1, (55, 1), [], 0, []),
  (.goto 4, (56, 3), [41], 0, []),
  (.nop, (59, 0), [5], 0, []),
  (.iconst 0, (59, 1), [], 0, []),
  (.nop, (60, 0), [5], 0, []),
  (.istore 5, (60, 2), [], 0, []),
  (.iload_n 3, (62, 1), [], 0, []),
  (.iload 5, (63, 2), [], 0, []),
  (.ifCond .eq 10, (65, 3), [51], 0, []),
  (.nop, (68, 0), [3, 5], 0, []),
  (.iconst 1, (68, 1), [], 0, []),
  (.iload 4, (69, 2), [], 0, []),
  (.ishl, (71, 1), [], 0, []),
  (.goto 4, (72, 3), [53], 0, []),
  (.nop, (75, 0), [3, 5], 0, []),
  (.iconst 0, (75, 1), [], 0, []),
  (.nop, (76, 0), [3, 5], 0, []),
  (.ior, (76, 1), [], 0, []),
  (.istore_n 3, (77, 1), [], 0, []),
  (.iinc 4 1, (78, 3), [], 0, []),
  (.goto (-76), (81, 3), [4], 0, []),
  (.nop, (84, 0), [0, 1, 2, 4, 5], 0, []),
  (.iload_n 3, (84, 1), [], 0, []),
  (.ireturn, (85, 1), [0], 0, [])]
/-- DictProofModel.ofRank (II)I -/
def tb_72 : List Op := [(.iconst 0, (0, 1), [], 0, []),
  (.istore_n 3, (1, 1), [], 0, []),
  (.iconst 0, (2, 1), [], 0, []),
  (.istore 4, (3, 2), [], 0, []),
  (.nop, (5, 0), [5], 0, []),
  (.iload 4, (5, 2), [], 0, []),
  (.aload_n 0, (7, 1), [], 0, []),
  (.getfield 217, (8, 3), [9, 4, 0], 0, []),
  (.if_icmp .ge 79, (11, 3), [62], 0, []),
  (.nop, (14, 0), [5], 0, []),
  (.aload_n 0, (14, 1), [], 0, []),
  (.getfield 16, (15, 3), [9, 5, 4], 0, []),
  (.iload 4, (18, 2), [], 0, []),
  (.iaload, (20, 1), [], 0, []),
  (.iconst 3, (21, 1), [], 0, []),
  (.if_icmp .eq 14, (22, 3), [23], 0, []),
  (.nop, (25, 0), [5], 0, []),
  (.aload_n 0, (25, 1), [], 0, []),
  (.getfield 16, (26, 3), [9, 5, 4], 0, []),
  (.iload 4, (29, 2), [], 0, []),
  (.iaload, (31, 1), [], 0, []),
  (.iconst 4, (32, 1), [], 0, []),
  (.if_icmp .ne 7, (33, 3), [26], 0, []),
  (.nop, (36, 0), [5], 0, []),
  (.iconst 0, (36, 1), [], 0, []),
  (.goto 19, (37, 3), [38], 0, []),
  (.nop, (40, 0), [5], 0, []),
  (.aload_n 0, (40, 1), [], 0, []),
  (.getfield 16, (41, 3), [9, 5, 4], 0, []),
  (.iload 4, (44, 2), [], 0, []),
  (.iaload, (46, 1), [], 0, []),
  (.iconst 1, (47, 1), [], 0, []),
  (.if_icmp .ne 7, (48, 3), [36], 0, []),
  (.nop, (51, 0), [5], 0, []),
  (.iconst 2, (51, 1), [], 0, []),
  (.goto 4, (52, 3), [38], 0, []),
  (.nop, (55, 0), [5], 0, []),
  (.iconst 1, (55, 1), [], 0, []),
  (.nop, (56, 0), [5], 0, []),
  (.istore 5, (56, 2), [], 0, []),
  (.iload_n 3, (58, 1), [], 0, []),
  (.iload_n 1, (59, 1), [], 0, []),
  (.iload 4, (60, 2), [], 0, []),
  (.invokestatic 214, (62, 3), [44, 2, 0, 0, 0, 0, 2], 0, []),
  (.nop, (65, 0), [3], 0, []),
  (.ifCond .eq 16, (65, 3), [55], 0, []),
  (.nop, (68, 0), [3], 0, []),
  (.iload 5, (68, 2), [], 0, []),
  (.iload_n 2, (70, 1), [], 0, []),
  (.if_icmp .ne 10, (71, 3), [55], 0, []),
  (.nop, (74, 0), [3, 5], 0, []),
  (.iconst 1, (74, 1), [], 0, []),
  (.iload 4, (75, 2), [], 0, []),
  (.ishl, (77, 1), [], 0, []),
  (.goto 4, (78, 3), [57], 0, []),
  (.nop, (81, 0), [3, 5], 0, []),
  (.iconst 0, (81, 1), [], 0, []),
  (.nop, (82, 0), [3, 5], 0, []),
  (.ior, (82, 1), [], 0, []),
  (.istore_n 3, (83, 1), [], 0, []),
  (.iinc 4 1, (84, 3), [], 0, []),
  (.goto (-82), (87, 3), [4], 0, []),
  (.nop, (90, 0), [0, 1, 2, 4, 5], 0, []),
  (.iload_n 3, (90, 1), [], 0, []),
  (.ireturn, (91, 1), [0], 0, [])]
/-- DictProofModel.isOneSole (I)Z -/
def tb_73 : List Op := [(.iconst 0, (0, 1), [], 0, []),
  (.istore_n 2, (1, 1), [], 0, []),
  (.iconst 0, (2, 1), [], 0, []),
  (.istore_n 3, (3, 1), [], 0, []),
  (.nop, (4, 0), [], 0, []),
  (.iload_n 3, (4, 1), [], 0, []),
  (.aload_n 0, (5, 1), [], 0, []),
  (.getfield 217, (6, 3), [9, 4, 0], 0, []),
  (.if_icmp .ge 37, (9, 3), [34], 0, []),
  (.nop, (12, 0), [], 0, []),
  (.iload_n 2, (12, 1), [], 0, []),
  (.ifCond .ne 21, (13, 3), [25], 0, []),
  (.nop, (16, 0), [2], 0, []),
  (.iload_n 1, (16, 1), [], 0, []),
  (.iload_n 3, (17, 1), [], 0, []),
  (.invokestatic 214, (18, 3), [44, 2, 0, 0, 0, 0, 2], 0, []),
  (.nop, (21, 0), [2], 0, []),
  (.ifCond .eq 17, (21, 3), [28], 0, []),
  (.nop, (24, 0), [2], 0, []),
  (.aload_n 0, (24, 1), [], 0, []),
  (.getfield 16, (25, 3), [9, 5, 4], 0, []),
  (.iload_n 3, (28, 1), [], 0, []),
  (.iaload, (29, 1), [], 0, []),
  (.iconst 4, (30, 1), [], 0, []),
  (.if_icmp .ne 7, (31, 3), [28], 0, []),
  (.nop, (34, 0), [2], 0, []),
  (.iconst 1, (34, 1), [], 0, []),
  (.goto 4, (35, 3), [30], 0, []),
  (.nop, (38, 0), [2], 0, []),
  (.iconst 0, (38, 1), [], 0, []),
  (.nop, (39, 0), [2], 0, []),
  (.istore_n 2, (39, 1), [], 0, []),
  (.iinc 3 1, (40, 3), [], 0, []),
  (.goto (-39), (43, 3), [4], 0, []),
  (.nop, (46, 0), [0, 1, 3], 0, []),
  (.iload_n 2, (46, 1), [], 0, []),
  (.ireturn, (47, 1), [1], 0, [])]
/-- DictProofModel.mostSpecial (I)I -/
def tb_74 : List Op := [(.iconst (-1), (0, 1), [], 0, []),
  (.istore_n 2, (1, 1), [], 0, []),
  (.iconst 0, (2, 1), [], 0, []),
  (.istore_n 3, (3, 1), [], 0, []),
  (.nop, (4, 0), [4, 5], 0, []),
  (.iload_n 3, (4, 1), [], 0, []),
  (.aload_n 0, (5, 1), [], 0, []),
  (.getfield 217, (6, 3), [9, 4, 0], 0, []),
  (.if_icmp .ge 88, (9, 3), [67], 0, []),
  (.nop, (12, 0), [4, 5], 0, []),
  (.iload_n 1, (12, 1), [], 0, []),
  (.iload_n 3, (13, 1), [], 0, []),
  (.invokestatic 214, (14, 3), [44, 2, 0, 0, 0, 0, 2], 0, []),
  (.nop, (17, 0), [4, 5], 0, []),
  (.istore 4, (17, 2), [], 0, []),
  (.iconst 0, (19, 1), [], 0, []),
  (.istore 5, (20, 2), [], 0, []),
  (.nop, (22, 0), [], 0, []),
  (.iload 5, (22, 2), [], 0, []),
  (.aload_n 0, (24, 1), [], 0, []),
  (.getfield 217, (25, 3), [9, 4, 0], 0, []),
  (.if_icmp .ge 52, (28, 3), [55], 0, []),
  (.nop, (31, 0), [], 0, []),
  (.iload 4, (31, 2), [], 0, []),
  (.ifCond .eq 38, (33, 3), [49], 0, []),
  (.nop, (36, 0), [4], 0, []),
  (.iload 5, (36, 2), [], 0, []),
  (.iload_n 3, (38, 1), [], 0, []),
  (.if_icmp .eq 28, (39, 3), [46], 0, []),
  (.nop, (42, 0), [4], 0, []),
  (.iload_n 1, (42, 1), [], 0, []),
  (.iload 5, (43, 2), [], 0, []),
  (.invokestatic 214, (45, 3), [44, 2, 0, 0, 0, 0, 2], 0, []),
  (.nop, (48, 0), [4], 0, []),
  (.ifCond .eq 19, (48, 3), [46], 0, []),
  (.nop, (51, 0), [4], 0, []),
  (.aload_n 0, (51, 1), [], 0, []),
  (.getfield 37, (52, 3), [9, 12, 4], 0, []),
  (.bipush 6, (55, 2), [], 0, []),
  (.iload_n 3, (57, 1), [], 0, []),
  (.imul, (58, 1), [], 0, []),
  (.iload 5, (59, 2), [], 0, []),
  (.iadd, (61, 1), [], 0, []),
  (.iaload, (62, 1), [], 0, []),
  (.iconst 1, (63, 1), [], 0, []),
  (.if_icmp .ne 7, (64, 3), [49], 0, []),
  (.nop, (67, 0), [4], 0, []),
  (.iconst 1, (67, 1), [], 0, []),
  (.goto 4, (68, 3), [51], 0, []),
  (.nop, (71, 0), [4], 0, []),
  (.iconst 0, (71, 1), [], 0, []),
  (.nop, (72, 0), [4], 0, []),
  (.istore 4, (72, 2), [], 0, []),
  (.iinc 5 1, (74, 3), [], 0, []),
  (.goto (-55), (77, 3), [17], 0, []),
  (.nop, (80, 0), [5], 0, []),
  (.iload 4, (80, 2), [], 0, []),
  (.ifCond .eq 7, (82, 3), [61], 0, []),
  (.nop, (85, 0), [2, 4, 5], 0, []),
  (.iload_n 3, (85, 1), [], 0, []),
  (.goto 4, (86, 3), [63], 0, []),
  (.nop, (89, 0), [4, 5], 0, []),
  (.iload_n 2, (89, 1), [], 0, []),
  (.nop, (90, 0), [2, 4, 5], 0, []),
  (.istore_n 2, (90, 1), [], 0, []),
  (.iinc 3 1, (91, 3), [], 0, []),
  (.goto (-90), (94, 3), [4], 0, []),
  (.nop, (97, 0), [0, 1, 3, 4, 5], 0, []),
  (.iload_n 2, (97, 1), [], 0, []),
  (.ireturn, (98, 1), [0], 0, [])]
/-- DictProofModel.takes (II)I -/
def tb_75 : List Op := [(.aload_n 0, (0, 1), [], 0, []),
  (.iload_n 1, (1, 1), [], 0, []),
  (.iload_n 2, (2, 1), [], 0, []),
  (.invokevirtual 251, (3, 3), [71, 3, 9, 0, 0, 0, 6], 0, []),
  (.nop, (6, 0), [1, 2, 3, 4, 5], 0, []),
  (.istore_n 3, (6, 1), [], 0, []),
  (.iload_n 3, (7, 1), [], 0, []),
  (.ifCond .ne 5, (8, 3), [11], 0, []),
  (.nop, (11, 0), [0, 1, 2, 3, 4, 5], 0, []),
  (.iconst (-1), (11, 1), [], 0, []),
  (.ireturn, (12, 1), [0], 0, []),
  (.nop, (13, 0), [1, 2, 4, 5], 0, []),
  (.iload_n 3, (13, 1), [], 0, []),
  (.invokestatic 254, (14, 3), [45, 1, 0, 0, 0, 0, 3], 0, []),
  (.nop, (17, 0), [1, 2, 4, 5], 0, []),
  (.iconst 1, (17, 1), [], 0, []),
  (.if_icmp .le 14, (18, 3), [26], 0, []),
  (.nop, (21, 0), [1, 2, 4, 5], 0, []),
  (.aload_n 0, (21, 1), [], 0, []),
  (.iload_n 3, (22, 1), [], 0, []),
  (.invokevirtual 257, (23, 3), [73, 2, 9, 0, 0, 0, 4], 0, []),
  (.nop, (26, 0), [1, 2, 4, 5], 0, []),
  (.ifCond .eq 6, (26, 3), [26], 0, []),
  (.nop, (29, 0), [0, 1, 2, 3, 4, 5], 0, []),
  (.bipush (-2), (29, 2), [], 0, []),
  (.ireturn, (31, 1), [0], 0, []),
  (.nop, (32, 0), [1, 2, 4, 5], 0, []),
  (.iconst 0, (32, 1), [], 0, []),
  (.istore 4, (33, 2), [], 0, []),
  (.iconst 0, (35, 1), [], 0, []),
  (.istore 5, (36, 2), [], 0, []),
  (.nop, (38, 0), [1, 2], 0, []),
  (.iload 5, (38, 2), [], 0, []),
  (.iconst 3, (40, 1), [], 0, []),
  (.if_icmp .ge 23, (41, 3), [47], 0, []),
  (.nop, (44, 0), [1, 2], 0, []),
  (.iload 4, (44, 2), [], 0, []),
  (.ifCond .ne 18, (46, 3), [47], 0, []),
  (.nop, (49, 0), [1, 2, 4], 0, []),
  (.aload_n 0, (49, 1), [], 0, []),
  (.iload_n 3, (50, 1), [], 0, []),
  (.iload 5, (51, 2), [], 0, []),
  (.invokevirtual 260, (53, 3), [72, 3, 9, 0, 0, 0, 6], 0, []),
  (.nop, (56, 0), [1, 2, 4], 0, []),
  (.istore 4, (56, 2), [], 0, []),
  (.iinc 5 1, (58, 3), [], 0, []),
  (.goto (-23), (61, 3), [31], 0, []),
  (.nop, (64, 0), [1, 2, 3, 5], 0, []),
  (.aload_n 0, (64, 1), [], 0, []),
  (.iload 4, (65, 2), [], 0, []),
  (.invokevirtual 263, (67, 3), [74, 2, 9, 0, 0, 0, 6], 0, []),
  (.nop, (70, 0), [0, 1, 2, 3, 4, 5], 0, []),
  (.istore 5, (70, 2), [], 0, []),
  (.iload 5, (72, 2), [], 0, []),
  (.iconst (-1), (74, 1), [], 0, []),
  (.if_icmp .ne 8, (75, 3), [59], 0, []),
  (.nop, (78, 0), [0, 1, 2, 3, 4, 5], 0, []),
  (.bipush (-2), (78, 2), [], 0, []),
  (.goto 5, (80, 3), [61], 0, []),
  (.nop, (83, 0), [0, 1, 2, 3, 4], 0, []),
  (.iload 5, (83, 2), [], 0, []),
  (.nop, (85, 0), [0, 1, 2, 3, 4, 5], 0, []),
  (.ireturn, (85, 1), [0], 0, [])]
/-- DictProofModel.layNeed (II)V -/
def tb_76 : List Op := [(.bipush 9, (0, 2), [], 0, []),
  (.iload_n 1, (2, 1), [], 0, []),
  (.imul, (3, 1), [], 0, []),
  (.iload_n 2, (4, 1), [], 0, []),
  (.iadd, (5, 1), [], 0, []),
  (.istore_n 3, (6, 1), [], 0, []),
  (.aload_n 0, (7, 1), [], 0, []),
  (.getfield 80, (8, 3), [9, 32, 4], 0, []),
  (.iload_n 2, (11, 1), [], 0, []),
  (.iaload, (12, 1), [], 0, []),
  (.bipush 120, (13, 2), [], 0, []),
  (.isub, (15, 1), [], 0, []),
  (.istore 4, (16, 2), [], 0, []),
  (.aload_n 0, (18, 1), [], 0, []),
  (.getfield 89, (19, 3), [9, 36, 4], 0, []),
  (.iload_n 3, (22, 1), [], 0, []),
  (.iconst 1, (23, 1), [], 0, []),
  (.iastore, (24, 1), [], 0, []),
  (.aload_n 0, (25, 1), [], 0, []),
  (.getfield 92, (26, 3), [9, 37, 4], 0, []),
  (.iload_n 3, (29, 1), [], 0, []),
  (.iconst (-1), (30, 1), [], 0, []),
  (.iastore, (31, 1), [], 0, []),
  (.aload_n 0, (32, 1), [], 0, []),
  (.getfield 95, (33, 3), [9, 38, 4], 0, []),
  (.iload_n 3, (36, 1), [], 0, []),
  (.iconst (-1), (37, 1), [], 0, []),
  (.iastore, (38, 1), [], 0, []),
  (.aload_n 0, (39, 1), [], 0, []),
  (.getfield 98, (40, 3), [9, 39, 4], 0, []),
  (.iload_n 3, (43, 1), [], 0, []),
  (.iconst (-1), (44, 1), [], 0, []),
  (.iastore, (45, 1), [], 0, []),
  (.aload_n 0, (46, 1), [], 0, []),
  (.getfield 101, (47, 3), [9, 40, 4], 0, []),
  (.iload_n 3, (50, 1), [], 0, []),
  (.iconst 1, (51, 1), [], 0, []),
  (.iastore, (52, 1), [], 0, []),
  (.aload_n 0, (53, 1), [], 0, []),
  (.getfield 104, (54, 3), [9, 41, 4], 0, []),
  (.iload_n 3, (57, 1), [], 0, []),
  (.bipush 10, (58, 2), [], 0, []),
  (.iconst 2, (60, 1), [], 0, []),
  (.iload_n 1, (61, 1), [], 0, []),
  (.imul, (62, 1), [], 0, []),
  (.iadd, (63, 1), [], 0, []),
  (.iload 4, (64, 2), [], 0, []),
  (.iadd, (66, 1), [], 0, []),
  (.iastore, (67, 1), [], 0, []),
  (.aload_n 0, (68, 1), [], 0, []),
  (.getfield 107, (69, 3), [9, 42, 4], 0, []),
  (.iload_n 3, (72, 1), [], 0, []),
  (.iconst 1, (73, 1), [], 0, []),
  (.iastore, (74, 1), [], 0, []),
  (.aload_n 0, (75, 1), [], 0, []),
  (.getfield 110, (76, 3), [9, 43, 4], 0, []),
  (.iload_n 3, (79, 1), [], 0, []),
  (.iconst 1, (80, 1), [], 0, []),
  (.iconst 2, (81, 1), [], 0, []),
  (.iload_n 1, (82, 1), [], 0, []),
  (.imul, (83, 1), [], 0, []),
  (.iload 4, (84, 2), [], 0, []),
  (.iadd, (86, 1), [], 0, []),
  (.ishl, (87, 1), [], 0, []),
  (.iastore, (88, 1), [], 0, []),
  (.return_, (89, 1), [], 0, [])]
/-- DictProofModel.addBelow (III)V -/
def tb_77 : List Op := [(.aload_n 0, (0, 1), [], 0, []),
  (.getfield 89, (1, 3), [9, 36, 4], 0, []),
  (.iload_n 1, (4, 1), [], 0, []),
  (.iaload, (5, 1), [], 0, []),
  (.iconst 1, (6, 1), [], 0, []),
  (.if_icmp .ne 25, (7, 3), [22], 0, []),
  (.nop, (10, 0), [], 0, []),
  (.aload_n 0, (10, 1), [], 0, []),
  (.getfield 89, (11, 3), [9, 36, 4], 0, []),
  (.iload_n 2, (14, 1), [], 0, []),
  (.iaload, (15, 1), [], 0, []),
  (.iconst 1, (16, 1), [], 0, []),
  (.if_icmp .eq 15, (17, 3), [22], 0, []),
  (.nop, (20, 0), [], 0, []),
  (.aload_n 0, (20, 1), [], 0, []),
  (.getfield 89, (21, 3), [9, 36, 4], 0, []),
  (.iload_n 1, (24, 1), [], 0, []),
  (.aload_n 0, (25, 1), [], 0, []),
  (.getfield 89, (26, 3), [9, 36, 4], 0, []),
  (.iload_n 2, (29, 1), [], 0, []),
  (.iaload, (30, 1), [], 0, []),
  (.iastore, (31, 1), [], 0, []),
  (.nop, (32, 0), [], 0, []),
  (.aload_n 0, (32, 1), [], 0, []),
  (.getfield 89, (33, 3), [9, 36, 4], 0, []),
  (.iload_n 1, (36, 1), [], 0, []),
  (.iaload, (37, 1), [], 0, []),
  (.iconst 1, (38, 1), [], 0, []),
  (.if_icmp .ne 90, (39, 3), [94], 0, []),
  (.nop, (42, 0), [], 0, []),
  (.aload_n 0, (42, 1), [], 0, []),
  (.getfield 101, (43, 3), [9, 40, 4], 0, []),
  (.iload_n 1, (46, 1), [], 0, []),
  (.dup2, (47, 1), [], 0, []),
  (.iaload, (48, 1), [], 0, []),
  (.aload_n 0, (49, 1), [], 0, []),
  (.getfield 101, (50, 3), [9, 40, 4], 0, []),
  (.iload_n 2, (53, 1), [], 0, []),
  (.iaload, (54, 1), [], 0, []),
  (.iadd, (55, 1), [], 0, []),
  (.iastore, (56, 1), [], 0, []),
  (.aload_n 0, (57, 1), [], 0, []),
  (.getfield 104, (58, 3), [9, 41, 4], 0, []),
  (.iload_n 1, (61, 1), [], 0, []),
  (.dup2, (62, 1), [], 0, []),
  (.iaload, (63, 1), [], 0, []),
  (.iload_n 3, (64, 1), [], 0, []),
  (.aload_n 0, (65, 1), [], 0, []),
  (.getfield 104, (66, 3), [9, 41, 4], 0, []),
  (.iload_n 2, (69, 1), [], 0, []),
  (.iaload, (70, 1), [], 0, []),
  (.imul, (71, 1), [], 0, []),
  (.iadd, (72, 1), [], 0, []),
  (.iastore, (73, 1), [], 0, []),
  (.aload_n 0, (74, 1), [], 0, []),
  (.getfield 107, (75, 3), [9, 42, 4], 0, []),
  (.iload_n 1, (78, 1), [], 0, []),
  (.aload_n 0, (79, 1), [], 0, []),
  (.getfield 107, (80, 3), [9, 42, 4], 0, []),
  (.iload_n 2, (83, 1), [], 0, []),
  (.iaload, (84, 1), [], 0, []),
  (.iconst 1, (85, 1), [], 0, []),
  (.iadd, (86, 1), [], 0, []),
  (.aload_n 0, (87, 1), [], 0, []),
  (.getfield 107, (88, 3), [9, 42, 4], 0, []),
  (.iload_n 1, (91, 1), [], 0, []),
  (.iaload, (92, 1), [], 0, []),
  (.if_icmp .le 14, (93, 3), [76], 0, []),
  (.nop, (96, 0), [3], 0, []),
  (.aload_n 0, (96, 1), [], 0, []),
  (.getfield 107, (97, 3), [9, 42, 4], 0, []),
  (.iload_n 2, (100, 1), [], 0, []),
  (.iaload, (101, 1), [], 0, []),
  (.iconst 1, (102, 1), [], 0, []),
  (.iadd, (103, 1), [], 0, []),
  (.goto 9, (104, 3), [81], 0, []),
  (.nop, (107, 0), [3], 0, []),
  (.aload_n 0, (107, 1), [], 0, []),
  (.getfield 107, (108, 3), [9, 42, 4], 0, []),
  (.iload_n 1, (111, 1), [], 0, []),
  (.iaload, (112, 1), [], 0, []),
  (.nop, (113, 0), [3], 0, []),
  (.iastore, (113, 1), [], 0, []),
  (.aload_n 0, (114, 1), [], 0, []),
  (.getfield 110, (115, 3), [9, 43, 4], 0, []),
  (.iload_n 1, (118, 1), [], 0, []),
  (.dup2, (119, 1), [], 0, []),
  (.iaload, (120, 1), [], 0, []),
  (.aload_n 0, (121, 1), [], 0, []),
  (.getfield 110, (122, 3), [9, 43, 4], 0, []),
  (.iload_n 2, (125, 1), [], 0, []),
  (.iaload, (126, 1), [], 0, []),
  (.ior, (127, 1), [], 0, []),
  (.iastore, (128, 1), [], 0, []),
  (.nop, (129, 0), [0, 1, 2, 3], 0, []),
  (.return_, (129, 1), [], 0, [])]
/-- DictProofModel.layGoal (II)V -/
def tb_78 : List Op := [(.bipush 9, (0, 2), [], 0, []),
  (.iload_n 1, (2, 1), [], 0, []),
  (.imul, (3, 1), [], 0, []),
  (.iload_n 2, (4, 1), [], 0, []),
  (.iadd, (5, 1), [], 0, []),
  (.istore_n 3, (6, 1), [], 0, []),
  (.aload_n 0, (7, 1), [], 0, []),
  (.iload_n 1, (8, 1), [], 0, []),
  (.iload_n 2, (9, 1), [], 0, []),
  (.invokevirtual 266, (10, 3), [75, 3, 9, 0, 0, 0, 6], 0, []),
  (.nop, (13, 0), [1, 4], 0, []),
  (.istore 4, (13, 2), [], 0, []),
  (.aload_n 0, (15, 1), [], 0, []),
  (.getfield 92, (16, 3), [9, 37, 4], 0, []),
  (.iload_n 3, (19, 1), [], 0, []),
  (.iload 4, (20, 2), [], 0, []),
  (.iastore, (22, 1), [], 0, []),
  (.aload_n 0, (23, 1), [], 0, []),
  (.getfield 95, (24, 3), [9, 38, 4], 0, []),
  (.iload_n 3, (27, 1), [], 0, []),
  (.iconst (-1), (28, 1), [], 0, []),
  (.iastore, (29, 1), [], 0, []),
  (.aload_n 0, (30, 1), [], 0, []),
  (.getfield 98, (31, 3), [9, 39, 4], 0, []),
  (.iload_n 3, (34, 1), [], 0, []),
  (.iconst (-1), (35, 1), [], 0, []),
  (.iastore, (36, 1), [], 0, []),
  (.iload 4, (37, 2), [], 0, []),
  (.ifCond .ge 22, (39, 3), [44], 0, []),
  (.nop, (42, 0), [1, 2], 0, []),
  (.aload_n 0, (42, 1), [], 0, []),
  (.getfield 89, (43, 3), [9, 36, 4], 0, []),
  (.iload_n 3, (46, 1), [], 0, []),
  (.iload 4, (47, 2), [], 0, []),
  (.iconst (-1), (49, 1), [], 0, []),
  (.if_icmp .ne 7, (50, 3), [39], 0, []),
  (.nop, (53, 0), [0, 1, 2, 3, 4], 0, []),
  (.iconst 0, (53, 1), [], 0, []),
  (.goto 5, (54, 3), [41], 0, []),
  (.nop, (57, 0), [0, 1, 2, 3, 4], 0, []),
  (.bipush (-2), (57, 2), [], 0, []),
  (.nop, (59, 0), [0, 1, 2, 3, 4], 0, []),
  (.iastore, (59, 1), [], 0, []),
  (.return_, (60, 1), [], 0, []),
  (.nop, (61, 0), [1], 0, []),
  (.aload_n 0, (61, 1), [], 0, []),
  (.iload 4, (62, 2), [], 0, []),
  (.iload_n 2, (64, 1), [], 0, []),
  (.invokevirtual 245, (65, 3), [68, 3, 9, 0, 0, 0, 7], 0, []),
  (.nop, (68, 0), [1, 2], 0, []),
  (.pop, (68, 1), [], 0, []),
  (.aload_n 0, (69, 1), [], 0, []),
  (.getfield 89, (70, 3), [9, 36, 4], 0, []),
  (.iload_n 3, (73, 1), [], 0, []),
  (.iconst 1, (74, 1), [], 0, []),
  (.iastore, (75, 1), [], 0, []),
  (.aload_n 0, (76, 1), [], 0, []),
  (.getfield 101, (77, 3), [9, 40, 4], 0, []),
  (.iload_n 3, (80, 1), [], 0, []),
  (.iconst 1, (81, 1), [], 0, []),
  (.iastore, (82, 1), [], 0, []),
  (.aload_n 0, (83, 1), [], 0, []),
  (.getfield 104, (84, 3), [9, 41, 4], 0, []),
  (.iload_n 3, (87, 1), [], 0, []),
  (.bipush 7, (88, 2), [], 0, []),
  (.iload 4, (90, 2), [], 0, []),
  (.iconst 1, (92, 1), [], 0, []),
  (.iadd, (93, 1), [], 0, []),
  (.imul, (94, 1), [], 0, []),
  (.iastore, (95, 1), [], 0, []),
  (.aload_n 0, (96, 1), [], 0, []),
  (.getfield 107, (97, 3), [9, 42, 4], 0, []),
  (.iload_n 3, (100, 1), [], 0, []),
  (.iconst 1, (101, 1), [], 0, []),
  (.iastore, (102, 1), [], 0, []),
  (.aload_n 0, (103, 1), [], 0, []),
  (.getfield 110, (104, 3), [9, 43, 4], 0, []),
  (.iload_n 3, (107, 1), [], 0, []),
  (.iconst 0, (108, 1), [], 0, []),
  (.iastore, (109, 1), [], 0, []),
  (.aload_n 0, (110, 1), [], 0, []),
  (.getfield 28, (111, 3), [9, 9, 4], 0, []),
  (.iload 4, (114, 2), [], 0, []),
  (.iaload, (116, 1), [], 0, []),
  (.ifCond .le 48, (117, 3), [116], 0, []),
  (.nop, (120, 0), [1, 2], 0, []),
  (.aload_n 0, (120, 1), [], 0, []),
  (.getfield 95, (121, 3), [9, 38, 4], 0, []),
  (.iload_n 3, (124, 1), [], 0, []),
  (.bipush 9, (125, 2), [], 0, []),
  (.aload_n 0, (127, 1), [], 0, []),
  (.getfield 31, (128, 3), [9, 10, 4], 0, []),
  (.iconst 2, (131, 1), [], 0, []),
  (.iload 4, (132, 2), [], 0, []),
  (.imul, (134, 1), [], 0, []),
  (.iaload, (135, 1), [], 0, []),
  (.imul, (136, 1), [], 0, []),
  (.aload_n 0, (137, 1), [], 0, []),
  (.getfield 86, (138, 3), [9, 35, 4], 0, []),
  (.aload_n 0, (141, 1), [], 0, []),
  (.getfield 34, (142, 3), [9, 11, 4], 0, []),
  (.iconst 2, (145, 1), [], 0, []),
  (.iload 4, (146, 2), [], 0, []),
  (.imul, (148, 1), [], 0, []),
  (.iaload, (149, 1), [], 0, []),
  (.iaload, (150, 1), [], 0, []),
  (.iadd, (151, 1), [], 0, []),
  (.iastore, (152, 1), [], 0, []),
  (.aload_n 0, (153, 1), [], 0, []),
  (.iload_n 3, (154, 1), [], 0, []),
  (.aload_n 0, (155, 1), [], 0, []),
  (.getfield 95, (156, 3), [9, 38, 4], 0, []),
  (.iload_n 3, (159, 1), [], 0, []),
  (.iaload, (160, 1), [], 0, []),
  (.iconst 2, (161, 1), [], 0, []),
  (.invokevirtual 269, (162, 3), [77, 4, 9, 0, 0, 0, 4], 0, []),
  (.nop, (165, 0), [1, 2], 0, []),
  (.aload_n 0, (165, 1), [], 0, []),
  (.getfield 28, (166, 3), [9, 9, 4], 0, []),
  (.iload 4, (169, 2), [], 0, []),
  (.iaload, (171, 1), [], 0, []),
  (.iconst 1, (172, 1), [], 0, []),
  (.if_icmp .le 52, (173, 3), [158], 0, []),
  (.nop, (176, 0), [1, 2], 0, []),
  (.aload_n 0, (176, 1), [], 0, []),
  (.getfield 98, (177, 3), [9, 39, 4], 0, []),
  (.iload_n 3, (180, 1), [], 0, []),
  (.bipush 9, (181, 2), [], 0, []),
  (.aload_n 0, (183, 1), [], 0, []),
  (.getfield 31, (184, 3), [9, 10, 4], 0, []),
  (.iconst 2, (187, 1), [], 0, []),
  (.iload 4, (188, 2), [], 0, []),
  (.imul, (190, 1), [], 0, []),
  (.iconst 1, (191, 1), [], 0, []),
  (.iadd, (192, 1), [], 0, []),
  (.iaload, (193, 1), [], 0, []),
  (.imul, (194, 1), [], 0, []),
  (.aload_n 0, (195, 1), [], 0, []),
  (.getfield 86, (196, 3), [9, 35, 4], 0, []),
  (.aload_n 0, (199, 1), [], 0, []),
  (.getfield 34, (200, 3), [9, 11, 4], 0, []),
  (.iconst 2, (203, 1), [], 0, []),
  (.iload 4, (204, 2), [], 0, []),
  (.imul, (206, 1), [], 0, []),
  (.iconst 1, (207, 1), [], 0, []),
  (.iadd, (208, 1), [], 0, []),
  (.iaload, (209, 1), [], 0, []),
  (.iaload, (210, 1), [], 0, []),
  (.iadd, (211, 1), [], 0, []),
  (.iastore, (212, 1), [], 0, []),
  (.aload_n 0, (213, 1), [], 0, []),
  (.iload_n 3, (214, 1), [], 0, []),
  (.aload_n 0, (215, 1), [], 0, []),
  (.getfield 98, (216, 3), [9, 39, 4], 0, []),
  (.iload_n 3, (219, 1), [], 0, []),
  (.iaload, (220, 1), [], 0, []),
  (.iconst 3, (221, 1), [], 0, []),
  (.invokevirtual 269, (222, 3), [77, 4, 9, 0, 0, 0, 4], 0, []),
  (.nop, (225, 0), [1, 2, 4], 0, []),
  (.aload_n 0, (225, 1), [], 0, []),
  (.getfield 104, (226, 3), [9, 41, 4], 0, []),
  (.iload_n 3, (229, 1), [], 0, []),
  (.dup2, (230, 1), [], 0, []),
  (.iaload, (231, 1), [], 0, []),
  (.sipush 1009, (232, 3), [], 0, []),
  (.irem, (235, 1), [], 0, []),
  (.iastore, (236, 1), [], 0, []),
  (.return_, (237, 1), [], 0, [])]
/-- DictProofModel.layGoals ()V -/
def tb_79 : List Op := [(.aload_n 0, (0, 1), [], 0, []),
  (.getfield 233, (1, 3), [9, 34, 0], 0, []),
  (.iconst 1, (4, 1), [], 0, []),
  (.isub, (5, 1), [], 0, []),
  (.istore_n 1, (6, 1), [], 0, []),
  (.nop, (7, 0), [2], 0, []),
  (.iload_n 1, (7, 1), [], 0, []),
  (.ifCond .lt 52, (8, 3), [42], 0, []),
  (.nop, (11, 0), [2], 0, []),
  (.iconst 0, (11, 1), [], 0, []),
  (.istore_n 2, (12, 1), [], 0, []),
  (.nop, (13, 0), [], 0, []),
  (.iload_n 2, (13, 1), [], 0, []),
  (.aload_n 0, (14, 1), [], 0, []),
  (.getfield 211, (15, 3), [9, 1, 0], 0, []),
  (.if_icmp .ge 36, (18, 3), [39], 0, []),
  (.nop, (21, 0), [], 0, []),
  (.aload_n 0, (21, 1), [], 0, []),
  (.getfield 80, (22, 3), [9, 32, 4], 0, []),
  (.iload_n 1, (25, 1), [], 0, []),
  (.iaload, (26, 1), [], 0, []),
  (.invokestatic 181, (27, 3), [46, 1, 0, 0, 0, 0, 1], 0, []),
  (.nop, (30, 0), [], 0, []),
  (.ifCond .eq 12, (30, 3), [31], 0, []),
  (.nop, (33, 0), [], 0, []),
  (.aload_n 0, (33, 1), [], 0, []),
  (.iload_n 2, (34, 1), [], 0, []),
  (.iload_n 1, (35, 1), [], 0, []),
  (.invokevirtual 273, (36, 3), [76, 3, 9, 0, 0, 0, 5], 0, []),
  (.nop, (39, 0), [], 0, []),
  (.goto 9, (39, 3), [36], 0, []),
  (.nop, (42, 0), [], 0, []),
  (.aload_n 0, (42, 1), [], 0, []),
  (.iload_n 2, (43, 1), [], 0, []),
  (.iload_n 1, (44, 1), [], 0, []),
  (.invokevirtual 277, (45, 3), [78, 3, 9, 0, 0, 0, 5], 0, []),
  (.nop, (48, 0), [], 0, []),
  (.iinc 2 1, (48, 3), [], 0, []),
  (.goto (-38), (51, 3), [11], 0, []),
  (.nop, (54, 0), [2], 0, []),
  (.iinc 1 (-1), (54, 3), [], 0, []),
  (.goto (-50), (57, 3), [5], 0, []),
  (.nop, (60, 0), [0, 1, 2], 0, []),
  (.return_, (60, 1), [], 0, [])]
/-- DictProofModel.isNew (II)Z -/
def tb_80 : List Op := [(.iconst 1, (0, 1), [], 0, []),
  (.istore_n 3, (1, 1), [], 0, []),
  (.iconst 0, (2, 1), [], 0, []),
  (.istore 4, (3, 2), [], 0, []),
  (.nop, (5, 0), [], 0, []),
  (.iload 4, (5, 2), [], 0, []),
  (.iload_n 2, (7, 1), [], 0, []),
  (.if_icmp .ge 44, (8, 3), [37], 0, []),
  (.nop, (11, 0), [], 0, []),
  (.iload_n 3, (11, 1), [], 0, []),
  (.ifCond .eq 32, (12, 3), [31], 0, []),
  (.nop, (15, 0), [3], 0, []),
  (.aload_n 0, (15, 1), [], 0, []),
  (.getfield 113, (16, 3), [9, 44, 4], 0, []),
  (.bipush 9, (19, 2), [], 0, []),
  (.iload_n 1, (21, 1), [], 0, []),
  (.imul, (22, 1), [], 0, []),
  (.iload 4, (23, 2), [], 0, []),
  (.iadd, (25, 1), [], 0, []),
  (.iaload, (26, 1), [], 0, []),
  (.ifCond .eq 13, (27, 3), [28], 0, []),
  (.nop, (30, 0), [3], 0, []),
  (.aload_n 0, (30, 1), [], 0, []),
  (.iload 4, (31, 2), [], 0, []),
  (.iload_n 2, (33, 1), [], 0, []),
  (.invokevirtual 239, (34, 3), [67, 3, 9, 0, 0, 0, 5], 0, []),
  (.nop, (37, 0), [3], 0, []),
  (.ifCond .ne 7, (37, 3), [31], 0, []),
  (.nop, (40, 0), [3], 0, []),
  (.iconst 1, (40, 1), [], 0, []),
  (.goto 4, (41, 3), [33], 0, []),
  (.nop, (44, 0), [3], 0, []),
  (.iconst 0, (44, 1), [], 0, []),
  (.nop, (45, 0), [3], 0, []),
  (.istore_n 3, (45, 1), [], 0, []),
  (.iinc 4 1, (46, 3), [], 0, []),
  (.goto (-44), (49, 3), [4], 0, []),
  (.nop, (52, 0), [0, 1, 2, 4], 0, []),
  (.iload_n 3, (52, 1), [], 0, []),
  (.ireturn, (53, 1), [1], 0, [])]
/-- DictProofModel.differentGoals (I)I -/
def tb_81 : List Op := [(.iconst 0, (0, 1), [], 0, []),
  (.istore_n 2, (1, 1), [], 0, []),
  (.nop, (2, 0), [3, 4, 5], 0, []),
  (.iload_n 2, (2, 1), [], 0, []),
  (.bipush 36, (3, 2), [], 0, []),
  (.if_icmp .ge 25, (5, 3), [22], 0, []),
  (.nop, (8, 0), [3, 4, 5], 0, []),
  (.aload_n 0, (8, 1), [], 0, []),
  (.getfield 113, (9, 3), [9, 44, 4], 0, []),
  (.iload_n 2, (12, 1), [], 0, []),
  (.iload_n 2, (13, 1), [], 0, []),
  (.iload_n 1, (14, 1), [], 0, []),
  (.if_icmp .ne 7, (15, 3), [16], 0, []),
  (.nop, (18, 0), [3, 4, 5], 0, []),
  (.iconst 1, (18, 1), [], 0, []),
  (.goto 4, (19, 3), [18], 0, []),
  (.nop, (22, 0), [3, 4, 5], 0, []),
  (.iconst 0, (22, 1), [], 0, []),
  (.nop, (23, 0), [3, 4, 5], 0, []),
  (.iastore, (23, 1), [], 0, []),
  (.iinc 2 1, (24, 3), [], 0, []),
  (.goto (-25), (27, 3), [2], 0, []),
  (.nop, (30, 0), [1, 2, 3, 4, 5], 0, []),
  (.iconst 0, (30, 1), [], 0, []),
  (.istore_n 2, (31, 1), [], 0, []),
  (.iconst 0, (32, 1), [], 0, []),
  (.istore_n 3, (33, 1), [], 0, []),
  (.nop, (34, 0), [1, 4, 5], 0, []),
  (.iload_n 3, (34, 1), [], 0, []),
  (.aload_n 0, (35, 1), [], 0, []),
  (.getfield 233, (36, 3), [9, 34, 0], 0, []),
  (.if_icmp .ge 87, (39, 3), [88], 0, []),
  (.nop, (42, 0), [1, 4, 5], 0, []),
  (.iconst 0, (42, 1), [], 0, []),
  (.istore 4, (43, 2), [], 0, []),
  (.nop, (45, 0), [1, 5], 0, []),
  (.iload 4, (45, 2), [], 0, []),
  (.aload_n 0, (47, 1), [], 0, []),
  (.getfield 211, (48, 3), [9, 1, 0], 0, []),
  (.if_icmp .ge 69, (51, 3), [85], 0, []),
  (.nop, (54, 0), [1, 5], 0, []),
  (.bipush 9, (54, 2), [], 0, []),
  (.iload 4, (56, 2), [], 0, []),
  (.imul, (58, 1), [], 0, []),
  (.iload_n 3, (59, 1), [], 0, []),
  (.iadd, (60, 1), [], 0, []),
  (.istore 5, (61, 2), [], 0, []),
  (.aload_n 0, (63, 1), [], 0, []),
  (.getfield 113, (64, 3), [9, 44, 4], 0, []),
  (.iload 5, (67, 2), [], 0, []),
  (.iaload, (69, 1), [], 0, []),
  (.iconst 1, (70, 1), [], 0, []),
  (.if_icmp .ne 43, (71, 3), [82], 0, []),
  (.nop, (74, 0), [1], 0, []),
  (.iload_n 2, (74, 1), [], 0, []),
  (.aload_n 0, (75, 1), [], 0, []),
  (.iload 4, (76, 2), [], 0, []),
  (.iload_n 3, (78, 1), [], 0, []),
  (.invokevirtual 280, (79, 3), [80, 3, 9, 0, 0, 0, 5], 0, []),
  (.nop, (82, 0), [1, 2], 0, []),
  (.ifCond .eq 7, (82, 3), [64], 0, []),
  (.nop, (85, 0), [1, 2], 0, []),
  (.iconst 1, (85, 1), [], 0, []),
  (.goto 4, (86, 3), [66], 0, []),
  (.nop, (89, 0), [1, 2], 0, []),
  (.iconst 0, (89, 1), [], 0, []),
  (.nop, (90, 0), [1, 2], 0, []),
  (.iadd, (90, 1), [], 0, []),
  (.istore_n 2, (91, 1), [], 0, []),
  (.aload_n 0, (92, 1), [], 0, []),
  (.aload_n 0, (93, 1), [], 0, []),
  (.getfield 95, (94, 3), [9, 38, 4], 0, []),
  (.iload 5, (97, 2), [], 0, []),
  (.iaload, (99, 1), [], 0, []),
  (.invokevirtual 283, (100, 3), [82, 2, 9, 0, 0, 0, 2], 0, []),
  (.nop, (103, 0), [1], 0, []),
  (.aload_n 0, (103, 1), [], 0, []),
  (.aload_n 0, (104, 1), [], 0, []),
  (.getfield 98, (105, 3), [9, 39, 4], 0, []),
  (.iload 5, (108, 2), [], 0, []),
  (.iaload, (110, 1), [], 0, []),
  (.invokevirtual 283, (111, 3), [82, 2, 9, 0, 0, 0, 2], 0, []),
  (.nop, (114, 0), [1, 5], 0, []),
  (.iinc 4 1, (114, 3), [], 0, []),
  (.goto (-72), (117, 3), [35], 0, []),
  (.nop, (120, 0), [1, 4, 5], 0, []),
  (.iinc 3 1, (120, 3), [], 0, []),
  (.goto (-89), (123, 3), [27], 0, []),
  (.nop, (126, 0), [0, 1, 3, 4, 5], 0, []),
  (.iload_n 2, (126, 1), [], 0, []),
  (.ireturn, (127, 1), [0], 0, [])]
/-- DictProofModel.mark (I)V -/
def tb_82 : List Op := [(.iload_n 1, (0, 1), [], 0, []),
  (.iconst (-1), (1, 1), [], 0, []),
  (.if_icmp .eq 10, (2, 3), [9], 0, []),
  (.nop, (5, 0), [], 0, []),
  (.aload_n 0, (5, 1), [], 0, []),
  (.getfield 113, (6, 3), [9, 44, 4], 0, []),
  (.iload_n 1, (9, 1), [], 0, []),
  (.iconst 1, (10, 1), [], 0, []),
  (.iastore, (11, 1), [], 0, []),
  (.nop, (12, 0), [0, 1], 0, []),
  (.return_, (12, 1), [], 0, [])]
/-- DictProofModel.plainOf (I)I -/
def tb_83 : List Op := [(.iconst 0, (0, 1), [], 0, []),
  (.istore_n 2, (1, 1), [], 0, []),
  (.iconst 0, (2, 1), [], 0, []),
  (.istore_n 3, (3, 1), [], 0, []),
  (.nop, (4, 0), [4, 5], 0, []),
  (.iload_n 3, (4, 1), [], 0, []),
  (.bipush 8, (5, 2), [], 0, []),
  (.if_icmp .ge 96, (7, 3), [75], 0, []),
  (.nop, (10, 0), [4, 5], 0, []),
  (.iload_n 1, (10, 1), [], 0, []),
  (.iload_n 3, (11, 1), [], 0, []),
  (.invokestatic 214, (12, 3), [44, 2, 0, 0, 0, 0, 2], 0, []),
  (.nop, (15, 0), [4, 5], 0, []),
  (.istore 4, (15, 2), [], 0, []),
  (.iconst 0, (17, 1), [], 0, []),
  (.istore 5, (18, 2), [], 0, []),
  (.nop, (20, 0), [], 0, []),
  (.iload 5, (20, 2), [], 0, []),
  (.bipush 8, (22, 2), [], 0, []),
  (.if_icmp .ge 58, (24, 3), [59], 0, []),
  (.nop, (27, 0), [], 0, []),
  (.iload 4, (27, 2), [], 0, []),
  (.ifCond .eq 44, (29, 3), [53], 0, []),
  (.nop, (32, 0), [4], 0, []),
  (.iload_n 1, (32, 1), [], 0, []),
  (.iload 5, (33, 2), [], 0, []),
  (.invokestatic 214, (35, 3), [44, 2, 0, 0, 0, 0, 2], 0, []),
  (.nop, (38, 0), [4], 0, []),
  (.ifCond .eq 31, (38, 3), [50], 0, []),
  (.nop, (41, 0), [4], 0, []),
  (.iload 5, (41, 2), [], 0, []),
  (.iconst 2, (43, 1), [], 0, []),
  (.irem, (44, 1), [], 0, []),
  (.iload_n 3, (45, 1), [], 0, []),
  (.iconst 2, (46, 1), [], 0, []),
  (.irem, (47, 1), [], 0, []),
  (.if_icmp .ne 21, (48, 3), [50], 0, []),
  (.nop, (51, 0), [4], 0, []),
  (.aload_n 0, (51, 1), [], 0, []),
  (.getfield 13, (52, 3), [9, 3, 4], 0, []),
  (.iload 5, (55, 2), [], 0, []),
  (.iconst 2, (57, 1), [], 0, []),
  (.idiv, (58, 1), [], 0, []),
  (.iaload, (59, 1), [], 0, []),
  (.iload_n 3, (60, 1), [], 0, []),
  (.iconst 2, (61, 1), [], 0, []),
  (.idiv, (62, 1), [], 0, []),
  (.invokestatic 214, (63, 3), [44, 2, 0, 0, 0, 0, 2], 0, []),
  (.nop, (66, 0), [4], 0, []),
  (.ifCond .ne 7, (66, 3), [53], 0, []),
  (.nop, (69, 0), [4], 0, []),
  (.iconst 1, (69, 1), [], 0, []),
  (.goto 4, (70, 3), [55], 0, []),
  (.nop, (73, 0), [4], 0, []),
  (.iconst 0, (73, 1), [], 0, []),
  (.nop, (74, 0), [4], 0, []),
  (.istore 4, (74, 2), [], 0, []),
  (.iinc 5 1, (76, 3), [], 0, []),
  (.goto (-59), (79, 3), [16], 0, []),
  (.nop, (82, 0), [5], 0, []),
  (.iload_n 2, (82, 1), [], 0, []),
  (.iload 4, (83, 2), [], 0, []),
  (.ifCond .eq 9, (85, 3), [68], 0, []),
  (.nop, (88, 0), [2, 4, 5], 0, []),
  (.iconst 1, (88, 1), [], 0, []),
  (.iload_n 3, (89, 1), [], 0, []),
  (.ishl, (90, 1), [], 0, []),
  (.goto 4, (91, 3), [70], 0, []),
  (.nop, (94, 0), [2, 4, 5], 0, []),
  (.iconst 0, (94, 1), [], 0, []),
  (.nop, (95, 0), [2, 4, 5], 0, []),
  (.ior, (95, 1), [], 0, []),
  (.istore_n 2, (96, 1), [], 0, []),
  (.iinc 3 1, (97, 3), [], 0, []),
  (.goto (-96), (100, 3), [4], 0, []),
  (.nop, (103, 0), [0, 1, 3, 4, 5], 0, []),
  (.iload_n 2, (103, 1), [], 0, []),
  (.ireturn, (104, 1), [0], 0, [])]
/-- DictProofModel.entryAt (II)I -/
def tb_84 : List Op := [(.iload_n 1, (0, 1), [], 0, []),
  (.istore_n 3, (1, 1), [], 0, []),
  (.iload_n 2, (2, 1), [], 0, []),
  (.istore 4, (3, 2), [], 0, []),
  (.nop, (5, 0), [1, 2, 5, 6], 0, []),
  (.iload 4, (5, 2), [], 0, []),
  (.ifCond .le 73, (7, 3), [54], 0, []),
  (.nop, (10, 0), [1, 2, 5, 6], 0, []),
  (.iinc 4 (-1), (10, 3), [], 0, []),
  (.aload_n 0, (13, 1), [], 0, []),
  (.getfield 101, (14, 3), [9, 40, 4], 0, []),
  (.aload_n 0, (17, 1), [], 0, []),
  (.getfield 95, (18, 3), [9, 38, 4], 0, []),
  (.iload_n 3, (21, 1), [], 0, []),
  (.iaload, (22, 1), [], 0, []),
  (.iaload, (23, 1), [], 0, []),
  (.istore 5, (24, 2), [], 0, []),
  (.iload 4, (26, 2), [], 0, []),
  (.iload 5, (28, 2), [], 0, []),
  (.if_icmp .ge 7, (30, 3), [23], 0, []),
  (.nop, (33, 0), [1, 2, 6], 0, []),
  (.iconst 1, (33, 1), [], 0, []),
  (.goto 4, (34, 3), [25], 0, []),
  (.nop, (37, 0), [1, 2, 6], 0, []),
  (.iconst 0, (37, 1), [], 0, []),
  (.nop, (38, 0), [1, 2, 6], 0, []),
  (.istore 6, (38, 2), [], 0, []),
  (.iload 4, (40, 2), [], 0, []),
  (.iload 6, (42, 2), [], 0, []),
  (.ifCond .eq 7, (44, 3), [33], 0, []),
  (.nop, (47, 0), [1, 2, 4, 5], 0, []),
  (.iconst 0, (47, 1), [], 0, []),
  (.goto 5, (48, 3), [35], 0, []),
  (.nop, (51, 0), [1, 2, 4], 0, []),
  (.iload 5, (51, 2), [], 0, []),
  (.nop, (53, 0), [1, 2, 4, 5], 0, []),
  (.isub, (53, 1), [], 0, []),
  (.istore 4, (54, 2), [], 0, []),
  (.iload 6, (56, 2), [], 0, []),
  (.ifCond .eq 12, (58, 3), [46], 0, []),
  (.nop, (61, 0), [1, 2, 5, 6], 0, []),
  (.aload_n 0, (61, 1), [], 0, []),
  (.getfield 95, (62, 3), [9, 38, 4], 0, []),
  (.iload_n 3, (65, 1), [], 0, []),
  (.iaload, (66, 1), [], 0, []),
  (.goto 9, (67, 3), [51], 0, []),
  (.nop, (70, 0), [1, 2, 5, 6], 0, []),
  (.aload_n 0, (70, 1), [], 0, []),
  (.getfield 98, (71, 3), [9, 39, 4], 0, []),
  (.iload_n 3, (74, 1), [], 0, []),
  (.iaload, (75, 1), [], 0, []),
  (.nop, (76, 0), [1, 2, 3, 5, 6], 0, []),
  (.istore_n 3, (76, 1), [], 0, []),
  (.goto (-72), (77, 3), [4], 0, []),
  (.nop, (80, 0), [1, 2, 4, 5, 6], 0, []),
  (.aload_n 0, (80, 1), [], 0, []),
  (.getfield 92, (81, 3), [9, 37, 4], 0, []),
  (.iload_n 3, (84, 1), [], 0, []),
  (.iaload, (85, 1), [], 0, []),
  (.iconst (-1), (86, 1), [], 0, []),
  (.if_icmp .ne 12, (87, 3), [67], 0, []),
  (.nop, (90, 0), [1, 2, 4, 5, 6], 0, []),
  (.aload_n 0, (90, 1), [], 0, []),
  (.getfield 104, (91, 3), [9, 41, 4], 0, []),
  (.iload_n 3, (94, 1), [], 0, []),
  (.iaload, (95, 1), [], 0, []),
  (.goto 9, (96, 3), [72], 0, []),
  (.nop, (99, 0), [1, 2, 4, 5, 6], 0, []),
  (.aload_n 0, (99, 1), [], 0, []),
  (.getfield 92, (100, 3), [9, 37, 4], 0, []),
  (.iload_n 3, (103, 1), [], 0, []),
  (.iaload, (104, 1), [], 0, []),
  (.nop, (105, 0), [0, 1, 2, 3, 4, 5, 6], 0, []),
  (.ireturn, (105, 1), [0], 0, [])]
/-- DictProofModel.isClass (I)Z -/
def tb_85 : List Op := [(.iload_n 1, (0, 1), [], 0, []),
  (.iconst 0, (1, 1), [], 0, []),
  (.aload_n 0, (2, 1), [], 0, []),
  (.getfield 211, (3, 3), [9, 1, 0], 0, []),
  (.iconst 1, (6, 1), [], 0, []),
  (.isub, (7, 1), [], 0, []),
  (.invokestatic 146, (8, 3), [43, 3, 0, 0, 0, 0, 3], 0, []),
  (.nop, (11, 0), [0, 1], 0, []),
  (.ireturn, (11, 1), [1], 0, [])]
/-- DictProofModel.isInstance (I)Z -/
def tb_86 : List Op := [(.iload_n 1, (0, 1), [], 0, []),
  (.iconst 0, (1, 1), [], 0, []),
  (.aload_n 0, (2, 1), [], 0, []),
  (.getfield 217, (3, 3), [9, 4, 0], 0, []),
  (.iconst 1, (6, 1), [], 0, []),
  (.isub, (7, 1), [], 0, []),
  (.invokestatic 146, (8, 3), [43, 3, 0, 0, 0, 0, 3], 0, []),
  (.nop, (11, 0), [0, 1], 0, []),
  (.ireturn, (11, 1), [1], 0, [])]
/-- DictProofModel.isFilled (I)Z -/
def tb_87 : List Op := [(.iload_n 1, (0, 1), [], 0, []),
  (.iconst 0, (1, 1), [], 0, []),
  (.iconst 3, (2, 1), [], 0, []),
  (.invokestatic 146, (3, 3), [43, 3, 0, 0, 0, 0, 3], 0, []),
  (.nop, (6, 0), [], 0, []),
  (.ifCond .eq 16, (6, 3), [15], 0, []),
  (.nop, (9, 0), [], 0, []),
  (.aload_n 0, (9, 1), [], 0, []),
  (.getfield 43, (10, 3), [9, 14, 4], 0, []),
  (.iload_n 1, (13, 1), [], 0, []),
  (.iaload, (14, 1), [], 0, []),
  (.ifCond .le 7, (15, 3), [15], 0, []),
  (.nop, (18, 0), [0, 1], 0, []),
  (.iconst 1, (18, 1), [], 0, []),
  (.goto 4, (19, 3), [17], 0, []),
  (.nop, (22, 0), [0, 1], 0, []),
  (.iconst 0, (22, 1), [], 0, []),
  (.nop, (23, 0), [0, 1], 0, []),
  (.ireturn, (23, 1), [1], 0, [])]
/-- DictProofModel.type (I)I -/
def tb_88 : List Op := [(.iload_n 1, (0, 1), [], 0, []),
  (.iconst 0, (1, 1), [], 0, []),
  (.iconst 3, (2, 1), [], 0, []),
  (.invokestatic 146, (3, 3), [43, 3, 0, 0, 0, 0, 3], 0, []),
  (.nop, (6, 0), [2, 3, 4], 0, []),
  (.ifCond .ne 6, (6, 3), [9], 0, []),
  (.nop, (9, 0), [0, 1, 2, 3, 4], 0, []),
  (.bipush (-101), (9, 2), [], 0, []),
  (.ireturn, (11, 1), [0], 0, []),
  (.nop, (12, 0), [2, 3, 4], 0, []),
  (.iconst 1, (12, 1), [], 0, []),
  (.istore_n 2, (13, 1), [], 0, []),
  (.iconst 0, (14, 1), [], 0, []),
  (.istore_n 3, (15, 1), [], 0, []),
  (.nop, (16, 0), [4], 0, []),
  (.iload_n 2, (16, 1), [], 0, []),
  (.ifCond .le 34, (17, 3), [40], 0, []),
  (.nop, (20, 0), [4], 0, []),
  (.aload_n 0, (20, 1), [], 0, []),
  (.iload_n 3, (21, 1), [], 0, []),
  (.invokevirtual 154, (22, 3), [51, 2, 9, 0, 0, 0, 2], 0, []),
  (.nop, (25, 0), [4], 0, []),
  (.invokestatic 174, (25, 3), [47, 1, 0, 0, 0, 0, 1], 0, []),
  (.nop, (28, 0), [4], 0, []),
  (.iconst (-1), (28, 1), [], 0, []),
  (.if_icmp .eq 22, (29, 3), [40], 0, []),
  (.nop, (32, 0), [4], 0, []),
  (.iload_n 2, (32, 1), [], 0, []),
  (.aload_n 0, (33, 1), [], 0, []),
  (.iload_n 3, (34, 1), [], 0, []),
  (.invokevirtual 154, (35, 3), [51, 2, 9, 0, 0, 0, 2], 0, []),
  (.nop, (38, 0), [2, 4], 0, []),
  (.invokestatic 174, (38, 3), [47, 1, 0, 0, 0, 0, 1], 0, []),
  (.nop, (41, 0), [2, 4], 0, []),
  (.iconst 1, (41, 1), [], 0, []),
  (.isub, (42, 1), [], 0, []),
  (.iadd, (43, 1), [], 0, []),
  (.istore_n 2, (44, 1), [], 0, []),
  (.iinc 3 1, (45, 3), [], 0, []),
  (.goto (-32), (48, 3), [14], 0, []),
  (.nop, (51, 0), [4], 0, []),
  (.aload_n 0, (51, 1), [], 0, []),
  (.getfield 227, (52, 3), [9, 0, 0], 0, []),
  (.ifCond .eq 15, (55, 3), [52], 0, []),
  (.nop, (58, 0), [4], 0, []),
  (.iload_n 2, (58, 1), [], 0, []),
  (.ifCond .gt 11, (59, 3), [52], 0, []),
  (.nop, (62, 0), [2, 4], 0, []),
  (.iload_n 3, (62, 1), [], 0, []),
  (.aload_n 0, (63, 1), [], 0, []),
  (.getfield 150, (64, 3), [9, 19, 0], 0, []),
  (.if_icmp .eq 6, (67, 3), [55], 0, []),
  (.nop, (70, 0), [0, 1, 2, 3, 4], 0, []),
  (.bipush (-103), (70, 2), [], 0, []),
  (.ireturn, (72, 1), [0], 0, []),
  (.nop, (73, 0), [2, 4], 0, []),
  (.iload_n 3, (73, 1), [], 0, []),
  (.bipush 9, (74, 2), [], 0, []),
  (.if_icmp .le 6, (76, 3), [62], 0, []),
  (.nop, (79, 0), [0, 1, 2, 3, 4], 0, []),
  (.bipush (-104), (79, 2), [], 0, []),
  (.ireturn, (81, 1), [0], 0, []),
  (.nop, (82, 0), [2, 4], 0, []),
  (.iconst 0, (82, 1), [], 0, []),
  (.istore 4, (83, 2), [], 0, []),
  (.nop, (85, 0), [2], 0, []),
  (.iload 4, (85, 2), [], 0, []),
  (.iload_n 3, (87, 1), [], 0, []),
  (.if_icmp .ge 27, (88, 3), [84], 0, []),
  (.nop, (91, 0), [2], 0, []),
  (.aload_n 0, (91, 1), [], 0, []),
  (.getfield 40, (92, 3), [9, 13, 4], 0, []),
  (.bipush 9, (95, 2), [], 0, []),
  (.iload_n 1, (97, 1), [], 0, []),
  (.imul, (98, 1), [], 0, []),
  (.iload 4, (99, 2), [], 0, []),
  (.iadd, (101, 1), [], 0, []),
  (.aload_n 0, (102, 1), [], 0, []),
  (.iload 4, (103, 2), [], 0, []),
  (.invokevirtual 154, (105, 3), [51, 2, 9, 0, 0, 0, 2], 0, []),
  (.nop, (108, 0), [2], 0, []),
  (.iastore, (108, 1), [], 0, []),
  (.iinc 4 1, (109, 3), [], 0, []),
  (.goto (-27), (112, 3), [65], 0, []),
  (.nop, (115, 0), [2, 4], 0, []),
  (.aload_n 0, (115, 1), [], 0, []),
  (.getfield 43, (116, 3), [9, 14, 4], 0, []),
  (.iload_n 1, (119, 1), [], 0, []),
  (.iload_n 3, (120, 1), [], 0, []),
  (.iastore, (121, 1), [], 0, []),
  (.aload_n 0, (122, 1), [], 0, []),
  (.iconst 0, (123, 1), [], 0, []),
  (.putfield 150, (124, 3), [9, 19, 0], 0, []),
  (.iload_n 3, (127, 1), [], 0, []),
  (.ireturn, (128, 1), [0], 0, [])]
/-- DictProofModel.instancesOf (I)I -/
def tb_89 : List Op := [(.iconst 0, (0, 1), [], 0, []),
  (.istore_n 2, (1, 1), [], 0, []),
  (.iconst 0, (2, 1), [], 0, []),
  (.istore_n 3, (3, 1), [], 0, []),
  (.nop, (4, 0), [], 0, []),
  (.iload_n 3, (4, 1), [], 0, []),
  (.aload_n 0, (5, 1), [], 0, []),
  (.getfield 217, (6, 3), [9, 4, 0], 0, []),
  (.if_icmp .ge 27, (9, 3), [27], 0, []),
  (.nop, (12, 0), [], 0, []),
  (.iload_n 2, (12, 1), [], 0, []),
  (.aload_n 0, (13, 1), [], 0, []),
  (.getfield 19, (14, 3), [9, 6, 4], 0, []),
  (.iload_n 3, (17, 1), [], 0, []),
  (.iaload, (18, 1), [], 0, []),
  (.iload_n 1, (19, 1), [], 0, []),
  (.if_icmp .ne 7, (20, 3), [20], 0, []),
  (.nop, (23, 0), [2], 0, []),
  (.iconst 1, (23, 1), [], 0, []),
  (.goto 4, (24, 3), [22], 0, []),
  (.nop, (27, 0), [2], 0, []),
  (.iconst 0, (27, 1), [], 0, []),
  (.nop, (28, 0), [2], 0, []),
  (.iadd, (28, 1), [], 0, []),
  (.istore_n 2, (29, 1), [], 0, []),
  (.iinc 3 1, (30, 3), [], 0, []),
  (.goto (-29), (33, 3), [4], 0, []),
  (.nop, (36, 0), [0, 1, 3], 0, []),
  (.iload_n 2, (36, 1), [], 0, []),
  (.ireturn, (37, 1), [0], 0, [])]
/-- DictProofModel.aboutNow (II)I -/
def tb_90 : List Op := [(.iload_n 2, (0, 1), [], 0, []),
  (.ifCond .ne 12, (1, 3), [8], 0, []),
  (.nop, (4, 0), [2], 0, []),
  (.aload_n 0, (4, 1), [], 0, []),
  (.getfield 7, (5, 3), [9, 2, 4], 0, []),
  (.iload_n 1, (8, 1), [], 0, []),
  (.iaload, (9, 1), [], 0, []),
  (.goto 22, (10, 3), [22], 0, []),
  (.nop, (13, 0), [], 0, []),
  (.iload_n 2, (13, 1), [], 0, []),
  (.iconst 1, (14, 1), [], 0, []),
  (.if_icmp .ne 12, (15, 3), [18], 0, []),
  (.nop, (18, 0), [2], 0, []),
  (.aload_n 0, (18, 1), [], 0, []),
  (.getfield 13, (19, 3), [9, 3, 4], 0, []),
  (.iload_n 1, (22, 1), [], 0, []),
  (.iaload, (23, 1), [], 0, []),
  (.goto 8, (24, 3), [22], 0, []),
  (.nop, (27, 0), [2], 0, []),
  (.aload_n 0, (27, 1), [], 0, []),
  (.iload_n 1, (28, 1), [], 0, []),
  (.invokevirtual 286, (29, 3), [89, 2, 9, 0, 0, 0, 4], 0, []),
  (.nop, (32, 0), [0, 1, 2], 0, []),
  (.ireturn, (32, 1), [0], 0, [])]
/-- DictProofModel.about (II)I -/
def tb_91 : List Op := [(.aload_n 0, (0, 1), [], 0, []),
  (.iload_n 1, (1, 1), [], 0, []),
  (.invokevirtual 289, (2, 3), [85, 2, 9, 0, 0, 0, 2], 0, []),
  (.nop, (5, 0), [], 0, []),
  (.ifCond .ne 8, (5, 3), [8], 0, []),
  (.nop, (8, 0), [0, 1, 2], 0, []),
  (.bipush (-101), (8, 2), [], 0, []),
  (.goto 23, (10, 3), [24], 0, []),
  (.nop, (13, 0), [], 0, []),
  (.iload_n 2, (13, 1), [], 0, []),
  (.iconst 0, (14, 1), [], 0, []),
  (.iconst 2, (15, 1), [], 0, []),
  (.invokestatic 146, (16, 3), [43, 3, 0, 0, 0, 0, 3], 0, []),
  (.nop, (19, 0), [], 0, []),
  (.ifCond .eq 12, (19, 3), [22], 0, []),
  (.nop, (22, 0), [], 0, []),
  (.aload_n 0, (22, 1), [], 0, []),
  (.iload_n 1, (23, 1), [], 0, []),
  (.iload_n 2, (24, 1), [], 0, []),
  (.invokevirtual 292, (25, 3), [90, 3, 9, 0, 0, 0, 3], 0, []),
  (.nop, (28, 0), [0, 1, 2], 0, []),
  (.goto 5, (28, 3), [24], 0, []),
  (.nop, (31, 0), [0, 1, 2], 0, []),
  (.bipush (-102), (31, 2), [], 0, []),
  (.nop, (33, 0), [0, 1, 2], 0, []),
  (.ireturn, (33, 1), [0], 0, [])]
/-- DictProofModel.isGiven (II)Z -/
def tb_92 : List Op := [(.iconst 0, (0, 1), [], 0, []),
  (.istore_n 3, (1, 1), [], 0, []),
  (.iconst 0, (2, 1), [], 0, []),
  (.istore 4, (3, 2), [], 0, []),
  (.nop, (5, 0), [5, 6], 0, []),
  (.iload 4, (5, 2), [], 0, []),
  (.aload_n 0, (7, 1), [], 0, []),
  (.getfield 28, (8, 3), [9, 9, 4], 0, []),
  (.iload_n 1, (11, 1), [], 0, []),
  (.iaload, (12, 1), [], 0, []),
  (.if_icmp .ge 85, (13, 3), [71], 0, []),
  (.nop, (16, 0), [5, 6], 0, []),
  (.aload_n 0, (16, 1), [], 0, []),
  (.getfield 31, (17, 3), [9, 10, 4], 0, []),
  (.iconst 2, (20, 1), [], 0, []),
  (.iload_n 1, (21, 1), [], 0, []),
  (.imul, (22, 1), [], 0, []),
  (.iload 4, (23, 2), [], 0, []),
  (.iadd, (25, 1), [], 0, []),
  (.iaload, (26, 1), [], 0, []),
  (.istore 5, (27, 2), [], 0, []),
  (.iload 5, (29, 2), [], 0, []),
  (.iload_n 2, (31, 1), [], 0, []),
  (.iconst 2, (32, 1), [], 0, []),
  (.idiv, (33, 1), [], 0, []),
  (.if_icmp .eq 19, (34, 3), [37], 0, []),
  (.nop, (37, 0), [6], 0, []),
  (.aload_n 0, (37, 1), [], 0, []),
  (.getfield 13, (38, 3), [9, 3, 4], 0, []),
  (.iload 5, (41, 2), [], 0, []),
  (.iaload, (43, 1), [], 0, []),
  (.iload_n 2, (44, 1), [], 0, []),
  (.iconst 2, (45, 1), [], 0, []),
  (.idiv, (46, 1), [], 0, []),
  (.invokestatic 214, (47, 3), [44, 2, 0, 0, 0, 0, 2], 0, []),
  (.nop, (50, 0), [5, 6], 0, []),
  (.ifCond .eq 7, (50, 3), [40], 0, []),
  (.nop, (53, 0), [5, 6], 0, []),
  (.iconst 1, (53, 1), [], 0, []),
  (.goto 4, (54, 3), [42], 0, []),
  (.nop, (57, 0), [5, 6], 0, []),
  (.iconst 0, (57, 1), [], 0, []),
  (.nop, (58, 0), [5, 6], 0, []),
  (.istore 6, (58, 2), [], 0, []),
  (.iload_n 3, (60, 1), [], 0, []),
  (.ifCond .ne 25, (61, 3), [62], 0, []),
  (.nop, (64, 0), [3, 5], 0, []),
  (.aload_n 0, (64, 1), [], 0, []),
  (.getfield 34, (65, 3), [9, 11, 4], 0, []),
  (.iconst 2, (68, 1), [], 0, []),
  (.iload_n 1, (69, 1), [], 0, []),
  (.imul, (70, 1), [], 0, []),
  (.iload 4, (71, 2), [], 0, []),
  (.iadd, (73, 1), [], 0, []),
  (.iaload, (74, 1), [], 0, []),
  (.iload_n 2, (75, 1), [], 0, []),
  (.iconst 2, (76, 1), [], 0, []),
  (.irem, (77, 1), [], 0, []),
  (.if_icmp .ne 12, (78, 3), [65], 0, []),
  (.nop, (81, 0), [3, 5], 0, []),
  (.iload 6, (81, 2), [], 0, []),
  (.ifCond .eq 7, (83, 3), [65], 0, []),
  (.nop, (86, 0), [3, 5, 6], 0, []),
  (.iconst 1, (86, 1), [], 0, []),
  (.goto 4, (87, 3), [67], 0, []),
  (.nop, (90, 0), [3, 5, 6], 0, []),
  (.iconst 0, (90, 1), [], 0, []),
  (.nop, (91, 0), [3, 5, 6], 0, []),
  (.istore_n 3, (91, 1), [], 0, []),
  (.iinc 4 1, (92, 3), [], 0, []),
  (.goto (-90), (95, 3), [4], 0, []),
  (.nop, (98, 0), [0, 1, 2, 4, 5, 6], 0, []),
  (.iload_n 3, (98, 1), [], 0, []),
  (.ireturn, (99, 1), [1], 0, [])]
/-- DictProofModel.lacksOf (I)I -/
def tb_93 : List Op := [(.aload_n 0, (0, 1), [], 0, []),
  (.iload_n 1, (1, 1), [], 0, []),
  (.invokevirtual 242, (2, 3), [65, 2, 9, 0, 0, 0, 3], 0, []),
  (.nop, (5, 0), [2, 3, 4, 5, 6], 0, []),
  (.aload_n 0, (5, 1), [], 0, []),
  (.invokevirtual 295, (6, 3), [79, 1, 9, 0, 0, 0, 3], 0, []),
  (.nop, (9, 0), [2, 3, 4, 5, 6], 0, []),
  (.iconst 0, (9, 1), [], 0, []),
  (.istore_n 2, (10, 1), [], 0, []),
  (.iconst 0, (11, 1), [], 0, []),
  (.istore_n 3, (12, 1), [], 0, []),
  (.nop, (13, 0), [4, 5, 6], 0, []),
  (.iload_n 3, (13, 1), [], 0, []),
  (.aload_n 0, (14, 1), [], 0, []),
  (.getfield 211, (15, 3), [9, 1, 0], 0, []),
  (.if_icmp .ge 119, (18, 3), [96], 0, []),
  (.nop, (21, 0), [4, 5, 6], 0, []),
  (.bipush 9, (21, 2), [], 0, []),
  (.iload_n 3, (23, 1), [], 0, []),
  (.imul, (24, 1), [], 0, []),
  (.istore 4, (25, 2), [], 0, []),
  (.aload_n 0, (27, 1), [], 0, []),
  (.getfield 89, (28, 3), [9, 36, 4], 0, []),
  (.iload 4, (31, 2), [], 0, []),
  (.iaload, (33, 1), [], 0, []),
  (.iconst 1, (34, 1), [], 0, []),
  (.if_icmp .ne 7, (35, 3), [30], 0, []),
  (.nop, (38, 0), [5, 6], 0, []),
  (.iconst 1, (38, 1), [], 0, []),
  (.goto 4, (39, 3), [32], 0, []),
  (.nop, (42, 0), [5, 6], 0, []),
  (.iconst 0, (42, 1), [], 0, []),
  (.nop, (43, 0), [5, 6], 0, []),
  (.istore 5, (43, 2), [], 0, []),
  (.iconst 0, (45, 1), [], 0, []),
  (.istore 6, (46, 2), [], 0, []),
  (.nop, (48, 0), [], 0, []),
  (.iload 6, (48, 2), [], 0, []),
  (.bipush 8, (50, 2), [], 0, []),
  (.if_icmp .ge 46, (52, 3), [68], 0, []),
  (.nop, (55, 0), [], 0, []),
  (.iload 5, (55, 2), [], 0, []),
  (.ifCond .eq 41, (57, 3), [68], 0, []),
  (.nop, (60, 0), [5], 0, []),
  (.aload_n 0, (60, 1), [], 0, []),
  (.getfield 110, (61, 3), [9, 43, 4], 0, []),
  (.iload 4, (64, 2), [], 0, []),
  (.iaload, (66, 1), [], 0, []),
  (.iload 6, (67, 2), [], 0, []),
  (.invokestatic 214, (69, 3), [44, 2, 0, 0, 0, 0, 2], 0, []),
  (.nop, (72, 0), [5], 0, []),
  (.ifCond .eq 13, (72, 3), [59], 0, []),
  (.nop, (75, 0), [5], 0, []),
  (.aload_n 0, (75, 1), [], 0, []),
  (.iload_n 1, (76, 1), [], 0, []),
  (.iload 6, (77, 2), [], 0, []),
  (.invokevirtual 298, (79, 3), [92, 3, 9, 0, 0, 0, 7], 0, []),
  (.nop, (82, 0), [5], 0, []),
  (.ifCond .eq 7, (82, 3), [62], 0, []),
  (.nop, (85, 0), [5], 0, []),
  (.iconst 1, (85, 1), [], 0, []),
  (.goto 4, (86, 3), [64], 0, []),
  (.nop, (89, 0), [5], 0, []),
  (.iconst 0, (89, 1), [], 0, []),
  (.nop, (90, 0), [5], 0, []),
  (.istore 5, (90, 2), [], 0, []),
  (.iinc 6 1, (92, 3), [], 0, []),
  (.goto (-47), (95, 3), [36], 0, []),
  (.nop, (98, 0), [4, 6], 0, []),
  (.iload_n 2, (98, 1), [], 0, []),
  (.aload_n 0, (99, 1), [], 0, []),
  (.getfield 7, (100, 3), [9, 2, 4], 0, []),
  (.aload_n 0, (103, 1), [], 0, []),
  (.getfield 19, (104, 3), [9, 6, 4], 0, []),
  (.iload_n 1, (107, 1), [], 0, []),
  (.iaload, (108, 1), [], 0, []),
  (.iaload, (109, 1), [], 0, []),
  (.iload_n 3, (110, 1), [], 0, []),
  (.invokestatic 214, (111, 3), [44, 2, 0, 0, 0, 0, 2], 0, []),
  (.nop, (114, 0), [2, 4, 6], 0, []),
  (.ifCond .eq 14, (114, 3), [89], 0, []),
  (.nop, (117, 0), [2, 4, 6], 0, []),
  (.iload 5, (117, 2), [], 0, []),
  (.ifCond .ne 9, (119, 3), [89], 0, []),
  (.nop, (122, 0), [2, 4, 5, 6], 0, []),
  (.iconst 1, (122, 1), [], 0, []),
  (.iload_n 3, (123, 1), [], 0, []),
  (.ishl, (124, 1), [], 0, []),
  (.goto 4, (125, 3), [91], 0, []),
  (.nop, (128, 0), [2, 4, 5, 6], 0, []),
  (.iconst 0, (128, 1), [], 0, []),
  (.nop, (129, 0), [2, 4, 5, 6], 0, []),
  (.ior, (129, 1), [], 0, []),
  (.istore_n 2, (130, 1), [], 0, []),
  (.iinc 3 1, (131, 3), [], 0, []),
  (.goto (-121), (134, 3), [11], 0, []),
  (.nop, (137, 0), [0, 1, 3, 4, 5, 6], 0, []),
  (.iload_n 2, (137, 1), [], 0, []),
  (.ireturn, (138, 1), [0], 0, [])]
/-- DictProofModel.instanceNow (II)I -/
def tb_94 : List Op := [(.iload_n 2, (0, 1), [], 0, []),
  (.tableswitch 97 0 6 #[43, 50, 57, 64, 71, 85, 91], (1, 43), [51], 0, [(0, 2), (1, 8), (2, 14), (3, 20), (4, 26), (5, 39), (6, 45)]),
  (.nop, (44, 0), [2], 0, []),
  (.aload_n 0, (44, 1), [], 0, []),
  (.getfield 16, (45, 3), [9, 5, 4], 0, []),
  (.iload_n 1, (48, 1), [], 0, []),
  (.iaload, (49, 1), [], 0, []),
  (.ireturn, (50, 1), [0], 0, []),
  (.nop, (51, 0), [2], 0, []),
  (.aload_n 0, (51, 1), [], 0, []),
  (.getfield 19, (52, 3), [9, 6, 4], 0, []),
  (.iload_n 1, (55, 1), [], 0, []),
  (.iaload, (56, 1), [], 0, []),
  (.ireturn, (57, 1), [0], 0, []),
  (.nop, (58, 0), [2], 0, []),
  (.aload_n 0, (58, 1), [], 0, []),
  (.getfield 25, (59, 3), [9, 8, 4], 0, []),
  (.iload_n 1, (62, 1), [], 0, []),
  (.iaload, (63, 1), [], 0, []),
  (.ireturn, (64, 1), [0], 0, []),
  (.nop, (65, 0), [2], 0, []),
  (.aload_n 0, (65, 1), [], 0, []),
  (.getfield 28, (66, 3), [9, 9, 4], 0, []),
  (.iload_n 1, (69, 1), [], 0, []),
  (.iaload, (70, 1), [], 0, []),
  (.ireturn, (71, 1), [0], 0, []),
  (.nop, (72, 0), [2], 0, []),
  (.aload_n 0, (72, 1), [], 0, []),
  (.iload_n 1, (73, 1), [], 0, []),
  (.invokevirtual 248, (74, 3), [70, 2, 9, 0, 0, 0, 2], 0, []),
  (.nop, (77, 0), [0, 1, 2], 0, []),
  (.ifCond .eq 7, (77, 3), [35], 0, []),
  (.nop, (80, 0), [0, 1, 2], 0, []),
  (.iconst 1, (80, 1), [], 0, []),
  (.goto 4, (81, 3), [37], 0, []),
  (.nop, (84, 0), [0, 1, 2], 0, []),
  (.iconst 0, (84, 1), [], 0, []),
  (.nop, (85, 0), [0, 1, 2], 0, []),
  (.ireturn, (85, 1), [0], 0, []),
  (.nop, (86, 0), [2], 0, []),
  (.aload_n 0, (86, 1), [], 0, []),
  (.iload_n 1, (87, 1), [], 0, []),
  (.invokevirtual 301, (88, 3), [119, 2, 9, 0, 0, 0, 6], 0, []),
  (.nop, (91, 0), [0, 1, 2], 0, []),
  (.ireturn, (91, 1), [0], 0, []),
  (.nop, (92, 0), [2], 0, []),
  (.aload_n 0, (92, 1), [], 0, []),
  (.iload_n 1, (93, 1), [], 0, []),
  (.invokevirtual 304, (94, 3), [120, 2, 9, 0, 0, 0, 9], 0, []),
  (.nop, (97, 0), [0, 1, 2], 0, []),
  (.ireturn, (97, 1), [0], 0, []),
  (.nop, (98, 0), [2], 0, []),
  (.aload_n 0, (98, 1), [], 0, []),
  (.iload_n 1, (99, 1), [], 0, []),
  (.invokevirtual 307, (100, 3), [93, 2, 9, 0, 0, 0, 7], 0, []),
  (.nop, (103, 0), [0, 1, 2], 0, []),
  (.ireturn, (103, 1), [0], 0, [])]
/-- DictProofModel.instance (II)I -/
def tb_95 : List Op := [(.aload_n 0, (0, 1), [], 0, []),
  (.iload_n 1, (1, 1), [], 0, []),
  (.invokevirtual 310, (2, 3), [86, 2, 9, 0, 0, 0, 2], 0, []),
  (.nop, (5, 0), [], 0, []),
  (.ifCond .ne 8, (5, 3), [8], 0, []),
  (.nop, (8, 0), [0, 1, 2], 0, []),
  (.bipush (-101), (8, 2), [], 0, []),
  (.goto 24, (10, 3), [24], 0, []),
  (.nop, (13, 0), [], 0, []),
  (.iload_n 2, (13, 1), [], 0, []),
  (.iconst 0, (14, 1), [], 0, []),
  (.bipush 7, (15, 2), [], 0, []),
  (.invokestatic 146, (17, 3), [43, 3, 0, 0, 0, 0, 3], 0, []),
  (.nop, (20, 0), [], 0, []),
  (.ifCond .eq 12, (20, 3), [22], 0, []),
  (.nop, (23, 0), [], 0, []),
  (.aload_n 0, (23, 1), [], 0, []),
  (.iload_n 1, (24, 1), [], 0, []),
  (.iload_n 2, (25, 1), [], 0, []),
  (.invokevirtual 313, (26, 3), [94, 3, 9, 0, 0, 0, 3], 0, []),
  (.nop, (29, 0), [0, 1, 2], 0, []),
  (.goto 5, (29, 3), [24], 0, []),
  (.nop, (32, 0), [0, 1, 2], 0, []),
  (.bipush (-102), (32, 2), [], 0, []),
  (.nop, (34, 0), [0, 1, 2], 0, []),
  (.ireturn, (34, 1), [0], 0, [])]
/-- DictProofModel.as (II)I -/
def tb_96 : List Op := [(.aload_n 0, (0, 1), [], 0, []),
  (.iload_n 1, (1, 1), [], 0, []),
  (.invokevirtual 310, (2, 3), [86, 2, 9, 0, 0, 0, 2], 0, []),
  (.nop, (5, 0), [3], 0, []),
  (.ifCond .ne 6, (5, 3), [8], 0, []),
  (.nop, (8, 0), [0, 1, 2, 3], 0, []),
  (.bipush (-101), (8, 2), [], 0, []),
  (.ireturn, (10, 1), [0], 0, []),
  (.nop, (11, 0), [3], 0, []),
  (.iload_n 2, (11, 1), [], 0, []),
  (.iconst 0, (12, 1), [], 0, []),
  (.iconst 4, (13, 1), [], 0, []),
  (.invokestatic 146, (14, 3), [43, 3, 0, 0, 0, 0, 3], 0, []),
  (.nop, (17, 0), [3], 0, []),
  (.ifCond .ne 6, (17, 3), [18], 0, []),
  (.nop, (20, 0), [0, 1, 2, 3], 0, []),
  (.bipush (-102), (20, 2), [], 0, []),
  (.ireturn, (22, 1), [0], 0, []),
  (.nop, (23, 0), [3], 0, []),
  (.aload_n 0, (23, 1), [], 0, []),
  (.getfield 16, (24, 3), [9, 5, 4], 0, []),
  (.iload_n 1, (27, 1), [], 0, []),
  (.iaload, (28, 1), [], 0, []),
  (.istore_n 3, (29, 1), [], 0, []),
  (.iload_n 2, (30, 1), [], 0, []),
  (.ifCond .eq 18, (31, 3), [38], 0, []),
  (.nop, (34, 0), [0], 0, []),
  (.iload_n 3, (34, 1), [], 0, []),
  (.iload_n 2, (35, 1), [], 0, []),
  (.if_icmp .eq 13, (36, 3), [38], 0, []),
  (.nop, (39, 0), [0], 0, []),
  (.iload_n 2, (39, 1), [], 0, []),
  (.iconst 3, (40, 1), [], 0, []),
  (.if_icmp .ne 12, (41, 3), [41], 0, []),
  (.nop, (44, 0), [0, 2], 0, []),
  (.iload_n 3, (44, 1), [], 0, []),
  (.iconst 4, (45, 1), [], 0, []),
  (.if_icmp .ne 7, (46, 3), [41], 0, []),
  (.nop, (49, 0), [0, 2, 3], 0, []),
  (.iload_n 1, (49, 1), [], 0, []),
  (.goto 4, (50, 3), [43], 0, []),
  (.nop, (53, 0), [0, 1, 2, 3], 0, []),
  (.iconst (-1), (53, 1), [], 0, []),
  (.nop, (54, 0), [0, 1, 2, 3], 0, []),
  (.ireturn, (54, 1), [0], 0, [])]
/-- DictProofModel.change (II)I -/
def tb_97 : List Op := [(.aload_n 0, (0, 1), [], 0, []),
  (.iload_n 1, (1, 1), [], 0, []),
  (.invokevirtual 310, (2, 3), [86, 2, 9, 0, 0, 0, 2], 0, []),
  (.nop, (5, 0), [3], 0, []),
  (.ifCond .ne 6, (5, 3), [8], 0, []),
  (.nop, (8, 0), [0, 1, 2, 3], 0, []),
  (.bipush (-101), (8, 2), [], 0, []),
  (.ireturn, (10, 1), [0], 0, []),
  (.nop, (11, 0), [3], 0, []),
  (.iload_n 2, (11, 1), [], 0, []),
  (.iconst 0, (12, 1), [], 0, []),
  (.iconst 4, (13, 1), [], 0, []),
  (.invokestatic 146, (14, 3), [43, 3, 0, 0, 0, 0, 3], 0, []),
  (.nop, (17, 0), [3], 0, []),
  (.ifCond .ne 6, (17, 3), [18], 0, []),
  (.nop, (20, 0), [0, 1, 2, 3], 0, []),
  (.bipush (-102), (20, 2), [], 0, []),
  (.ireturn, (22, 1), [0], 0, []),
  (.nop, (23, 0), [3], 0, []),
  (.aload_n 0, (23, 1), [], 0, []),
  (.getfield 16, (24, 3), [9, 5, 4], 0, []),
  (.iload_n 1, (27, 1), [], 0, []),
  (.iaload, (28, 1), [], 0, []),
  (.istore_n 3, (29, 1), [], 0, []),
  (.aload_n 0, (30, 1), [], 0, []),
  (.getfield 16, (31, 3), [9, 5, 4], 0, []),
  (.iload_n 1, (34, 1), [], 0, []),
  (.iload_n 2, (35, 1), [], 0, []),
  (.iastore, (36, 1), [], 0, []),
  (.iload_n 3, (37, 1), [], 0, []),
  (.ireturn, (38, 1), [0], 0, [])]
/-- DictProofModel.letterOf (I)I -/
def tb_98 : List Op := [(.aload_n 0, (0, 1), [], 0, []),
  (.getfield 22, (1, 3), [9, 7, 4], 0, []),
  (.iconst 5, (4, 1), [], 0, []),
  (.iload_n 1, (5, 1), [], 0, []),
  (.iconst 5, (6, 1), [], 0, []),
  (.if_icmp .ge 10, (7, 3), [10], 0, []),
  (.nop, (10, 0), [], 0, []),
  (.aload_n 0, (10, 1), [], 0, []),
  (.getfield 316, (11, 3), [9, 45, 0], 0, []),
  (.goto 7, (14, 3), [13], 0, []),
  (.nop, (17, 0), [], 0, []),
  (.aload_n 0, (17, 1), [], 0, []),
  (.getfield 319, (18, 3), [9, 46, 0], 0, []),
  (.nop, (21, 0), [0], 0, []),
  (.imul, (21, 1), [], 0, []),
  (.iload_n 1, (22, 1), [], 0, []),
  (.iconst 5, (23, 1), [], 0, []),
  (.irem, (24, 1), [], 0, []),
  (.iadd, (25, 1), [], 0, []),
  (.iaload, (26, 1), [], 0, []),
  (.ireturn, (27, 1), [0], 0, [])]
/-- DictProofModel.variableOf (I)I -/
def tb_99 : List Op := [(.iload_n 1, (0, 1), [], 0, []),
  (.iconst 5, (1, 1), [], 0, []),
  (.idiv, (2, 1), [], 0, []),
  (.iconst 2, (3, 1), [], 0, []),
  (.imul, (4, 1), [], 0, []),
  (.aload_n 0, (5, 1), [], 0, []),
  (.iload_n 1, (6, 1), [], 0, []),
  (.invokevirtual 322, (7, 3), [98, 2, 9, 0, 0, 0, 2], 0, []),
  (.nop, (10, 0), [0, 1], 0, []),
  (.iadd, (10, 1), [], 0, []),
  (.bipush 120, (11, 2), [], 0, []),
  (.isub, (13, 1), [], 0, []),
  (.ireturn, (14, 1), [0], 0, [])]
/-- DictProofModel.standsFor (I)I -/
def tb_100 : List Op := [(.iload_n 1, (0, 1), [], 0, []),
  (.istore_n 2, (1, 1), [], 0, []),
  (.nop, (2, 0), [1], 0, []),
  (.aload_n 0, (2, 1), [], 0, []),
  (.iload_n 2, (3, 1), [], 0, []),
  (.invokevirtual 322, (4, 3), [98, 2, 9, 0, 0, 0, 2], 0, []),
  (.nop, (7, 0), [1], 0, []),
  (.invokestatic 181, (7, 3), [46, 1, 0, 0, 0, 0, 1], 0, []),
  (.nop, (10, 0), [1], 0, []),
  (.ifCond .eq 31, (10, 3), [30], 0, []),
  (.nop, (13, 0), [1], 0, []),
  (.aload_n 0, (13, 1), [], 0, []),
  (.getfield 116, (14, 3), [9, 47, 4], 0, []),
  (.aload_n 0, (17, 1), [], 0, []),
  (.iload_n 2, (18, 1), [], 0, []),
  (.invokevirtual 325, (19, 3), [99, 2, 9, 0, 0, 0, 2], 0, []),
  (.nop, (22, 0), [1], 0, []),
  (.iaload, (22, 1), [], 0, []),
  (.iconst (-1), (23, 1), [], 0, []),
  (.if_icmp .eq 17, (24, 3), [30], 0, []),
  (.nop, (27, 0), [1], 0, []),
  (.aload_n 0, (27, 1), [], 0, []),
  (.getfield 116, (28, 3), [9, 47, 4], 0, []),
  (.aload_n 0, (31, 1), [], 0, []),
  (.iload_n 2, (32, 1), [], 0, []),
  (.invokevirtual 325, (33, 3), [99, 2, 9, 0, 0, 0, 2], 0, []),
  (.nop, (36, 0), [1, 2], 0, []),
  (.iaload, (36, 1), [], 0, []),
  (.istore_n 2, (37, 1), [], 0, []),
  (.goto (-36), (38, 3), [2], 0, []),
  (.nop, (41, 0), [0, 1], 0, []),
  (.iload_n 2, (41, 1), [], 0, []),
  (.ireturn, (42, 1), [0], 0, [])]
/-- DictProofModel.behind (I)I -/
def tb_101 : List Op := [(.iconst 1, (0, 1), [], 0, []),
  (.istore_n 2, (1, 1), [], 0, []),
  (.iload_n 1, (2, 1), [], 0, []),
  (.istore_n 3, (3, 1), [], 0, []),
  (.nop, (4, 0), [1], 0, []),
  (.iload_n 2, (4, 1), [], 0, []),
  (.ifCond .le 22, (5, 3), [21], 0, []),
  (.nop, (8, 0), [1], 0, []),
  (.iload_n 2, (8, 1), [], 0, []),
  (.aload_n 0, (9, 1), [], 0, []),
  (.iload_n 3, (10, 1), [], 0, []),
  (.invokevirtual 322, (11, 3), [98, 2, 9, 0, 0, 0, 2], 0, []),
  (.nop, (14, 0), [1, 2], 0, []),
  (.invokestatic 174, (14, 3), [47, 1, 0, 0, 0, 0, 1], 0, []),
  (.nop, (17, 0), [1, 2], 0, []),
  (.iconst 1, (17, 1), [], 0, []),
  (.isub, (18, 1), [], 0, []),
  (.iadd, (19, 1), [], 0, []),
  (.istore_n 2, (20, 1), [], 0, []),
  (.iinc 3 1, (21, 3), [], 0, []),
  (.goto (-20), (24, 3), [4], 0, []),
  (.nop, (27, 0), [0, 1, 2], 0, []),
  (.iload_n 3, (27, 1), [], 0, []),
  (.ireturn, (28, 1), [0], 0, [])]
/-- DictProofModel.occurs (II)Z -/
def tb_102 : List Op := [(.iconst 1, (0, 1), [], 0, []),
  (.istore_n 3, (1, 1), [], 0, []),
  (.aload_n 0, (2, 1), [], 0, []),
  (.getfield 125, (3, 3), [9, 51, 4], 0, []),
  (.iconst 0, (6, 1), [], 0, []),
  (.iload_n 2, (7, 1), [], 0, []),
  (.iastore, (8, 1), [], 0, []),
  (.nop, (9, 0), [2, 4, 5], 0, []),
  (.iload_n 3, (9, 1), [], 0, []),
  (.ifCond .le 96, (10, 3), [73], 0, []),
  (.nop, (13, 0), [2, 4, 5], 0, []),
  (.iinc 3 (-1), (13, 3), [], 0, []),
  (.aload_n 0, (16, 1), [], 0, []),
  (.aload_n 0, (17, 1), [], 0, []),
  (.getfield 125, (18, 3), [9, 51, 4], 0, []),
  (.iload_n 3, (21, 1), [], 0, []),
  (.iaload, (22, 1), [], 0, []),
  (.invokevirtual 328, (23, 3), [100, 2, 9, 0, 0, 0, 3], 0, []),
  (.nop, (26, 0), [2, 4, 5], 0, []),
  (.istore 4, (26, 2), [], 0, []),
  (.aload_n 0, (28, 1), [], 0, []),
  (.iload 4, (29, 2), [], 0, []),
  (.invokevirtual 322, (31, 3), [98, 2, 9, 0, 0, 0, 2], 0, []),
  (.nop, (34, 0), [2, 5], 0, []),
  (.istore 5, (34, 2), [], 0, []),
  (.iload 5, (36, 2), [], 0, []),
  (.invokestatic 181, (38, 3), [46, 1, 0, 0, 0, 0, 1], 0, []),
  (.nop, (41, 0), [2], 0, []),
  (.ifCond .eq 15, (41, 3), [39], 0, []),
  (.nop, (44, 0), [2], 0, []),
  (.aload_n 0, (44, 1), [], 0, []),
  (.iload 4, (45, 2), [], 0, []),
  (.invokevirtual 325, (47, 3), [99, 2, 9, 0, 0, 0, 2], 0, []),
  (.nop, (50, 0), [2], 0, []),
  (.iload_n 1, (50, 1), [], 0, []),
  (.if_icmp .ne 5, (51, 3), [39], 0, []),
  (.nop, (54, 0), [0, 1, 2, 3, 4, 5], 0, []),
  (.iconst 1, (54, 1), [], 0, []),
  (.ireturn, (55, 1), [1], 0, []),
  (.nop, (56, 0), [2], 0, []),
  (.iload 5, (56, 2), [], 0, []),
  (.invokestatic 174, (58, 3), [47, 1, 0, 0, 0, 0, 1], 0, []),
  (.nop, (61, 0), [2], 0, []),
  (.ifCond .le 16, (61, 3), [53], 0, []),
  (.nop, (64, 0), [2], 0, []),
  (.aload_n 0, (64, 1), [], 0, []),
  (.getfield 125, (65, 3), [9, 51, 4], 0, []),
  (.iload_n 3, (68, 1), [], 0, []),
  (.iload 4, (69, 2), [], 0, []),
  (.iconst 1, (71, 1), [], 0, []),
  (.iadd, (72, 1), [], 0, []),
  (.iastore, (73, 1), [], 0, []),
  (.iinc 3 1, (74, 3), [], 0, []),
  (.nop, (77, 0), [2], 0, []),
  (.iload 5, (77, 2), [], 0, []),
  (.invokestatic 174, (79, 3), [47, 1, 0, 0, 0, 0, 1], 0, []),
  (.nop, (82, 0), [2, 5], 0, []),
  (.iconst 1, (82, 1), [], 0, []),
  (.if_icmp .le 20, (83, 3), [71], 0, []),
  (.nop, (86, 0), [2, 5], 0, []),
  (.aload_n 0, (86, 1), [], 0, []),
  (.getfield 125, (87, 3), [9, 51, 4], 0, []),
  (.iload_n 3, (90, 1), [], 0, []),
  (.aload_n 0, (91, 1), [], 0, []),
  (.iload 4, (92, 2), [], 0, []),
  (.iconst 1, (94, 1), [], 0, []),
  (.iadd, (95, 1), [], 0, []),
  (.invokevirtual 331, (96, 3), [101, 2, 9, 0, 0, 0, 4], 0, []),
  (.nop, (99, 0), [2, 4, 5], 0, []),
  (.iastore, (99, 1), [], 0, []),
  (.iinc 3 1, (100, 3), [], 0, []),
  (.nop, (103, 0), [2, 4, 5], 0, []),
  (.goto (-94), (103, 3), [7], 0, []),
  (.nop, (106, 0), [0, 1, 2, 3, 4, 5], 0, []),
  (.iconst 0, (106, 1), [], 0, []),
  (.ireturn, (107, 1), [1], 0, [])]
/-- DictProofModel.addPair (II)V -/
def tb_103 : List Op := [(.aload_n 0, (0, 1), [], 0, []),
  (.getfield 119, (1, 3), [9, 48, 4], 0, []),
  (.aload_n 0, (4, 1), [], 0, []),
  (.getfield 334, (5, 3), [9, 50, 0], 0, []),
  (.iload_n 1, (8, 1), [], 0, []),
  (.iastore, (9, 1), [], 0, []),
  (.aload_n 0, (10, 1), [], 0, []),
  (.getfield 122, (11, 3), [9, 49, 4], 0, []),
  (.aload_n 0, (14, 1), [], 0, []),
  (.getfield 334, (15, 3), [9, 50, 0], 0, []),
  (.iload_n 2, (18, 1), [], 0, []),
  (.iastore, (19, 1), [], 0, []),
  (.aload_n 0, (20, 1), [], 0, []),
  (.dup, (21, 1), [], 0, []),
  (.getfield 334, (22, 3), [9, 50, 0], 0, []),
  (.iconst 1, (25, 1), [], 0, []),
  (.iadd, (26, 1), [], 0, []),
  (.putfield 334, (27, 3), [9, 50, 0], 0, []),
  (.return_, (30, 1), [], 0, [])]
/-- DictProofModel.joins (II)Z -/
def tb_104 : List Op := [(.aload_n 0, (0, 1), [], 0, []),
  (.iload_n 1, (1, 1), [], 0, []),
  (.invokevirtual 322, (2, 3), [98, 2, 9, 0, 0, 0, 2], 0, []),
  (.nop, (5, 0), [3, 4, 5, 6], 0, []),
  (.invokestatic 181, (5, 3), [46, 1, 0, 0, 0, 0, 1], 0, []),
  (.nop, (8, 0), [3, 4, 5, 6], 0, []),
  (.istore_n 3, (8, 1), [], 0, []),
  (.aload_n 0, (9, 1), [], 0, []),
  (.iload_n 2, (10, 1), [], 0, []),
  (.invokevirtual 322, (11, 3), [98, 2, 9, 0, 0, 0, 2], 0, []),
  (.nop, (14, 0), [4, 5, 6], 0, []),
  (.invokestatic 181, (14, 3), [46, 1, 0, 0, 0, 0, 1], 0, []),
  (.nop, (17, 0), [4, 5, 6], 0, []),
  (.istore 4, (17, 2), [], 0, []),
  (.iload_n 3, (19, 1), [], 0, []),
  (.ifCond .eq 23, (20, 3), [32], 0, []),
  (.nop, (23, 0), [5, 6], 0, []),
  (.iload 4, (23, 2), [], 0, []),
  (.ifCond .eq 18, (25, 3), [32], 0, []),
  (.nop, (28, 0), [5, 6], 0, []),
  (.aload_n 0, (28, 1), [], 0, []),
  (.iload_n 1, (29, 1), [], 0, []),
  (.invokevirtual 325, (30, 3), [99, 2, 9, 0, 0, 0, 2], 0, []),
  (.nop, (33, 0), [5, 6], 0, []),
  (.aload_n 0, (33, 1), [], 0, []),
  (.iload_n 2, (34, 1), [], 0, []),
  (.invokevirtual 325, (35, 3), [99, 2, 9, 0, 0, 0, 2], 0, []),
  (.nop, (38, 0), [5, 6], 0, []),
  (.if_icmp .ne 5, (38, 3), [32], 0, []),
  (.nop, (41, 0), [0, 1, 2, 3, 4, 5, 6], 0, []),
  (.iconst 1, (41, 1), [], 0, []),
  (.ireturn, (42, 1), [1], 0, []),
  (.nop, (43, 0), [5, 6], 0, []),
  (.iload_n 3, (43, 1), [], 0, []),
  (.ifCond .ne 8, (44, 3), [38], 0, []),
  (.nop, (47, 0), [5, 6], 0, []),
  (.iload 4, (47, 2), [], 0, []),
  (.ifCond .eq 53, (49, 3), [77], 0, []),
  (.nop, (52, 0), [4, 5, 6], 0, []),
  (.aload_n 0, (52, 1), [], 0, []),
  (.iload_n 3, (53, 1), [], 0, []),
  (.ifCond .eq 7, (54, 3), [45], 0, []),
  (.nop, (57, 0), [4, 5, 6], 0, []),
  (.iload_n 1, (57, 1), [], 0, []),
  (.goto 4, (58, 3), [47], 0, []),
  (.nop, (61, 0), [4, 5, 6], 0, []),
  (.iload_n 2, (61, 1), [], 0, []),
  (.nop, (62, 0), [4, 5, 6], 0, []),
  (.invokevirtual 325, (62, 3), [99, 2, 9, 0, 0, 0, 2], 0, []),
  (.nop, (65, 0), [4, 5, 6], 0, []),
  (.istore 5, (65, 2), [], 0, []),
  (.iload_n 3, (67, 1), [], 0, []),
  (.ifCond .eq 7, (68, 3), [56], 0, []),
  (.nop, (71, 0), [1, 3, 4, 6], 0, []),
  (.iload_n 2, (71, 1), [], 0, []),
  (.goto 4, (72, 3), [58], 0, []),
  (.nop, (75, 0), [2, 3, 4, 6], 0, []),
  (.iload_n 1, (75, 1), [], 0, []),
  (.nop, (76, 0), [1, 2, 3, 4, 6], 0, []),
  (.istore 6, (76, 2), [], 0, []),
  (.aload_n 0, (78, 1), [], 0, []),
  (.iload 5, (79, 2), [], 0, []),
  (.iload 6, (81, 2), [], 0, []),
  (.invokevirtual 337, (83, 3), [102, 3, 9, 0, 0, 0, 6], 0, []),
  (.nop, (86, 0), [1, 2, 3, 4], 0, []),
  (.ifCond .eq 5, (86, 3), [69], 0, []),
  (.nop, (89, 0), [0, 1, 2, 3, 4, 5, 6], 0, []),
  (.iconst 0, (89, 1), [], 0, []),
  (.ireturn, (90, 1), [1], 0, []),
  (.nop, (91, 0), [1, 2, 3, 4], 0, []),
  (.aload_n 0, (91, 1), [], 0, []),
  (.getfield 116, (92, 3), [9, 47, 4], 0, []),
  (.iload 5, (95, 2), [], 0, []),
  (.iload 6, (97, 2), [], 0, []),
  (.iastore, (99, 1), [], 0, []),
  (.iconst 1, (100, 1), [], 0, []),
  (.ireturn, (101, 1), [1], 0, []),
  (.nop, (102, 0), [3, 4, 5, 6], 0, []),
  (.aload_n 0, (102, 1), [], 0, []),
  (.iload_n 1, (103, 1), [], 0, []),
  (.invokevirtual 322, (104, 3), [98, 2, 9, 0, 0, 0, 2], 0, []),
  (.nop, (107, 0), [3, 4, 5, 6], 0, []),
  (.aload_n 0, (107, 1), [], 0, []),
  (.iload_n 2, (108, 1), [], 0, []),
  (.invokevirtual 322, (109, 3), [98, 2, 9, 0, 0, 0, 2], 0, []),
  (.nop, (112, 0), [3, 4, 5, 6], 0, []),
  (.if_icmp .eq 5, (112, 3), [90], 0, []),
  (.nop, (115, 0), [0, 1, 2, 3, 4, 5, 6], 0, []),
  (.iconst 0, (115, 1), [], 0, []),
  (.ireturn, (116, 1), [1], 0, []),
  (.nop, (117, 0), [3, 4, 5, 6], 0, []),
  (.aload_n 0, (117, 1), [], 0, []),
  (.iload_n 1, (118, 1), [], 0, []),
  (.invokevirtual 322, (119, 3), [98, 2, 9, 0, 0, 0, 2], 0, []),
  (.nop, (122, 0), [3, 4, 5, 6], 0, []),
  (.invokestatic 174, (122, 3), [47, 1, 0, 0, 0, 0, 1], 0, []),
  (.nop, (125, 0), [3, 4, 5, 6], 0, []),
  (.iconst 1, (125, 1), [], 0, []),
  (.if_icmp .le 21, (126, 3), [114], 0, []),
  (.nop, (129, 0), [3, 4, 5, 6], 0, []),
  (.aload_n 0, (129, 1), [], 0, []),
  (.aload_n 0, (130, 1), [], 0, []),
  (.iload_n 1, (131, 1), [], 0, []),
  (.iconst 1, (132, 1), [], 0, []),
  (.iadd, (133, 1), [], 0, []),
  (.invokevirtual 331, (134, 3), [101, 2, 9, 0, 0, 0, 4], 0, []),
  (.nop, (137, 0), [3, 4, 5, 6], 0, []),
  (.aload_n 0, (137, 1), [], 0, []),
  (.iload_n 2, (138, 1), [], 0, []),
  (.iconst 1, (139, 1), [], 0, []),
  (.iadd, (140, 1), [], 0, []),
  (.invokevirtual 331, (141, 3), [101, 2, 9, 0, 0, 0, 4], 0, []),
  (.nop, (144, 0), [3, 4, 5, 6], 0, []),
  (.invokevirtual 340, (144, 3), [103, 3, 9, 0, 0, 0, 3], 0, []),
  (.nop, (147, 0), [3, 4, 5, 6], 0, []),
  (.aload_n 0, (147, 1), [], 0, []),
  (.iload_n 1, (148, 1), [], 0, []),
  (.invokevirtual 322, (149, 3), [98, 2, 9, 0, 0, 0, 2], 0, []),
  (.nop, (152, 0), [3, 4, 5, 6], 0, []),
  (.invokestatic 174, (152, 3), [47, 1, 0, 0, 0, 0, 1], 0, []),
  (.nop, (155, 0), [3, 4, 5, 6], 0, []),
  (.ifCond .le 13, (155, 3), [131], 0, []),
  (.nop, (158, 0), [3, 4, 5, 6], 0, []),
  (.aload_n 0, (158, 1), [], 0, []),
  (.iload_n 1, (159, 1), [], 0, []),
  (.iconst 1, (160, 1), [], 0, []),
  (.iadd, (161, 1), [], 0, []),
  (.iload_n 2, (162, 1), [], 0, []),
  (.iconst 1, (163, 1), [], 0, []),
  (.iadd, (164, 1), [], 0, []),
  (.invokevirtual 340, (165, 3), [103, 3, 9, 0, 0, 0, 3], 0, []),
  (.nop, (168, 0), [0, 1, 2, 3, 4, 5, 6], 0, []),
  (.iconst 1, (168, 1), [], 0, []),
  (.ireturn, (169, 1), [1], 0, [])]
/-- DictProofModel.areOne (II)Z -/
def tb_105 : List Op := [(.aload_n 0, (0, 1), [], 0, []),
  (.iload_n 1, (1, 1), [], 0, []),
  (.putfield 316, (2, 3), [9, 45, 0], 0, []),
  (.aload_n 0, (5, 1), [], 0, []),
  (.iload_n 2, (6, 1), [], 0, []),
  (.putfield 319, (7, 3), [9, 46, 0], 0, []),
  (.iconst 0, (10, 1), [], 0, []),
  (.istore_n 3, (11, 1), [], 0, []),
  (.nop, (12, 0), [1, 2], 0, []),
  (.iload_n 3, (12, 1), [], 0, []),
  (.iconst 4, (13, 1), [], 0, []),
  (.if_icmp .ge 16, (14, 3), [20], 0, []),
  (.nop, (17, 0), [1, 2], 0, []),
  (.aload_n 0, (17, 1), [], 0, []),
  (.getfield 116, (18, 3), [9, 47, 4], 0, []),
  (.iload_n 3, (21, 1), [], 0, []),
  (.iconst (-1), (22, 1), [], 0, []),
  (.iastore, (23, 1), [], 0, []),
  (.iinc 3 1, (24, 3), [], 0, []),
  (.goto (-15), (27, 3), [8], 0, []),
  (.nop, (30, 0), [1, 2, 3], 0, []),
  (.aload_n 0, (30, 1), [], 0, []),
  (.iconst 0, (31, 1), [], 0, []),
  (.putfield 334, (32, 3), [9, 50, 0], 0, []),
  (.aload_n 0, (35, 1), [], 0, []),
  (.iconst 0, (36, 1), [], 0, []),
  (.iconst 5, (37, 1), [], 0, []),
  (.invokevirtual 340, (38, 3), [103, 3, 9, 0, 0, 0, 3], 0, []),
  (.nop, (41, 0), [1, 2, 3], 0, []),
  (.aload_n 0, (41, 1), [], 0, []),
  (.getfield 334, (42, 3), [9, 50, 0], 0, []),
  (.ifCond .le 48, (45, 3), [62], 0, []),
  (.nop, (48, 0), [1, 2, 3], 0, []),
  (.aload_n 0, (48, 1), [], 0, []),
  (.dup, (49, 1), [], 0, []),
  (.getfield 334, (50, 3), [9, 50, 0], 0, []),
  (.iconst 1, (53, 1), [], 0, []),
  (.isub, (54, 1), [], 0, []),
  (.putfield 334, (55, 3), [9, 50, 0], 0, []),
  (.aload_n 0, (58, 1), [], 0, []),
  (.aload_n 0, (59, 1), [], 0, []),
  (.aload_n 0, (60, 1), [], 0, []),
  (.getfield 119, (61, 3), [9, 48, 4], 0, []),
  (.aload_n 0, (64, 1), [], 0, []),
  (.getfield 334, (65, 3), [9, 50, 0], 0, []),
  (.iaload, (68, 1), [], 0, []),
  (.invokevirtual 328, (69, 3), [100, 2, 9, 0, 0, 0, 3], 0, []),
  (.nop, (72, 0), [1, 2, 3], 0, []),
  (.aload_n 0, (72, 1), [], 0, []),
  (.aload_n 0, (73, 1), [], 0, []),
  (.getfield 122, (74, 3), [9, 49, 4], 0, []),
  (.aload_n 0, (77, 1), [], 0, []),
  (.getfield 334, (78, 3), [9, 50, 0], 0, []),
  (.iaload, (81, 1), [], 0, []),
  (.invokevirtual 328, (82, 3), [100, 2, 9, 0, 0, 0, 3], 0, []),
  (.nop, (85, 0), [1, 2, 3], 0, []),
  (.invokevirtual 343, (85, 3), [104, 3, 9, 0, 0, 0, 7], 0, []),
  (.nop, (88, 0), [1, 2, 3], 0, []),
  (.ifCond .ne (-47), (88, 3), [28], 0, []),
  (.nop, (91, 0), [0, 1, 2, 3], 0, []),
  (.iconst 0, (91, 1), [], 0, []),
  (.ireturn, (92, 1), [1], 0, []),
  (.nop, (93, 0), [0, 1, 2, 3], 0, []),
  (.iconst 1, (93, 1), [], 0, []),
  (.ireturn, (94, 1), [1], 0, [])]
/-- DictProofModel.overlap (II)Z -/
def tb_106 : List Op := [(.aload_n 0, (0, 1), [], 0, []),
  (.getfield 19, (1, 3), [9, 6, 4], 0, []),
  (.iload_n 1, (4, 1), [], 0, []),
  (.iaload, (5, 1), [], 0, []),
  (.aload_n 0, (6, 1), [], 0, []),
  (.getfield 19, (7, 3), [9, 6, 4], 0, []),
  (.iload_n 2, (10, 1), [], 0, []),
  (.iaload, (11, 1), [], 0, []),
  (.if_icmp .ne 36, (12, 3), [33], 0, []),
  (.nop, (15, 0), [], 0, []),
  (.aload_n 0, (15, 1), [], 0, []),
  (.getfield 16, (16, 3), [9, 5, 4], 0, []),
  (.iload_n 1, (19, 1), [], 0, []),
  (.iaload, (20, 1), [], 0, []),
  (.iconst 2, (21, 1), [], 0, []),
  (.if_icmp .eq 26, (22, 3), [33], 0, []),
  (.nop, (25, 0), [], 0, []),
  (.aload_n 0, (25, 1), [], 0, []),
  (.getfield 16, (26, 3), [9, 5, 4], 0, []),
  (.iload_n 2, (29, 1), [], 0, []),
  (.iaload, (30, 1), [], 0, []),
  (.iconst 2, (31, 1), [], 0, []),
  (.if_icmp .eq 16, (32, 3), [33], 0, []),
  (.nop, (35, 0), [], 0, []),
  (.aload_n 0, (35, 1), [], 0, []),
  (.iload_n 1, (36, 1), [], 0, []),
  (.iload_n 2, (37, 1), [], 0, []),
  (.invokevirtual 346, (38, 3), [105, 3, 9, 0, 0, 0, 4], 0, []),
  (.nop, (41, 0), [0, 1, 2], 0, []),
  (.ifCond .eq 7, (41, 3), [33], 0, []),
  (.nop, (44, 0), [0, 1, 2], 0, []),
  (.iconst 1, (44, 1), [], 0, []),
  (.goto 4, (45, 3), [35], 0, []),
  (.nop, (48, 0), [0, 1, 2], 0, []),
  (.iconst 0, (48, 1), [], 0, []),
  (.nop, (49, 0), [0, 1, 2], 0, []),
  (.ireturn, (49, 1), [1], 0, [])]
/-- DictProofModel.isSpecial (II)Z -/
def tb_107 : List Op := [(.aload_n 0, (0, 1), [], 0, []),
  (.getfield 37, (1, 3), [9, 12, 4], 0, []),
  (.bipush 6, (4, 2), [], 0, []),
  (.iload_n 1, (6, 1), [], 0, []),
  (.imul, (7, 1), [], 0, []),
  (.iload_n 2, (8, 1), [], 0, []),
  (.iadd, (9, 1), [], 0, []),
  (.iaload, (10, 1), [], 0, []),
  (.iconst 1, (11, 1), [], 0, []),
  (.if_icmp .ne 7, (12, 3), [13], 0, []),
  (.nop, (15, 0), [0, 1, 2], 0, []),
  (.iconst 1, (15, 1), [], 0, []),
  (.goto 4, (16, 3), [15], 0, []),
  (.nop, (19, 0), [0, 1, 2], 0, []),
  (.iconst 0, (19, 1), [], 0, []),
  (.nop, (20, 0), [0, 1, 2], 0, []),
  (.ireturn, (20, 1), [1], 0, [])]
/-- DictProofModel.clash (II)Z -/
def tb_108 : List Op := [(.aload_n 0, (0, 1), [], 0, []),
  (.iload_n 1, (1, 1), [], 0, []),
  (.iload_n 2, (2, 1), [], 0, []),
  (.invokevirtual 349, (3, 3), [107, 3, 9, 0, 0, 0, 3], 0, []),
  (.nop, (6, 0), [3], 0, []),
  (.ifCond .ne 16, (6, 3), [16], 0, []),
  (.nop, (9, 0), [3], 0, []),
  (.aload_n 0, (9, 1), [], 0, []),
  (.iload_n 2, (10, 1), [], 0, []),
  (.iload_n 1, (11, 1), [], 0, []),
  (.invokevirtual 349, (12, 3), [107, 3, 9, 0, 0, 0, 3], 0, []),
  (.nop, (15, 0), [3], 0, []),
  (.ifCond .ne 7, (15, 3), [16], 0, []),
  (.nop, (18, 0), [3], 0, []),
  (.iconst 1, (18, 1), [], 0, []),
  (.goto 4, (19, 3), [18], 0, []),
  (.nop, (22, 0), [3], 0, []),
  (.iconst 0, (22, 1), [], 0, []),
  (.nop, (23, 0), [3], 0, []),
  (.istore_n 3, (23, 1), [], 0, []),
  (.aload_n 0, (24, 1), [], 0, []),
  (.iload_n 1, (25, 1), [], 0, []),
  (.iload_n 2, (26, 1), [], 0, []),
  (.invokevirtual 352, (27, 3), [106, 3, 9, 0, 0, 0, 3], 0, []),
  (.nop, (30, 0), [], 0, []),
  (.ifCond .eq 31, (30, 3), [46], 0, []),
  (.nop, (33, 0), [], 0, []),
  (.iload_n 3, (33, 1), [], 0, []),
  (.ifCond .ne 23, (34, 3), [43], 0, []),
  (.nop, (37, 0), [3], 0, []),
  (.aload_n 0, (37, 1), [], 0, []),
  (.getfield 16, (38, 3), [9, 5, 4], 0, []),
  (.iload_n 1, (41, 1), [], 0, []),
  (.iaload, (42, 1), [], 0, []),
  (.iconst 4, (43, 1), [], 0, []),
  (.if_icmp .eq 13, (44, 3), [43], 0, []),
  (.nop, (47, 0), [1, 3], 0, []),
  (.aload_n 0, (47, 1), [], 0, []),
  (.getfield 16, (48, 3), [9, 5, 4], 0, []),
  (.iload_n 2, (51, 1), [], 0, []),
  (.iaload, (52, 1), [], 0, []),
  (.iconst 4, (53, 1), [], 0, []),
  (.if_icmp .ne 7, (54, 3), [46], 0, []),
  (.nop, (57, 0), [0, 1, 2, 3], 0, []),
  (.iconst 1, (57, 1), [], 0, []),
  (.goto 4, (58, 3), [48], 0, []),
  (.nop, (61, 0), [0, 1, 2, 3], 0, []),
  (.iconst 0, (61, 1), [], 0, []),
  (.nop, (62, 0), [0, 1, 2, 3], 0, []),
  (.ireturn, (62, 1), [1], 0, [])]
/-- DictProofModel.pairNow (III)Z -/
def tb_109 : List Op := [(.iload_n 3, (0, 1), [], 0, []),
  (.ifCond .ne 12, (1, 3), [9], 0, []),
  (.nop, (4, 0), [3], 0, []),
  (.aload_n 0, (4, 1), [], 0, []),
  (.iload_n 1, (5, 1), [], 0, []),
  (.iload_n 2, (6, 1), [], 0, []),
  (.invokevirtual 352, (7, 3), [106, 3, 9, 0, 0, 0, 3], 0, []),
  (.nop, (10, 0), [0, 1, 2, 3], 0, []),
  (.goto 23, (10, 3), [25], 0, []),
  (.nop, (13, 0), [], 0, []),
  (.iload_n 3, (13, 1), [], 0, []),
  (.iconst 1, (14, 1), [], 0, []),
  (.if_icmp .ne 12, (15, 3), [20], 0, []),
  (.nop, (18, 0), [3], 0, []),
  (.aload_n 0, (18, 1), [], 0, []),
  (.iload_n 1, (19, 1), [], 0, []),
  (.iload_n 2, (20, 1), [], 0, []),
  (.invokevirtual 355, (21, 3), [108, 3, 9, 0, 0, 0, 4], 0, []),
  (.nop, (24, 0), [0, 1, 2, 3], 0, []),
  (.goto 9, (24, 3), [25], 0, []),
  (.nop, (27, 0), [3], 0, []),
  (.aload_n 0, (27, 1), [], 0, []),
  (.iload_n 1, (28, 1), [], 0, []),
  (.iload_n 2, (29, 1), [], 0, []),
  (.invokevirtual 349, (30, 3), [107, 3, 9, 0, 0, 0, 3], 0, []),
  (.nop, (33, 0), [0, 1, 2, 3], 0, []),
  (.ireturn, (33, 1), [1], 0, [])]
/-- DictProofModel.pair (III)I -/
def tb_110 : List Op := [(.aload_n 0, (0, 1), [], 0, []),
  (.iload_n 1, (1, 1), [], 0, []),
  (.invokevirtual 310, (2, 3), [86, 2, 9, 0, 0, 0, 2], 0, []),
  (.nop, (5, 0), [], 0, []),
  (.ifCond .eq 16, (5, 3), [15], 0, []),
  (.nop, (8, 0), [], 0, []),
  (.aload_n 0, (8, 1), [], 0, []),
  (.iload_n 2, (9, 1), [], 0, []),
  (.invokevirtual 310, (10, 3), [86, 2, 9, 0, 0, 0, 2], 0, []),
  (.nop, (13, 0), [], 0, []),
  (.ifCond .eq 8, (13, 3), [15], 0, []),
  (.nop, (16, 0), [], 0, []),
  (.iload_n 1, (16, 1), [], 0, []),
  (.iload_n 2, (17, 1), [], 0, []),
  (.if_icmp .ne 6, (18, 3), [18], 0, []),
  (.nop, (21, 0), [0, 1, 2, 3], 0, []),
  (.bipush (-101), (21, 2), [], 0, []),
  (.ireturn, (23, 1), [0], 0, []),
  (.nop, (24, 0), [], 0, []),
  (.iload_n 3, (24, 1), [], 0, []),
  (.iconst 0, (25, 1), [], 0, []),
  (.iconst 2, (26, 1), [], 0, []),
  (.invokestatic 146, (27, 3), [43, 3, 0, 0, 0, 0, 3], 0, []),
  (.nop, (30, 0), [], 0, []),
  (.ifCond .ne 8, (30, 3), [28], 0, []),
  (.nop, (33, 0), [0, 1, 2, 3], 0, []),
  (.bipush (-102), (33, 2), [], 0, []),
  (.goto 18, (35, 3), [41], 0, []),
  (.nop, (38, 0), [], 0, []),
  (.aload_n 0, (38, 1), [], 0, []),
  (.iload_n 1, (39, 1), [], 0, []),
  (.iload_n 2, (40, 1), [], 0, []),
  (.iload_n 3, (41, 1), [], 0, []),
  (.invokevirtual 358, (42, 3), [109, 4, 9, 0, 0, 0, 4], 0, []),
  (.nop, (45, 0), [0, 1, 2, 3], 0, []),
  (.ifCond .eq 7, (45, 3), [39], 0, []),
  (.nop, (48, 0), [0, 1, 2, 3], 0, []),
  (.iconst 1, (48, 1), [], 0, []),
  (.goto 4, (49, 3), [41], 0, []),
  (.nop, (52, 0), [0, 1, 2, 3], 0, []),
  (.iconst 0, (52, 1), [], 0, []),
  (.nop, (53, 0), [0, 1, 2, 3], 0, []),
  (.ireturn, (53, 1), [0], 0, [])]
/-- DictProofModel.fits (II)I -/
def tb_111 : List Op := [(.aload_n 0, (0, 1), [], 0, []),
  (.iload_n 1, (1, 1), [], 0, []),
  (.invokevirtual 310, (2, 3), [86, 2, 9, 0, 0, 0, 2], 0, []),
  (.nop, (5, 0), [], 0, []),
  (.ifCond .eq 11, (5, 3), [11], 0, []),
  (.nop, (8, 0), [], 0, []),
  (.aload_n 0, (8, 1), [], 0, []),
  (.iload_n 2, (9, 1), [], 0, []),
  (.invokevirtual 361, (10, 3), [87, 2, 9, 0, 0, 0, 2], 0, []),
  (.nop, (13, 0), [], 0, []),
  (.ifCond .ne 6, (13, 3), [14], 0, []),
  (.nop, (16, 0), [0, 1, 2], 0, []),
  (.bipush (-101), (16, 2), [], 0, []),
  (.ireturn, (18, 1), [0], 0, []),
  (.nop, (19, 0), [], 0, []),
  (.aload_n 0, (19, 1), [], 0, []),
  (.iload_n 2, (20, 1), [], 0, []),
  (.invokevirtual 364, (21, 3), [66, 2, 9, 0, 0, 0, 3], 0, []),
  (.nop, (24, 0), [2], 0, []),
  (.aload_n 0, (24, 1), [], 0, []),
  (.iload_n 1, (25, 1), [], 0, []),
  (.iconst 0, (26, 1), [], 0, []),
  (.invokevirtual 245, (27, 3), [68, 3, 9, 0, 0, 0, 7], 0, []),
  (.nop, (30, 0), [0, 1, 2], 0, []),
  (.ifCond .eq 7, (30, 3), [28], 0, []),
  (.nop, (33, 0), [0, 1, 2], 0, []),
  (.iconst 1, (33, 1), [], 0, []),
  (.goto 4, (34, 3), [30], 0, []),
  (.nop, (37, 0), [0, 1, 2], 0, []),
  (.iconst 0, (37, 1), [], 0, []),
  (.nop, (38, 0), [0, 1, 2], 0, []),
  (.ireturn, (38, 1), [0], 0, [])]
/-- DictProofModel.goalNow (II)I -/
def tb_112 : List Op := [(.bipush 9, (0, 2), [], 0, []),
  (.iload_n 1, (2, 1), [], 0, []),
  (.imul, (3, 1), [], 0, []),
  (.istore_n 3, (4, 1), [], 0, []),
  (.iload_n 2, (5, 1), [], 0, []),
  (.ifCond .ne 10, (6, 3), [12], 0, []),
  (.nop, (9, 0), [1, 2], 0, []),
  (.aload_n 0, (9, 1), [], 0, []),
  (.getfield 89, (10, 3), [9, 36, 4], 0, []),
  (.iload_n 3, (13, 1), [], 0, []),
  (.iaload, (14, 1), [], 0, []),
  (.ireturn, (15, 1), [0], 0, []),
  (.nop, (16, 0), [1], 0, []),
  (.aload_n 0, (16, 1), [], 0, []),
  (.getfield 89, (17, 3), [9, 36, 4], 0, []),
  (.iload_n 3, (20, 1), [], 0, []),
  (.iaload, (21, 1), [], 0, []),
  (.iconst 1, (22, 1), [], 0, []),
  (.if_icmp .eq 5, (23, 3), [22], 0, []),
  (.nop, (26, 0), [0, 1, 2, 3], 0, []),
  (.iconst (-1), (26, 1), [], 0, []),
  (.ireturn, (27, 1), [0], 0, []),
  (.nop, (28, 0), [1], 0, []),
  (.iload_n 2, (28, 1), [], 0, []),
  (.tableswitch 72 1 5 #[35, 42, 49, 55, 62], (29, 35), [57], 0, [(1, 25), (2, 31), (3, 37), (4, 43), (5, 49)]),
  (.nop, (64, 0), [1, 2], 0, []),
  (.aload_n 0, (64, 1), [], 0, []),
  (.getfield 101, (65, 3), [9, 40, 4], 0, []),
  (.iload_n 3, (68, 1), [], 0, []),
  (.iaload, (69, 1), [], 0, []),
  (.ireturn, (70, 1), [0], 0, []),
  (.nop, (71, 0), [1, 2], 0, []),
  (.aload_n 0, (71, 1), [], 0, []),
  (.getfield 104, (72, 3), [9, 41, 4], 0, []),
  (.iload_n 3, (75, 1), [], 0, []),
  (.iaload, (76, 1), [], 0, []),
  (.ireturn, (77, 1), [0], 0, []),
  (.nop, (78, 0), [1, 2], 0, []),
  (.aload_n 0, (78, 1), [], 0, []),
  (.iload_n 3, (79, 1), [], 0, []),
  (.invokevirtual 367, (80, 3), [81, 2, 9, 0, 0, 0, 6], 0, []),
  (.nop, (83, 0), [0, 1, 2, 3], 0, []),
  (.ireturn, (83, 1), [0], 0, []),
  (.nop, (84, 0), [1, 2], 0, []),
  (.aload_n 0, (84, 1), [], 0, []),
  (.getfield 107, (85, 3), [9, 42, 4], 0, []),
  (.iload_n 3, (88, 1), [], 0, []),
  (.iaload, (89, 1), [], 0, []),
  (.ireturn, (90, 1), [0], 0, []),
  (.nop, (91, 0), [1, 2], 0, []),
  (.aload_n 0, (91, 1), [], 0, []),
  (.getfield 110, (92, 3), [9, 43, 4], 0, []),
  (.iload_n 3, (95, 1), [], 0, []),
  (.iaload, (96, 1), [], 0, []),
  (.invokestatic 254, (97, 3), [45, 1, 0, 0, 0, 0, 3], 0, []),
  (.nop, (100, 0), [0, 1, 2, 3], 0, []),
  (.ireturn, (100, 1), [0], 0, []),
  (.nop, (101, 0), [1, 2], 0, []),
  (.aload_n 0, (101, 1), [], 0, []),
  (.aload_n 0, (102, 1), [], 0, []),
  (.getfield 110, (103, 3), [9, 43, 4], 0, []),
  (.iload_n 3, (106, 1), [], 0, []),
  (.iaload, (107, 1), [], 0, []),
  (.invokevirtual 370, (108, 3), [83, 2, 9, 0, 0, 0, 6], 0, []),
  (.nop, (111, 0), [0, 1, 2, 3], 0, []),
  (.invokestatic 254, (111, 3), [45, 1, 0, 0, 0, 0, 3], 0, []),
  (.nop, (114, 0), [0, 1, 2, 3], 0, []),
  (.ireturn, (114, 1), [0], 0, [])]
/-- DictProofModel.goal (III)I -/
def tb_113 : List Op := [(.aload_n 0, (0, 1), [], 0, []),
  (.iload_n 1, (1, 1), [], 0, []),
  (.invokevirtual 289, (2, 3), [85, 2, 9, 0, 0, 0, 2], 0, []),
  (.nop, (5, 0), [], 0, []),
  (.ifCond .eq 11, (5, 3), [11], 0, []),
  (.nop, (8, 0), [], 0, []),
  (.aload_n 0, (8, 1), [], 0, []),
  (.iload_n 2, (9, 1), [], 0, []),
  (.invokevirtual 361, (10, 3), [87, 2, 9, 0, 0, 0, 2], 0, []),
  (.nop, (13, 0), [], 0, []),
  (.ifCond .ne 6, (13, 3), [14], 0, []),
  (.nop, (16, 0), [0, 1, 2, 3], 0, []),
  (.bipush (-101), (16, 2), [], 0, []),
  (.ireturn, (18, 1), [0], 0, []),
  (.nop, (19, 0), [], 0, []),
  (.iload_n 3, (19, 1), [], 0, []),
  (.iconst 0, (20, 1), [], 0, []),
  (.bipush 6, (21, 2), [], 0, []),
  (.invokestatic 146, (23, 3), [43, 3, 0, 0, 0, 0, 3], 0, []),
  (.nop, (26, 0), [], 0, []),
  (.ifCond .ne 6, (26, 3), [24], 0, []),
  (.nop, (29, 0), [0, 1, 2, 3], 0, []),
  (.bipush (-102), (29, 2), [], 0, []),
  (.ireturn, (31, 1), [0], 0, []),
  (.nop, (32, 0), [], 0, []),
  (.aload_n 0, (32, 1), [], 0, []),
  (.iload_n 2, (33, 1), [], 0, []),
  (.invokevirtual 364, (34, 3), [66, 2, 9, 0, 0, 0, 3], 0, []),
  (.nop, (37, 0), [2], 0, []),
  (.aload_n 0, (37, 1), [], 0, []),
  (.invokevirtual 295, (38, 3), [79, 1, 9, 0, 0, 0, 3], 0, []),
  (.nop, (41, 0), [2], 0, []),
  (.aload_n 0, (41, 1), [], 0, []),
  (.iload_n 1, (42, 1), [], 0, []),
  (.iload_n 3, (43, 1), [], 0, []),
  (.invokevirtual 373, (44, 3), [112, 3, 9, 0, 0, 0, 4], 0, []),
  (.nop, (47, 0), [0, 1, 2, 3], 0, []),
  (.ireturn, (47, 1), [0], 0, [])]
/-- DictProofModel.entry (III)I -/
def tb_114 : List Op := [(.aload_n 0, (0, 1), [], 0, []),
  (.iload_n 1, (1, 1), [], 0, []),
  (.invokevirtual 289, (2, 3), [85, 2, 9, 0, 0, 0, 2], 0, []),
  (.nop, (5, 0), [4], 0, []),
  (.ifCond .eq 11, (5, 3), [11], 0, []),
  (.nop, (8, 0), [4], 0, []),
  (.aload_n 0, (8, 1), [], 0, []),
  (.iload_n 2, (9, 1), [], 0, []),
  (.invokevirtual 361, (10, 3), [87, 2, 9, 0, 0, 0, 2], 0, []),
  (.nop, (13, 0), [4], 0, []),
  (.ifCond .ne 6, (13, 3), [14], 0, []),
  (.nop, (16, 0), [0, 1, 2, 3, 4], 0, []),
  (.bipush (-101), (16, 2), [], 0, []),
  (.ireturn, (18, 1), [0], 0, []),
  (.nop, (19, 0), [4], 0, []),
  (.aload_n 0, (19, 1), [], 0, []),
  (.iload_n 2, (20, 1), [], 0, []),
  (.invokevirtual 364, (21, 3), [66, 2, 9, 0, 0, 0, 3], 0, []),
  (.nop, (24, 0), [2, 4], 0, []),
  (.aload_n 0, (24, 1), [], 0, []),
  (.invokevirtual 295, (25, 3), [79, 1, 9, 0, 0, 0, 3], 0, []),
  (.nop, (28, 0), [2, 4], 0, []),
  (.bipush 9, (28, 2), [], 0, []),
  (.iload_n 1, (30, 1), [], 0, []),
  (.imul, (31, 1), [], 0, []),
  (.istore 4, (32, 2), [], 0, []),
  (.aload_n 0, (34, 1), [], 0, []),
  (.getfield 89, (35, 3), [9, 36, 4], 0, []),
  (.iload 4, (38, 2), [], 0, []),
  (.iaload, (40, 1), [], 0, []),
  (.iconst 1, (41, 1), [], 0, []),
  (.if_icmp .ne 30, (42, 3), [51], 0, []),
  (.nop, (45, 0), [1, 2], 0, []),
  (.iload_n 3, (45, 1), [], 0, []),
  (.iconst 0, (46, 1), [], 0, []),
  (.aload_n 0, (47, 1), [], 0, []),
  (.getfield 101, (48, 3), [9, 40, 4], 0, []),
  (.iload 4, (51, 2), [], 0, []),
  (.iaload, (53, 1), [], 0, []),
  (.iconst 1, (54, 1), [], 0, []),
  (.isub, (55, 1), [], 0, []),
  (.invokestatic 146, (56, 3), [43, 3, 0, 0, 0, 0, 3], 0, []),
  (.nop, (59, 0), [1, 2], 0, []),
  (.ifCond .eq 13, (59, 3), [51], 0, []),
  (.nop, (62, 0), [1, 2], 0, []),
  (.aload_n 0, (62, 1), [], 0, []),
  (.iload 4, (63, 2), [], 0, []),
  (.iload_n 3, (65, 1), [], 0, []),
  (.invokevirtual 376, (66, 3), [84, 3, 9, 0, 0, 0, 7], 0, []),
  (.nop, (69, 0), [0, 1, 2, 3, 4], 0, []),
  (.goto 5, (69, 3), [53], 0, []),
  (.nop, (72, 0), [0, 1, 2, 3, 4], 0, []),
  (.bipush (-101), (72, 2), [], 0, []),
  (.nop, (74, 0), [0, 1, 2, 3, 4], 0, []),
  (.ireturn, (74, 1), [0], 0, [])]
/-- DictProofModel.need (IIII)I -/
def tb_115 : List Op := [(.aload_n 0, (0, 1), [], 0, []),
  (.iload_n 1, (1, 1), [], 0, []),
  (.invokevirtual 289, (2, 3), [85, 2, 9, 0, 0, 0, 2], 0, []),
  (.nop, (5, 0), [5, 6, 7], 0, []),
  (.ifCond .eq 11, (5, 3), [11], 0, []),
  (.nop, (8, 0), [5, 6, 7], 0, []),
  (.aload_n 0, (8, 1), [], 0, []),
  (.iload_n 2, (9, 1), [], 0, []),
  (.invokevirtual 361, (10, 3), [87, 2, 9, 0, 0, 0, 2], 0, []),
  (.nop, (13, 0), [5, 6, 7], 0, []),
  (.ifCond .ne 6, (13, 3), [14], 0, []),
  (.nop, (16, 0), [0, 1, 2, 3, 4, 5, 6, 7], 0, []),
  (.bipush (-101), (16, 2), [], 0, []),
  (.ireturn, (18, 1), [0], 0, []),
  (.nop, (19, 0), [5, 6, 7], 0, []),
  (.aload_n 0, (19, 1), [], 0, []),
  (.iload_n 3, (20, 1), [], 0, []),
  (.invokevirtual 289, (21, 3), [85, 2, 9, 0, 0, 0, 2], 0, []),
  (.nop, (24, 0), [5, 6, 7], 0, []),
  (.ifCond .eq 13, (24, 3), [27], 0, []),
  (.nop, (27, 0), [5, 6, 7], 0, []),
  (.iload 4, (27, 2), [], 0, []),
  (.iconst 0, (29, 1), [], 0, []),
  (.iconst 1, (30, 1), [], 0, []),
  (.invokestatic 146, (31, 3), [43, 3, 0, 0, 0, 0, 3], 0, []),
  (.nop, (34, 0), [5, 6, 7], 0, []),
  (.ifCond .ne 6, (34, 3), [30], 0, []),
  (.nop, (37, 0), [0, 1, 2, 3, 4, 5, 6, 7], 0, []),
  (.bipush (-102), (37, 2), [], 0, []),
  (.ireturn, (39, 1), [0], 0, []),
  (.nop, (40, 0), [5, 6, 7], 0, []),
  (.aload_n 0, (40, 1), [], 0, []),
  (.iload_n 2, (41, 1), [], 0, []),
  (.invokevirtual 364, (42, 3), [66, 2, 9, 0, 0, 0, 3], 0, []),
  (.nop, (45, 0), [2, 5, 6, 7], 0, []),
  (.aload_n 0, (45, 1), [], 0, []),
  (.invokevirtual 295, (46, 3), [79, 1, 9, 0, 0, 0, 3], 0, []),
  (.nop, (49, 0), [2, 5, 6, 7], 0, []),
  (.bipush 9, (49, 2), [], 0, []),
  (.iload_n 1, (51, 1), [], 0, []),
  (.imul, (52, 1), [], 0, []),
  (.istore 5, (53, 2), [], 0, []),
  (.aload_n 0, (55, 1), [], 0, []),
  (.getfield 89, (56, 3), [9, 36, 4], 0, []),
  (.iload 5, (59, 2), [], 0, []),
  (.iaload, (61, 1), [], 0, []),
  (.iconst 1, (62, 1), [], 0, []),
  (.if_icmp .ne 13, (63, 3), [54], 0, []),
  (.nop, (66, 0), [1, 2, 6, 7], 0, []),
  (.aload_n 0, (66, 1), [], 0, []),
  (.getfield 110, (67, 3), [9, 43, 4], 0, []),
  (.iload 5, (70, 2), [], 0, []),
  (.iaload, (72, 1), [], 0, []),
  (.goto 4, (73, 3), [56], 0, []),
  (.nop, (76, 0), [1, 2, 5, 6, 7], 0, []),
  (.iconst 0, (76, 1), [], 0, []),
  (.nop, (77, 0), [1, 2, 5, 6, 7], 0, []),
  (.istore 6, (77, 2), [], 0, []),
  (.iconst 2, (79, 1), [], 0, []),
  (.iload_n 3, (80, 1), [], 0, []),
  (.imul, (81, 1), [], 0, []),
  (.iload 4, (82, 2), [], 0, []),
  (.iadd, (84, 1), [], 0, []),
  (.istore 7, (85, 2), [], 0, []),
  (.aload_n 0, (87, 1), [], 0, []),
  (.iload 6, (88, 2), [], 0, []),
  (.invokevirtual 370, (90, 3), [83, 2, 9, 0, 0, 0, 6], 0, []),
  (.nop, (93, 0), [0, 1, 2, 3, 4, 5], 0, []),
  (.iload 7, (93, 2), [], 0, []),
  (.invokestatic 214, (95, 3), [44, 2, 0, 0, 0, 0, 2], 0, []),
  (.nop, (98, 0), [0, 1, 2, 3, 4, 5], 0, []),
  (.ifCond .eq 7, (98, 3), [75], 0, []),
  (.nop, (101, 0), [0, 1, 2, 3, 4, 5, 6, 7], 0, []),
  (.iconst 2, (101, 1), [], 0, []),
  (.goto 18, (102, 3), [86], 0, []),
  (.nop, (105, 0), [0, 1, 2, 3, 4, 5], 0, []),
  (.iload 6, (105, 2), [], 0, []),
  (.iload 7, (107, 2), [], 0, []),
  (.invokestatic 214, (109, 3), [44, 2, 0, 0, 0, 0, 2], 0, []),
  (.nop, (112, 0), [0, 1, 2, 3, 4, 5, 6, 7], 0, []),
  (.ifCond .eq 7, (112, 3), [84], 0, []),
  (.nop, (115, 0), [0, 1, 2, 3, 4, 5, 6, 7], 0, []),
  (.iconst 1, (115, 1), [], 0, []),
  (.goto 4, (116, 3), [86], 0, []),
  (.nop, (119, 0), [0, 1, 2, 3, 4, 5, 6, 7], 0, []),
  (.iconst 0, (119, 1), [], 0, []),
  (.nop, (120, 0), [0, 1, 2, 3, 4, 5, 6, 7], 0, []),
  (.ireturn, (120, 1), [0], 0, [])]
/-- DictProofModel.could (II)Z -/
def tb_116 : List Op := [(.iload_n 1, (0, 1), [], 0, []),
  (.tableswitch 64 0 2 #[27, 38, 49], (1, 27), [38], 0, [(0, 2), (1, 13), (2, 24)]),
  (.nop, (28, 0), [1], 0, []),
  (.iload_n 0, (28, 1), [], 0, []),
  (.iconst 3, (29, 1), [], 0, []),
  (.if_icmp .ne 7, (30, 3), [9], 0, []),
  (.nop, (33, 0), [0, 1], 0, []),
  (.iconst 1, (33, 1), [], 0, []),
  (.goto 4, (34, 3), [11], 0, []),
  (.nop, (37, 0), [0, 1], 0, []),
  (.iconst 0, (37, 1), [], 0, []),
  (.nop, (38, 0), [0, 1], 0, []),
  (.ireturn, (38, 1), [1], 0, []),
  (.nop, (39, 0), [1], 0, []),
  (.iload_n 0, (39, 1), [], 0, []),
  (.iconst 2, (40, 1), [], 0, []),
  (.if_icmp .eq 7, (41, 3), [20], 0, []),
  (.nop, (44, 0), [0, 1], 0, []),
  (.iconst 1, (44, 1), [], 0, []),
  (.goto 4, (45, 3), [22], 0, []),
  (.nop, (48, 0), [0, 1], 0, []),
  (.iconst 0, (48, 1), [], 0, []),
  (.nop, (49, 0), [0, 1], 0, []),
  (.ireturn, (49, 1), [1], 0, []),
  (.nop, (50, 0), [1], 0, []),
  (.iload_n 0, (50, 1), [], 0, []),
  (.ifCond .eq 8, (51, 3), [31], 0, []),
  (.nop, (54, 0), [1], 0, []),
  (.iload_n 0, (54, 1), [], 0, []),
  (.iconst 3, (55, 1), [], 0, []),
  (.if_icmp .ne 7, (56, 3), [34], 0, []),
  (.nop, (59, 0), [0, 1], 0, []),
  (.iconst 1, (59, 1), [], 0, []),
  (.goto 4, (60, 3), [36], 0, []),
  (.nop, (63, 0), [0, 1], 0, []),
  (.iconst 0, (63, 1), [], 0, []),
  (.nop, (64, 0), [0, 1], 0, []),
  (.ireturn, (64, 1), [1], 0, []),
  (.nop, (65, 0), [1], 0, []),
  (.iload_n 0, (65, 1), [], 0, []),
  (.ifCond .eq 8, (66, 3), [45], 0, []),
  (.nop, (69, 0), [1], 0, []),
  (.iload_n 0, (69, 1), [], 0, []),
  (.iconst 4, (70, 1), [], 0, []),
  (.if_icmp .ne 7, (71, 3), [48], 0, []),
  (.nop, (74, 0), [0, 1], 0, []),
  (.iconst 1, (74, 1), [], 0, []),
  (.goto 4, (75, 3), [50], 0, []),
  (.nop, (78, 0), [0, 1], 0, []),
  (.iconst 0, (78, 1), [], 0, []),
  (.nop, (79, 0), [0, 1], 0, []),
  (.ireturn, (79, 1), [1], 0, [])]
/-- DictProofModel.see (IIZ)I -/
def tb_117 : List Op := [(.aload_n 0, (0, 1), [], 0, []),
  (.iload_n 1, (1, 1), [], 0, []),
  (.invokevirtual 310, (2, 3), [86, 2, 9, 0, 0, 0, 2], 0, []),
  (.nop, (5, 0), [], 0, []),
  (.ifCond .ne 6, (5, 3), [8], 0, []),
  (.nop, (8, 0), [0, 1, 2, 3], 0, []),
  (.bipush (-101), (8, 2), [], 0, []),
  (.ireturn, (10, 1), [0], 0, []),
  (.nop, (11, 0), [], 0, []),
  (.iload_n 2, (11, 1), [], 0, []),
  (.iconst 0, (12, 1), [], 0, []),
  (.iconst 3, (13, 1), [], 0, []),
  (.invokestatic 146, (14, 3), [43, 3, 0, 0, 0, 0, 3], 0, []),
  (.nop, (17, 0), [], 0, []),
  (.ifCond .ne 6, (17, 3), [18], 0, []),
  (.nop, (20, 0), [0, 1, 2, 3], 0, []),
  (.bipush (-102), (20, 2), [], 0, []),
  (.ireturn, (22, 1), [0], 0, []),
  (.nop, (23, 0), [], 0, []),
  (.aload_n 0, (23, 1), [], 0, []),
  (.getfield 230, (24, 3), [9, 15, 0], 0, []),
  (.bipush 6, (27, 2), [], 0, []),
  (.if_icmp .ne 6, (29, 3), [26], 0, []),
  (.nop, (32, 0), [0, 1, 2, 3], 0, []),
  (.bipush (-104), (32, 2), [], 0, []),
  (.ireturn, (34, 1), [0], 0, []),
  (.nop, (35, 0), [], 0, []),
  (.aload_n 0, (35, 1), [], 0, []),
  (.getfield 46, (36, 3), [9, 16, 4], 0, []),
  (.aload_n 0, (39, 1), [], 0, []),
  (.getfield 230, (40, 3), [9, 15, 0], 0, []),
  (.iload_n 1, (43, 1), [], 0, []),
  (.iastore, (44, 1), [], 0, []),
  (.aload_n 0, (45, 1), [], 0, []),
  (.getfield 49, (46, 3), [9, 17, 4], 0, []),
  (.aload_n 0, (49, 1), [], 0, []),
  (.getfield 230, (50, 3), [9, 15, 0], 0, []),
  (.iload_n 2, (53, 1), [], 0, []),
  (.iastore, (54, 1), [], 0, []),
  (.aload_n 0, (55, 1), [], 0, []),
  (.getfield 52, (56, 3), [9, 18, 4], 0, []),
  (.aload_n 0, (59, 1), [], 0, []),
  (.getfield 230, (60, 3), [9, 15, 0], 0, []),
  (.iload_n 3, (63, 1), [], 0, []),
  (.ifCond .eq 7, (64, 3), [48], 0, []),
  (.nop, (67, 0), [1, 2, 3], 0, []),
  (.iconst 1, (67, 1), [], 0, []),
  (.goto 4, (68, 3), [50], 0, []),
  (.nop, (71, 0), [1, 2, 3], 0, []),
  (.iconst 0, (71, 1), [], 0, []),
  (.nop, (72, 0), [1, 2, 3], 0, []),
  (.iastore, (72, 1), [], 0, []),
  (.aload_n 0, (73, 1), [], 0, []),
  (.dup, (74, 1), [], 0, []),
  (.getfield 230, (75, 3), [9, 15, 0], 0, []),
  (.iconst 1, (78, 1), [], 0, []),
  (.iadd, (79, 1), [], 0, []),
  (.putfield 230, (80, 3), [9, 15, 0], 0, []),
  (.aload_n 0, (83, 1), [], 0, []),
  (.getfield 230, (84, 3), [9, 15, 0], 0, []),
  (.ireturn, (87, 1), [0], 0, [])]
/-- DictProofModel.forget ()I -/
def tb_118 : List Op := [(.aload_n 0, (0, 1), [], 0, []),
  (.getfield 230, (1, 3), [9, 15, 0], 0, []),
  (.istore_n 1, (4, 1), [], 0, []),
  (.aload_n 0, (5, 1), [], 0, []),
  (.iconst 0, (6, 1), [], 0, []),
  (.putfield 230, (7, 3), [9, 15, 0], 0, []),
  (.iload_n 1, (10, 1), [], 0, []),
  (.ireturn, (11, 1), [0], 0, [])]
/-- DictProofModel.sortsOf (I)I -/
def tb_119 : List Op := [(.iconst 0, (0, 1), [], 0, []),
  (.istore_n 2, (1, 1), [], 0, []),
  (.iconst 0, (2, 1), [], 0, []),
  (.istore_n 3, (3, 1), [], 0, []),
  (.nop, (4, 0), [4, 5], 0, []),
  (.iload_n 3, (4, 1), [], 0, []),
  (.iconst 4, (5, 1), [], 0, []),
  (.if_icmp .gt 98, (6, 3), [74], 0, []),
  (.nop, (9, 0), [4, 5], 0, []),
  (.iconst 1, (9, 1), [], 0, []),
  (.istore 4, (10, 2), [], 0, []),
  (.iconst 0, (12, 1), [], 0, []),
  (.istore 5, (13, 2), [], 0, []),
  (.nop, (15, 0), [], 0, []),
  (.iload 5, (15, 2), [], 0, []),
  (.aload_n 0, (17, 1), [], 0, []),
  (.getfield 230, (18, 3), [9, 15, 0], 0, []),
  (.if_icmp .ge 62, (21, 3), [58], 0, []),
  (.nop, (24, 0), [], 0, []),
  (.iload 4, (24, 2), [], 0, []),
  (.ifCond .eq 48, (26, 3), [52], 0, []),
  (.nop, (29, 0), [4], 0, []),
  (.aload_n 0, (29, 1), [], 0, []),
  (.getfield 46, (30, 3), [9, 16, 4], 0, []),
  (.iload 5, (33, 2), [], 0, []),
  (.iaload, (35, 1), [], 0, []),
  (.iload_n 1, (36, 1), [], 0, []),
  (.if_icmp .ne 33, (37, 3), [49], 0, []),
  (.nop, (40, 0), [4], 0, []),
  (.iload_n 3, (40, 1), [], 0, []),
  (.aload_n 0, (41, 1), [], 0, []),
  (.getfield 49, (42, 3), [9, 17, 4], 0, []),
  (.iload 5, (45, 2), [], 0, []),
  (.iaload, (47, 1), [], 0, []),
  (.invokestatic 379, (48, 3), [116, 2, 0, 0, 0, 0, 2], 0, []),
  (.nop, (51, 0), [4], 0, []),
  (.aload_n 0, (51, 1), [], 0, []),
  (.getfield 52, (52, 3), [9, 18, 4], 0, []),
  (.iload 5, (55, 2), [], 0, []),
  (.iaload, (57, 1), [], 0, []),
  (.iconst 1, (58, 1), [], 0, []),
  (.if_icmp .ne 7, (59, 3), [45], 0, []),
  (.nop, (62, 0), [4], 0, []),
  (.iconst 1, (62, 1), [], 0, []),
  (.goto 4, (63, 3), [47], 0, []),
  (.nop, (66, 0), [4], 0, []),
  (.iconst 0, (66, 1), [], 0, []),
  (.nop, (67, 0), [4], 0, []),
  (.if_icmp .ne 7, (67, 3), [52], 0, []),
  (.nop, (70, 0), [4], 0, []),
  (.iconst 1, (70, 1), [], 0, []),
  (.goto 4, (71, 3), [54], 0, []),
  (.nop, (74, 0), [4], 0, []),
  (.iconst 0, (74, 1), [], 0, []),
  (.nop, (75, 0), [4], 0, []),
  (.istore 4, (75, 2), [], 0, []),
  (.iinc 5 1, (77, 3), [], 0, []),
  (.goto (-65), (80, 3), [13], 0, []),
  (.nop, (83, 0), [5], 0, []),
  (.iload_n 2, (83, 1), [], 0, []),
  (.iload 4, (84, 2), [], 0, []),
  (.ifCond .eq 9, (86, 3), [67], 0, []),
  (.nop, (89, 0), [2, 4, 5], 0, []),
  (.iconst 1, (89, 1), [], 0, []),
  (.iload_n 3, (90, 1), [], 0, []),
  (.ishl, (91, 1), [], 0, []),
  (.goto 4, (92, 3), [69], 0, []),
  (.nop, (95, 0), [2, 4, 5], 0, []),
  (.iconst 0, (95, 1), [], 0, []),
  (.nop, (96, 0), [2, 4, 5], 0, []),
  (.ior, (96, 1), [], 0, []),
  (.istore_n 2, (97, 1), [], 0, []),
  (.iinc 3 1, (98, 3), [], 0, []),
  (.goto (-97), (101, 3), [4], 0, []),
  (.nop, (104, 0), [0, 1, 3, 4, 5], 0, []),
  (.iload_n 2, (104, 1), [], 0, []),
  (.ireturn, (105, 1), [0], 0, [])]
/-- DictProofModel.askOf (I)I -/
def tb_120 : List Op := [(.aload_n 0, (0, 1), [], 0, []),
  (.iload_n 1, (1, 1), [], 0, []),
  (.invokevirtual 301, (2, 3), [119, 2, 9, 0, 0, 0, 6], 0, []),
  (.nop, (5, 0), [0, 1, 2, 3, 4, 5, 6, 7, 8], 0, []),
  (.istore_n 2, (5, 1), [], 0, []),
  (.iconst (-1), (6, 1), [], 0, []),
  (.istore_n 3, (7, 1), [], 0, []),
  (.ldc_w 382, (8, 3), [], 268435456, []),
  (.istore 4, (11, 2), [], 0, []),
  (.iconst 0, (13, 1), [], 0, []),
  (.istore 5, (14, 2), [], 0, []),
  (.nop, (16, 0), [0, 1, 6, 7, 8], 0, []),
  (.iload 5, (16, 2), [], 0, []),
  (.iconst 4, (18, 1), [], 0, []),
  (.if_icmp .ge 115, (19, 3), [89], 0, []),
  (.nop, (22, 0), [0, 1, 6, 7, 8], 0, []),
  (.iload_n 2, (22, 1), [], 0, []),
  (.ifCond .eq 111, (23, 3), [89], 0, []),
  (.nop, (26, 0), [0, 1, 6, 7, 8], 0, []),
  (.iconst 0, (26, 1), [], 0, []),
  (.istore 6, (27, 2), [], 0, []),
  (.iconst 0, (29, 1), [], 0, []),
  (.istore 7, (30, 2), [], 0, []),
  (.nop, (32, 0), [0, 1, 8], 0, []),
  (.iload 7, (32, 2), [], 0, []),
  (.iconst 4, (34, 1), [], 0, []),
  (.if_icmp .gt 38, (35, 3), [50], 0, []),
  (.nop, (38, 0), [0, 1, 8], 0, []),
  (.iload 6, (38, 2), [], 0, []),
  (.iload_n 2, (40, 1), [], 0, []),
  (.iload 7, (41, 2), [], 0, []),
  (.invokestatic 214, (43, 3), [44, 2, 0, 0, 0, 0, 2], 0, []),
  (.nop, (46, 0), [0, 1, 6, 8], 0, []),
  (.ifCond .eq 17, (46, 3), [43], 0, []),
  (.nop, (49, 0), [0, 1, 6, 8], 0, []),
  (.iload 7, (49, 2), [], 0, []),
  (.iload 5, (51, 2), [], 0, []),
  (.invokestatic 379, (53, 3), [116, 2, 0, 0, 0, 0, 2], 0, []),
  (.nop, (56, 0), [0, 1, 6, 8], 0, []),
  (.ifCond .eq 7, (56, 3), [43], 0, []),
  (.nop, (59, 0), [0, 1, 6, 8], 0, []),
  (.iconst 1, (59, 1), [], 0, []),
  (.goto 4, (60, 3), [45], 0, []),
  (.nop, (63, 0), [0, 1, 6, 8], 0, []),
  (.iconst 0, (63, 1), [], 0, []),
  (.nop, (64, 0), [0, 1, 6, 8], 0, []),
  (.iadd, (64, 1), [], 0, []),
  (.istore 6, (65, 2), [], 0, []),
  (.iinc 7 1, (67, 3), [], 0, []),
  (.goto (-38), (70, 3), [23], 0, []),
  (.nop, (73, 0), [0, 1, 7, 8], 0, []),
  (.iload_n 2, (73, 1), [], 0, []),
  (.invokestatic 254, (74, 3), [45, 1, 0, 0, 0, 0, 3], 0, []),
  (.nop, (77, 0), [0, 1, 7, 8], 0, []),
  (.iload 6, (77, 2), [], 0, []),
  (.isub, (79, 1), [], 0, []),
  (.istore 7, (80, 2), [], 0, []),
  (.iload 6, (82, 2), [], 0, []),
  (.iload 7, (84, 2), [], 0, []),
  (.if_icmp .le 8, (86, 3), [63], 0, []),
  (.nop, (89, 0), [0, 1, 7, 8], 0, []),
  (.iload 6, (89, 2), [], 0, []),
  (.goto 5, (91, 3), [65], 0, []),
  (.nop, (94, 0), [0, 1, 6, 8], 0, []),
  (.iload 7, (94, 2), [], 0, []),
  (.nop, (96, 0), [0, 1, 6, 7, 8], 0, []),
  (.istore 8, (96, 2), [], 0, []),
  (.iload 8, (98, 2), [], 0, []),
  (.iload 4, (100, 2), [], 0, []),
  (.if_icmp .ge 8, (102, 3), [73], 0, []),
  (.nop, (105, 0), [0, 1, 3, 6, 7], 0, []),
  (.iload 5, (105, 2), [], 0, []),
  (.goto 4, (107, 3), [75], 0, []),
  (.nop, (110, 0), [0, 1, 6, 7], 0, []),
  (.iload_n 3, (110, 1), [], 0, []),
  (.nop, (111, 0), [0, 1, 3, 6, 7], 0, []),
  (.istore_n 3, (111, 1), [], 0, []),
  (.iload 8, (112, 2), [], 0, []),
  (.iload 4, (114, 2), [], 0, []),
  (.if_icmp .ge 8, (116, 3), [83], 0, []),
  (.nop, (119, 0), [0, 1, 4, 6, 7], 0, []),
  (.iload 8, (119, 2), [], 0, []),
  (.goto 5, (121, 3), [85], 0, []),
  (.nop, (124, 0), [0, 1, 6, 7, 8], 0, []),
  (.iload 4, (124, 2), [], 0, []),
  (.nop, (126, 0), [0, 1, 4, 6, 7, 8], 0, []),
  (.istore 4, (126, 2), [], 0, []),
  (.iinc 5 1, (128, 3), [], 0, []),
  (.goto (-115), (131, 3), [11], 0, []),
  (.nop, (134, 0), [0, 1, 2, 4, 5, 6, 7, 8], 0, []),
  (.iload_n 3, (134, 1), [], 0, []),
  (.ireturn, (135, 1), [0], 0, [])]
/-- DictProofModel.draw (I)I -/
def tb_121 : List Op := [(.aload_n 0, (0, 1), [], 0, []),
  (.ldc2_w 383, (1, 3), [], 1103515245, []),
  (.aload_n 0, (4, 1), [], 0, []),
  (.getfield 385, (5, 3), [9, 52, 2], 0, []),
  (.lmul, (8, 1), [], 0, []),
  (.ldc2_w 389, (9, 3), [], 12345, []),
  (.ladd, (12, 1), [], 0, []),
  (.ldc2_w 391, (13, 3), [], 2147483647, []),
  (.land, (16, 1), [], 0, []),
  (.putfield 385, (17, 3), [9, 52, 2], 0, []),
  (.aload_n 0, (20, 1), [], 0, []),
  (.getfield 385, (21, 3), [9, 52, 2], 0, []),
  (.ldc2_w 393, (24, 3), [], 65536, []),
  (.ldiv, (27, 1), [], 0, []),
  (.iload_n 1, (28, 1), [], 0, []),
  (.i2l, (29, 1), [], 0, []),
  (.lrem, (30, 1), [], 0, []),
  (.l2i, (31, 1), [], 0, []),
  (.ireturn, (32, 1), [0], 0, [])]
/-- DictProofModel.letterBy (I)I -/
def tb_122 : List Op := [(.iload_n 0, (0, 1), [], 0, []),
  (.tableswitch 36 0 2 #[27, 30, 33], (1, 27), [11], 0, [(0, 2), (1, 5), (2, 8)]),
  (.nop, (28, 0), [0], 0, []),
  (.bipush 105, (28, 2), [], 0, []),
  (.ireturn, (30, 1), [0], 0, []),
  (.nop, (31, 0), [0], 0, []),
  (.bipush 98, (31, 2), [], 0, []),
  (.ireturn, (33, 1), [0], 0, []),
  (.nop, (34, 0), [0], 0, []),
  (.bipush 108, (34, 2), [], 0, []),
  (.ireturn, (36, 1), [0], 0, []),
  (.nop, (37, 0), [0], 0, []),
  (.bipush 112, (37, 2), [], 0, []),
  (.ireturn, (39, 1), [0], 0, [])]
/-- DictProofModel.addLetter (I)V -/
def tb_123 : List Op := [(.aload_n 0, (0, 1), [], 0, []),
  (.getfield 80, (1, 3), [9, 32, 4], 0, []),
  (.aload_n 0, (4, 1), [], 0, []),
  (.getfield 233, (5, 3), [9, 34, 0], 0, []),
  (.iload_n 1, (8, 1), [], 0, []),
  (.iastore, (9, 1), [], 0, []),
  (.aload_n 0, (10, 1), [], 0, []),
  (.dup, (11, 1), [], 0, []),
  (.getfield 233, (12, 3), [9, 34, 0], 0, []),
  (.iconst 1, (15, 1), [], 0, []),
  (.iadd, (16, 1), [], 0, []),
  (.putfield 233, (17, 3), [9, 34, 0], 0, []),
  (.return_, (20, 1), [], 0, [])]
/-- DictProofModel.drawType ()V -/
def tb_124 : List Op := [(.aload_n 0, (0, 1), [], 0, []),
  (.iconst 0, (1, 1), [], 0, []),
  (.putfield 233, (2, 3), [9, 34, 0], 0, []),
  (.aload_n 0, (5, 1), [], 0, []),
  (.aload_n 0, (6, 1), [], 0, []),
  (.iconst 4, (7, 1), [], 0, []),
  (.invokevirtual 395, (8, 3), [121, 2, 9, 0, 0, 0, 2], 0, []),
  (.nop, (11, 0), [1, 2, 3, 4], 0, []),
  (.invokestatic 398, (11, 3), [122, 1, 0, 0, 0, 0, 1], 0, []),
  (.nop, (14, 0), [1, 2, 3, 4], 0, []),
  (.invokevirtual 401, (14, 3), [123, 2, 9, 0, 0, 0, 2], 0, []),
  (.nop, (17, 0), [1, 2, 3, 4], 0, []),
  (.aload_n 0, (17, 1), [], 0, []),
  (.getfield 80, (18, 3), [9, 32, 4], 0, []),
  (.iconst 0, (21, 1), [], 0, []),
  (.iaload, (22, 1), [], 0, []),
  (.invokestatic 174, (23, 3), [47, 1, 0, 0, 0, 0, 1], 0, []),
  (.nop, (26, 0), [1, 2, 3, 4], 0, []),
  (.istore_n 1, (26, 1), [], 0, []),
  (.iconst 0, (27, 1), [], 0, []),
  (.istore_n 2, (28, 1), [], 0, []),
  (.nop, (29, 0), [3, 4], 0, []),
  (.iload_n 2, (29, 1), [], 0, []),
  (.iload_n 1, (30, 1), [], 0, []),
  (.if_icmp .ge 53, (31, 3), [60], 0, []),
  (.nop, (34, 0), [3, 4], 0, []),
  (.aload_n 0, (34, 1), [], 0, []),
  (.iconst 4, (35, 1), [], 0, []),
  (.invokevirtual 395, (36, 3), [121, 2, 9, 0, 0, 0, 2], 0, []),
  (.nop, (39, 0), [3, 4], 0, []),
  (.invokestatic 398, (39, 3), [122, 1, 0, 0, 0, 0, 1], 0, []),
  (.nop, (42, 0), [3, 4], 0, []),
  (.istore_n 3, (42, 1), [], 0, []),
  (.aload_n 0, (43, 1), [], 0, []),
  (.iload_n 3, (44, 1), [], 0, []),
  (.invokevirtual 401, (45, 3), [123, 2, 9, 0, 0, 0, 2], 0, []),
  (.nop, (48, 0), [4], 0, []),
  (.iconst 0, (48, 1), [], 0, []),
  (.istore 4, (49, 2), [], 0, []),
  (.nop, (51, 0), [], 0, []),
  (.iload 4, (51, 2), [], 0, []),
  (.iload_n 3, (53, 1), [], 0, []),
  (.invokestatic 174, (54, 3), [47, 1, 0, 0, 0, 0, 1], 0, []),
  (.nop, (57, 0), [], 0, []),
  (.if_icmp .ge 21, (57, 3), [57], 0, []),
  (.nop, (60, 0), [], 0, []),
  (.aload_n 0, (60, 1), [], 0, []),
  (.aload_n 0, (61, 1), [], 0, []),
  (.iconst 2, (62, 1), [], 0, []),
  (.invokevirtual 395, (63, 3), [121, 2, 9, 0, 0, 0, 2], 0, []),
  (.nop, (66, 0), [], 0, []),
  (.invokestatic 398, (66, 3), [122, 1, 0, 0, 0, 0, 1], 0, []),
  (.nop, (69, 0), [], 0, []),
  (.invokevirtual 401, (69, 3), [123, 2, 9, 0, 0, 0, 2], 0, []),
  (.nop, (72, 0), [], 0, []),
  (.iinc 4 1, (72, 3), [], 0, []),
  (.goto (-24), (75, 3), [39], 0, []),
  (.nop, (78, 0), [3, 4], 0, []),
  (.iinc 2 1, (78, 3), [], 0, []),
  (.goto (-52), (81, 3), [21], 0, []),
  (.nop, (84, 0), [1, 2, 3, 4], 0, []),
  (.aload_n 0, (84, 1), [], 0, []),
  (.invokevirtual 236, (85, 3), [64, 1, 9, 0, 0, 0, 4], 0, []),
  (.nop, (88, 0), [0, 1, 2, 3, 4], 0, []),
  (.return_, (88, 1), [], 0, [])]
/-- DictProofModel.drawnNow (III)I -/
def tb_125 : List Op := [(.aload_n 0, (0, 1), [], 0, []),
  (.iload_n 2, (1, 1), [], 0, []),
  (.i2l, (2, 1), [], 0, []),
  (.putfield 385, (3, 3), [9, 52, 2], 0, []),
  (.iconst 0, (6, 1), [], 0, []),
  (.istore 4, (7, 2), [], 0, []),
  (.iconst 0, (9, 1), [], 0, []),
  (.istore 5, (10, 2), [], 0, []),
  (.iconst 0, (12, 1), [], 0, []),
  (.istore 6, (13, 2), [], 0, []),
  (.nop, (15, 0), [2, 7], 0, []),
  (.iload 6, (15, 2), [], 0, []),
  (.iload_n 1, (17, 1), [], 0, []),
  (.if_icmp .ge 60, (18, 3), [51], 0, []),
  (.nop, (21, 0), [2, 7], 0, []),
  (.aload_n 0, (21, 1), [], 0, []),
  (.aload_n 0, (22, 1), [], 0, []),
  (.getfield 211, (23, 3), [9, 1, 0], 0, []),
  (.invokevirtual 395, (26, 3), [121, 2, 9, 0, 0, 0, 2], 0, []),
  (.nop, (29, 0), [2, 7], 0, []),
  (.istore 7, (29, 2), [], 0, []),
  (.aload_n 0, (31, 1), [], 0, []),
  (.invokevirtual 404, (32, 3), [124, 1, 9, 0, 0, 0, 5], 0, []),
  (.nop, (35, 0), [2], 0, []),
  (.aload_n 0, (35, 1), [], 0, []),
  (.invokevirtual 295, (36, 3), [79, 1, 9, 0, 0, 0, 3], 0, []),
  (.nop, (39, 0), [2], 0, []),
  (.iload 4, (39, 2), [], 0, []),
  (.aload_n 0, (41, 1), [], 0, []),
  (.getfield 89, (42, 3), [9, 36, 4], 0, []),
  (.bipush 9, (45, 2), [], 0, []),
  (.iload 7, (47, 2), [], 0, []),
  (.imul, (49, 1), [], 0, []),
  (.iaload, (50, 1), [], 0, []),
  (.iconst 1, (51, 1), [], 0, []),
  (.if_icmp .ne 7, (52, 3), [39], 0, []),
  (.nop, (55, 0), [2, 4, 7], 0, []),
  (.iconst 1, (55, 1), [], 0, []),
  (.goto 4, (56, 3), [41], 0, []),
  (.nop, (59, 0), [2, 4, 7], 0, []),
  (.iconst 0, (59, 1), [], 0, []),
  (.nop, (60, 0), [2, 4, 7], 0, []),
  (.iadd, (60, 1), [], 0, []),
  (.istore 4, (61, 2), [], 0, []),
  (.iload 5, (63, 2), [], 0, []),
  (.aload_n 0, (65, 1), [], 0, []),
  (.getfield 233, (66, 3), [9, 34, 0], 0, []),
  (.iadd, (69, 1), [], 0, []),
  (.istore 5, (70, 2), [], 0, []),
  (.iinc 6 1, (72, 3), [], 0, []),
  (.goto (-60), (75, 3), [10], 0, []),
  (.nop, (78, 0), [1, 2, 6, 7], 0, []),
  (.iload_n 3, (78, 1), [], 0, []),
  (.ifCond .ne 8, (79, 3), [57], 0, []),
  (.nop, (82, 0), [0, 1, 2, 3, 5, 6, 7], 0, []),
  (.iload 4, (82, 2), [], 0, []),
  (.goto 18, (84, 3), [68], 0, []),
  (.nop, (87, 0), [1, 2, 4, 6, 7], 0, []),
  (.iload_n 3, (87, 1), [], 0, []),
  (.iconst 1, (88, 1), [], 0, []),
  (.if_icmp .ne 8, (89, 3), [64], 0, []),
  (.nop, (92, 0), [0, 1, 2, 3, 4, 6, 7], 0, []),
  (.iload 5, (92, 2), [], 0, []),
  (.goto 8, (94, 3), [68], 0, []),
  (.nop, (97, 0), [1, 2, 3, 4, 5, 6, 7], 0, []),
  (.aload_n 0, (97, 1), [], 0, []),
  (.getfield 385, (98, 3), [9, 52, 2], 0, []),
  (.l2i, (101, 1), [], 0, []),
  (.nop, (102, 0), [0, 1, 2, 3, 4, 5, 6, 7], 0, []),
  (.ireturn, (102, 1), [0], 0, [])]
/-- DictProofModel.drawn (III)I -/
def tb_126 : List Op := [(.iload_n 1, (0, 1), [], 0, []),
  (.iconst 1, (1, 1), [], 0, []),
  (.bipush 30, (2, 2), [], 0, []),
  (.invokestatic 146, (4, 3), [43, 3, 0, 0, 0, 0, 3], 0, []),
  (.nop, (7, 0), [], 0, []),
  (.ifCond .eq 16, (7, 3), [16], 0, []),
  (.nop, (10, 0), [], 0, []),
  (.iload_n 2, (10, 1), [], 0, []),
  (.ifCond .lt 12, (11, 3), [16], 0, []),
  (.nop, (14, 0), [], 0, []),
  (.iload_n 3, (14, 1), [], 0, []),
  (.iconst 0, (15, 1), [], 0, []),
  (.iconst 2, (16, 1), [], 0, []),
  (.invokestatic 146, (17, 3), [43, 3, 0, 0, 0, 0, 3], 0, []),
  (.nop, (20, 0), [], 0, []),
  (.ifCond .ne 6, (20, 3), [19], 0, []),
  (.nop, (23, 0), [0, 1, 2, 3], 0, []),
  (.bipush (-102), (23, 2), [], 0, []),
  (.ireturn, (25, 1), [0], 0, []),
  (.nop, (26, 0), [], 0, []),
  (.aload_n 0, (26, 1), [], 0, []),
  (.getfield 227, (27, 3), [9, 0, 0], 0, []),
  (.ifCond .ne 8, (30, 3), [26], 0, []),
  (.nop, (33, 0), [0, 1, 2, 3], 0, []),
  (.bipush (-103), (33, 2), [], 0, []),
  (.goto 10, (35, 3), [32], 0, []),
  (.nop, (38, 0), [], 0, []),
  (.aload_n 0, (38, 1), [], 0, []),
  (.iload_n 1, (39, 1), [], 0, []),
  (.iload_n 2, (40, 1), [], 0, []),
  (.iload_n 3, (41, 1), [], 0, []),
  (.invokevirtual 407, (42, 3), [125, 4, 9, 0, 0, 0, 8], 0, []),
  (.nop, (45, 0), [0, 1, 2, 3], 0, []),
  (.ireturn, (45, 1), [0], 0, [])]
/-- DictProofModel.filled ()I -/
def tb_127 : List Op := [(.iconst 0, (0, 1), [], 0, []),
  (.istore_n 1, (1, 1), [], 0, []),
  (.iconst 0, (2, 1), [], 0, []),
  (.istore_n 2, (3, 1), [], 0, []),
  (.nop, (4, 0), [], 0, []),
  (.iload_n 2, (4, 1), [], 0, []),
  (.iconst 4, (5, 1), [], 0, []),
  (.if_icmp .ge 26, (6, 3), [25], 0, []),
  (.nop, (9, 0), [], 0, []),
  (.iload_n 1, (9, 1), [], 0, []),
  (.aload_n 0, (10, 1), [], 0, []),
  (.getfield 43, (11, 3), [9, 14, 4], 0, []),
  (.iload_n 2, (14, 1), [], 0, []),
  (.iaload, (15, 1), [], 0, []),
  (.ifCond .le 7, (16, 3), [18], 0, []),
  (.nop, (19, 0), [1], 0, []),
  (.iconst 1, (19, 1), [], 0, []),
  (.goto 4, (20, 3), [20], 0, []),
  (.nop, (23, 0), [1], 0, []),
  (.iconst 0, (23, 1), [], 0, []),
  (.nop, (24, 0), [1], 0, []),
  (.iadd, (24, 1), [], 0, []),
  (.istore_n 1, (25, 1), [], 0, []),
  (.iinc 2 1, (26, 3), [], 0, []),
  (.goto (-25), (29, 3), [4], 0, []),
  (.nop, (32, 0), [0, 2], 0, []),
  (.iload_n 1, (32, 1), [], 0, []),
  (.ireturn, (33, 1), [0], 0, [])]
/-- DictProofModel.image ()I -/
def tb_128 : List Op := [(.aload_n 0, (0, 1), [], 0, []),
  (.getfield 227, (1, 3), [9, 0, 0], 0, []),
  (.ifCond .ne 6, (4, 3), [6], 0, []),
  (.nop, (7, 0), [0, 1], 0, []),
  (.bipush (-103), (7, 2), [], 0, []),
  (.ireturn, (9, 1), [0], 0, []),
  (.nop, (10, 0), [1], 0, []),
  (.aload_n 0, (10, 1), [], 0, []),
  (.iconst 1, (11, 1), [], 0, []),
  (.putfield 411, (12, 3), [9, 53, 1], 0, []),
  (.aload_n 0, (15, 1), [], 0, []),
  (.aload_n 0, (16, 1), [], 0, []),
  (.getfield 227, (17, 3), [9, 0, 0], 0, []),
  (.putfield 414, (20, 3), [9, 54, 0], 0, []),
  (.aload_n 0, (23, 1), [], 0, []),
  (.aload_n 0, (24, 1), [], 0, []),
  (.getfield 230, (25, 3), [9, 15, 0], 0, []),
  (.putfield 417, (28, 3), [9, 55, 0], 0, []),
  (.iconst 0, (31, 1), [], 0, []),
  (.istore_n 1, (32, 1), [], 0, []),
  (.nop, (33, 0), [], 0, []),
  (.iload_n 1, (33, 1), [], 0, []),
  (.bipush 6, (34, 2), [], 0, []),
  (.if_icmp .ge 57, (36, 3), [59], 0, []),
  (.nop, (39, 0), [], 0, []),
  (.aload_n 0, (39, 1), [], 0, []),
  (.getfield 128, (40, 3), [9, 56, 4], 0, []),
  (.iload_n 1, (43, 1), [], 0, []),
  (.aload_n 0, (44, 1), [], 0, []),
  (.getfield 16, (45, 3), [9, 5, 4], 0, []),
  (.iload_n 1, (48, 1), [], 0, []),
  (.iaload, (49, 1), [], 0, []),
  (.iastore, (50, 1), [], 0, []),
  (.aload_n 0, (51, 1), [], 0, []),
  (.getfield 137, (52, 3), [9, 59, 4], 0, []),
  (.iload_n 1, (55, 1), [], 0, []),
  (.aload_n 0, (56, 1), [], 0, []),
  (.getfield 46, (57, 3), [9, 16, 4], 0, []),
  (.iload_n 1, (60, 1), [], 0, []),
  (.iaload, (61, 1), [], 0, []),
  (.iastore, (62, 1), [], 0, []),
  (.aload_n 0, (63, 1), [], 0, []),
  (.getfield 140, (64, 3), [9, 60, 4], 0, []),
  (.iload_n 1, (67, 1), [], 0, []),
  (.aload_n 0, (68, 1), [], 0, []),
  (.getfield 49, (69, 3), [9, 17, 4], 0, []),
  (.iload_n 1, (72, 1), [], 0, []),
  (.iaload, (73, 1), [], 0, []),
  (.iastore, (74, 1), [], 0, []),
  (.aload_n 0, (75, 1), [], 0, []),
  (.getfield 143, (76, 3), [9, 61, 4], 0, []),
  (.iload_n 1, (79, 1), [], 0, []),
  (.aload_n 0, (80, 1), [], 0, []),
  (.getfield 52, (81, 3), [9, 18, 4], 0, []),
  (.iload_n 1, (84, 1), [], 0, []),
  (.iaload, (85, 1), [], 0, []),
  (.iastore, (86, 1), [], 0, []),
  (.iinc 1 1, (87, 3), [], 0, []),
  (.goto (-57), (90, 3), [20], 0, []),
  (.nop, (93, 0), [1], 0, []),
  (.iconst 0, (93, 1), [], 0, []),
  (.istore_n 1, (94, 1), [], 0, []),
  (.nop, (95, 0), [], 0, []),
  (.iload_n 1, (95, 1), [], 0, []),
  (.bipush 36, (96, 2), [], 0, []),
  (.if_icmp .ge 21, (98, 3), [77], 0, []),
  (.nop, (101, 0), [], 0, []),
  (.aload_n 0, (101, 1), [], 0, []),
  (.getfield 131, (102, 3), [9, 57, 4], 0, []),
  (.iload_n 1, (105, 1), [], 0, []),
  (.aload_n 0, (106, 1), [], 0, []),
  (.getfield 40, (107, 3), [9, 13, 4], 0, []),
  (.iload_n 1, (110, 1), [], 0, []),
  (.iaload, (111, 1), [], 0, []),
  (.iastore, (112, 1), [], 0, []),
  (.iinc 1 1, (113, 3), [], 0, []),
  (.goto (-21), (116, 3), [62], 0, []),
  (.nop, (119, 0), [1], 0, []),
  (.iconst 0, (119, 1), [], 0, []),
  (.istore_n 1, (120, 1), [], 0, []),
  (.nop, (121, 0), [], 0, []),
  (.iload_n 1, (121, 1), [], 0, []),
  (.iconst 4, (122, 1), [], 0, []),
  (.if_icmp .ge 21, (123, 3), [95], 0, []),
  (.nop, (126, 0), [], 0, []),
  (.aload_n 0, (126, 1), [], 0, []),
  (.getfield 134, (127, 3), [9, 58, 4], 0, []),
  (.iload_n 1, (130, 1), [], 0, []),
  (.aload_n 0, (131, 1), [], 0, []),
  (.getfield 43, (132, 3), [9, 14, 4], 0, []),
  (.iload_n 1, (135, 1), [], 0, []),
  (.iaload, (136, 1), [], 0, []),
  (.iastore, (137, 1), [], 0, []),
  (.iinc 1 1, (138, 3), [], 0, []),
  (.goto (-20), (141, 3), [80], 0, []),
  (.nop, (144, 0), [1], 0, []),
  (.aload_n 0, (144, 1), [], 0, []),
  (.invokevirtual 420, (145, 3), [127, 1, 9, 0, 0, 0, 3], 0, []),
  (.nop, (148, 0), [0, 1], 0, []),
  (.ireturn, (148, 1), [0], 0, [])]
/-- DictProofModel.restore ()I -/
def tb_129 : List Op := [(.aload_n 0, (0, 1), [], 0, []),
  (.getfield 411, (1, 3), [9, 53, 1], 0, []),
  (.ifCond .eq 14, (4, 3), [9], 0, []),
  (.nop, (7, 0), [1], 0, []),
  (.aload_n 0, (7, 1), [], 0, []),
  (.getfield 414, (8, 3), [9, 54, 0], 0, []),
  (.aload_n 0, (11, 1), [], 0, []),
  (.getfield 227, (12, 3), [9, 0, 0], 0, []),
  (.if_icmp .eq 6, (15, 3), [12], 0, []),
  (.nop, (18, 0), [0, 1], 0, []),
  (.bipush (-103), (18, 2), [], 0, []),
  (.ireturn, (20, 1), [0], 0, []),
  (.nop, (21, 0), [1], 0, []),
  (.aload_n 0, (21, 1), [], 0, []),
  (.aload_n 0, (22, 1), [], 0, []),
  (.getfield 417, (23, 3), [9, 55, 0], 0, []),
  (.putfield 230, (26, 3), [9, 15, 0], 0, []),
  (.iconst 0, (29, 1), [], 0, []),
  (.istore_n 1, (30, 1), [], 0, []),
  (.nop, (31, 0), [], 0, []),
  (.iload_n 1, (31, 1), [], 0, []),
  (.bipush 6, (32, 2), [], 0, []),
  (.if_icmp .ge 57, (34, 3), [58], 0, []),
  (.nop, (37, 0), [], 0, []),
  (.aload_n 0, (37, 1), [], 0, []),
  (.getfield 16, (38, 3), [9, 5, 4], 0, []),
  (.iload_n 1, (41, 1), [], 0, []),
  (.aload_n 0, (42, 1), [], 0, []),
  (.getfield 128, (43, 3), [9, 56, 4], 0, []),
  (.iload_n 1, (46, 1), [], 0, []),
  (.iaload, (47, 1), [], 0, []),
  (.iastore, (48, 1), [], 0, []),
  (.aload_n 0, (49, 1), [], 0, []),
  (.getfield 46, (50, 3), [9, 16, 4], 0, []),
  (.iload_n 1, (53, 1), [], 0, []),
  (.aload_n 0, (54, 1), [], 0, []),
  (.getfield 137, (55, 3), [9, 59, 4], 0, []),
  (.iload_n 1, (58, 1), [], 0, []),
  (.iaload, (59, 1), [], 0, []),
  (.iastore, (60, 1), [], 0, []),
  (.aload_n 0, (61, 1), [], 0, []),
  (.getfield 49, (62, 3), [9, 17, 4], 0, []),
  (.iload_n 1, (65, 1), [], 0, []),
  (.aload_n 0, (66, 1), [], 0, []),
  (.getfield 140, (67, 3), [9, 60, 4], 0, []),
  (.iload_n 1, (70, 1), [], 0, []),
  (.iaload, (71, 1), [], 0, []),
  (.iastore, (72, 1), [], 0, []),
  (.aload_n 0, (73, 1), [], 0, []),
  (.getfield 52, (74, 3), [9, 18, 4], 0, []),
  (.iload_n 1, (77, 1), [], 0, []),
  (.aload_n 0, (78, 1), [], 0, []),
  (.getfield 143, (79, 3), [9, 61, 4], 0, []),
  (.iload_n 1, (82, 1), [], 0, []),
  (.iaload, (83, 1), [], 0, []),
  (.iastore, (84, 1), [], 0, []),
  (.iinc 1 1, (85, 3), [], 0, []),
  (.goto (-57), (88, 3), [19], 0, []),
  (.nop, (91, 0), [1], 0, []),
  (.iconst 0, (91, 1), [], 0, []),
  (.istore_n 1, (92, 1), [], 0, []),
  (.nop, (93, 0), [], 0, []),
  (.iload_n 1, (93, 1), [], 0, []),
  (.bipush 36, (94, 2), [], 0, []),
  (.if_icmp .ge 21, (96, 3), [76], 0, []),
  (.nop, (99, 0), [], 0, []),
  (.aload_n 0, (99, 1), [], 0, []),
  (.getfield 40, (100, 3), [9, 13, 4], 0, []),
  (.iload_n 1, (103, 1), [], 0, []),
  (.aload_n 0, (104, 1), [], 0, []),
  (.getfield 131, (105, 3), [9, 57, 4], 0, []),
  (.iload_n 1, (108, 1), [], 0, []),
  (.iaload, (109, 1), [], 0, []),
  (.iastore, (110, 1), [], 0, []),
  (.iinc 1 1, (111, 3), [], 0, []),
  (.goto (-21), (114, 3), [61], 0, []),
  (.nop, (117, 0), [1], 0, []),
  (.iconst 0, (117, 1), [], 0, []),
  (.istore_n 1, (118, 1), [], 0, []),
  (.nop, (119, 0), [], 0, []),
  (.iload_n 1, (119, 1), [], 0, []),
  (.iconst 4, (120, 1), [], 0, []),
  (.if_icmp .ge 21, (121, 3), [94], 0, []),
  (.nop, (124, 0), [], 0, []),
  (.aload_n 0, (124, 1), [], 0, []),
  (.getfield 43, (125, 3), [9, 14, 4], 0, []),
  (.iload_n 1, (128, 1), [], 0, []),
  (.aload_n 0, (129, 1), [], 0, []),
  (.getfield 134, (130, 3), [9, 58, 4], 0, []),
  (.iload_n 1, (133, 1), [], 0, []),
  (.iaload, (134, 1), [], 0, []),
  (.iastore, (135, 1), [], 0, []),
  (.iinc 1 1, (136, 3), [], 0, []),
  (.goto (-20), (139, 3), [79], 0, []),
  (.nop, (142, 0), [1], 0, []),
  (.aload_n 0, (142, 1), [], 0, []),
  (.invokevirtual 420, (143, 3), [127, 1, 9, 0, 0, 0, 3], 0, []),
  (.nop, (146, 0), [0, 1], 0, []),
  (.ireturn, (146, 1), [0], 0, [])]
/-- DictProofModel.unsound ()I -/
def tb_130 : List Op := [(.iconst 0, (0, 1), [], 0, []),
  (.istore_n 1, (1, 1), [], 0, []),
  (.iconst 0, (2, 1), [], 0, []),
  (.istore_n 2, (3, 1), [], 0, []),
  (.nop, (4, 0), [], 0, []),
  (.iload_n 2, (4, 1), [], 0, []),
  (.aload_n 0, (5, 1), [], 0, []),
  (.getfield 217, (6, 3), [9, 4, 0], 0, []),
  (.if_icmp .ge 25, (9, 3), [26], 0, []),
  (.nop, (12, 0), [], 0, []),
  (.iload_n 1, (12, 1), [], 0, []),
  (.aload_n 0, (13, 1), [], 0, []),
  (.iload_n 2, (14, 1), [], 0, []),
  (.invokevirtual 248, (15, 3), [70, 2, 9, 0, 0, 0, 2], 0, []),
  (.nop, (18, 0), [1], 0, []),
  (.ifCond .eq 7, (18, 3), [19], 0, []),
  (.nop, (21, 0), [1], 0, []),
  (.iconst 0, (21, 1), [], 0, []),
  (.goto 4, (22, 3), [21], 0, []),
  (.nop, (25, 0), [1], 0, []),
  (.iconst 1, (25, 1), [], 0, []),
  (.nop, (26, 0), [1], 0, []),
  (.iadd, (26, 1), [], 0, []),
  (.istore_n 1, (27, 1), [], 0, []),
  (.iinc 2 1, (28, 3), [], 0, []),
  (.goto (-27), (31, 3), [4], 0, []),
  (.nop, (34, 0), [0, 2], 0, []),
  (.iload_n 1, (34, 1), [], 0, []),
  (.ireturn, (35, 1), [0], 0, [])]
/-- DictProofModel.pairsOf (I)I -/
def tb_131 : List Op := [(.iconst 0, (0, 1), [], 0, []),
  (.istore_n 2, (1, 1), [], 0, []),
  (.iconst 0, (2, 1), [], 0, []),
  (.istore_n 3, (3, 1), [], 0, []),
  (.nop, (4, 0), [4], 0, []),
  (.iload_n 3, (4, 1), [], 0, []),
  (.aload_n 0, (5, 1), [], 0, []),
  (.getfield 217, (6, 3), [9, 4, 0], 0, []),
  (.if_icmp .ge 43, (9, 3), [38], 0, []),
  (.nop, (12, 0), [4], 0, []),
  (.iconst 0, (12, 1), [], 0, []),
  (.istore 4, (13, 2), [], 0, []),
  (.nop, (15, 0), [], 0, []),
  (.iload 4, (15, 2), [], 0, []),
  (.iload_n 3, (17, 1), [], 0, []),
  (.if_icmp .ge 28, (18, 3), [35], 0, []),
  (.nop, (21, 0), [], 0, []),
  (.iload_n 2, (21, 1), [], 0, []),
  (.aload_n 0, (22, 1), [], 0, []),
  (.iload_n 3, (23, 1), [], 0, []),
  (.iload 4, (24, 2), [], 0, []),
  (.iload_n 1, (26, 1), [], 0, []),
  (.invokevirtual 358, (27, 3), [109, 4, 9, 0, 0, 0, 4], 0, []),
  (.nop, (30, 0), [2], 0, []),
  (.ifCond .eq 7, (30, 3), [28], 0, []),
  (.nop, (33, 0), [2], 0, []),
  (.iconst 1, (33, 1), [], 0, []),
  (.goto 4, (34, 3), [30], 0, []),
  (.nop, (37, 0), [2], 0, []),
  (.iconst 0, (37, 1), [], 0, []),
  (.nop, (38, 0), [2], 0, []),
  (.iadd, (38, 1), [], 0, []),
  (.istore_n 2, (39, 1), [], 0, []),
  (.iinc 4 1, (40, 3), [], 0, []),
  (.goto (-28), (43, 3), [12], 0, []),
  (.nop, (46, 0), [4], 0, []),
  (.iinc 3 1, (46, 3), [], 0, []),
  (.goto (-45), (49, 3), [4], 0, []),
  (.nop, (52, 0), [0, 1, 3, 4], 0, []),
  (.iload_n 2, (52, 1), [], 0, []),
  (.ireturn, (53, 1), [0], 0, [])]
/-- DictProofModel.lacksOfAll ()I -/
def tb_132 : List Op := [(.iconst 0, (0, 1), [], 0, []),
  (.istore_n 1, (1, 1), [], 0, []),
  (.iconst 0, (2, 1), [], 0, []),
  (.istore_n 2, (3, 1), [], 0, []),
  (.nop, (4, 0), [], 0, []),
  (.iload_n 2, (4, 1), [], 0, []),
  (.aload_n 0, (5, 1), [], 0, []),
  (.getfield 217, (6, 3), [9, 4, 0], 0, []),
  (.if_icmp .ge 20, (9, 3), [21], 0, []),
  (.nop, (12, 0), [], 0, []),
  (.iload_n 1, (12, 1), [], 0, []),
  (.aload_n 0, (13, 1), [], 0, []),
  (.iload_n 2, (14, 1), [], 0, []),
  (.invokevirtual 307, (15, 3), [93, 2, 9, 0, 0, 0, 7], 0, []),
  (.nop, (18, 0), [1], 0, []),
  (.invokestatic 254, (18, 3), [45, 1, 0, 0, 0, 0, 3], 0, []),
  (.nop, (21, 0), [1], 0, []),
  (.iadd, (21, 1), [], 0, []),
  (.istore_n 1, (22, 1), [], 0, []),
  (.iinc 2 1, (23, 3), [], 0, []),
  (.goto (-22), (26, 3), [4], 0, []),
  (.nop, (29, 0), [0, 2], 0, []),
  (.iload_n 1, (29, 1), [], 0, []),
  (.ireturn, (30, 1), [0], 0, [])]
/-- DictProofModel.isSlotLike (II)Z -/
def tb_133 : List Op := [(.aload_n 0, (0, 1), [], 0, []),
  (.getfield 43, (1, 3), [9, 14, 4], 0, []),
  (.iload_n 1, (4, 1), [], 0, []),
  (.iaload, (5, 1), [], 0, []),
  (.aload_n 0, (6, 1), [], 0, []),
  (.getfield 43, (7, 3), [9, 14, 4], 0, []),
  (.iload_n 2, (10, 1), [], 0, []),
  (.iaload, (11, 1), [], 0, []),
  (.if_icmp .ne 7, (12, 3), [12], 0, []),
  (.nop, (15, 0), [3, 4], 0, []),
  (.iconst 1, (15, 1), [], 0, []),
  (.goto 4, (16, 3), [14], 0, []),
  (.nop, (19, 0), [3, 4], 0, []),
  (.iconst 0, (19, 1), [], 0, []),
  (.nop, (20, 0), [3, 4], 0, []),
  (.istore_n 3, (20, 1), [], 0, []),
  (.iconst 0, (21, 1), [], 0, []),
  (.istore 4, (22, 2), [], 0, []),
  (.nop, (24, 0), [], 0, []),
  (.iload 4, (24, 2), [], 0, []),
  (.aload_n 0, (26, 1), [], 0, []),
  (.getfield 43, (27, 3), [9, 14, 4], 0, []),
  (.iload_n 1, (30, 1), [], 0, []),
  (.iaload, (31, 1), [], 0, []),
  (.if_icmp .ge 46, (32, 3), [55], 0, []),
  (.nop, (35, 0), [], 0, []),
  (.iload_n 3, (35, 1), [], 0, []),
  (.ifCond .eq 42, (36, 3), [55], 0, []),
  (.nop, (39, 0), [3], 0, []),
  (.aload_n 0, (39, 1), [], 0, []),
  (.getfield 40, (40, 3), [9, 13, 4], 0, []),
  (.bipush 9, (43, 2), [], 0, []),
  (.iload_n 1, (45, 1), [], 0, []),
  (.imul, (46, 1), [], 0, []),
  (.iload 4, (47, 2), [], 0, []),
  (.iadd, (49, 1), [], 0, []),
  (.iaload, (50, 1), [], 0, []),
  (.aload_n 0, (51, 1), [], 0, []),
  (.getfield 40, (52, 3), [9, 13, 4], 0, []),
  (.bipush 9, (55, 2), [], 0, []),
  (.iload_n 2, (57, 1), [], 0, []),
  (.imul, (58, 1), [], 0, []),
  (.iload 4, (59, 2), [], 0, []),
  (.iadd, (61, 1), [], 0, []),
  (.iaload, (62, 1), [], 0, []),
  (.if_icmp .ne 7, (63, 3), [49], 0, []),
  (.nop, (66, 0), [3], 0, []),
  (.iconst 1, (66, 1), [], 0, []),
  (.goto 4, (67, 3), [51], 0, []),
  (.nop, (70, 0), [3], 0, []),
  (.iconst 0, (70, 1), [], 0, []),
  (.nop, (71, 0), [3], 0, []),
  (.istore_n 3, (71, 1), [], 0, []),
  (.iinc 4 1, (72, 3), [], 0, []),
  (.goto (-51), (75, 3), [18], 0, []),
  (.nop, (78, 0), [0, 1, 2, 4], 0, []),
  (.iload_n 3, (78, 1), [], 0, []),
  (.ireturn, (79, 1), [1], 0, [])]
/-- DictProofModel.differentTypes ()I -/
def tb_134 : List Op := [(.iconst 0, (0, 1), [], 0, []),
  (.istore_n 1, (1, 1), [], 0, []),
  (.iconst 0, (2, 1), [], 0, []),
  (.istore_n 2, (3, 1), [], 0, []),
  (.nop, (4, 0), [3, 4], 0, []),
  (.iload_n 2, (4, 1), [], 0, []),
  (.iconst 4, (5, 1), [], 0, []),
  (.if_icmp .ge 71, (6, 3), [60], 0, []),
  (.nop, (9, 0), [3, 4], 0, []),
  (.aload_n 0, (9, 1), [], 0, []),
  (.getfield 43, (10, 3), [9, 14, 4], 0, []),
  (.iload_n 2, (13, 1), [], 0, []),
  (.iaload, (14, 1), [], 0, []),
  (.ifCond .le 7, (15, 3), [17], 0, []),
  (.nop, (18, 0), [3, 4], 0, []),
  (.iconst 1, (18, 1), [], 0, []),
  (.goto 4, (19, 3), [19], 0, []),
  (.nop, (22, 0), [3, 4], 0, []),
  (.iconst 0, (22, 1), [], 0, []),
  (.nop, (23, 0), [3, 4], 0, []),
  (.istore_n 3, (23, 1), [], 0, []),
  (.iconst 0, (24, 1), [], 0, []),
  (.istore 4, (25, 2), [], 0, []),
  (.nop, (27, 0), [], 0, []),
  (.iload 4, (27, 2), [], 0, []),
  (.iload_n 2, (29, 1), [], 0, []),
  (.if_icmp .ge 29, (30, 3), [46], 0, []),
  (.nop, (33, 0), [], 0, []),
  (.iload_n 3, (33, 1), [], 0, []),
  (.ifCond .eq 17, (34, 3), [40], 0, []),
  (.nop, (37, 0), [3], 0, []),
  (.aload_n 0, (37, 1), [], 0, []),
  (.iload_n 2, (38, 1), [], 0, []),
  (.iload 4, (39, 2), [], 0, []),
  (.invokevirtual 423, (41, 3), [133, 3, 9, 0, 0, 0, 5], 0, []),
  (.nop, (44, 0), [3], 0, []),
  (.ifCond .ne 7, (44, 3), [40], 0, []),
  (.nop, (47, 0), [3], 0, []),
  (.iconst 1, (47, 1), [], 0, []),
  (.goto 4, (48, 3), [42], 0, []),
  (.nop, (51, 0), [3], 0, []),
  (.iconst 0, (51, 1), [], 0, []),
  (.nop, (52, 0), [3], 0, []),
  (.istore_n 3, (52, 1), [], 0, []),
  (.iinc 4 1, (53, 3), [], 0, []),
  (.goto (-29), (56, 3), [23], 0, []),
  (.nop, (59, 0), [4], 0, []),
  (.iload_n 1, (59, 1), [], 0, []),
  (.iload_n 3, (60, 1), [], 0, []),
  (.ifCond .eq 7, (61, 3), [53], 0, []),
  (.nop, (64, 0), [1, 3, 4], 0, []),
  (.iconst 1, (64, 1), [], 0, []),
  (.goto 4, (65, 3), [55], 0, []),
  (.nop, (68, 0), [1, 3, 4], 0, []),
  (.iconst 0, (68, 1), [], 0, []),
  (.nop, (69, 0), [1, 3, 4], 0, []),
  (.iadd, (69, 1), [], 0, []),
  (.istore_n 1, (70, 1), [], 0, []),
  (.iinc 2 1, (71, 3), [], 0, []),
  (.goto (-70), (74, 3), [4], 0, []),
  (.nop, (77, 0), [0, 2, 3, 4], 0, []),
  (.iload_n 1, (77, 1), [], 0, []),
  (.ireturn, (78, 1), [0], 0, [])]
/-- DictProofModel.howMany (I)I -/
def tb_135 : List Op := [(.iload_n 1, (0, 1), [], 0, []),
  (.tableswitch 112 0 10 #[59, 64, 69, 74, 74, 82, 87, 92, 97, 102, 107], (1, 59), [50], 0, [(0, 2), (1, 6), (2, 10), (3, 15), (4, 15), (5, 23), (6, 28), (7, 33), (8, 38), (9, 42), (10, 46)]),
  (.nop, (60, 0), [1], 0, []),
  (.aload_n 0, (60, 1), [], 0, []),
  (.getfield 211, (61, 3), [9, 1, 0], 0, []),
  (.ireturn, (64, 1), [0], 0, []),
  (.nop, (65, 0), [1], 0, []),
  (.aload_n 0, (65, 1), [], 0, []),
  (.getfield 217, (66, 3), [9, 4, 0], 0, []),
  (.ireturn, (69, 1), [0], 0, []),
  (.nop, (70, 0), [1], 0, []),
  (.aload_n 0, (70, 1), [], 0, []),
  (.invokevirtual 426, (71, 3), [130, 1, 9, 0, 0, 0, 3], 0, []),
  (.nop, (74, 0), [0, 1], 0, []),
  (.ireturn, (74, 1), [0], 0, []),
  (.nop, (75, 0), [], 0, []),
  (.aload_n 0, (75, 1), [], 0, []),
  (.iload_n 1, (76, 1), [], 0, []),
  (.iconst 3, (77, 1), [], 0, []),
  (.isub, (78, 1), [], 0, []),
  (.invokevirtual 429, (79, 3), [131, 2, 9, 0, 0, 0, 5], 0, []),
  (.nop, (82, 0), [0, 1], 0, []),
  (.ireturn, (82, 1), [0], 0, []),
  (.nop, (83, 0), [1], 0, []),
  (.aload_n 0, (83, 1), [], 0, []),
  (.invokevirtual 432, (84, 3), [132, 1, 9, 0, 0, 0, 3], 0, []),
  (.nop, (87, 0), [0, 1], 0, []),
  (.ireturn, (87, 1), [0], 0, []),
  (.nop, (88, 0), [1], 0, []),
  (.aload_n 0, (88, 1), [], 0, []),
  (.invokevirtual 420, (89, 3), [127, 1, 9, 0, 0, 0, 3], 0, []),
  (.nop, (92, 0), [0, 1], 0, []),
  (.ireturn, (92, 1), [0], 0, []),
  (.nop, (93, 0), [1], 0, []),
  (.aload_n 0, (93, 1), [], 0, []),
  (.invokevirtual 435, (94, 3), [134, 1, 9, 0, 0, 0, 5], 0, []),
  (.nop, (97, 0), [0, 1], 0, []),
  (.ireturn, (97, 1), [0], 0, []),
  (.nop, (98, 0), [1], 0, []),
  (.aload_n 0, (98, 1), [], 0, []),
  (.getfield 230, (99, 3), [9, 15, 0], 0, []),
  (.ireturn, (102, 1), [0], 0, []),
  (.nop, (103, 0), [1], 0, []),
  (.aload_n 0, (103, 1), [], 0, []),
  (.getfield 150, (104, 3), [9, 19, 0], 0, []),
  (.ireturn, (107, 1), [0], 0, []),
  (.nop, (108, 0), [1], 0, []),
  (.aload_n 0, (108, 1), [], 0, []),
  (.getfield 227, (109, 3), [9, 0, 0], 0, []),
  (.ireturn, (112, 1), [0], 0, []),
  (.nop, (113, 0), [0, 1], 0, []),
  (.bipush (-102), (113, 2), [], 0, []),
  (.ireturn, (115, 1), [0], 0, [])]
/-- DictProofModel.count (I)I -/
def tb_136 : List Op := [(.aload_n 0, (0, 1), [], 0, []),
  (.iload_n 1, (1, 1), [], 0, []),
  (.invokevirtual 438, (2, 3), [135, 2, 9, 0, 0, 0, 2], 0, []),
  (.nop, (5, 0), [0, 1], 0, []),
  (.ireturn, (5, 1), [0], 0, [])]
/-- DictProofModel.mix (J)V -/
def tb_137 : List Op := [(.aload_n 0, (0, 1), [], 0, []),
  (.ldc2_w 441, (1, 3), [], 31, []),
  (.aload_n 0, (4, 1), [], 0, []),
  (.getfield 443, (5, 3), [9, 62, 2], 0, []),
  (.lmul, (8, 1), [], 0, []),
  (.lload_n 1, (9, 1), [], 0, []),
  (.ladd, (10, 1), [], 0, []),
  (.putfield 443, (11, 3), [9, 62, 2], 0, []),
  (.return_, (14, 1), [], 0, [])]
/-- DictProofModel.mixSlot (I)V -/
def tb_138 : List Op := [(.aload_n 0, (0, 1), [], 0, []),
  (.iload_n 1, (1, 1), [], 0, []),
  (.invokevirtual 364, (2, 3), [66, 2, 9, 0, 0, 0, 3], 0, []),
  (.nop, (5, 0), [1, 2, 3], 0, []),
  (.aload_n 0, (5, 1), [], 0, []),
  (.invokevirtual 295, (6, 3), [79, 1, 9, 0, 0, 0, 3], 0, []),
  (.nop, (9, 0), [1, 2, 3], 0, []),
  (.iconst 0, (9, 1), [], 0, []),
  (.istore_n 2, (10, 1), [], 0, []),
  (.nop, (11, 0), [1, 3], 0, []),
  (.iload_n 2, (11, 1), [], 0, []),
  (.aload_n 0, (12, 1), [], 0, []),
  (.getfield 211, (13, 3), [9, 1, 0], 0, []),
  (.if_icmp .ge 34, (16, 3), [36], 0, []),
  (.nop, (19, 0), [1, 3], 0, []),
  (.iconst 0, (19, 1), [], 0, []),
  (.istore_n 3, (20, 1), [], 0, []),
  (.nop, (21, 0), [1], 0, []),
  (.iload_n 3, (21, 1), [], 0, []),
  (.bipush 7, (22, 2), [], 0, []),
  (.if_icmp .ge 20, (24, 3), [33], 0, []),
  (.nop, (27, 0), [1], 0, []),
  (.aload_n 0, (27, 1), [], 0, []),
  (.aload_n 0, (28, 1), [], 0, []),
  (.iload_n 2, (29, 1), [], 0, []),
  (.iload_n 3, (30, 1), [], 0, []),
  (.invokevirtual 373, (31, 3), [112, 3, 9, 0, 0, 0, 4], 0, []),
  (.nop, (34, 0), [1], 0, []),
  (.i2l, (34, 1), [], 0, []),
  (.invokevirtual 446, (35, 3), [137, 2, 9, 0, 0, 0, 3], 0, []),
  (.nop, (38, 0), [1], 0, []),
  (.iinc 3 1, (38, 3), [], 0, []),
  (.goto (-20), (41, 3), [17], 0, []),
  (.nop, (44, 0), [1, 3], 0, []),
  (.iinc 2 1, (44, 3), [], 0, []),
  (.goto (-36), (47, 3), [9], 0, []),
  (.nop, (50, 0), [0, 1, 2, 3], 0, []),
  (.return_, (50, 1), [], 0, [])]
/-- DictProofModel.digest ()J -/
def tb_139 : List Op := [(.aload_n 0, (0, 1), [], 0, []),
  (.ldc2_w 450, (1, 3), [], 1367, []),
  (.putfield 443, (4, 3), [9, 62, 2], 0, []),
  (.iconst 0, (7, 1), [], 0, []),
  (.istore_n 1, (8, 1), [], 0, []),
  (.nop, (9, 0), [2], 0, []),
  (.iload_n 1, (9, 1), [], 0, []),
  (.aload_n 0, (10, 1), [], 0, []),
  (.getfield 211, (11, 3), [9, 1, 0], 0, []),
  (.if_icmp .ge 33, (14, 3), [32], 0, []),
  (.nop, (17, 0), [2], 0, []),
  (.iconst 0, (17, 1), [], 0, []),
  (.istore_n 2, (18, 1), [], 0, []),
  (.nop, (19, 0), [], 0, []),
  (.iload_n 2, (19, 1), [], 0, []),
  (.iconst 3, (20, 1), [], 0, []),
  (.if_icmp .ge 20, (21, 3), [29], 0, []),
  (.nop, (24, 0), [], 0, []),
  (.aload_n 0, (24, 1), [], 0, []),
  (.aload_n 0, (25, 1), [], 0, []),
  (.iload_n 1, (26, 1), [], 0, []),
  (.iload_n 2, (27, 1), [], 0, []),
  (.invokevirtual 292, (28, 3), [90, 3, 9, 0, 0, 0, 3], 0, []),
  (.nop, (31, 0), [], 0, []),
  (.i2l, (31, 1), [], 0, []),
  (.invokevirtual 446, (32, 3), [137, 2, 9, 0, 0, 0, 3], 0, []),
  (.nop, (35, 0), [], 0, []),
  (.iinc 2 1, (35, 3), [], 0, []),
  (.goto (-19), (38, 3), [13], 0, []),
  (.nop, (41, 0), [2], 0, []),
  (.iinc 1 1, (41, 3), [], 0, []),
  (.goto (-35), (44, 3), [5], 0, []),
  (.nop, (47, 0), [1, 2], 0, []),
  (.iconst 0, (47, 1), [], 0, []),
  (.istore_n 1, (48, 1), [], 0, []),
  (.nop, (49, 0), [2], 0, []),
  (.iload_n 1, (49, 1), [], 0, []),
  (.aload_n 0, (50, 1), [], 0, []),
  (.getfield 217, (51, 3), [9, 4, 0], 0, []),
  (.if_icmp .ge 34, (54, 3), [62], 0, []),
  (.nop, (57, 0), [2], 0, []),
  (.iconst 0, (57, 1), [], 0, []),
  (.istore_n 2, (58, 1), [], 0, []),
  (.nop, (59, 0), [], 0, []),
  (.iload_n 2, (59, 1), [], 0, []),
  (.bipush 8, (60, 2), [], 0, []),
  (.if_icmp .ge 20, (62, 3), [59], 0, []),
  (.nop, (65, 0), [], 0, []),
  (.aload_n 0, (65, 1), [], 0, []),
  (.aload_n 0, (66, 1), [], 0, []),
  (.iload_n 1, (67, 1), [], 0, []),
  (.iload_n 2, (68, 1), [], 0, []),
  (.invokevirtual 313, (69, 3), [94, 3, 9, 0, 0, 0, 3], 0, []),
  (.nop, (72, 0), [], 0, []),
  (.i2l, (72, 1), [], 0, []),
  (.invokevirtual 446, (73, 3), [137, 2, 9, 0, 0, 0, 3], 0, []),
  (.nop, (76, 0), [], 0, []),
  (.iinc 2 1, (76, 3), [], 0, []),
  (.goto (-20), (79, 3), [43], 0, []),
  (.nop, (82, 0), [2], 0, []),
  (.iinc 1 1, (82, 3), [], 0, []),
  (.goto (-36), (85, 3), [35], 0, []),
  (.nop, (88, 0), [1, 2], 0, []),
  (.iconst 0, (88, 1), [], 0, []),
  (.istore_n 1, (89, 1), [], 0, []),
  (.nop, (90, 0), [2], 0, []),
  (.iload_n 1, (90, 1), [], 0, []),
  (.iconst 4, (91, 1), [], 0, []),
  (.if_icmp .ge 23, (92, 3), [82], 0, []),
  (.nop, (95, 0), [2], 0, []),
  (.aload_n 0, (95, 1), [], 0, []),
  (.getfield 43, (96, 3), [9, 14, 4], 0, []),
  (.iload_n 1, (99, 1), [], 0, []),
  (.iaload, (100, 1), [], 0, []),
  (.ifCond .le 8, (101, 3), [79], 0, []),
  (.nop, (104, 0), [2], 0, []),
  (.aload_n 0, (104, 1), [], 0, []),
  (.iload_n 1, (105, 1), [], 0, []),
  (.invokevirtual 452, (106, 3), [138, 2, 9, 0, 0, 0, 4], 0, []),
  (.nop, (109, 0), [2], 0, []),
  (.iinc 1 1, (109, 3), [], 0, []),
  (.goto (-22), (112, 3), [65], 0, []),
  (.nop, (115, 0), [1, 2], 0, []),
  (.iconst 0, (115, 1), [], 0, []),
  (.istore_n 1, (116, 1), [], 0, []),
  (.nop, (117, 0), [2], 0, []),
  (.iload_n 1, (117, 1), [], 0, []),
  (.aload_n 0, (118, 1), [], 0, []),
  (.getfield 150, (119, 3), [9, 19, 0], 0, []),
  (.if_icmp .ge 20, (122, 3), [101], 0, []),
  (.nop, (125, 0), [2], 0, []),
  (.aload_n 0, (125, 1), [], 0, []),
  (.aload_n 0, (126, 1), [], 0, []),
  (.getfield 55, (127, 3), [9, 20, 4], 0, []),
  (.iload_n 1, (130, 1), [], 0, []),
  (.baload, (131, 1), [], 0, []),
  (.i2l, (132, 1), [], 0, []),
  (.invokevirtual 446, (133, 3), [137, 2, 9, 0, 0, 0, 3], 0, []),
  (.nop, (136, 0), [2], 0, []),
  (.iinc 1 1, (136, 3), [], 0, []),
  (.goto (-22), (139, 3), [85], 0, []),
  (.nop, (142, 0), [1, 2], 0, []),
  (.iconst 0, (142, 1), [], 0, []),
  (.istore_n 1, (143, 1), [], 0, []),
  (.nop, (144, 0), [2], 0, []),
  (.iload_n 1, (144, 1), [], 0, []),
  (.bipush 11, (145, 2), [], 0, []),
  (.if_icmp .ge 19, (147, 3), [119], 0, []),
  (.nop, (150, 0), [2], 0, []),
  (.aload_n 0, (150, 1), [], 0, []),
  (.aload_n 0, (151, 1), [], 0, []),
  (.iload_n 1, (152, 1), [], 0, []),
  (.invokevirtual 438, (153, 3), [135, 2, 9, 0, 0, 0, 2], 0, []),
  (.nop, (156, 0), [2], 0, []),
  (.i2l, (156, 1), [], 0, []),
  (.invokevirtual 446, (157, 3), [137, 2, 9, 0, 0, 0, 3], 0, []),
  (.nop, (160, 0), [2], 0, []),
  (.iinc 1 1, (160, 3), [], 0, []),
  (.goto (-19), (163, 3), [104], 0, []),
  (.nop, (166, 0), [1, 2], 0, []),
  (.aload_n 0, (166, 1), [], 0, []),
  (.getfield 443, (167, 3), [9, 62, 2], 0, []),
  (.lreturn, (170, 1), [], 0, [])]
/-- DictProof$Book.<init> ()V -/
def tb_140 : List Op := [(.aload_n 0, (0, 1), [], 0, []),
  (.invokespecial 3, (1, 3), [0, 0, 0, 0, 0, 9], 0, []),
  (.aload_n 0, (4, 1), [], 0, []),
  (.iconst 0, (5, 1), [], 0, []),
  (.putfield 9, (6, 3), [0, 0, 0], 0, []),
  (.aload_n 0, (9, 1), [], 0, []),
  (.iconst 4, (10, 1), [], 0, []),
  (.newarray .int, (11, 2), [20], 0, []),
  (.putfield 15, (13, 3), [0, 1, 4], 0, []),
  (.aload_n 0, (16, 1), [], 0, []),
  (.iconst 4, (17, 1), [], 0, []),
  (.newarray .int, (18, 2), [20], 0, []),
  (.putfield 19, (20, 3), [0, 2, 4], 0, []),
  (.aload_n 0, (23, 1), [], 0, []),
  (.iconst 4, (24, 1), [], 0, []),
  (.newarray .int, (25, 2), [20], 0, []),
  (.putfield 22, (27, 3), [0, 3, 4], 0, []),
  (.aload_n 0, (30, 1), [], 0, []),
  (.iconst 0, (31, 1), [], 0, []),
  (.putfield 25, (32, 3), [0, 4, 0], 0, []),
  (.aload_n 0, (35, 1), [], 0, []),
  (.bipush 6, (36, 2), [], 0, []),
  (.anewarray 28, (38, 3), [23], 0, []),
  (.putfield 30, (41, 3), [0, 5, 4], 0, []),
  (.aload_n 0, (44, 1), [], 0, []),
  (.iconst 0, (45, 1), [], 0, []),
  (.putfield 34, (46, 3), [0, 6, 0], 0, []),
  (.aload_n 0, (49, 1), [], 0, []),
  (.bipush 6, (50, 2), [], 0, []),
  (.newarray .int, (52, 2), [20], 0, []),
  (.putfield 37, (54, 3), [0, 7, 4], 0, []),
  (.aload_n 0, (57, 1), [], 0, []),
  (.bipush 6, (58, 2), [], 0, []),
  (.newarray .int, (60, 2), [20], 0, []),
  (.putfield 40, (62, 3), [0, 8, 4], 0, []),
  (.aload_n 0, (65, 1), [], 0, []),
  (.iconst 2, (66, 1), [], 0, []),
  (.newarray .int, (67, 2), [20], 0, []),
  (.putfield 43, (69, 3), [0, 9, 4], 0, []),
  (.iconst 0, (72, 1), [], 0, []),
  (.istore_n 1, (73, 1), [], 0, []),
  (.nop, (74, 0), [], 0, []),
  (.iload_n 1, (74, 1), [], 0, []),
  (.bipush 6, (75, 2), [], 0, []),
  (.if_icmp .ge 22, (77, 3), [56], 0, []),
  (.nop, (80, 0), [], 0, []),
  (.aload_n 0, (80, 1), [], 0, []),
  (.getfield 30, (81, 3), [0, 5, 4], 0, []),
  (.iload_n 1, (84, 1), [], 0, []),
  (.new 28, (85, 3), [6, 7], 0, []),
  (.dup, (88, 1), [], 0, []),
  (.invokespecial 46, (89, 3), [201, 1, 6, 6, 35, 1, 1], 0, []),
  (.nop, (92, 0), [], 0, []),
  (.aastore, (92, 1), [], 0, []),
  (.iinc 1 1, (93, 3), [], 0, []),
  (.goto (-22), (96, 3), [41], 0, []),
  (.nop, (99, 0), [0, 1], 0, []),
  (.return_, (99, 1), [], 0, [])]
/-- DictProof$Book.clear ()V -/
def tb_141 : List Op := [(.aload_n 0, (0, 1), [], 0, []),
  (.iconst 0, (1, 1), [], 0, []),
  (.putfield 9, (2, 3), [0, 0, 0], 0, []),
  (.aload_n 0, (5, 1), [], 0, []),
  (.iconst 0, (6, 1), [], 0, []),
  (.putfield 25, (7, 3), [0, 4, 0], 0, []),
  (.return_, (10, 1), [], 0, [])]
/-- DictProof$Book.addClass ()V -/
def tb_142 : List Op := [(.aload_n 0, (0, 1), [], 0, []),
  (.getfield 9, (1, 3), [0, 0, 0], 0, []),
  (.iconst 4, (4, 1), [], 0, []),
  (.if_icmp .ge 23, (5, 3), [17], 0, []),
  (.nop, (8, 0), [], 0, []),
  (.aload_n 0, (8, 1), [], 0, []),
  (.getfield 15, (9, 3), [0, 1, 4], 0, []),
  (.aload_n 0, (12, 1), [], 0, []),
  (.getfield 9, (13, 3), [0, 0, 0], 0, []),
  (.iconst 0, (16, 1), [], 0, []),
  (.iastore, (17, 1), [], 0, []),
  (.aload_n 0, (18, 1), [], 0, []),
  (.dup, (19, 1), [], 0, []),
  (.getfield 9, (20, 3), [0, 0, 0], 0, []),
  (.iconst 1, (23, 1), [], 0, []),
  (.iadd, (24, 1), [], 0, []),
  (.putfield 9, (25, 3), [0, 0, 0], 0, []),
  (.nop, (28, 0), [0], 0, []),
  (.return_, (28, 1), [], 0, [])]
/-- DictProof$Book.addRight (I)V -/
def tb_143 : List Op := [(.aload_n 0, (0, 1), [], 0, []),
  (.getfield 9, (1, 3), [0, 0, 0], 0, []),
  (.ifCond .le 20, (4, 3), [17], 0, []),
  (.nop, (7, 0), [], 0, []),
  (.aload_n 0, (7, 1), [], 0, []),
  (.getfield 15, (8, 3), [0, 1, 4], 0, []),
  (.aload_n 0, (11, 1), [], 0, []),
  (.getfield 9, (12, 3), [0, 0, 0], 0, []),
  (.iconst 1, (15, 1), [], 0, []),
  (.isub, (16, 1), [], 0, []),
  (.dup2, (17, 1), [], 0, []),
  (.iaload, (18, 1), [], 0, []),
  (.iconst 1, (19, 1), [], 0, []),
  (.iload_n 1, (20, 1), [], 0, []),
  (.ishl, (21, 1), [], 0, []),
  (.ior, (22, 1), [], 0, []),
  (.iastore, (23, 1), [], 0, []),
  (.nop, (24, 0), [0, 1], 0, []),
  (.return_, (24, 1), [], 0, [])]
/-- DictProof$Book.addInstance (I)V -/
def tb_144 : List Op := [(.aload_n 0, (0, 1), [], 0, []),
  (.getfield 25, (1, 3), [0, 4, 0], 0, []),
  (.bipush 6, (4, 2), [], 0, []),
  (.if_icmp .ge 26, (6, 3), [19], 0, []),
  (.nop, (9, 0), [], 0, []),
  (.aload_n 0, (9, 1), [], 0, []),
  (.getfield 30, (10, 3), [0, 5, 4], 0, []),
  (.aload_n 0, (13, 1), [], 0, []),
  (.getfield 25, (14, 3), [0, 4, 0], 0, []),
  (.aaload, (17, 1), [], 0, []),
  (.iload_n 1, (18, 1), [], 0, []),
  (.invokevirtual 47, (19, 3), [202, 2, 6, 0, 0, 0, 2], 0, []),
  (.nop, (22, 0), [1], 0, []),
  (.aload_n 0, (22, 1), [], 0, []),
  (.dup, (23, 1), [], 0, []),
  (.getfield 25, (24, 3), [0, 4, 0], 0, []),
  (.iconst 1, (27, 1), [], 0, []),
  (.iadd, (28, 1), [], 0, []),
  (.putfield 25, (29, 3), [0, 4, 0], 0, []),
  (.nop, (32, 0), [0, 1], 0, []),
  (.return_, (32, 1), [], 0, [])]
/-- DictProof$Book.settle (LDictProof$Meeting;)V -/
def tb_145 : List Op := [(.iconst 0, (0, 1), [], 0, []),
  (.istore_n 2, (1, 1), [], 0, []),
  (.nop, (2, 0), [], 0, []),
  (.iload_n 2, (2, 1), [], 0, []),
  (.aload_n 0, (3, 1), [], 0, []),
  (.getfield 9, (4, 3), [0, 0, 0], 0, []),
  (.if_icmp .ge 14, (7, 3), [14], 0, []),
  (.nop, (10, 0), [], 0, []),
  (.aload_n 0, (10, 1), [], 0, []),
  (.iload_n 2, (11, 1), [], 0, []),
  (.invokevirtual 51, (12, 3), [146, 2, 0, 0, 0, 0, 3], 0, []),
  (.nop, (15, 0), [], 0, []),
  (.iinc 2 1, (15, 3), [], 0, []),
  (.goto (-16), (18, 3), [2], 0, []),
  (.nop, (21, 0), [2], 0, []),
  (.aload_n 0, (21, 1), [], 0, []),
  (.iconst 0, (22, 1), [], 0, []),
  (.putfield 34, (23, 3), [0, 6, 0], 0, []),
  (.iconst 0, (26, 1), [], 0, []),
  (.istore_n 2, (27, 1), [], 0, []),
  (.nop, (28, 0), [], 0, []),
  (.iload_n 2, (28, 1), [], 0, []),
  (.aload_n 0, (29, 1), [], 0, []),
  (.getfield 25, (30, 3), [0, 4, 0], 0, []),
  (.if_icmp .ge 14, (33, 3), [32], 0, []),
  (.nop, (36, 0), [], 0, []),
  (.aload_n 0, (36, 1), [], 0, []),
  (.iload_n 2, (37, 1), [], 0, []),
  (.invokevirtual 54, (38, 3), [147, 2, 0, 0, 0, 0, 4], 0, []),
  (.nop, (41, 0), [], 0, []),
  (.iinc 2 1, (41, 3), [], 0, []),
  (.goto (-16), (44, 3), [20], 0, []),
  (.nop, (47, 0), [2], 0, []),
  (.iconst 0, (47, 1), [], 0, []),
  (.istore_n 2, (48, 1), [], 0, []),
  (.nop, (49, 0), [], 0, []),
  (.iload_n 2, (49, 1), [], 0, []),
  (.aload_n 0, (50, 1), [], 0, []),
  (.getfield 25, (51, 3), [0, 4, 0], 0, []),
  (.if_icmp .ge 15, (54, 3), [48], 0, []),
  (.nop, (57, 0), [], 0, []),
  (.aload_n 0, (57, 1), [], 0, []),
  (.iload_n 2, (58, 1), [], 0, []),
  (.aload_n 1, (59, 1), [], 0, []),
  (.invokevirtual 57, (60, 3), [148, 3, 0, 0, 0, 0, 6], 0, []),
  (.nop, (63, 0), [], 0, []),
  (.iinc 2 1, (63, 3), [], 0, []),
  (.goto (-17), (66, 3), [35], 0, []),
  (.nop, (69, 0), [0, 1, 2], 0, []),
  (.return_, (69, 1), [], 0, [])]
/-- DictProof$Book.settleClass (I)V -/
def tb_146 : List Op := [(.aload_n 0, (0, 1), [], 0, []),
  (.getfield 22, (1, 3), [0, 3, 4], 0, []),
  (.iload_n 1, (4, 1), [], 0, []),
  (.iconst 0, (5, 1), [], 0, []),
  (.iastore, (6, 1), [], 0, []),
  (.aload_n 0, (7, 1), [], 0, []),
  (.getfield 19, (8, 3), [0, 2, 4], 0, []),
  (.iload_n 1, (11, 1), [], 0, []),
  (.aload_n 0, (12, 1), [], 0, []),
  (.getfield 15, (13, 3), [0, 1, 4], 0, []),
  (.iload_n 1, (16, 1), [], 0, []),
  (.iaload, (17, 1), [], 0, []),
  (.iastore, (18, 1), [], 0, []),
  (.iconst 0, (19, 1), [], 0, []),
  (.istore_n 2, (20, 1), [], 0, []),
  (.nop, (21, 0), [], 0, []),
  (.iload_n 2, (21, 1), [], 0, []),
  (.iload_n 1, (22, 1), [], 0, []),
  (.if_icmp .ge 38, (23, 3), [45], 0, []),
  (.nop, (26, 0), [], 0, []),
  (.aload_n 0, (26, 1), [], 0, []),
  (.getfield 15, (27, 3), [0, 1, 4], 0, []),
  (.iload_n 1, (30, 1), [], 0, []),
  (.iaload, (31, 1), [], 0, []),
  (.iload_n 2, (32, 1), [], 0, []),
  (.ishr, (33, 1), [], 0, []),
  (.iconst 1, (34, 1), [], 0, []),
  (.iand, (35, 1), [], 0, []),
  (.iconst 1, (36, 1), [], 0, []),
  (.if_icmp .ne 18, (37, 3), [42], 0, []),
  (.nop, (40, 0), [], 0, []),
  (.aload_n 0, (40, 1), [], 0, []),
  (.getfield 19, (41, 3), [0, 2, 4], 0, []),
  (.iload_n 1, (44, 1), [], 0, []),
  (.dup2, (45, 1), [], 0, []),
  (.iaload, (46, 1), [], 0, []),
  (.aload_n 0, (47, 1), [], 0, []),
  (.getfield 19, (48, 3), [0, 2, 4], 0, []),
  (.iload_n 2, (51, 1), [], 0, []),
  (.iaload, (52, 1), [], 0, []),
  (.ior, (53, 1), [], 0, []),
  (.iastore, (54, 1), [], 0, []),
  (.nop, (55, 0), [], 0, []),
  (.iinc 2 1, (55, 3), [], 0, []),
  (.goto (-37), (58, 3), [15], 0, []),
  (.nop, (61, 0), [0, 1, 2], 0, []),
  (.return_, (61, 1), [], 0, [])]
/-- DictProof$Book.settleInstance (I)V -/
def tb_147 : List Op := [(.aload_n 0, (0, 1), [], 0, []),
  (.getfield 30, (1, 3), [0, 5, 4], 0, []),
  (.iload_n 1, (4, 1), [], 0, []),
  (.aaload, (5, 1), [], 0, []),
  (.astore_n 2, (6, 1), [], 0, []),
  (.aload_n 2, (7, 1), [], 0, []),
  (.getfield 61, (8, 3), [6, 2, 4], 0, []),
  (.invokevirtual 65, (11, 3), [212, 1, 7, 0, 0, 0, 4], 0, []),
  (.nop, (14, 0), [3], 0, []),
  (.aload_n 0, (14, 1), [], 0, []),
  (.getfield 22, (15, 3), [0, 3, 4], 0, []),
  (.aload_n 2, (18, 1), [], 0, []),
  (.getfield 70, (19, 3), [6, 1, 0], 0, []),
  (.dup2, (22, 1), [], 0, []),
  (.iaload, (23, 1), [], 0, []),
  (.iconst 1, (24, 1), [], 0, []),
  (.iload_n 1, (25, 1), [], 0, []),
  (.ishl, (26, 1), [], 0, []),
  (.ior, (27, 1), [], 0, []),
  (.iastore, (28, 1), [], 0, []),
  (.aload_n 2, (29, 1), [], 0, []),
  (.invokevirtual 73, (30, 3), [203, 1, 6, 0, 0, 0, 1], 0, []),
  (.nop, (33, 0), [3], 0, []),
  (.ifCond .eq 15, (33, 3), [33], 0, []),
  (.nop, (36, 0), [3], 0, []),
  (.aload_n 0, (36, 1), [], 0, []),
  (.dup, (37, 1), [], 0, []),
  (.getfield 34, (38, 3), [0, 6, 0], 0, []),
  (.iconst 1, (41, 1), [], 0, []),
  (.iload_n 1, (42, 1), [], 0, []),
  (.ishl, (43, 1), [], 0, []),
  (.ior, (44, 1), [], 0, []),
  (.putfield 34, (45, 3), [0, 6, 0], 0, []),
  (.nop, (48, 0), [1, 3], 0, []),
  (.aload_n 2, (48, 1), [], 0, []),
  (.iconst 0, (49, 1), [], 0, []),
  (.putfield 77, (50, 3), [6, 6, 0], 0, []),
  (.iconst 0, (53, 1), [], 0, []),
  (.istore_n 3, (54, 1), [], 0, []),
  (.nop, (55, 0), [1], 0, []),
  (.iload_n 3, (55, 1), [], 0, []),
  (.aload_n 2, (56, 1), [], 0, []),
  (.getfield 80, (57, 3), [6, 3, 0], 0, []),
  (.if_icmp .ge 58, (60, 3), [78], 0, []),
  (.nop, (63, 0), [1], 0, []),
  (.aload_n 2, (63, 1), [], 0, []),
  (.dup, (64, 1), [], 0, []),
  (.getfield 77, (65, 3), [6, 6, 0], 0, []),
  (.aload_n 2, (68, 1), [], 0, []),
  (.getfield 83, (69, 3), [6, 4, 4], 0, []),
  (.iload_n 3, (72, 1), [], 0, []),
  (.iaload, (73, 1), [], 0, []),
  (.aload_n 2, (74, 1), [], 0, []),
  (.getfield 86, (75, 3), [6, 5, 4], 0, []),
  (.iload_n 3, (78, 1), [], 0, []),
  (.iaload, (79, 1), [], 0, []),
  (.invokestatic 89, (80, 3), [29, 2, 0, 0, 0, 1, 2], 0, []),
  (.nop, (83, 0), [1], 0, []),
  (.ior, (83, 1), [], 0, []),
  (.putfield 77, (84, 3), [6, 6, 0], 0, []),
  (.aload_n 2, (87, 1), [], 0, []),
  (.dup, (88, 1), [], 0, []),
  (.getfield 77, (89, 3), [6, 6, 0], 0, []),
  (.aload_n 0, (92, 1), [], 0, []),
  (.aload_n 2, (93, 1), [], 0, []),
  (.getfield 83, (94, 3), [6, 4, 4], 0, []),
  (.iload_n 3, (97, 1), [], 0, []),
  (.iaload, (98, 1), [], 0, []),
  (.aload_n 2, (99, 1), [], 0, []),
  (.getfield 86, (100, 3), [6, 5, 4], 0, []),
  (.iload_n 3, (103, 1), [], 0, []),
  (.iaload, (104, 1), [], 0, []),
  (.invokevirtual 93, (105, 3), [153, 3, 0, 0, 0, 0, 5], 0, []),
  (.nop, (108, 0), [1], 0, []),
  (.ior, (108, 1), [], 0, []),
  (.putfield 77, (109, 3), [6, 6, 0], 0, []),
  (.iinc 3 1, (112, 3), [], 0, []),
  (.goto (-60), (115, 3), [39], 0, []),
  (.nop, (118, 0), [0, 1, 2, 3], 0, []),
  (.return_, (118, 1), [], 0, [])]
/-- DictProof$Book.compareHeads (ILDictProof$Meeting;)V -/
def tb_148 : List Op := [(.aload_n 0, (0, 1), [], 0, []),
  (.getfield 37, (1, 3), [0, 7, 4], 0, []),
  (.iload_n 1, (4, 1), [], 0, []),
  (.iconst 0, (5, 1), [], 0, []),
  (.iastore, (6, 1), [], 0, []),
  (.aload_n 0, (7, 1), [], 0, []),
  (.getfield 40, (8, 3), [0, 8, 4], 0, []),
  (.iload_n 1, (11, 1), [], 0, []),
  (.iconst 0, (12, 1), [], 0, []),
  (.iastore, (13, 1), [], 0, []),
  (.aload_n 0, (14, 1), [], 0, []),
  (.getfield 30, (15, 3), [0, 5, 4], 0, []),
  (.iload_n 1, (18, 1), [], 0, []),
  (.aaload, (19, 1), [], 0, []),
  (.getfield 61, (20, 3), [6, 2, 4], 0, []),
  (.astore_n 3, (23, 1), [], 0, []),
  (.iconst 0, (24, 1), [], 0, []),
  (.istore 4, (25, 2), [], 0, []),
  (.nop, (27, 0), [5], 0, []),
  (.iload 4, (27, 2), [], 0, []),
  (.aload_n 0, (29, 1), [], 0, []),
  (.getfield 25, (30, 3), [0, 4, 0], 0, []),
  (.if_icmp .ge 85, (33, 3), [79], 0, []),
  (.nop, (36, 0), [5], 0, []),
  (.aload_n 0, (36, 1), [], 0, []),
  (.getfield 30, (37, 3), [0, 5, 4], 0, []),
  (.iload 4, (40, 2), [], 0, []),
  (.aaload, (42, 1), [], 0, []),
  (.getfield 61, (43, 3), [6, 2, 4], 0, []),
  (.astore 5, (46, 2), [], 0, []),
  (.aload 5, (48, 2), [], 0, []),
  (.aload_n 3, (50, 1), [], 0, []),
  (.iconst 0, (51, 1), [], 0, []),
  (.aload_n 0, (52, 1), [], 0, []),
  (.getfield 43, (53, 3), [0, 9, 4], 0, []),
  (.invokevirtual 96, (56, 3), [218, 4, 7, 0, 0, 0, 7], 0, []),
  (.nop, (59, 0), [], 0, []),
  (.ifCond .eq 30, (59, 3), [58], 0, []),
  (.nop, (62, 0), [], 0, []),
  (.aload_n 3, (62, 1), [], 0, []),
  (.aload 5, (63, 2), [], 0, []),
  (.iconst 0, (65, 1), [], 0, []),
  (.aload_n 0, (66, 1), [], 0, []),
  (.getfield 43, (67, 3), [0, 9, 4], 0, []),
  (.invokevirtual 96, (70, 3), [218, 4, 7, 0, 0, 0, 7], 0, []),
  (.nop, (73, 0), [], 0, []),
  (.ifCond .ne 16, (73, 3), [58], 0, []),
  (.nop, (76, 0), [], 0, []),
  (.aload_n 0, (76, 1), [], 0, []),
  (.getfield 37, (77, 3), [0, 7, 4], 0, []),
  (.iload_n 1, (80, 1), [], 0, []),
  (.dup2, (81, 1), [], 0, []),
  (.iaload, (82, 1), [], 0, []),
  (.iconst 1, (83, 1), [], 0, []),
  (.iload 4, (84, 2), [], 0, []),
  (.ishl, (86, 1), [], 0, []),
  (.ior, (87, 1), [], 0, []),
  (.iastore, (88, 1), [], 0, []),
  (.nop, (89, 0), [], 0, []),
  (.aload_n 2, (89, 1), [], 0, []),
  (.aload_n 3, (90, 1), [], 0, []),
  (.aload 5, (91, 2), [], 0, []),
  (.invokevirtual 100, (93, 3), [178, 3, 4, 0, 0, 0, 4], 0, []),
  (.nop, (96, 0), [5], 0, []),
  (.ifCond .eq 16, (96, 3), [76], 0, []),
  (.nop, (99, 0), [5], 0, []),
  (.aload_n 0, (99, 1), [], 0, []),
  (.getfield 40, (100, 3), [0, 8, 4], 0, []),
  (.iload_n 1, (103, 1), [], 0, []),
  (.dup2, (104, 1), [], 0, []),
  (.iaload, (105, 1), [], 0, []),
  (.iconst 1, (106, 1), [], 0, []),
  (.iload 4, (107, 2), [], 0, []),
  (.ishl, (109, 1), [], 0, []),
  (.ior, (110, 1), [], 0, []),
  (.iastore, (111, 1), [], 0, []),
  (.nop, (112, 0), [5], 0, []),
  (.iinc 4 1, (112, 3), [], 0, []),
  (.goto (-88), (115, 3), [18], 0, []),
  (.nop, (118, 0), [0, 1, 2, 3, 4, 5], 0, []),
  (.return_, (118, 1), [], 0, [])]
/-- DictProof$Book.isFiner (II)Z -/
def tb_149 : List Op := [(.aload_n 0, (0, 1), [], 0, []),
  (.getfield 37, (1, 3), [0, 7, 4], 0, []),
  (.iload_n 1, (4, 1), [], 0, []),
  (.iaload, (5, 1), [], 0, []),
  (.iload_n 2, (6, 1), [], 0, []),
  (.ishr, (7, 1), [], 0, []),
  (.iconst 1, (8, 1), [], 0, []),
  (.iand, (9, 1), [], 0, []),
  (.iconst 1, (10, 1), [], 0, []),
  (.if_icmp .ne 7, (11, 3), [13], 0, []),
  (.nop, (14, 0), [0, 1, 2], 0, []),
  (.iconst 1, (14, 1), [], 0, []),
  (.goto 4, (15, 3), [15], 0, []),
  (.nop, (18, 0), [0, 1, 2], 0, []),
  (.iconst 0, (18, 1), [], 0, []),
  (.nop, (19, 0), [0, 1, 2], 0, []),
  (.ireturn, (19, 1), [1], 0, [])]
/-- DictProof$Book.canMeet (II)Z -/
def tb_150 : List Op := [(.aload_n 0, (0, 1), [], 0, []),
  (.getfield 40, (1, 3), [0, 8, 4], 0, []),
  (.iload_n 1, (4, 1), [], 0, []),
  (.iaload, (5, 1), [], 0, []),
  (.iload_n 2, (6, 1), [], 0, []),
  (.ishr, (7, 1), [], 0, []),
  (.iconst 1, (8, 1), [], 0, []),
  (.iand, (9, 1), [], 0, []),
  (.iconst 1, (10, 1), [], 0, []),
  (.if_icmp .ne 7, (11, 3), [13], 0, []),
  (.nop, (14, 0), [0, 1, 2], 0, []),
  (.iconst 1, (14, 1), [], 0, []),
  (.goto 4, (15, 3), [15], 0, []),
  (.nop, (18, 0), [0, 1, 2], 0, []),
  (.iconst 0, (18, 1), [], 0, []),
  (.nop, (19, 0), [0, 1, 2], 0, []),
  (.ireturn, (19, 1), [1], 0, [])]
/-- DictProof$Book.mostSpecial (I)I -/
def tb_151 : List Op := [(.iconst 0, (0, 1), [], 0, []),
  (.istore_n 2, (1, 1), [], 0, []),
  (.nop, (2, 0), [3], 0, []),
  (.iload_n 2, (2, 1), [], 0, []),
  (.aload_n 0, (3, 1), [], 0, []),
  (.getfield 25, (4, 3), [0, 4, 0], 0, []),
  (.if_icmp .ge 37, (7, 3), [35], 0, []),
  (.nop, (10, 0), [3], 0, []),
  (.iload_n 1, (10, 1), [], 0, []),
  (.iconst 1, (11, 1), [], 0, []),
  (.iload_n 2, (12, 1), [], 0, []),
  (.ishl, (13, 1), [], 0, []),
  (.iconst (-1), (14, 1), [], 0, []),
  (.ixor, (15, 1), [], 0, []),
  (.iand, (16, 1), [], 0, []),
  (.istore_n 3, (17, 1), [], 0, []),
  (.iload_n 3, (18, 1), [], 0, []),
  (.iload_n 1, (19, 1), [], 0, []),
  (.if_icmp .eq 18, (20, 3), [32], 0, []),
  (.nop, (23, 0), [], 0, []),
  (.iload_n 3, (23, 1), [], 0, []),
  (.aload_n 0, (24, 1), [], 0, []),
  (.getfield 37, (25, 3), [0, 7, 4], 0, []),
  (.iload_n 2, (28, 1), [], 0, []),
  (.iaload, (29, 1), [], 0, []),
  (.iconst (-1), (30, 1), [], 0, []),
  (.ixor, (31, 1), [], 0, []),
  (.iand, (32, 1), [], 0, []),
  (.ifCond .ne 5, (33, 3), [32], 0, []),
  (.nop, (36, 0), [0, 1, 3], 0, []),
  (.iload_n 2, (36, 1), [], 0, []),
  (.ireturn, (37, 1), [0], 0, []),
  (.nop, (38, 0), [3], 0, []),
  (.iinc 2 1, (38, 3), [], 0, []),
  (.goto (-39), (41, 3), [2], 0, []),
  (.nop, (44, 0), [0, 1, 2, 3], 0, []),
  (.iconst (-1), (44, 1), [], 0, []),
  (.ireturn, (45, 1), [0], 0, [])]
/-- DictProof$Book.plainOf (I)I -/
def tb_152 : List Op := [(.iconst 0, (0, 1), [], 0, []),
  (.istore_n 2, (1, 1), [], 0, []),
  (.iconst 0, (2, 1), [], 0, []),
  (.istore_n 3, (3, 1), [], 0, []),
  (.nop, (4, 0), [4], 0, []),
  (.iload_n 3, (4, 1), [], 0, []),
  (.aload_n 0, (5, 1), [], 0, []),
  (.getfield 9, (6, 3), [0, 0, 0], 0, []),
  (.if_icmp .ge 45, (9, 3), [39], 0, []),
  (.nop, (12, 0), [4], 0, []),
  (.iconst 0, (12, 1), [], 0, []),
  (.istore 4, (13, 2), [], 0, []),
  (.nop, (15, 0), [], 0, []),
  (.iload 4, (15, 2), [], 0, []),
  (.iconst 2, (17, 1), [], 0, []),
  (.if_icmp .ge 30, (18, 3), [36], 0, []),
  (.nop, (21, 0), [], 0, []),
  (.iload_n 1, (21, 1), [], 0, []),
  (.iload_n 3, (22, 1), [], 0, []),
  (.iload 4, (23, 2), [], 0, []),
  (.invokestatic 89, (25, 3), [29, 2, 0, 0, 0, 1, 2], 0, []),
  (.nop, (28, 0), [], 0, []),
  (.iand, (28, 1), [], 0, []),
  (.ifCond .eq 13, (29, 3), [33], 0, []),
  (.nop, (32, 0), [], 0, []),
  (.iload_n 2, (32, 1), [], 0, []),
  (.aload_n 0, (33, 1), [], 0, []),
  (.iload_n 3, (34, 1), [], 0, []),
  (.iload 4, (35, 2), [], 0, []),
  (.invokevirtual 93, (37, 3), [153, 3, 0, 0, 0, 0, 5], 0, []),
  (.nop, (40, 0), [2], 0, []),
  (.ior, (40, 1), [], 0, []),
  (.istore_n 2, (41, 1), [], 0, []),
  (.nop, (42, 0), [], 0, []),
  (.iinc 4 1, (42, 3), [], 0, []),
  (.goto (-30), (45, 3), [12], 0, []),
  (.nop, (48, 0), [4], 0, []),
  (.iinc 3 1, (48, 3), [], 0, []),
  (.goto (-47), (51, 3), [4], 0, []),
  (.nop, (54, 0), [0, 3, 4], 0, []),
  (.iload_n 1, (54, 1), [], 0, []),
  (.iload_n 2, (55, 1), [], 0, []),
  (.iconst (-1), (56, 1), [], 0, []),
  (.ixor, (57, 1), [], 0, []),
  (.iand, (58, 1), [], 0, []),
  (.ireturn, (59, 1), [0], 0, [])]
/-- DictProof$Book.needsAbove (II)I -/
def tb_153 : List Op := [(.iconst 0, (0, 1), [], 0, []),
  (.istore_n 3, (1, 1), [], 0, []),
  (.iconst 0, (2, 1), [], 0, []),
  (.istore 4, (3, 2), [], 0, []),
  (.nop, (5, 0), [], 0, []),
  (.iload 4, (5, 2), [], 0, []),
  (.iload_n 1, (7, 1), [], 0, []),
  (.if_icmp .ge 33, (8, 3), [30], 0, []),
  (.nop, (11, 0), [], 0, []),
  (.aload_n 0, (11, 1), [], 0, []),
  (.getfield 19, (12, 3), [0, 2, 4], 0, []),
  (.iload_n 1, (15, 1), [], 0, []),
  (.iaload, (16, 1), [], 0, []),
  (.iload 4, (17, 2), [], 0, []),
  (.ishr, (19, 1), [], 0, []),
  (.iconst 1, (20, 1), [], 0, []),
  (.iand, (21, 1), [], 0, []),
  (.iconst 1, (22, 1), [], 0, []),
  (.if_icmp .ne 12, (23, 3), [27], 0, []),
  (.nop, (26, 0), [], 0, []),
  (.iload_n 3, (26, 1), [], 0, []),
  (.iload 4, (27, 2), [], 0, []),
  (.iload_n 2, (29, 1), [], 0, []),
  (.invokestatic 89, (30, 3), [29, 2, 0, 0, 0, 1, 2], 0, []),
  (.nop, (33, 0), [3], 0, []),
  (.ior, (33, 1), [], 0, []),
  (.istore_n 3, (34, 1), [], 0, []),
  (.nop, (35, 0), [], 0, []),
  (.iinc 4 1, (35, 3), [], 0, []),
  (.goto (-33), (38, 3), [4], 0, []),
  (.nop, (41, 0), [0, 1, 2, 4], 0, []),
  (.iload_n 3, (41, 1), [], 0, []),
  (.ireturn, (42, 1), [0], 0, [])]
/-- DictProof$Desk.<init> ()V -/
def tb_154 : List Op := [(.aload_n 0, (0, 1), [], 0, []),
  (.invokespecial 3, (1, 3), [0, 0, 0, 0, 0, 9], 0, []),
  (.aload_n 0, (4, 1), [], 0, []),
  (.bipush 6, (5, 2), [], 0, []),
  (.newarray .int, (7, 2), [20], 0, []),
  (.putfield 9, (9, 3), [1, 0, 4], 0, []),
  (.aload_n 0, (12, 1), [], 0, []),
  (.iconst 4, (13, 1), [], 0, []),
  (.anewarray 15, (14, 3), [24], 0, []),
  (.putfield 17, (17, 3), [1, 1, 4], 0, []),
  (.aload_n 0, (20, 1), [], 0, []),
  (.iconst 0, (21, 1), [], 0, []),
  (.putfield 21, (22, 3), [1, 2, 0], 0, []),
  (.aload_n 0, (25, 1), [], 0, []),
  (.bipush 6, (26, 2), [], 0, []),
  (.newarray .int, (28, 2), [20], 0, []),
  (.putfield 25, (30, 3), [1, 3, 4], 0, []),
  (.aload_n 0, (33, 1), [], 0, []),
  (.bipush 6, (34, 2), [], 0, []),
  (.newarray .int, (36, 2), [20], 0, []),
  (.putfield 28, (38, 3), [1, 4, 4], 0, []),
  (.iconst 0, (41, 1), [], 0, []),
  (.istore_n 1, (42, 1), [], 0, []),
  (.nop, (43, 0), [], 0, []),
  (.iload_n 1, (43, 1), [], 0, []),
  (.iconst 4, (44, 1), [], 0, []),
  (.if_icmp .ge 22, (45, 3), [38], 0, []),
  (.nop, (48, 0), [], 0, []),
  (.aload_n 0, (48, 1), [], 0, []),
  (.getfield 17, (49, 3), [1, 1, 4], 0, []),
  (.iload_n 1, (52, 1), [], 0, []),
  (.new 15, (53, 3), [7, 4], 0, []),
  (.dup, (56, 1), [], 0, []),
  (.invokespecial 31, (57, 3), [206, 1, 7, 3, 27, 1, 1], 0, []),
  (.nop, (60, 0), [], 0, []),
  (.aastore, (60, 1), [], 0, []),
  (.iinc 1 1, (61, 3), [], 0, []),
  (.goto (-21), (64, 3), [23], 0, []),
  (.nop, (67, 0), [0, 1], 0, []),
  (.return_, (67, 1), [], 0, [])]
/-- DictProof$Desk.startWith (LDictProof$Book;)V -/
def tb_155 : List Op := [(.iconst 0, (0, 1), [], 0, []),
  (.istore_n 2, (1, 1), [], 0, []),
  (.nop, (2, 0), [], 0, []),
  (.iload_n 2, (2, 1), [], 0, []),
  (.aload_n 1, (3, 1), [], 0, []),
  (.getfield 32, (4, 3), [0, 4, 0], 0, []),
  (.if_icmp .ge 24, (7, 3), [19], 0, []),
  (.nop, (10, 0), [], 0, []),
  (.aload_n 0, (10, 1), [], 0, []),
  (.getfield 9, (11, 3), [1, 0, 4], 0, []),
  (.iload_n 2, (14, 1), [], 0, []),
  (.aload_n 1, (15, 1), [], 0, []),
  (.getfield 37, (16, 3), [0, 5, 4], 0, []),
  (.iload_n 2, (19, 1), [], 0, []),
  (.aaload, (20, 1), [], 0, []),
  (.getfield 41, (21, 3), [6, 0, 0], 0, []),
  (.iastore, (24, 1), [], 0, []),
  (.iinc 2 1, (25, 3), [], 0, []),
  (.goto (-26), (28, 3), [2], 0, []),
  (.nop, (31, 0), [1, 2], 0, []),
  (.iconst 0, (31, 1), [], 0, []),
  (.istore_n 2, (32, 1), [], 0, []),
  (.nop, (33, 0), [1], 0, []),
  (.iload_n 2, (33, 1), [], 0, []),
  (.iconst 4, (34, 1), [], 0, []),
  (.if_icmp .ge 18, (35, 3), [35], 0, []),
  (.nop, (38, 0), [1], 0, []),
  (.aload_n 0, (38, 1), [], 0, []),
  (.getfield 17, (39, 3), [1, 1, 4], 0, []),
  (.iload_n 2, (42, 1), [], 0, []),
  (.aaload, (43, 1), [], 0, []),
  (.invokevirtual 46, (44, 3), [210, 1, 7, 0, 0, 0, 1], 0, []),
  (.nop, (47, 0), [1], 0, []),
  (.iinc 2 1, (47, 3), [], 0, []),
  (.goto (-17), (50, 3), [22], 0, []),
  (.nop, (53, 0), [1, 2], 0, []),
  (.aload_n 0, (53, 1), [], 0, []),
  (.iconst 0, (54, 1), [], 0, []),
  (.putfield 21, (55, 3), [1, 2, 0], 0, []),
  (.return_, (58, 1), [], 0, [])]
/-- DictProof$Desk.copyFrom (LDictProof$Desk;)V -/
def tb_156 : List Op := [(.iconst 0, (0, 1), [], 0, []),
  (.istore_n 2, (1, 1), [], 0, []),
  (.nop, (2, 0), [], 0, []),
  (.iload_n 2, (2, 1), [], 0, []),
  (.bipush 6, (3, 2), [], 0, []),
  (.if_icmp .ge 21, (5, 3), [17], 0, []),
  (.nop, (8, 0), [], 0, []),
  (.aload_n 0, (8, 1), [], 0, []),
  (.getfield 9, (9, 3), [1, 0, 4], 0, []),
  (.iload_n 2, (12, 1), [], 0, []),
  (.aload_n 1, (13, 1), [], 0, []),
  (.getfield 9, (14, 3), [1, 0, 4], 0, []),
  (.iload_n 2, (17, 1), [], 0, []),
  (.iaload, (18, 1), [], 0, []),
  (.iastore, (19, 1), [], 0, []),
  (.iinc 2 1, (20, 3), [], 0, []),
  (.goto (-21), (23, 3), [2], 0, []),
  (.nop, (26, 0), [2], 0, []),
  (.iconst 0, (26, 1), [], 0, []),
  (.istore_n 2, (27, 1), [], 0, []),
  (.nop, (28, 0), [], 0, []),
  (.iload_n 2, (28, 1), [], 0, []),
  (.iconst 4, (29, 1), [], 0, []),
  (.if_icmp .ge 24, (30, 3), [37], 0, []),
  (.nop, (33, 0), [], 0, []),
  (.aload_n 0, (33, 1), [], 0, []),
  (.getfield 17, (34, 3), [1, 1, 4], 0, []),
  (.iload_n 2, (37, 1), [], 0, []),
  (.aaload, (38, 1), [], 0, []),
  (.aload_n 1, (39, 1), [], 0, []),
  (.getfield 17, (40, 3), [1, 1, 4], 0, []),
  (.iload_n 2, (43, 1), [], 0, []),
  (.aaload, (44, 1), [], 0, []),
  (.invokevirtual 49, (45, 3), [220, 2, 7, 0, 0, 0, 3], 0, []),
  (.nop, (48, 0), [], 0, []),
  (.iinc 2 1, (48, 3), [], 0, []),
  (.goto (-23), (51, 3), [20], 0, []),
  (.nop, (54, 0), [2], 0, []),
  (.aload_n 0, (54, 1), [], 0, []),
  (.aload_n 1, (55, 1), [], 0, []),
  (.getfield 21, (56, 3), [1, 2, 0], 0, []),
  (.putfield 21, (59, 3), [1, 2, 0], 0, []),
  (.iconst 0, (62, 1), [], 0, []),
  (.istore_n 2, (63, 1), [], 0, []),
  (.nop, (64, 0), [], 0, []),
  (.iload_n 2, (64, 1), [], 0, []),
  (.bipush 6, (65, 2), [], 0, []),
  (.if_icmp .ge 33, (67, 3), [67], 0, []),
  (.nop, (70, 0), [], 0, []),
  (.aload_n 0, (70, 1), [], 0, []),
  (.getfield 25, (71, 3), [1, 3, 4], 0, []),
  (.iload_n 2, (74, 1), [], 0, []),
  (.aload_n 1, (75, 1), [], 0, []),
  (.getfield 25, (76, 3), [1, 3, 4], 0, []),
  (.iload_n 2, (79, 1), [], 0, []),
  (.iaload, (80, 1), [], 0, []),
  (.iastore, (81, 1), [], 0, []),
  (.aload_n 0, (82, 1), [], 0, []),
  (.getfield 28, (83, 3), [1, 4, 4], 0, []),
  (.iload_n 2, (86, 1), [], 0, []),
  (.aload_n 1, (87, 1), [], 0, []),
  (.getfield 28, (88, 3), [1, 4, 4], 0, []),
  (.iload_n 2, (91, 1), [], 0, []),
  (.iaload, (92, 1), [], 0, []),
  (.iastore, (93, 1), [], 0, []),
  (.iinc 2 1, (94, 3), [], 0, []),
  (.goto (-33), (97, 3), [44], 0, []),
  (.nop, (100, 0), [0, 1, 2], 0, []),
  (.return_, (100, 1), [], 0, [])]
/-- DictProof$Desk.keepSeen (II)V -/
def tb_157 : List Op := [(.aload_n 0, (0, 1), [], 0, []),
  (.getfield 21, (1, 3), [1, 2, 0], 0, []),
  (.bipush 6, (4, 2), [], 0, []),
  (.if_icmp .ge 33, (6, 3), [23], 0, []),
  (.nop, (9, 0), [], 0, []),
  (.aload_n 0, (9, 1), [], 0, []),
  (.getfield 25, (10, 3), [1, 3, 4], 0, []),
  (.aload_n 0, (13, 1), [], 0, []),
  (.getfield 21, (14, 3), [1, 2, 0], 0, []),
  (.iload_n 1, (17, 1), [], 0, []),
  (.iastore, (18, 1), [], 0, []),
  (.aload_n 0, (19, 1), [], 0, []),
  (.getfield 28, (20, 3), [1, 4, 4], 0, []),
  (.aload_n 0, (23, 1), [], 0, []),
  (.getfield 21, (24, 3), [1, 2, 0], 0, []),
  (.iload_n 2, (27, 1), [], 0, []),
  (.iastore, (28, 1), [], 0, []),
  (.aload_n 0, (29, 1), [], 0, []),
  (.dup, (30, 1), [], 0, []),
  (.getfield 21, (31, 3), [1, 2, 0], 0, []),
  (.iconst 1, (34, 1), [], 0, []),
  (.iadd, (35, 1), [], 0, []),
  (.putfield 21, (36, 3), [1, 2, 0], 0, []),
  (.nop, (39, 0), [0, 1, 2], 0, []),
  (.return_, (39, 1), [], 0, [])]
/-- DictProof$Desk.sortsOf (I)I -/
def tb_158 : List Op := [(.bipush 31, (0, 2), [], 0, []),
  (.istore_n 2, (2, 1), [], 0, []),
  (.iconst 0, (3, 1), [], 0, []),
  (.istore_n 3, (4, 1), [], 0, []),
  (.nop, (5, 0), [], 0, []),
  (.iload_n 3, (5, 1), [], 0, []),
  (.aload_n 0, (6, 1), [], 0, []),
  (.getfield 21, (7, 3), [1, 2, 0], 0, []),
  (.if_icmp .ge 28, (10, 3), [27], 0, []),
  (.nop, (13, 0), [], 0, []),
  (.aload_n 0, (13, 1), [], 0, []),
  (.getfield 25, (14, 3), [1, 3, 4], 0, []),
  (.iload_n 3, (17, 1), [], 0, []),
  (.iaload, (18, 1), [], 0, []),
  (.iload_n 1, (19, 1), [], 0, []),
  (.if_icmp .ne 12, (20, 3), [24], 0, []),
  (.nop, (23, 0), [], 0, []),
  (.iload_n 2, (23, 1), [], 0, []),
  (.aload_n 0, (24, 1), [], 0, []),
  (.getfield 28, (25, 3), [1, 4, 4], 0, []),
  (.iload_n 3, (28, 1), [], 0, []),
  (.iaload, (29, 1), [], 0, []),
  (.iand, (30, 1), [], 0, []),
  (.istore_n 2, (31, 1), [], 0, []),
  (.nop, (32, 0), [], 0, []),
  (.iinc 3 1, (32, 3), [], 0, []),
  (.goto (-30), (35, 3), [4], 0, []),
  (.nop, (38, 0), [0, 1, 3], 0, []),
  (.iload_n 2, (38, 1), [], 0, []),
  (.ireturn, (39, 1), [0], 0, [])]
/-- DictProof$Desk.filledSlots ()I -/
def tb_159 : List Op := [(.iconst 0, (0, 1), [], 0, []),
  (.istore_n 1, (1, 1), [], 0, []),
  (.iconst 0, (2, 1), [], 0, []),
  (.istore_n 2, (3, 1), [], 0, []),
  (.nop, (4, 0), [], 0, []),
  (.iload_n 2, (4, 1), [], 0, []),
  (.iconst 4, (5, 1), [], 0, []),
  (.if_icmp .ge 32, (6, 3), [28], 0, []),
  (.nop, (9, 0), [], 0, []),
  (.iload_n 1, (9, 1), [], 0, []),
  (.aload_n 0, (10, 1), [], 0, []),
  (.getfield 17, (11, 3), [1, 1, 4], 0, []),
  (.iload_n 2, (14, 1), [], 0, []),
  (.aaload, (15, 1), [], 0, []),
  (.getfield 53, (16, 3), [7, 3, 0], 0, []),
  (.ifCond .le 7, (19, 3), [19], 0, []),
  (.nop, (22, 0), [1], 0, []),
  (.iconst 1, (22, 1), [], 0, []),
  (.goto 4, (23, 3), [21], 0, []),
  (.nop, (26, 0), [1], 0, []),
  (.iconst 0, (26, 1), [], 0, []),
  (.nop, (27, 0), [1], 0, []),
  (.invokestatic 56, (27, 3), [19, 1, 0, 0, 0, 1, 1], 0, []),
  (.nop, (30, 0), [1], 0, []),
  (.iadd, (30, 1), [], 0, []),
  (.istore_n 1, (31, 1), [], 0, []),
  (.iinc 2 1, (32, 3), [], 0, []),
  (.goto (-31), (35, 3), [4], 0, []),
  (.nop, (38, 0), [0, 2], 0, []),
  (.iload_n 1, (38, 1), [], 0, []),
  (.ireturn, (39, 1), [0], 0, [])]
/-- DictProof$Desk.differentTypes ()I -/
def tb_160 : List Op := [(.iconst 0, (0, 1), [], 0, []),
  (.istore_n 1, (1, 1), [], 0, []),
  (.iconst 0, (2, 1), [], 0, []),
  (.istore_n 2, (3, 1), [], 0, []),
  (.nop, (4, 0), [], 0, []),
  (.iload_n 2, (4, 1), [], 0, []),
  (.iconst 4, (5, 1), [], 0, []),
  (.if_icmp .ge 40, (6, 3), [34], 0, []),
  (.nop, (9, 0), [], 0, []),
  (.iload_n 1, (9, 1), [], 0, []),
  (.aload_n 0, (10, 1), [], 0, []),
  (.getfield 17, (11, 3), [1, 1, 4], 0, []),
  (.iload_n 2, (14, 1), [], 0, []),
  (.aaload, (15, 1), [], 0, []),
  (.getfield 53, (16, 3), [7, 3, 0], 0, []),
  (.ifCond .le 15, (19, 3), [25], 0, []),
  (.nop, (22, 0), [1], 0, []),
  (.aload_n 0, (22, 1), [], 0, []),
  (.iload_n 2, (23, 1), [], 0, []),
  (.invokevirtual 60, (24, 3), [161, 2, 1, 0, 0, 0, 3], 0, []),
  (.nop, (27, 0), [1], 0, []),
  (.ifCond .ne 7, (27, 3), [25], 0, []),
  (.nop, (30, 0), [1], 0, []),
  (.iconst 1, (30, 1), [], 0, []),
  (.goto 4, (31, 3), [27], 0, []),
  (.nop, (34, 0), [1], 0, []),
  (.iconst 0, (34, 1), [], 0, []),
  (.nop, (35, 0), [1], 0, []),
  (.invokestatic 56, (35, 3), [19, 1, 0, 0, 0, 1, 1], 0, []),
  (.nop, (38, 0), [1], 0, []),
  (.iadd, (38, 1), [], 0, []),
  (.istore_n 1, (39, 1), [], 0, []),
  (.iinc 2 1, (40, 3), [], 0, []),
  (.goto (-39), (43, 3), [4], 0, []),
  (.nop, (46, 0), [0, 2], 0, []),
  (.iload_n 1, (46, 1), [], 0, []),
  (.ireturn, (47, 1), [0], 0, [])]
/-- DictProof$Desk.isEarlier (I)Z -/
def tb_161 : List Op := [(.iconst 0, (0, 1), [], 0, []),
  (.istore_n 2, (1, 1), [], 0, []),
  (.nop, (2, 0), [], 0, []),
  (.iload_n 2, (2, 1), [], 0, []),
  (.iload_n 1, (3, 1), [], 0, []),
  (.if_icmp .ge 29, (4, 3), [24], 0, []),
  (.nop, (7, 0), [], 0, []),
  (.aload_n 0, (7, 1), [], 0, []),
  (.getfield 17, (8, 3), [1, 1, 4], 0, []),
  (.iload_n 2, (11, 1), [], 0, []),
  (.aaload, (12, 1), [], 0, []),
  (.aload_n 0, (13, 1), [], 0, []),
  (.getfield 17, (14, 3), [1, 1, 4], 0, []),
  (.iload_n 1, (17, 1), [], 0, []),
  (.aaload, (18, 1), [], 0, []),
  (.invokevirtual 64, (19, 3), [219, 2, 7, 0, 0, 0, 3], 0, []),
  (.nop, (22, 0), [], 0, []),
  (.ifCond .eq 5, (22, 3), [21], 0, []),
  (.nop, (25, 0), [0, 1, 2], 0, []),
  (.iconst 1, (25, 1), [], 0, []),
  (.ireturn, (26, 1), [1], 0, []),
  (.nop, (27, 0), [], 0, []),
  (.iinc 2 1, (27, 3), [], 0, []),
  (.goto (-28), (30, 3), [2], 0, []),
  (.nop, (33, 0), [0, 1, 2], 0, []),
  (.iconst 0, (33, 1), [], 0, []),
  (.ireturn, (34, 1), [1], 0, [])]
/-- DictProof$Finder.<init> ()V -/
def tb_162 : List Op := [(.aload_n 0, (0, 1), [], 0, []),
  (.invokespecial 3, (1, 3), [0, 0, 0, 0, 0, 9], 0, []),
  (.aload_n 0, (4, 1), [], 0, []),
  (.bipush 36, (5, 2), [], 0, []),
  (.anewarray 9, (7, 3), [25], 0, []),
  (.putfield 11, (10, 3), [2, 0, 4], 0, []),
  (.aload_n 0, (13, 1), [], 0, []),
  (.iconst 5, (14, 1), [], 0, []),
  (.newarray .int, (15, 2), [20], 0, []),
  (.putfield 17, (17, 3), [2, 1, 4], 0, []),
  (.aload_n 0, (20, 1), [], 0, []),
  (.bipush 6, (21, 2), [], 0, []),
  (.iconst 2, (23, 1), [], 0, []),
  (.multianewarray 21 2, (24, 4), [], 0, []),
  (.putfield 23, (28, 3), [2, 2, 4], 0, []),
  (.aload_n 0, (31, 1), [], 0, []),
  (.aconst_null, (32, 1), [], 0, []),
  (.putfield 26, (33, 3), [2, 3, 3], 0, []),
  (.aload_n 0, (36, 1), [], 0, []),
  (.aconst_null, (37, 1), [], 0, []),
  (.putfield 30, (38, 3), [2, 4, 3], 0, []),
  (.iconst 0, (41, 1), [], 0, []),
  (.istore_n 1, (42, 1), [], 0, []),
  (.nop, (43, 0), [], 0, []),
  (.iload_n 1, (43, 1), [], 0, []),
  (.bipush 36, (44, 2), [], 0, []),
  (.if_icmp .ge 22, (46, 3), [38], 0, []),
  (.nop, (49, 0), [], 0, []),
  (.aload_n 0, (49, 1), [], 0, []),
  (.getfield 11, (50, 3), [2, 0, 4], 0, []),
  (.iload_n 1, (53, 1), [], 0, []),
  (.new 9, (54, 3), [3, 9], 0, []),
  (.dup, (57, 1), [], 0, []),
  (.invokespecial 34, (58, 3), [171, 1, 3, 1, 2, 1, 1], 0, []),
  (.nop, (61, 0), [], 0, []),
  (.aastore, (61, 1), [], 0, []),
  (.iinc 1 1, (62, 3), [], 0, []),
  (.goto (-22), (65, 3), [23], 0, []),
  (.nop, (68, 0), [0, 1], 0, []),
  (.return_, (68, 1), [], 0, [])]
/-- DictProof$Finder.work (LDictProof$Book;[ILDictProof$Shape;)V -/
def tb_163 : List Op := [(.aload_n 0, (0, 1), [], 0, []),
  (.aload_n 1, (1, 1), [], 0, []),
  (.putfield 26, (2, 3), [2, 3, 3], 0, []),
  (.aload_n 0, (5, 1), [], 0, []),
  (.aload_n 3, (6, 1), [], 0, []),
  (.putfield 30, (7, 3), [2, 4, 3], 0, []),
  (.aload_n 0, (10, 1), [], 0, []),
  (.aload_n 2, (11, 1), [], 0, []),
  (.invokevirtual 35, (12, 3), [166, 2, 2, 0, 0, 0, 4], 0, []),
  (.nop, (15, 0), [2, 4, 5, 6], 0, []),
  (.aload_n 3, (15, 1), [], 0, []),
  (.getfield 39, (16, 3), [7, 3, 0], 0, []),
  (.iconst 1, (19, 1), [], 0, []),
  (.isub, (20, 1), [], 0, []),
  (.istore 4, (21, 2), [], 0, []),
  (.nop, (23, 0), [2, 3, 5, 6], 0, []),
  (.iload 4, (23, 2), [], 0, []),
  (.ifCond .lt 53, (25, 3), [48], 0, []),
  (.nop, (28, 0), [2, 3, 5, 6], 0, []),
  (.aload_n 0, (28, 1), [], 0, []),
  (.iload 4, (29, 2), [], 0, []),
  (.invokevirtual 45, (31, 3), [167, 2, 2, 0, 0, 0, 4], 0, []),
  (.nop, (34, 0), [2, 3, 5, 6], 0, []),
  (.istore 5, (34, 2), [], 0, []),
  (.iconst 0, (36, 1), [], 0, []),
  (.istore 6, (37, 2), [], 0, []),
  (.nop, (39, 0), [2, 3], 0, []),
  (.iload 6, (39, 2), [], 0, []),
  (.aload_n 1, (41, 1), [], 0, []),
  (.getfield 49, (42, 3), [0, 0, 0], 0, []),
  (.if_icmp .ge 27, (45, 3), [45], 0, []),
  (.nop, (48, 0), [2, 3], 0, []),
  (.aload_n 0, (48, 1), [], 0, []),
  (.iload 6, (49, 2), [], 0, []),
  (.iload 4, (51, 2), [], 0, []),
  (.iload 5, (53, 2), [], 0, []),
  (.aload_n 1, (55, 1), [], 0, []),
  (.getfield 54, (56, 3), [0, 3, 4], 0, []),
  (.iload 6, (59, 2), [], 0, []),
  (.iaload, (61, 1), [], 0, []),
  (.iand, (62, 1), [], 0, []),
  (.invokevirtual 57, (63, 3), [168, 4, 2, 0, 0, 0, 9], 0, []),
  (.nop, (66, 0), [2, 3], 0, []),
  (.iinc 6 1, (66, 3), [], 0, []),
  (.goto (-30), (69, 3), [26], 0, []),
  (.nop, (72, 0), [2, 3, 5, 6], 0, []),
  (.iinc 4 (-1), (72, 3), [], 0, []),
  (.goto (-52), (75, 3), [15], 0, []),
  (.nop, (78, 0), [0, 1, 2, 3, 4, 5, 6], 0, []),
  (.return_, (78, 1), [], 0, [])]
/-- DictProof$Finder.rootOf (I)LDictProof$Goal; -/
def tb_164 : List Op := [(.aload_n 0, (0, 1), [], 0, []),
  (.iload_n 1, (1, 1), [], 0, []),
  (.iconst 0, (2, 1), [], 0, []),
  (.invokevirtual 61, (3, 3), [165, 3, 2, 0, 0, 0, 4], 0, []),
  (.nop, (6, 0), [0, 1], 0, []),
  (.areturn, (6, 1), [], 0, [])]
/-- DictProof$Finder.goalAt (II)LDictProof$Goal; -/
def tb_165 : List Op := [(.iload_n 1, (0, 1), [], 0, []),
  (.ifCond .lt 22, (1, 3), [16], 0, []),
  (.nop, (4, 0), [3], 0, []),
  (.iload_n 1, (4, 1), [], 0, []),
  (.iconst 4, (5, 1), [], 0, []),
  (.if_icmp .ge 17, (6, 3), [16], 0, []),
  (.nop, (9, 0), [3], 0, []),
  (.iload_n 2, (9, 1), [], 0, []),
  (.ifCond .lt 13, (10, 3), [16], 0, []),
  (.nop, (13, 0), [3], 0, []),
  (.iload_n 2, (13, 1), [], 0, []),
  (.bipush 9, (14, 2), [], 0, []),
  (.if_icmp .ge 7, (16, 3), [16], 0, []),
  (.nop, (19, 0), [3], 0, []),
  (.iconst 1, (19, 1), [], 0, []),
  (.goto 4, (20, 3), [18], 0, []),
  (.nop, (23, 0), [3], 0, []),
  (.iconst 0, (23, 1), [], 0, []),
  (.nop, (24, 0), [3], 0, []),
  (.istore_n 3, (24, 1), [], 0, []),
  (.aload_n 0, (25, 1), [], 0, []),
  (.getfield 11, (26, 3), [2, 0, 4], 0, []),
  (.iload_n 3, (29, 1), [], 0, []),
  (.ifCond .eq 12, (30, 3), [31], 0, []),
  (.nop, (33, 0), [0, 3], 0, []),
  (.iload_n 1, (33, 1), [], 0, []),
  (.bipush 9, (34, 2), [], 0, []),
  (.imul, (36, 1), [], 0, []),
  (.iload_n 2, (37, 1), [], 0, []),
  (.iadd, (38, 1), [], 0, []),
  (.goto 4, (39, 3), [33], 0, []),
  (.nop, (42, 0), [0, 1, 2, 3], 0, []),
  (.iconst 0, (42, 1), [], 0, []),
  (.nop, (43, 0), [0, 1, 2, 3], 0, []),
  (.aaload, (43, 1), [], 0, []),
  (.areturn, (44, 1), [], 0, [])]
/-- DictProof$Finder.sortByKind ([I)V -/
def tb_166 : List Op := [(.iconst 0, (0, 1), [], 0, []),
  (.istore_n 2, (1, 1), [], 0, []),
  (.nop, (2, 0), [3], 0, []),
  (.iload_n 2, (2, 1), [], 0, []),
  (.iconst 5, (3, 1), [], 0, []),
  (.if_icmp .ge 54, (4, 3), [43], 0, []),
  (.nop, (7, 0), [3], 0, []),
  (.aload_n 0, (7, 1), [], 0, []),
  (.getfield 17, (8, 3), [2, 1, 4], 0, []),
  (.iload_n 2, (11, 1), [], 0, []),
  (.iconst 0, (12, 1), [], 0, []),
  (.iastore, (13, 1), [], 0, []),
  (.iconst 0, (14, 1), [], 0, []),
  (.istore_n 3, (15, 1), [], 0, []),
  (.nop, (16, 0), [], 0, []),
  (.iload_n 3, (16, 1), [], 0, []),
  (.aload_n 0, (17, 1), [], 0, []),
  (.getfield 26, (18, 3), [2, 3, 3], 0, []),
  (.getfield 65, (21, 3), [0, 4, 0], 0, []),
  (.if_icmp .ge 28, (24, 3), [40], 0, []),
  (.nop, (27, 0), [], 0, []),
  (.aload_n 1, (27, 1), [], 0, []),
  (.iload_n 3, (28, 1), [], 0, []),
  (.iaload, (29, 1), [], 0, []),
  (.iload_n 2, (30, 1), [], 0, []),
  (.if_icmp .ne 15, (31, 3), [37], 0, []),
  (.nop, (34, 0), [], 0, []),
  (.aload_n 0, (34, 1), [], 0, []),
  (.getfield 17, (35, 3), [2, 1, 4], 0, []),
  (.iload_n 2, (38, 1), [], 0, []),
  (.dup2, (39, 1), [], 0, []),
  (.iaload, (40, 1), [], 0, []),
  (.iconst 1, (41, 1), [], 0, []),
  (.iload_n 3, (42, 1), [], 0, []),
  (.ishl, (43, 1), [], 0, []),
  (.ior, (44, 1), [], 0, []),
  (.iastore, (45, 1), [], 0, []),
  (.nop, (46, 0), [], 0, []),
  (.iinc 3 1, (46, 3), [], 0, []),
  (.goto (-33), (49, 3), [14], 0, []),
  (.nop, (52, 0), [3], 0, []),
  (.iinc 2 1, (52, 3), [], 0, []),
  (.goto (-53), (55, 3), [2], 0, []),
  (.nop, (58, 0), [0, 1, 2, 3], 0, []),
  (.return_, (58, 1), [], 0, [])]
/-- DictProof$Finder.fittingAt (I)I -/
def tb_167 : List Op := [(.iconst 0, (0, 1), [], 0, []),
  (.istore_n 2, (1, 1), [], 0, []),
  (.iconst 0, (2, 1), [], 0, []),
  (.istore_n 3, (3, 1), [], 0, []),
  (.nop, (4, 0), [], 0, []),
  (.iload_n 3, (4, 1), [], 0, []),
  (.aload_n 0, (5, 1), [], 0, []),
  (.getfield 26, (6, 3), [2, 3, 3], 0, []),
  (.getfield 65, (9, 3), [0, 4, 0], 0, []),
  (.if_icmp .ge 44, (12, 3), [37], 0, []),
  (.nop, (15, 0), [], 0, []),
  (.aload_n 0, (15, 1), [], 0, []),
  (.getfield 26, (16, 3), [2, 3, 3], 0, []),
  (.getfield 68, (19, 3), [0, 5, 4], 0, []),
  (.iload_n 3, (22, 1), [], 0, []),
  (.aaload, (23, 1), [], 0, []),
  (.getfield 72, (24, 3), [6, 2, 4], 0, []),
  (.aload_n 0, (27, 1), [], 0, []),
  (.getfield 30, (28, 3), [2, 4, 3], 0, []),
  (.iload_n 1, (31, 1), [], 0, []),
  (.aload_n 0, (32, 1), [], 0, []),
  (.getfield 23, (33, 3), [2, 2, 4], 0, []),
  (.iload_n 3, (36, 1), [], 0, []),
  (.aaload, (37, 1), [], 0, []),
  (.invokevirtual 77, (38, 3), [218, 4, 7, 0, 0, 0, 7], 0, []),
  (.nop, (41, 0), [], 0, []),
  (.ifCond .eq 9, (41, 3), [34], 0, []),
  (.nop, (44, 0), [], 0, []),
  (.iload_n 2, (44, 1), [], 0, []),
  (.iconst 1, (45, 1), [], 0, []),
  (.iload_n 3, (46, 1), [], 0, []),
  (.ishl, (47, 1), [], 0, []),
  (.ior, (48, 1), [], 0, []),
  (.istore_n 2, (49, 1), [], 0, []),
  (.nop, (50, 0), [], 0, []),
  (.iinc 3 1, (50, 3), [], 0, []),
  (.goto (-49), (53, 3), [4], 0, []),
  (.nop, (56, 0), [1, 3], 0, []),
  (.iload_n 2, (56, 1), [], 0, []),
  (.aload_n 0, (57, 1), [], 0, []),
  (.getfield 26, (58, 3), [2, 3, 3], 0, []),
  (.getfield 81, (61, 3), [0, 6, 0], 0, []),
  (.iand, (64, 1), [], 0, []),
  (.aload_n 0, (65, 1), [], 0, []),
  (.getfield 17, (66, 3), [2, 1, 4], 0, []),
  (.iconst 2, (69, 1), [], 0, []),
  (.iaload, (70, 1), [], 0, []),
  (.iconst (-1), (71, 1), [], 0, []),
  (.ixor, (72, 1), [], 0, []),
  (.iand, (73, 1), [], 0, []),
  (.ireturn, (74, 1), [0], 0, [])]
/-- DictProof$Finder.findOne (III)V -/
def tb_168 : List Op := [(.aload_n 0, (0, 1), [], 0, []),
  (.iload_n 1, (1, 1), [], 0, []),
  (.iload_n 2, (2, 1), [], 0, []),
  (.invokevirtual 61, (3, 3), [165, 3, 2, 0, 0, 0, 4], 0, []),
  (.nop, (6, 0), [4, 5, 6, 7, 8], 0, []),
  (.astore 4, (6, 2), [], 0, []),
  (.lconst 1, (8, 1), [], 0, []),
  (.iload_n 1, (9, 1), [], 0, []),
  (.bipush 9, (10, 2), [], 0, []),
  (.imul, (12, 1), [], 0, []),
  (.aload_n 0, (13, 1), [], 0, []),
  (.getfield 30, (14, 3), [2, 4, 3], 0, []),
  (.getfield 84, (17, 3), [7, 2, 4], 0, []),
  (.iload_n 2, (20, 1), [], 0, []),
  (.iaload, (21, 1), [], 0, []),
  (.iadd, (22, 1), [], 0, []),
  (.lshl, (23, 1), [], 0, []),
  (.lstore 5, (24, 2), [], 0, []),
  (.aload_n 0, (26, 1), [], 0, []),
  (.getfield 30, (27, 3), [2, 4, 3], 0, []),
  (.iload_n 2, (30, 1), [], 0, []),
  (.invokevirtual 87, (31, 3), [216, 2, 7, 0, 0, 0, 2], 0, []),
  (.nop, (34, 0), [2, 6, 7, 8], 0, []),
  (.istore 7, (34, 2), [], 0, []),
  (.iload 7, (36, 2), [], 0, []),
  (.iconst (-1), (38, 1), [], 0, []),
  (.if_icmp .eq 14, (39, 3), [35], 0, []),
  (.nop, (42, 0), [0, 2, 3, 6, 8], 0, []),
  (.aload 4, (42, 2), [], 0, []),
  (.iload_n 1, (44, 1), [], 0, []),
  (.iload 7, (45, 2), [], 0, []),
  (.lload 5, (47, 2), [], 0, []),
  (.invokevirtual 90, (49, 3), [173, 4, 3, 0, 0, 0, 5], 0, []),
  (.nop, (52, 0), [0, 1, 2, 3, 4, 5, 6, 7, 8], 0, []),
  (.return_, (52, 1), [], 0, []),
  (.nop, (53, 0), [1, 2, 6, 7, 8], 0, []),
  (.aload_n 0, (53, 1), [], 0, []),
  (.iload_n 3, (54, 1), [], 0, []),
  (.invokevirtual 94, (55, 3), [169, 2, 2, 0, 0, 0, 3], 0, []),
  (.nop, (58, 0), [1, 2, 6, 7, 8], 0, []),
  (.istore 8, (58, 2), [], 0, []),
  (.iload 8, (60, 2), [], 0, []),
  (.iconst (-1), (62, 1), [], 0, []),
  (.if_icmp .ne 19, (63, 3), [57], 0, []),
  (.nop, (66, 0), [0, 1, 2, 5, 6, 7, 8], 0, []),
  (.aload 4, (66, 2), [], 0, []),
  (.iload_n 3, (68, 1), [], 0, []),
  (.ifCond .ne 7, (69, 3), [51], 0, []),
  (.nop, (72, 0), [0, 1, 2, 3, 4, 5, 6, 7, 8], 0, []),
  (.iconst 0, (72, 1), [], 0, []),
  (.goto 5, (73, 3), [53], 0, []),
  (.nop, (76, 0), [0, 1, 2, 3, 4, 5, 6, 7, 8], 0, []),
  (.bipush (-2), (76, 2), [], 0, []),
  (.nop, (78, 0), [0, 1, 2, 3, 4, 5, 6, 7, 8], 0, []),
  (.invokevirtual 97, (78, 3), [172, 2, 3, 0, 0, 0, 2], 0, []),
  (.nop, (81, 0), [0, 1, 2, 3, 4, 5, 6, 7, 8], 0, []),
  (.return_, (81, 1), [], 0, []),
  (.nop, (82, 0), [1, 2, 3, 6, 7], 0, []),
  (.aload 4, (82, 2), [], 0, []),
  (.iload 8, (84, 2), [], 0, []),
  (.lload 5, (86, 2), [], 0, []),
  (.invokevirtual 101, (88, 3), [174, 3, 3, 0, 0, 0, 4], 0, []),
  (.nop, (91, 0), [1, 2, 3, 5, 6, 7], 0, []),
  (.aload_n 0, (91, 1), [], 0, []),
  (.aload 4, (92, 2), [], 0, []),
  (.aload_n 0, (94, 1), [], 0, []),
  (.getfield 26, (95, 3), [2, 3, 3], 0, []),
  (.getfield 68, (98, 3), [0, 5, 4], 0, []),
  (.iload 8, (101, 2), [], 0, []),
  (.aaload, (103, 1), [], 0, []),
  (.aload_n 0, (104, 1), [], 0, []),
  (.getfield 23, (105, 3), [2, 2, 4], 0, []),
  (.iload 8, (108, 2), [], 0, []),
  (.aaload, (110, 1), [], 0, []),
  (.invokevirtual 105, (111, 3), [170, 4, 2, 0, 0, 0, 6], 0, []),
  (.nop, (114, 0), [0, 1, 2, 3, 4, 5, 6, 7, 8], 0, []),
  (.return_, (114, 1), [], 0, [])]
/-- DictProof$Finder.takenOf (I)I -/
def tb_169 : List Op := [(.iload_n 1, (0, 1), [], 0, []),
  (.invokestatic 109, (1, 3), [221, 1, 0, 0, 0, 0, 1], 0, []),
  (.nop, (4, 0), [2], 0, []),
  (.iconst 1, (4, 1), [], 0, []),
  (.if_icmp .le 16, (5, 3), [16], 0, []),
  (.nop, (8, 0), [2], 0, []),
  (.iload_n 1, (8, 1), [], 0, []),
  (.aload_n 0, (9, 1), [], 0, []),
  (.getfield 17, (10, 3), [2, 1, 4], 0, []),
  (.iconst 4, (13, 1), [], 0, []),
  (.iaload, (14, 1), [], 0, []),
  (.iand, (15, 1), [], 0, []),
  (.ifCond .eq 5, (16, 3), [16], 0, []),
  (.nop, (19, 0), [0, 1, 2], 0, []),
  (.iconst (-1), (19, 1), [], 0, []),
  (.ireturn, (20, 1), [0], 0, []),
  (.nop, (21, 0), [2], 0, []),
  (.iload_n 1, (21, 1), [], 0, []),
  (.aload_n 0, (22, 1), [], 0, []),
  (.getfield 17, (23, 3), [2, 1, 4], 0, []),
  (.iconst 3, (26, 1), [], 0, []),
  (.iaload, (27, 1), [], 0, []),
  (.aload_n 0, (28, 1), [], 0, []),
  (.getfield 17, (29, 3), [2, 1, 4], 0, []),
  (.iconst 4, (32, 1), [], 0, []),
  (.iaload, (33, 1), [], 0, []),
  (.ior, (34, 1), [], 0, []),
  (.iand, (35, 1), [], 0, []),
  (.istore_n 2, (36, 1), [], 0, []),
  (.iload_n 2, (37, 1), [], 0, []),
  (.ifCond .ne 14, (38, 3), [41], 0, []),
  (.nop, (41, 0), [2], 0, []),
  (.iload_n 1, (41, 1), [], 0, []),
  (.aload_n 0, (42, 1), [], 0, []),
  (.getfield 17, (43, 3), [2, 1, 4], 0, []),
  (.iconst 1, (46, 1), [], 0, []),
  (.iaload, (47, 1), [], 0, []),
  (.iconst (-1), (48, 1), [], 0, []),
  (.ixor, (49, 1), [], 0, []),
  (.iand, (50, 1), [], 0, []),
  (.istore_n 2, (51, 1), [], 0, []),
  (.nop, (52, 0), [], 0, []),
  (.aload_n 0, (52, 1), [], 0, []),
  (.getfield 26, (53, 3), [2, 3, 3], 0, []),
  (.iload_n 2, (56, 1), [], 0, []),
  (.ifCond .ne 7, (57, 3), [49], 0, []),
  (.nop, (60, 0), [0, 2], 0, []),
  (.iload_n 1, (60, 1), [], 0, []),
  (.goto 4, (61, 3), [51], 0, []),
  (.nop, (64, 0), [0, 1], 0, []),
  (.iload_n 2, (64, 1), [], 0, []),
  (.nop, (65, 0), [0, 1, 2], 0, []),
  (.invokevirtual 114, (65, 3), [151, 2, 0, 0, 0, 0, 4], 0, []),
  (.nop, (68, 0), [0, 1, 2], 0, []),
  (.ireturn, (68, 1), [0], 0, [])]
/-- DictProof$Finder.joinConditions (LDictProof$Goal;LDictProof$Rule;[I)V -/
def tb_170 : List Op := [(.iconst 0, (0, 1), [], 0, []),
  (.istore 4, (1, 2), [], 0, []),
  (.nop, (3, 0), [5], 0, []),
  (.iload 4, (3, 2), [], 0, []),
  (.aload_n 2, (5, 1), [], 0, []),
  (.getfield 117, (6, 3), [6, 3, 0], 0, []),
  (.if_icmp .ge 56, (9, 3), [40], 0, []),
  (.nop, (12, 0), [5], 0, []),
  (.aload_n 0, (12, 1), [], 0, []),
  (.aload_n 2, (13, 1), [], 0, []),
  (.getfield 120, (14, 3), [6, 4, 4], 0, []),
  (.iload 4, (17, 2), [], 0, []),
  (.iaload, (19, 1), [], 0, []),
  (.aload_n 3, (20, 1), [], 0, []),
  (.aload_n 2, (21, 1), [], 0, []),
  (.getfield 123, (22, 3), [6, 5, 4], 0, []),
  (.iload 4, (25, 2), [], 0, []),
  (.iaload, (27, 1), [], 0, []),
  (.iaload, (28, 1), [], 0, []),
  (.invokevirtual 61, (29, 3), [165, 3, 2, 0, 0, 0, 4], 0, []),
  (.nop, (32, 0), [5], 0, []),
  (.astore 5, (32, 2), [], 0, []),
  (.aload 5, (34, 2), [], 0, []),
  (.getfield 126, (36, 3), [3, 0, 0], 0, []),
  (.iconst 1, (39, 1), [], 0, []),
  (.if_icmp .eq 13, (40, 3), [33], 0, []),
  (.nop, (43, 0), [0, 2, 3, 4], 0, []),
  (.aload_n 1, (43, 1), [], 0, []),
  (.aload 5, (44, 2), [], 0, []),
  (.getfield 126, (46, 3), [3, 0, 0], 0, []),
  (.invokevirtual 97, (49, 3), [172, 2, 3, 0, 0, 0, 2], 0, []),
  (.nop, (52, 0), [0, 1, 2, 3, 4, 5], 0, []),
  (.return_, (52, 1), [], 0, []),
  (.nop, (53, 0), [], 0, []),
  (.aload_n 1, (53, 1), [], 0, []),
  (.aload 5, (54, 2), [], 0, []),
  (.invokevirtual 129, (56, 3), [175, 2, 3, 0, 0, 0, 2], 0, []),
  (.nop, (59, 0), [5], 0, []),
  (.iinc 4 1, (59, 3), [], 0, []),
  (.goto (-59), (62, 3), [2], 0, []),
  (.nop, (65, 0), [0, 1, 2, 3, 4, 5], 0, []),
  (.return_, (65, 1), [], 0, [])]
/-- DictProof$Goal.<init> ()V -/
def tb_171 : List Op := [(.aload_n 0, (0, 1), [], 0, []),
  (.invokespecial 3, (1, 3), [0, 0, 0, 0, 0, 9], 0, []),
  (.aload_n 0, (4, 1), [], 0, []),
  (.iconst 0, (5, 1), [], 0, []),
  (.putfield 9, (6, 3), [3, 0, 0], 0, []),
  (.aload_n 0, (9, 1), [], 0, []),
  (.iconst 0, (10, 1), [], 0, []),
  (.putfield 15, (11, 3), [3, 1, 0], 0, []),
  (.aload_n 0, (14, 1), [], 0, []),
  (.iconst 0, (15, 1), [], 0, []),
  (.putfield 18, (16, 3), [3, 2, 0], 0, []),
  (.aload_n 0, (19, 1), [], 0, []),
  (.iconst 0, (20, 1), [], 0, []),
  (.putfield 21, (21, 3), [3, 3, 0], 0, []),
  (.aload_n 0, (24, 1), [], 0, []),
  (.iconst 0, (25, 1), [], 0, []),
  (.putfield 24, (26, 3), [3, 4, 0], 0, []),
  (.aload_n 0, (29, 1), [], 0, []),
  (.lconst 0, (30, 1), [], 0, []),
  (.putfield 27, (31, 3), [3, 5, 2], 0, []),
  (.aload_n 0, (34, 1), [], 0, []),
  (.iconst 0, (35, 1), [], 0, []),
  (.putfield 31, (36, 3), [3, 6, 0], 0, []),
  (.aload_n 0, (39, 1), [], 0, []),
  (.iconst 0, (40, 1), [], 0, []),
  (.putfield 34, (41, 3), [3, 7, 0], 0, []),
  (.aload_n 0, (44, 1), [], 0, []),
  (.iconst 2, (45, 1), [], 0, []),
  (.anewarray 10, (46, 3), [26], 0, []),
  (.putfield 37, (49, 3), [3, 8, 4], 0, []),
  (.return_, (52, 1), [], 0, [])]
/-- DictProof$Goal.failAs (I)V -/
def tb_172 : List Op := [(.aload_n 0, (0, 1), [], 0, []),
  (.iload_n 1, (1, 1), [], 0, []),
  (.putfield 9, (2, 3), [3, 0, 0], 0, []),
  (.aload_n 0, (5, 1), [], 0, []),
  (.iconst 0, (6, 1), [], 0, []),
  (.putfield 15, (7, 3), [3, 1, 0], 0, []),
  (.aload_n 0, (10, 1), [], 0, []),
  (.iconst 0, (11, 1), [], 0, []),
  (.putfield 24, (12, 3), [3, 4, 0], 0, []),
  (.aload_n 0, (15, 1), [], 0, []),
  (.iconst 0, (16, 1), [], 0, []),
  (.putfield 34, (17, 3), [3, 7, 0], 0, []),
  (.return_, (20, 1), [], 0, [])]
/-- DictProof$Goal.findAsNeed (IIJ)V -/
def tb_173 : List Op := [(.aload_n 0, (0, 1), [], 0, []),
  (.bipush 10, (1, 2), [], 0, []),
  (.iconst 2, (3, 1), [], 0, []),
  (.iload_n 1, (4, 1), [], 0, []),
  (.imul, (5, 1), [], 0, []),
  (.iadd, (6, 1), [], 0, []),
  (.iload_n 2, (7, 1), [], 0, []),
  (.iadd, (8, 1), [], 0, []),
  (.lload_n 3, (9, 1), [], 0, []),
  (.invokevirtual 41, (10, 3), [174, 3, 3, 0, 0, 0, 4], 0, []),
  (.nop, (13, 0), [3, 4], 0, []),
  (.aload_n 0, (13, 1), [], 0, []),
  (.aload_n 0, (14, 1), [], 0, []),
  (.getfield 31, (15, 3), [3, 6, 0], 0, []),
  (.putfield 18, (18, 3), [3, 2, 0], 0, []),
  (.aload_n 0, (21, 1), [], 0, []),
  (.iload_n 1, (22, 1), [], 0, []),
  (.iload_n 2, (23, 1), [], 0, []),
  (.invokestatic 45, (24, 3), [29, 2, 0, 0, 0, 1, 2], 0, []),
  (.nop, (27, 0), [0, 1, 2, 3, 4], 0, []),
  (.putfield 24, (27, 3), [3, 4, 0], 0, []),
  (.return_, (30, 1), [], 0, [])]
/-- DictProof$Goal.begin (IJ)V -/
def tb_174 : List Op := [(.aload_n 0, (0, 1), [], 0, []),
  (.iconst 1, (1, 1), [], 0, []),
  (.putfield 9, (2, 3), [3, 0, 0], 0, []),
  (.aload_n 0, (5, 1), [], 0, []),
  (.iload_n 1, (6, 1), [], 0, []),
  (.putfield 31, (7, 3), [3, 6, 0], 0, []),
  (.aload_n 0, (10, 1), [], 0, []),
  (.iconst 1, (11, 1), [], 0, []),
  (.putfield 15, (12, 3), [3, 1, 0], 0, []),
  (.aload_n 0, (15, 1), [], 0, []),
  (.bipush 7, (16, 2), [], 0, []),
  (.iload_n 1, (18, 1), [], 0, []),
  (.iconst 1, (19, 1), [], 0, []),
  (.iadd, (20, 1), [], 0, []),
  (.imul, (21, 1), [], 0, []),
  (.sipush 1009, (22, 3), [], 0, []),
  (.irem, (25, 1), [], 0, []),
  (.putfield 18, (26, 3), [3, 2, 0], 0, []),
  (.aload_n 0, (29, 1), [], 0, []),
  (.iconst 1, (30, 1), [], 0, []),
  (.putfield 21, (31, 3), [3, 3, 0], 0, []),
  (.aload_n 0, (34, 1), [], 0, []),
  (.iconst 0, (35, 1), [], 0, []),
  (.putfield 24, (36, 3), [3, 4, 0], 0, []),
  (.aload_n 0, (39, 1), [], 0, []),
  (.lload_n 2, (40, 1), [], 0, []),
  (.putfield 27, (41, 3), [3, 5, 2], 0, []),
  (.aload_n 0, (44, 1), [], 0, []),
  (.iconst 0, (45, 1), [], 0, []),
  (.putfield 34, (46, 3), [3, 7, 0], 0, []),
  (.return_, (49, 1), [], 0, [])]
/-- DictProof$Goal.join (LDictProof$Goal;)V -/
def tb_175 : List Op := [(.aload_n 0, (0, 1), [], 0, []),
  (.getfield 34, (1, 3), [3, 7, 0], 0, []),
  (.iconst 2, (4, 1), [], 0, []),
  (.if_icmp .lt 4, (5, 3), [6], 0, []),
  (.nop, (8, 0), [0, 1], 0, []),
  (.return_, (8, 1), [], 0, []),
  (.nop, (9, 0), [], 0, []),
  (.aload_n 0, (9, 1), [], 0, []),
  (.getfield 37, (10, 3), [3, 8, 4], 0, []),
  (.aload_n 0, (13, 1), [], 0, []),
  (.getfield 34, (14, 3), [3, 7, 0], 0, []),
  (.aload_n 1, (17, 1), [], 0, []),
  (.aastore, (18, 1), [], 0, []),
  (.aload_n 0, (19, 1), [], 0, []),
  (.dup, (20, 1), [], 0, []),
  (.getfield 34, (21, 3), [3, 7, 0], 0, []),
  (.iconst 1, (24, 1), [], 0, []),
  (.iadd, (25, 1), [], 0, []),
  (.putfield 34, (26, 3), [3, 7, 0], 0, []),
  (.aload_n 0, (29, 1), [], 0, []),
  (.dup, (30, 1), [], 0, []),
  (.getfield 15, (31, 3), [3, 1, 0], 0, []),
  (.aload_n 1, (34, 1), [], 0, []),
  (.getfield 15, (35, 3), [3, 1, 0], 0, []),
  (.iadd, (38, 1), [], 0, []),
  (.putfield 15, (39, 3), [3, 1, 0], 0, []),
  (.aload_n 0, (42, 1), [], 0, []),
  (.aload_n 0, (43, 1), [], 0, []),
  (.getfield 18, (44, 3), [3, 2, 0], 0, []),
  (.aload_n 0, (47, 1), [], 0, []),
  (.getfield 34, (48, 3), [3, 7, 0], 0, []),
  (.iconst 1, (51, 1), [], 0, []),
  (.iadd, (52, 1), [], 0, []),
  (.aload_n 1, (53, 1), [], 0, []),
  (.getfield 18, (54, 3), [3, 2, 0], 0, []),
  (.imul, (57, 1), [], 0, []),
  (.iadd, (58, 1), [], 0, []),
  (.sipush 1009, (59, 3), [], 0, []),
  (.irem, (62, 1), [], 0, []),
  (.putfield 18, (63, 3), [3, 2, 0], 0, []),
  (.aload_n 0, (66, 1), [], 0, []),
  (.aload_n 0, (67, 1), [], 0, []),
  (.getfield 21, (68, 3), [3, 3, 0], 0, []),
  (.aload_n 1, (71, 1), [], 0, []),
  (.getfield 21, (72, 3), [3, 3, 0], 0, []),
  (.if_icmp .le 10, (75, 3), [50], 0, []),
  (.nop, (78, 0), [], 0, []),
  (.aload_n 0, (78, 1), [], 0, []),
  (.getfield 21, (79, 3), [3, 3, 0], 0, []),
  (.goto 9, (82, 3), [55], 0, []),
  (.nop, (85, 0), [], 0, []),
  (.aload_n 1, (85, 1), [], 0, []),
  (.getfield 21, (86, 3), [3, 3, 0], 0, []),
  (.iconst 1, (89, 1), [], 0, []),
  (.iadd, (90, 1), [], 0, []),
  (.nop, (91, 0), [], 0, []),
  (.putfield 21, (91, 3), [3, 3, 0], 0, []),
  (.aload_n 0, (94, 1), [], 0, []),
  (.dup, (95, 1), [], 0, []),
  (.getfield 24, (96, 3), [3, 4, 0], 0, []),
  (.aload_n 1, (99, 1), [], 0, []),
  (.getfield 24, (100, 3), [3, 4, 0], 0, []),
  (.ior, (103, 1), [], 0, []),
  (.putfield 24, (104, 3), [3, 4, 0], 0, []),
  (.aload_n 0, (107, 1), [], 0, []),
  (.dup, (108, 1), [], 0, []),
  (.getfield 27, (109, 3), [3, 5, 2], 0, []),
  (.aload_n 1, (112, 1), [], 0, []),
  (.getfield 27, (113, 3), [3, 5, 2], 0, []),
  (.lor, (116, 1), [], 0, []),
  (.putfield 27, (117, 3), [3, 5, 2], 0, []),
  (.return_, (120, 1), [], 0, [])]
/-- DictProof$Goal.numberAt (I)I -/
def tb_176 : List Op := [(.aload_n 0, (0, 1), [], 0, []),
  (.astore_n 2, (1, 1), [], 0, []),
  (.iload_n 1, (2, 1), [], 0, []),
  (.istore_n 3, (3, 1), [], 0, []),
  (.iconst 0, (4, 1), [], 0, []),
  (.istore 4, (5, 2), [], 0, []),
  (.nop, (7, 0), [0, 1, 5, 6], 0, []),
  (.iload 4, (7, 2), [], 0, []),
  (.bipush 9, (9, 2), [], 0, []),
  (.if_icmp .ge 92, (11, 3), [65], 0, []),
  (.nop, (14, 0), [0, 1, 5, 6], 0, []),
  (.iload_n 3, (14, 1), [], 0, []),
  (.ifCond .le 88, (15, 3), [65], 0, []),
  (.nop, (18, 0), [0, 1, 5, 6], 0, []),
  (.iinc 3 (-1), (18, 3), [], 0, []),
  (.aconst_null, (21, 1), [], 0, []),
  (.astore 5, (22, 2), [], 0, []),
  (.iconst 0, (24, 1), [], 0, []),
  (.istore 6, (25, 2), [], 0, []),
  (.nop, (27, 0), [0, 1], 0, []),
  (.iload 6, (27, 2), [], 0, []),
  (.aload_n 2, (29, 1), [], 0, []),
  (.getfield 34, (30, 3), [3, 7, 0], 0, []),
  (.if_icmp .ge 53, (33, 3), [54], 0, []),
  (.nop, (36, 0), [0, 1], 0, []),
  (.aload 5, (36, 2), [], 0, []),
  (.ifnonnull 48, (38, 3), [54], 0, []),
  (.nop, (41, 0), [0, 1], 0, []),
  (.iload_n 3, (41, 1), [], 0, []),
  (.aload_n 2, (42, 1), [], 0, []),
  (.getfield 37, (43, 3), [3, 8, 4], 0, []),
  (.iload 6, (46, 2), [], 0, []),
  (.aaload, (48, 1), [], 0, []),
  (.getfield 15, (49, 3), [3, 1, 0], 0, []),
  (.if_icmp .ge 15, (52, 3), [42], 0, []),
  (.nop, (55, 0), [0, 1, 5], 0, []),
  (.aload_n 2, (55, 1), [], 0, []),
  (.getfield 37, (56, 3), [3, 8, 4], 0, []),
  (.iload 6, (59, 2), [], 0, []),
  (.aaload, (61, 1), [], 0, []),
  (.astore 5, (62, 2), [], 0, []),
  (.goto 16, (64, 3), [51], 0, []),
  (.nop, (67, 0), [0, 1], 0, []),
  (.iload_n 3, (67, 1), [], 0, []),
  (.aload_n 2, (68, 1), [], 0, []),
  (.getfield 37, (69, 3), [3, 8, 4], 0, []),
  (.iload 6, (72, 2), [], 0, []),
  (.aaload, (74, 1), [], 0, []),
  (.getfield 15, (75, 3), [3, 1, 0], 0, []),
  (.isub, (78, 1), [], 0, []),
  (.istore_n 3, (79, 1), [], 0, []),
  (.nop, (80, 0), [0, 1], 0, []),
  (.iinc 6 1, (80, 3), [], 0, []),
  (.goto (-56), (83, 3), [19], 0, []),
  (.nop, (86, 0), [0, 1, 2, 6], 0, []),
  (.aload 5, (86, 2), [], 0, []),
  (.ifnonnull 6, (88, 3), [60], 0, []),
  (.nop, (91, 0), [0, 1, 2, 3, 4, 5, 6], 0, []),
  (.bipush (-101), (91, 2), [], 0, []),
  (.ireturn, (93, 1), [0], 0, []),
  (.nop, (94, 0), [0, 1, 2, 6], 0, []),
  (.aload 5, (94, 2), [], 0, []),
  (.astore_n 2, (96, 1), [], 0, []),
  (.iinc 4 1, (97, 3), [], 0, []),
  (.goto (-93), (100, 3), [6], 0, []),
  (.nop, (103, 0), [0, 1, 3, 4, 5, 6], 0, []),
  (.aload_n 2, (103, 1), [], 0, []),
  (.getfield 31, (104, 3), [3, 6, 0], 0, []),
  (.ireturn, (107, 1), [0], 0, [])]
/-- DictProof$Meeting.<init> ()V -/
def tb_177 : List Op := [(.aload_n 0, (0, 1), [], 0, []),
  (.invokespecial 5, (1, 3), [0, 0, 0, 0, 0, 9], 0, []),
  (.aload_n 0, (4, 1), [], 0, []),
  (.bipush 10, (5, 2), [], 0, []),
  (.newarray .int, (7, 2), [20], 0, []),
  (.putfield 11, (9, 3), [4, 0, 4], 0, []),
  (.aload_n 0, (12, 1), [], 0, []),
  (.bipush 10, (13, 2), [], 0, []),
  (.newarray .int, (15, 2), [20], 0, []),
  (.putfield 15, (17, 3), [4, 1, 4], 0, []),
  (.aload_n 0, (20, 1), [], 0, []),
  (.bipush 10, (21, 2), [], 0, []),
  (.newarray .int, (23, 2), [20], 0, []),
  (.putfield 18, (25, 3), [4, 2, 4], 0, []),
  (.aload_n 0, (28, 1), [], 0, []),
  (.bipush 10, (29, 2), [], 0, []),
  (.newarray .int, (31, 2), [20], 0, []),
  (.putfield 21, (33, 3), [4, 3, 4], 0, []),
  (.aload_n 0, (36, 1), [], 0, []),
  (.bipush 10, (37, 2), [], 0, []),
  (.newarray .boolean, (39, 2), [22], 0, []),
  (.putfield 24, (41, 3), [4, 4, 4], 0, []),
  (.aload_n 0, (44, 1), [], 0, []),
  (.bipush 40, (45, 2), [], 0, []),
  (.newarray .int, (47, 2), [20], 0, []),
  (.putfield 28, (49, 3), [4, 5, 4], 0, []),
  (.aload_n 0, (52, 1), [], 0, []),
  (.bipush 40, (53, 2), [], 0, []),
  (.newarray .int, (55, 2), [20], 0, []),
  (.putfield 31, (57, 3), [4, 6, 4], 0, []),
  (.aload_n 0, (60, 1), [], 0, []),
  (.iconst 0, (61, 1), [], 0, []),
  (.putfield 34, (62, 3), [4, 7, 0], 0, []),
  (.return_, (65, 1), [], 0, [])]
/-- DictProof$Meeting.isPossible (LDictProof$Shape;LDictProof$Shape;)Z -/
def tb_178 : List Op := [(.aload_n 1, (0, 1), [], 0, []),
  (.getfield 38, (1, 3), [7, 3, 0], 0, []),
  (.iconst 5, (4, 1), [], 0, []),
  (.if_icmp .gt 11, (5, 3), [9], 0, []),
  (.nop, (8, 0), [3], 0, []),
  (.aload_n 2, (8, 1), [], 0, []),
  (.getfield 38, (9, 3), [7, 3, 0], 0, []),
  (.iconst 5, (12, 1), [], 0, []),
  (.if_icmp .le 5, (13, 3), [12], 0, []),
  (.nop, (16, 0), [0, 1, 2, 3], 0, []),
  (.iconst 0, (16, 1), [], 0, []),
  (.ireturn, (17, 1), [1], 0, []),
  (.nop, (18, 0), [3], 0, []),
  (.iconst 0, (18, 1), [], 0, []),
  (.istore_n 3, (19, 1), [], 0, []),
  (.nop, (20, 0), [], 0, []),
  (.iload_n 3, (20, 1), [], 0, []),
  (.bipush 10, (21, 2), [], 0, []),
  (.if_icmp .ge 37, (23, 3), [42], 0, []),
  (.nop, (26, 0), [], 0, []),
  (.aload_n 0, (26, 1), [], 0, []),
  (.getfield 15, (27, 3), [4, 1, 4], 0, []),
  (.iload_n 3, (30, 1), [], 0, []),
  (.iload_n 3, (31, 1), [], 0, []),
  (.iastore, (32, 1), [], 0, []),
  (.aload_n 0, (33, 1), [], 0, []),
  (.getfield 11, (34, 3), [4, 0, 4], 0, []),
  (.iload_n 3, (37, 1), [], 0, []),
  (.iconst 0, (38, 1), [], 0, []),
  (.iastore, (39, 1), [], 0, []),
  (.aload_n 0, (40, 1), [], 0, []),
  (.getfield 18, (41, 3), [4, 2, 4], 0, []),
  (.iload_n 3, (44, 1), [], 0, []),
  (.iconst (-1), (45, 1), [], 0, []),
  (.iastore, (46, 1), [], 0, []),
  (.aload_n 0, (47, 1), [], 0, []),
  (.getfield 21, (48, 3), [4, 3, 4], 0, []),
  (.iload_n 3, (51, 1), [], 0, []),
  (.iconst (-1), (52, 1), [], 0, []),
  (.iastore, (53, 1), [], 0, []),
  (.iinc 3 1, (54, 3), [], 0, []),
  (.goto (-37), (57, 3), [15], 0, []),
  (.nop, (60, 0), [3], 0, []),
  (.aload_n 0, (60, 1), [], 0, []),
  (.iconst 0, (61, 1), [], 0, []),
  (.putfield 34, (62, 3), [4, 7, 0], 0, []),
  (.aload_n 0, (65, 1), [], 0, []),
  (.aload_n 1, (66, 1), [], 0, []),
  (.iconst 0, (67, 1), [], 0, []),
  (.invokevirtual 43, (68, 3), [179, 3, 4, 0, 0, 0, 6], 0, []),
  (.nop, (71, 0), [1, 3], 0, []),
  (.aload_n 0, (71, 1), [], 0, []),
  (.aload_n 2, (72, 1), [], 0, []),
  (.iconst 5, (73, 1), [], 0, []),
  (.invokevirtual 43, (74, 3), [179, 3, 4, 0, 0, 0, 6], 0, []),
  (.nop, (77, 0), [1, 2, 3], 0, []),
  (.aload_n 0, (77, 1), [], 0, []),
  (.iconst 0, (78, 1), [], 0, []),
  (.iconst 5, (79, 1), [], 0, []),
  (.invokevirtual 47, (80, 3), [180, 3, 4, 0, 0, 0, 4], 0, []),
  (.nop, (83, 0), [1, 2, 3], 0, []),
  (.aload_n 0, (83, 1), [], 0, []),
  (.invokevirtual 51, (84, 3), [181, 1, 4, 0, 0, 0, 2], 0, []),
  (.nop, (87, 0), [1, 2, 3], 0, []),
  (.ifCond .eq 14, (87, 3), [73], 0, []),
  (.nop, (90, 0), [1, 2, 3], 0, []),
  (.aload_n 0, (90, 1), [], 0, []),
  (.invokevirtual 55, (91, 3), [184, 1, 4, 0, 0, 0, 3], 0, []),
  (.nop, (94, 0), [0, 1, 2, 3], 0, []),
  (.ifCond .eq 7, (94, 3), [73], 0, []),
  (.nop, (97, 0), [0, 1, 2, 3], 0, []),
  (.iconst 1, (97, 1), [], 0, []),
  (.goto 4, (98, 3), [75], 0, []),
  (.nop, (101, 0), [0, 1, 2, 3], 0, []),
  (.iconst 0, (101, 1), [], 0, []),
  (.nop, (102, 0), [0, 1, 2, 3], 0, []),
  (.ireturn, (102, 1), [1], 0, [])]
/-- DictProof$Meeting.load (LDictProof$Shape;I)V -/
def tb_179 : List Op := [(.iconst 0, (0, 1), [], 0, []),
  (.istore_n 3, (1, 1), [], 0, []),
  (.nop, (2, 0), [4, 5], 0, []),
  (.iload_n 3, (2, 1), [], 0, []),
  (.aload_n 1, (3, 1), [], 0, []),
  (.getfield 38, (4, 3), [7, 3, 0], 0, []),
  (.if_icmp .ge 99, (7, 3), [73], 0, []),
  (.nop, (10, 0), [4, 5], 0, []),
  (.iload_n 2, (10, 1), [], 0, []),
  (.iload_n 3, (11, 1), [], 0, []),
  (.iadd, (12, 1), [], 0, []),
  (.istore 4, (13, 2), [], 0, []),
  (.aload_n 1, (15, 1), [], 0, []),
  (.getfield 58, (16, 3), [7, 0, 4], 0, []),
  (.iload_n 3, (19, 1), [], 0, []),
  (.iaload, (20, 1), [], 0, []),
  (.istore 5, (21, 2), [], 0, []),
  (.aload_n 0, (23, 1), [], 0, []),
  (.getfield 11, (24, 3), [4, 0, 4], 0, []),
  (.iload 4, (27, 2), [], 0, []),
  (.iload 5, (29, 2), [], 0, []),
  (.iastore, (31, 1), [], 0, []),
  (.iload 5, (32, 2), [], 0, []),
  (.invokestatic 59, (34, 3), [208, 1, 0, 0, 0, 0, 1], 0, []),
  (.nop, (37, 0), [], 0, []),
  (.ifCond .le 14, (37, 3), [34], 0, []),
  (.nop, (40, 0), [], 0, []),
  (.aload_n 0, (40, 1), [], 0, []),
  (.getfield 18, (41, 3), [4, 2, 4], 0, []),
  (.iload 4, (44, 2), [], 0, []),
  (.iload 4, (46, 2), [], 0, []),
  (.iconst 1, (48, 1), [], 0, []),
  (.iadd, (49, 1), [], 0, []),
  (.iastore, (50, 1), [], 0, []),
  (.nop, (51, 0), [], 0, []),
  (.iload 5, (51, 2), [], 0, []),
  (.invokestatic 59, (53, 3), [208, 1, 0, 0, 0, 0, 1], 0, []),
  (.nop, (56, 0), [5], 0, []),
  (.iconst 1, (56, 1), [], 0, []),
  (.if_icmp .le 19, (57, 3), [53], 0, []),
  (.nop, (60, 0), [5], 0, []),
  (.aload_n 0, (60, 1), [], 0, []),
  (.getfield 21, (61, 3), [4, 3, 4], 0, []),
  (.iload 4, (64, 2), [], 0, []),
  (.iload_n 2, (66, 1), [], 0, []),
  (.aload_n 1, (67, 1), [], 0, []),
  (.iload_n 3, (68, 1), [], 0, []),
  (.iconst 1, (69, 1), [], 0, []),
  (.iadd, (70, 1), [], 0, []),
  (.invokevirtual 63, (71, 3), [213, 2, 7, 0, 0, 0, 2], 0, []),
  (.nop, (74, 0), [5], 0, []),
  (.iadd, (74, 1), [], 0, []),
  (.iastore, (75, 1), [], 0, []),
  (.nop, (76, 0), [5], 0, []),
  (.aload_n 1, (76, 1), [], 0, []),
  (.getfield 66, (77, 3), [7, 2, 4], 0, []),
  (.iload_n 3, (80, 1), [], 0, []),
  (.iaload, (81, 1), [], 0, []),
  (.iload_n 3, (82, 1), [], 0, []),
  (.if_icmp .eq 17, (83, 3), [70], 0, []),
  (.nop, (86, 0), [5], 0, []),
  (.aload_n 0, (86, 1), [], 0, []),
  (.iload_n 2, (87, 1), [], 0, []),
  (.aload_n 1, (88, 1), [], 0, []),
  (.getfield 66, (89, 3), [7, 2, 4], 0, []),
  (.iload_n 3, (92, 1), [], 0, []),
  (.iaload, (93, 1), [], 0, []),
  (.iadd, (94, 1), [], 0, []),
  (.iload 4, (95, 2), [], 0, []),
  (.invokevirtual 47, (97, 3), [180, 3, 4, 0, 0, 0, 4], 0, []),
  (.nop, (100, 0), [4, 5], 0, []),
  (.iinc 3 1, (100, 3), [], 0, []),
  (.goto (-101), (103, 3), [2], 0, []),
  (.nop, (106, 0), [0, 1, 2, 3, 4, 5], 0, []),
  (.return_, (106, 1), [], 0, [])]
/-- DictProof$Meeting.expectAlike (II)V -/
def tb_180 : List Op := [(.iload_n 1, (0, 1), [], 0, []),
  (.ifCond .lt 23, (1, 3), [16], 0, []),
  (.nop, (4, 0), [3], 0, []),
  (.iload_n 1, (4, 1), [], 0, []),
  (.bipush 10, (5, 2), [], 0, []),
  (.if_icmp .ge 17, (7, 3), [16], 0, []),
  (.nop, (10, 0), [3], 0, []),
  (.iload_n 2, (10, 1), [], 0, []),
  (.ifCond .lt 13, (11, 3), [16], 0, []),
  (.nop, (14, 0), [3], 0, []),
  (.iload_n 2, (14, 1), [], 0, []),
  (.bipush 10, (15, 2), [], 0, []),
  (.if_icmp .ge 7, (17, 3), [16], 0, []),
  (.nop, (20, 0), [3], 0, []),
  (.iconst 1, (20, 1), [], 0, []),
  (.goto 4, (21, 3), [18], 0, []),
  (.nop, (24, 0), [3], 0, []),
  (.iconst 0, (24, 1), [], 0, []),
  (.nop, (25, 0), [3], 0, []),
  (.istore_n 3, (25, 1), [], 0, []),
  (.iload_n 3, (26, 1), [], 0, []),
  (.ifCond .eq 42, (27, 3), [46], 0, []),
  (.nop, (30, 0), [3], 0, []),
  (.aload_n 0, (30, 1), [], 0, []),
  (.getfield 34, (31, 3), [4, 7, 0], 0, []),
  (.bipush 40, (34, 2), [], 0, []),
  (.if_icmp .ge 33, (36, 3), [46], 0, []),
  (.nop, (39, 0), [3], 0, []),
  (.aload_n 0, (39, 1), [], 0, []),
  (.getfield 28, (40, 3), [4, 5, 4], 0, []),
  (.aload_n 0, (43, 1), [], 0, []),
  (.getfield 34, (44, 3), [4, 7, 0], 0, []),
  (.iload_n 1, (47, 1), [], 0, []),
  (.iastore, (48, 1), [], 0, []),
  (.aload_n 0, (49, 1), [], 0, []),
  (.getfield 31, (50, 3), [4, 6, 4], 0, []),
  (.aload_n 0, (53, 1), [], 0, []),
  (.getfield 34, (54, 3), [4, 7, 0], 0, []),
  (.iload_n 2, (57, 1), [], 0, []),
  (.iastore, (58, 1), [], 0, []),
  (.aload_n 0, (59, 1), [], 0, []),
  (.dup, (60, 1), [], 0, []),
  (.getfield 34, (61, 3), [4, 7, 0], 0, []),
  (.iconst 1, (64, 1), [], 0, []),
  (.iadd, (65, 1), [], 0, []),
  (.putfield 34, (66, 3), [4, 7, 0], 0, []),
  (.nop, (69, 0), [0, 1, 2, 3], 0, []),
  (.return_, (69, 1), [], 0, [])]
/-- DictProof$Meeting.bringTogether ()Z -/
def tb_181 : List Op := [(.iconst 0, (0, 1), [], 0, []),
  (.istore_n 1, (1, 1), [], 0, []),
  (.nop, (2, 0), [], 0, []),
  (.iload_n 1, (2, 1), [], 0, []),
  (.aload_n 0, (3, 1), [], 0, []),
  (.getfield 34, (4, 3), [4, 7, 0], 0, []),
  (.if_icmp .ge 44, (7, 3), [36], 0, []),
  (.nop, (10, 0), [], 0, []),
  (.iload_n 1, (10, 1), [], 0, []),
  (.bipush 40, (11, 2), [], 0, []),
  (.if_icmp .ge 38, (13, 3), [36], 0, []),
  (.nop, (16, 0), [], 0, []),
  (.aload_n 0, (16, 1), [], 0, []),
  (.aload_n 0, (17, 1), [], 0, []),
  (.aload_n 0, (18, 1), [], 0, []),
  (.getfield 28, (19, 3), [4, 5, 4], 0, []),
  (.iload_n 1, (22, 1), [], 0, []),
  (.iaload, (23, 1), [], 0, []),
  (.invokevirtual 69, (24, 3), [182, 2, 4, 0, 0, 0, 4], 0, []),
  (.nop, (27, 0), [], 0, []),
  (.aload_n 0, (27, 1), [], 0, []),
  (.aload_n 0, (28, 1), [], 0, []),
  (.getfield 31, (29, 3), [4, 6, 4], 0, []),
  (.iload_n 1, (32, 1), [], 0, []),
  (.iaload, (33, 1), [], 0, []),
  (.invokevirtual 69, (34, 3), [182, 2, 4, 0, 0, 0, 4], 0, []),
  (.nop, (37, 0), [], 0, []),
  (.invokevirtual 72, (37, 3), [183, 3, 4, 0, 0, 0, 3], 0, []),
  (.nop, (40, 0), [], 0, []),
  (.ifCond .ne 5, (40, 3), [33], 0, []),
  (.nop, (43, 0), [0, 1], 0, []),
  (.iconst 0, (43, 1), [], 0, []),
  (.ireturn, (44, 1), [1], 0, []),
  (.nop, (45, 0), [], 0, []),
  (.iinc 1 1, (45, 3), [], 0, []),
  (.goto (-46), (48, 3), [2], 0, []),
  (.nop, (51, 0), [0, 1], 0, []),
  (.iconst 1, (51, 1), [], 0, []),
  (.ireturn, (52, 1), [1], 0, [])]
/-- DictProof$Meeting.leaderOf (I)I -/
def tb_182 : List Op := [(.iload_n 1, (0, 1), [], 0, []),
  (.istore_n 2, (1, 1), [], 0, []),
  (.iconst 0, (2, 1), [], 0, []),
  (.istore_n 3, (3, 1), [], 0, []),
  (.nop, (4, 0), [1], 0, []),
  (.iload_n 3, (4, 1), [], 0, []),
  (.bipush 10, (5, 2), [], 0, []),
  (.if_icmp .ge 26, (7, 3), [23], 0, []),
  (.nop, (10, 0), [1], 0, []),
  (.aload_n 0, (10, 1), [], 0, []),
  (.getfield 15, (11, 3), [4, 1, 4], 0, []),
  (.iload_n 2, (14, 1), [], 0, []),
  (.iaload, (15, 1), [], 0, []),
  (.iload_n 2, (16, 1), [], 0, []),
  (.if_icmp .eq 16, (17, 3), [23], 0, []),
  (.nop, (20, 0), [1], 0, []),
  (.aload_n 0, (20, 1), [], 0, []),
  (.getfield 15, (21, 3), [4, 1, 4], 0, []),
  (.iload_n 2, (24, 1), [], 0, []),
  (.iaload, (25, 1), [], 0, []),
  (.istore_n 2, (26, 1), [], 0, []),
  (.iinc 3 1, (27, 3), [], 0, []),
  (.goto (-26), (30, 3), [4], 0, []),
  (.nop, (33, 0), [0, 1, 3], 0, []),
  (.iload_n 2, (33, 1), [], 0, []),
  (.ireturn, (34, 1), [0], 0, [])]
/-- DictProof$Meeting.joinGroups (II)Z -/
def tb_183 : List Op := [(.iload_n 1, (0, 1), [], 0, []),
  (.iload_n 2, (1, 1), [], 0, []),
  (.if_icmp .ne 5, (2, 3), [6], 0, []),
  (.nop, (5, 0), [0, 1, 2], 0, []),
  (.iconst 1, (5, 1), [], 0, []),
  (.ireturn, (6, 1), [1], 0, []),
  (.nop, (7, 0), [], 0, []),
  (.aload_n 0, (7, 1), [], 0, []),
  (.getfield 11, (8, 3), [4, 0, 4], 0, []),
  (.iload_n 1, (11, 1), [], 0, []),
  (.iaload, (12, 1), [], 0, []),
  (.invokestatic 76, (13, 3), [209, 1, 0, 0, 0, 0, 1], 0, []),
  (.nop, (16, 0), [], 0, []),
  (.iconst (-1), (16, 1), [], 0, []),
  (.if_icmp .eq 12, (17, 3), [23], 0, []),
  (.nop, (20, 0), [], 0, []),
  (.aload_n 0, (20, 1), [], 0, []),
  (.getfield 15, (21, 3), [4, 1, 4], 0, []),
  (.iload_n 1, (24, 1), [], 0, []),
  (.iload_n 2, (25, 1), [], 0, []),
  (.iastore, (26, 1), [], 0, []),
  (.iconst 1, (27, 1), [], 0, []),
  (.ireturn, (28, 1), [1], 0, []),
  (.nop, (29, 0), [], 0, []),
  (.aload_n 0, (29, 1), [], 0, []),
  (.getfield 15, (30, 3), [4, 1, 4], 0, []),
  (.iload_n 2, (33, 1), [], 0, []),
  (.iload_n 1, (34, 1), [], 0, []),
  (.iastore, (35, 1), [], 0, []),
  (.aload_n 0, (36, 1), [], 0, []),
  (.getfield 11, (37, 3), [4, 0, 4], 0, []),
  (.iload_n 2, (40, 1), [], 0, []),
  (.iaload, (41, 1), [], 0, []),
  (.invokestatic 76, (42, 3), [209, 1, 0, 0, 0, 0, 1], 0, []),
  (.nop, (45, 0), [], 0, []),
  (.iconst (-1), (45, 1), [], 0, []),
  (.if_icmp .eq 5, (46, 3), [40], 0, []),
  (.nop, (49, 0), [0, 1, 2], 0, []),
  (.iconst 1, (49, 1), [], 0, []),
  (.ireturn, (50, 1), [1], 0, []),
  (.nop, (51, 0), [], 0, []),
  (.aload_n 0, (51, 1), [], 0, []),
  (.aload_n 0, (52, 1), [], 0, []),
  (.getfield 18, (53, 3), [4, 2, 4], 0, []),
  (.iload_n 1, (56, 1), [], 0, []),
  (.iaload, (57, 1), [], 0, []),
  (.aload_n 0, (58, 1), [], 0, []),
  (.getfield 18, (59, 3), [4, 2, 4], 0, []),
  (.iload_n 2, (62, 1), [], 0, []),
  (.iaload, (63, 1), [], 0, []),
  (.invokevirtual 47, (64, 3), [180, 3, 4, 0, 0, 0, 4], 0, []),
  (.nop, (67, 0), [], 0, []),
  (.aload_n 0, (67, 1), [], 0, []),
  (.aload_n 0, (68, 1), [], 0, []),
  (.getfield 21, (69, 3), [4, 3, 4], 0, []),
  (.iload_n 1, (72, 1), [], 0, []),
  (.iaload, (73, 1), [], 0, []),
  (.aload_n 0, (74, 1), [], 0, []),
  (.getfield 21, (75, 3), [4, 3, 4], 0, []),
  (.iload_n 2, (78, 1), [], 0, []),
  (.iaload, (79, 1), [], 0, []),
  (.invokevirtual 47, (80, 3), [180, 3, 4, 0, 0, 0, 4], 0, []),
  (.nop, (83, 0), [], 0, []),
  (.aload_n 0, (83, 1), [], 0, []),
  (.getfield 11, (84, 3), [4, 0, 4], 0, []),
  (.iload_n 1, (87, 1), [], 0, []),
  (.iaload, (88, 1), [], 0, []),
  (.aload_n 0, (89, 1), [], 0, []),
  (.getfield 11, (90, 3), [4, 0, 4], 0, []),
  (.iload_n 2, (93, 1), [], 0, []),
  (.iaload, (94, 1), [], 0, []),
  (.if_icmp .ne 7, (95, 3), [75], 0, []),
  (.nop, (98, 0), [0, 1, 2], 0, []),
  (.iconst 1, (98, 1), [], 0, []),
  (.goto 4, (99, 3), [77], 0, []),
  (.nop, (102, 0), [0, 1, 2], 0, []),
  (.iconst 0, (102, 1), [], 0, []),
  (.nop, (103, 0), [0, 1, 2], 0, []),
  (.ireturn, (103, 1), [1], 0, [])]
/-- DictProof$Meeting.comesToAnEnd ()Z -/
def tb_184 : List Op := [(.iconst 0, (0, 1), [], 0, []),
  (.istore_n 1, (1, 1), [], 0, []),
  (.nop, (2, 0), [2], 0, []),
  (.iload_n 1, (2, 1), [], 0, []),
  (.bipush 10, (3, 2), [], 0, []),
  (.if_icmp .ge 16, (5, 3), [14], 0, []),
  (.nop, (8, 0), [2], 0, []),
  (.aload_n 0, (8, 1), [], 0, []),
  (.getfield 24, (9, 3), [4, 4, 4], 0, []),
  (.iload_n 1, (12, 1), [], 0, []),
  (.iconst 0, (13, 1), [], 0, []),
  (.bastore, (14, 1), [], 0, []),
  (.iinc 1 1, (15, 3), [], 0, []),
  (.goto (-16), (18, 3), [2], 0, []),
  (.nop, (21, 0), [1, 2], 0, []),
  (.iconst 0, (21, 1), [], 0, []),
  (.istore_n 1, (22, 1), [], 0, []),
  (.nop, (23, 0), [2], 0, []),
  (.iload_n 1, (23, 1), [], 0, []),
  (.bipush 10, (24, 2), [], 0, []),
  (.if_icmp .ge 60, (26, 3), [61], 0, []),
  (.nop, (29, 0), [2], 0, []),
  (.iconst 0, (29, 1), [], 0, []),
  (.istore_n 2, (30, 1), [], 0, []),
  (.nop, (31, 0), [], 0, []),
  (.iload_n 2, (31, 1), [], 0, []),
  (.bipush 10, (32, 2), [], 0, []),
  (.if_icmp .ge 46, (34, 3), [58], 0, []),
  (.nop, (37, 0), [], 0, []),
  (.aload_n 0, (37, 1), [], 0, []),
  (.getfield 24, (38, 3), [4, 4, 4], 0, []),
  (.iload_n 2, (41, 1), [], 0, []),
  (.aload_n 0, (42, 1), [], 0, []),
  (.aload_n 0, (43, 1), [], 0, []),
  (.getfield 18, (44, 3), [4, 2, 4], 0, []),
  (.iload_n 2, (47, 1), [], 0, []),
  (.iaload, (48, 1), [], 0, []),
  (.invokevirtual 79, (49, 3), [185, 2, 4, 0, 0, 0, 2], 0, []),
  (.nop, (52, 0), [], 0, []),
  (.ifCond .eq 20, (52, 3), [52], 0, []),
  (.nop, (55, 0), [], 0, []),
  (.aload_n 0, (55, 1), [], 0, []),
  (.aload_n 0, (56, 1), [], 0, []),
  (.getfield 21, (57, 3), [4, 3, 4], 0, []),
  (.iload_n 2, (60, 1), [], 0, []),
  (.iaload, (61, 1), [], 0, []),
  (.invokevirtual 79, (62, 3), [185, 2, 4, 0, 0, 0, 2], 0, []),
  (.nop, (65, 0), [], 0, []),
  (.ifCond .eq 7, (65, 3), [52], 0, []),
  (.nop, (68, 0), [], 0, []),
  (.iconst 1, (68, 1), [], 0, []),
  (.goto 4, (69, 3), [54], 0, []),
  (.nop, (72, 0), [], 0, []),
  (.iconst 0, (72, 1), [], 0, []),
  (.nop, (73, 0), [], 0, []),
  (.bastore, (73, 1), [], 0, []),
  (.iinc 2 1, (74, 3), [], 0, []),
  (.goto (-46), (77, 3), [24], 0, []),
  (.nop, (80, 0), [2], 0, []),
  (.iinc 1 1, (80, 3), [], 0, []),
  (.goto (-60), (83, 3), [17], 0, []),
  (.nop, (86, 0), [1, 2], 0, []),
  (.aload_n 0, (86, 1), [], 0, []),
  (.getfield 24, (87, 3), [4, 4, 4], 0, []),
  (.aload_n 0, (90, 1), [], 0, []),
  (.iconst 0, (91, 1), [], 0, []),
  (.invokevirtual 69, (92, 3), [182, 2, 4, 0, 0, 0, 4], 0, []),
  (.nop, (95, 0), [0, 1, 2], 0, []),
  (.baload, (95, 1), [], 0, []),
  (.ireturn, (96, 1), [1], 0, [])]
/-- DictProof$Meeting.partEnds (I)Z -/
def tb_185 : List Op := [(.iload_n 1, (0, 1), [], 0, []),
  (.ifCond .lt 22, (1, 3), [15], 0, []),
  (.nop, (4, 0), [], 0, []),
  (.iload_n 1, (4, 1), [], 0, []),
  (.bipush 10, (5, 2), [], 0, []),
  (.if_icmp .ge 16, (7, 3), [15], 0, []),
  (.nop, (10, 0), [], 0, []),
  (.aload_n 0, (10, 1), [], 0, []),
  (.getfield 24, (11, 3), [4, 4, 4], 0, []),
  (.aload_n 0, (14, 1), [], 0, []),
  (.iload_n 1, (15, 1), [], 0, []),
  (.invokevirtual 69, (16, 3), [182, 2, 4, 0, 0, 0, 4], 0, []),
  (.nop, (19, 0), [0, 1], 0, []),
  (.baload, (19, 1), [], 0, []),
  (.ifCond .eq 7, (20, 3), [18], 0, []),
  (.nop, (23, 0), [0, 1], 0, []),
  (.iconst 1, (23, 1), [], 0, []),
  (.goto 4, (24, 3), [20], 0, []),
  (.nop, (27, 0), [0, 1], 0, []),
  (.iconst 0, (27, 1), [], 0, []),
  (.nop, (28, 0), [0, 1], 0, []),
  (.ireturn, (28, 1), [1], 0, [])]
/-- DictProof$Reader.<init> ()V -/
def tb_186 : List Op := [(.aload_n 0, (0, 1), [], 0, []),
  (.invokespecial 3, (1, 3), [0, 0, 0, 0, 0, 9], 0, []),
  (.aload_n 0, (4, 1), [], 0, []),
  (.aconst_null, (5, 1), [], 0, []),
  (.putfield 9, (6, 3), [5, 0, 3], 0, []),
  (.aload_n 0, (9, 1), [], 0, []),
  (.aconst_null, (10, 1), [], 0, []),
  (.putfield 15, (11, 3), [5, 1, 3], 0, []),
  (.aload_n 0, (14, 1), [], 0, []),
  (.iconst 0, (15, 1), [], 0, []),
  (.putfield 19, (16, 3), [5, 2, 0], 0, []),
  (.aload_n 0, (19, 1), [], 0, []),
  (.iconst 0, (20, 1), [], 0, []),
  (.putfield 23, (21, 3), [5, 3, 0], 0, []),
  (.aload_n 0, (24, 1), [], 0, []),
  (.iconst 0, (25, 1), [], 0, []),
  (.putfield 26, (26, 3), [5, 4, 0], 0, []),
  (.return_, (29, 1), [], 0, [])]
/-- DictProof$Reader.start (LDictProof$Book;)V -/
def tb_187 : List Op := [(.aload_n 0, (0, 1), [], 0, []),
  (.aload_n 1, (1, 1), [], 0, []),
  (.putfield 9, (2, 3), [5, 0, 3], 0, []),
  (.aload_n 0, (5, 1), [], 0, []),
  (.getfield 9, (6, 3), [5, 0, 3], 0, []),
  (.invokevirtual 29, (9, 3), [141, 1, 0, 0, 0, 0, 1], 0, []),
  (.nop, (12, 0), [1], 0, []),
  (.aload_n 0, (12, 1), [], 0, []),
  (.aload_n 0, (13, 1), [], 0, []),
  (.getfield 9, (14, 3), [5, 0, 3], 0, []),
  (.getfield 34, (17, 3), [0, 5, 4], 0, []),
  (.iconst 0, (20, 1), [], 0, []),
  (.aaload, (21, 1), [], 0, []),
  (.putfield 15, (22, 3), [5, 1, 3], 0, []),
  (.aload_n 0, (25, 1), [], 0, []),
  (.iconst 0, (26, 1), [], 0, []),
  (.putfield 19, (27, 3), [5, 2, 0], 0, []),
  (.return_, (30, 1), [], 0, [])]
/-- DictProof$Reader.isWhole ()Z -/
def tb_188 : List Op := [(.aload_n 0, (0, 1), [], 0, []),
  (.getfield 19, (1, 3), [5, 2, 0], 0, []),
  (.bipush 6, (4, 2), [], 0, []),
  (.if_icmp .ne 7, (6, 3), [7], 0, []),
  (.nop, (9, 0), [0], 0, []),
  (.iconst 1, (9, 1), [], 0, []),
  (.goto 4, (10, 3), [9], 0, []),
  (.nop, (13, 0), [0], 0, []),
  (.iconst 0, (13, 1), [], 0, []),
  (.nop, (14, 0), [0], 0, []),
  (.ireturn, (14, 1), [1], 0, [])]
/-- DictProof$Reader.accepts (I)Z -/
def tb_189 : List Op := [(.aload_n 0, (0, 1), [], 0, []),
  (.getfield 9, (1, 3), [5, 0, 3], 0, []),
  (.ifnull 10, (4, 3), [7], 0, []),
  (.nop, (7, 0), [], 0, []),
  (.aload_n 0, (7, 1), [], 0, []),
  (.getfield 15, (8, 3), [5, 1, 3], 0, []),
  (.ifnonnull 5, (11, 3), [10], 0, []),
  (.nop, (14, 0), [0, 1], 0, []),
  (.iconst 0, (14, 1), [], 0, []),
  (.ireturn, (15, 1), [1], 0, []),
  (.nop, (16, 0), [], 0, []),
  (.aload_n 0, (16, 1), [], 0, []),
  (.getfield 19, (17, 3), [5, 2, 0], 0, []),
  (.tableswitch 118 0 6 #[44, 50, 72, 78, 84, 90, 96], (20, 44), [82], 0, [(0, 14), (1, 20), (2, 39), (3, 45), (4, 51), (5, 57), (6, 63)]),
  (.nop, (64, 0), [], 0, []),
  (.aload_n 0, (64, 1), [], 0, []),
  (.iload_n 1, (65, 1), [], 0, []),
  (.invokevirtual 38, (66, 3), [190, 2, 5, 0, 0, 0, 2], 0, []),
  (.nop, (69, 0), [0, 1], 0, []),
  (.ireturn, (69, 1), [1], 0, []),
  (.nop, (70, 0), [], 0, []),
  (.aload_n 0, (70, 1), [], 0, []),
  (.iload_n 1, (71, 1), [], 0, []),
  (.invokevirtual 42, (72, 3), [191, 2, 5, 0, 0, 0, 3], 0, []),
  (.nop, (75, 0), [], 0, []),
  (.ifCond .ne 11, (75, 3), [32], 0, []),
  (.nop, (78, 0), [], 0, []),
  (.aload_n 0, (78, 1), [], 0, []),
  (.iload_n 1, (79, 1), [], 0, []),
  (.invokevirtual 45, (80, 3), [192, 2, 5, 0, 0, 0, 2], 0, []),
  (.nop, (83, 0), [0, 1], 0, []),
  (.ifCond .eq 7, (83, 3), [35], 0, []),
  (.nop, (86, 0), [0, 1], 0, []),
  (.iconst 1, (86, 1), [], 0, []),
  (.goto 4, (87, 3), [37], 0, []),
  (.nop, (90, 0), [0, 1], 0, []),
  (.iconst 0, (90, 1), [], 0, []),
  (.nop, (91, 0), [0, 1], 0, []),
  (.ireturn, (91, 1), [1], 0, []),
  (.nop, (92, 0), [], 0, []),
  (.aload_n 0, (92, 1), [], 0, []),
  (.iload_n 1, (93, 1), [], 0, []),
  (.invokevirtual 45, (94, 3), [192, 2, 5, 0, 0, 0, 2], 0, []),
  (.nop, (97, 0), [0, 1], 0, []),
  (.ireturn, (97, 1), [1], 0, []),
  (.nop, (98, 0), [], 0, []),
  (.aload_n 0, (98, 1), [], 0, []),
  (.iload_n 1, (99, 1), [], 0, []),
  (.invokevirtual 48, (100, 3), [193, 2, 5, 0, 0, 0, 3], 0, []),
  (.nop, (103, 0), [0, 1], 0, []),
  (.ireturn, (103, 1), [1], 0, []),
  (.nop, (104, 0), [], 0, []),
  (.aload_n 0, (104, 1), [], 0, []),
  (.iload_n 1, (105, 1), [], 0, []),
  (.invokevirtual 51, (106, 3), [196, 2, 5, 0, 0, 0, 2], 0, []),
  (.nop, (109, 0), [0, 1], 0, []),
  (.ireturn, (109, 1), [1], 0, []),
  (.nop, (110, 0), [], 0, []),
  (.aload_n 0, (110, 1), [], 0, []),
  (.iload_n 1, (111, 1), [], 0, []),
  (.invokevirtual 54, (112, 3), [197, 2, 5, 0, 0, 0, 4], 0, []),
  (.nop, (115, 0), [0, 1], 0, []),
  (.ireturn, (115, 1), [1], 0, []),
  (.nop, (116, 0), [], 0, []),
  (.aload_n 0, (116, 1), [], 0, []),
  (.iload_n 1, (117, 1), [], 0, []),
  (.invokevirtual 57, (118, 3), [198, 2, 5, 0, 0, 0, 2], 0, []),
  (.nop, (121, 0), [], 0, []),
  (.ifCond .ne 11, (121, 3), [75], 0, []),
  (.nop, (124, 0), [], 0, []),
  (.aload_n 0, (124, 1), [], 0, []),
  (.iload_n 1, (125, 1), [], 0, []),
  (.invokevirtual 60, (126, 3), [200, 2, 5, 0, 0, 0, 2], 0, []),
  (.nop, (129, 0), [0, 1], 0, []),
  (.ifCond .eq 7, (129, 3), [78], 0, []),
  (.nop, (132, 0), [0, 1], 0, []),
  (.iconst 1, (132, 1), [], 0, []),
  (.goto 4, (133, 3), [80], 0, []),
  (.nop, (136, 0), [0, 1], 0, []),
  (.iconst 0, (136, 1), [], 0, []),
  (.nop, (137, 0), [0, 1], 0, []),
  (.ireturn, (137, 1), [1], 0, []),
  (.nop, (138, 0), [], 0, []),
  (.aload_n 0, (138, 1), [], 0, []),
  (.iload_n 1, (139, 1), [], 0, []),
  (.invokevirtual 63, (140, 3), [199, 2, 5, 0, 0, 0, 3], 0, []),
  (.nop, (143, 0), [0, 1], 0, []),
  (.ireturn, (143, 1), [1], 0, [])]
/-- DictProof$Reader.acceptsClass (I)Z -/
def tb_190 : List Op := [(.iload_n 1, (0, 1), [], 0, []),
  (.bipush 45, (1, 2), [], 0, []),
  (.if_icmp .ne 17, (3, 3), [13], 0, []),
  (.nop, (6, 0), [1], 0, []),
  (.aload_n 0, (6, 1), [], 0, []),
  (.getfield 9, (7, 3), [5, 0, 3], 0, []),
  (.invokevirtual 66, (10, 3), [142, 1, 0, 0, 0, 0, 1], 0, []),
  (.nop, (13, 0), [1], 0, []),
  (.aload_n 0, (13, 1), [], 0, []),
  (.iconst 2, (14, 1), [], 0, []),
  (.putfield 19, (15, 3), [5, 2, 0], 0, []),
  (.iconst 1, (18, 1), [], 0, []),
  (.ireturn, (19, 1), [1], 0, []),
  (.nop, (20, 0), [], 0, []),
  (.aload_n 0, (20, 1), [], 0, []),
  (.iload_n 1, (21, 1), [], 0, []),
  (.bipush 48, (22, 2), [], 0, []),
  (.isub, (24, 1), [], 0, []),
  (.putfield 23, (25, 3), [5, 3, 0], 0, []),
  (.aload_n 0, (28, 1), [], 0, []),
  (.getfield 23, (29, 3), [5, 3, 0], 0, []),
  (.ifCond .lt 17, (32, 3), [29], 0, []),
  (.nop, (35, 0), [1], 0, []),
  (.aload_n 0, (35, 1), [], 0, []),
  (.getfield 23, (36, 3), [5, 3, 0], 0, []),
  (.aload_n 0, (39, 1), [], 0, []),
  (.getfield 9, (40, 3), [5, 0, 3], 0, []),
  (.getfield 69, (43, 3), [0, 0, 0], 0, []),
  (.if_icmp .lt 5, (46, 3), [32], 0, []),
  (.nop, (49, 0), [0, 1], 0, []),
  (.iconst 0, (49, 1), [], 0, []),
  (.ireturn, (50, 1), [1], 0, []),
  (.nop, (51, 0), [1], 0, []),
  (.aload_n 0, (51, 1), [], 0, []),
  (.getfield 9, (52, 3), [5, 0, 3], 0, []),
  (.invokevirtual 66, (55, 3), [142, 1, 0, 0, 0, 0, 1], 0, []),
  (.nop, (58, 0), [1], 0, []),
  (.aload_n 0, (58, 1), [], 0, []),
  (.getfield 9, (59, 3), [5, 0, 3], 0, []),
  (.aload_n 0, (62, 1), [], 0, []),
  (.getfield 23, (63, 3), [5, 3, 0], 0, []),
  (.invokevirtual 72, (66, 3), [143, 2, 0, 0, 0, 0, 2], 0, []),
  (.nop, (69, 0), [1], 0, []),
  (.aload_n 0, (69, 1), [], 0, []),
  (.iconst 1, (70, 1), [], 0, []),
  (.putfield 19, (71, 3), [5, 2, 0], 0, []),
  (.iconst 1, (74, 1), [], 0, []),
  (.ireturn, (75, 1), [1], 0, [])]
/-- DictProof$Reader.acceptsSecondDigit (I)Z -/
def tb_191 : List Op := [(.iload_n 1, (0, 1), [], 0, []),
  (.bipush 48, (1, 2), [], 0, []),
  (.isub, (3, 1), [], 0, []),
  (.istore_n 2, (4, 1), [], 0, []),
  (.iload_n 2, (5, 1), [], 0, []),
  (.aload_n 0, (6, 1), [], 0, []),
  (.getfield 23, (7, 3), [5, 3, 0], 0, []),
  (.if_icmp .le 16, (10, 3), [16], 0, []),
  (.nop, (13, 0), [1], 0, []),
  (.iload_n 2, (13, 1), [], 0, []),
  (.aload_n 0, (14, 1), [], 0, []),
  (.getfield 9, (15, 3), [5, 0, 3], 0, []),
  (.getfield 69, (18, 3), [0, 0, 0], 0, []),
  (.iconst 1, (21, 1), [], 0, []),
  (.isub, (22, 1), [], 0, []),
  (.if_icmp .lt 5, (23, 3), [19], 0, []),
  (.nop, (26, 0), [0, 1, 2], 0, []),
  (.iconst 0, (26, 1), [], 0, []),
  (.ireturn, (27, 1), [1], 0, []),
  (.nop, (28, 0), [1], 0, []),
  (.aload_n 0, (28, 1), [], 0, []),
  (.getfield 9, (29, 3), [5, 0, 3], 0, []),
  (.iload_n 2, (32, 1), [], 0, []),
  (.invokevirtual 72, (33, 3), [143, 2, 0, 0, 0, 0, 2], 0, []),
  (.nop, (36, 0), [1, 2], 0, []),
  (.aload_n 0, (36, 1), [], 0, []),
  (.iconst 2, (37, 1), [], 0, []),
  (.putfield 19, (38, 3), [5, 2, 0], 0, []),
  (.iconst 1, (41, 1), [], 0, []),
  (.ireturn, (42, 1), [1], 0, [])]
/-- DictProof$Reader.acceptsClassEnd (I)Z -/
def tb_192 : List Op := [(.iload_n 1, (0, 1), [], 0, []),
  (.bipush 59, (1, 2), [], 0, []),
  (.if_icmp .ne 10, (3, 3), [9], 0, []),
  (.nop, (6, 0), [1], 0, []),
  (.aload_n 0, (6, 1), [], 0, []),
  (.iconst 3, (7, 1), [], 0, []),
  (.putfield 19, (8, 3), [5, 2, 0], 0, []),
  (.iconst 1, (11, 1), [], 0, []),
  (.ireturn, (12, 1), [1], 0, []),
  (.nop, (13, 0), [], 0, []),
  (.iload_n 1, (13, 1), [], 0, []),
  (.bipush 44, (14, 2), [], 0, []),
  (.if_icmp .ne 14, (16, 3), [19], 0, []),
  (.nop, (19, 0), [1], 0, []),
  (.aload_n 0, (19, 1), [], 0, []),
  (.getfield 9, (20, 3), [5, 0, 3], 0, []),
  (.getfield 69, (23, 3), [0, 0, 0], 0, []),
  (.iconst 4, (26, 1), [], 0, []),
  (.if_icmp .lt 5, (27, 3), [22], 0, []),
  (.nop, (30, 0), [0, 1], 0, []),
  (.iconst 0, (30, 1), [], 0, []),
  (.ireturn, (31, 1), [1], 0, []),
  (.nop, (32, 0), [1], 0, []),
  (.aload_n 0, (32, 1), [], 0, []),
  (.iconst 0, (33, 1), [], 0, []),
  (.putfield 19, (34, 3), [5, 2, 0], 0, []),
  (.iconst 1, (37, 1), [], 0, []),
  (.ireturn, (38, 1), [1], 0, [])]
/-- DictProof$Reader.acceptsKind (I)Z -/
def tb_193 : List Op := [(.iload_n 1, (0, 1), [], 0, []),
  (.invokestatic 76, (1, 3), [194, 1, 0, 0, 0, 0, 1], 0, []),
  (.nop, (4, 0), [1, 2], 0, []),
  (.istore_n 2, (4, 1), [], 0, []),
  (.iload_n 2, (5, 1), [], 0, []),
  (.iconst (-1), (6, 1), [], 0, []),
  (.if_icmp .eq 15, (7, 3), [13], 0, []),
  (.nop, (10, 0), [1], 0, []),
  (.aload_n 0, (10, 1), [], 0, []),
  (.getfield 9, (11, 3), [5, 0, 3], 0, []),
  (.getfield 80, (14, 3), [0, 4, 0], 0, []),
  (.bipush 6, (17, 2), [], 0, []),
  (.if_icmp .lt 5, (19, 3), [16], 0, []),
  (.nop, (22, 0), [0, 1, 2], 0, []),
  (.iconst 0, (22, 1), [], 0, []),
  (.ireturn, (23, 1), [1], 0, []),
  (.nop, (24, 0), [1], 0, []),
  (.aload_n 0, (24, 1), [], 0, []),
  (.aload_n 0, (25, 1), [], 0, []),
  (.getfield 9, (26, 3), [5, 0, 3], 0, []),
  (.getfield 34, (29, 3), [0, 5, 4], 0, []),
  (.aload_n 0, (32, 1), [], 0, []),
  (.getfield 9, (33, 3), [5, 0, 3], 0, []),
  (.getfield 80, (36, 3), [0, 4, 0], 0, []),
  (.aaload, (39, 1), [], 0, []),
  (.putfield 15, (40, 3), [5, 1, 3], 0, []),
  (.aload_n 0, (43, 1), [], 0, []),
  (.getfield 9, (44, 3), [5, 0, 3], 0, []),
  (.iload_n 2, (47, 1), [], 0, []),
  (.invokevirtual 83, (48, 3), [144, 2, 0, 0, 0, 0, 2], 0, []),
  (.nop, (51, 0), [1, 2], 0, []),
  (.aload_n 0, (51, 1), [], 0, []),
  (.iconst 4, (52, 1), [], 0, []),
  (.putfield 19, (53, 3), [5, 2, 0], 0, []),
  (.iconst 1, (56, 1), [], 0, []),
  (.ireturn, (57, 1), [1], 0, [])]
/-- DictProof$Reader.kindOf (I)I -/
def tb_194 : List Op := [(.iload_n 0, (0, 1), [], 0, []),
  (.lookupswitch 61 #[(100, 53), (102, 57), (104, 55), (110, 51), (115, 59)], (1, 51), [17], 0, [(100, 5), (102, 11), (104, 8), (110, 2), (115, 14)]),
  (.nop, (52, 0), [0], 0, []),
  (.iconst 0, (52, 1), [], 0, []),
  (.ireturn, (53, 1), [0], 0, []),
  (.nop, (54, 0), [0], 0, []),
  (.iconst 1, (54, 1), [], 0, []),
  (.ireturn, (55, 1), [0], 0, []),
  (.nop, (56, 0), [0], 0, []),
  (.iconst 2, (56, 1), [], 0, []),
  (.ireturn, (57, 1), [0], 0, []),
  (.nop, (58, 0), [0], 0, []),
  (.iconst 3, (58, 1), [], 0, []),
  (.ireturn, (59, 1), [0], 0, []),
  (.nop, (60, 0), [0], 0, []),
  (.iconst 4, (60, 1), [], 0, []),
  (.ireturn, (61, 1), [0], 0, []),
  (.nop, (62, 0), [0], 0, []),
  (.iconst (-1), (62, 1), [], 0, []),
  (.ireturn, (63, 1), [0], 0, [])]
/-- DictProof$Reader.isClassDigit (I)Z -/
def tb_195 : List Op := [(.iload_n 1, (0, 1), [], 0, []),
  (.bipush 48, (1, 2), [], 0, []),
  (.if_icmp .lt 21, (3, 3), [14], 0, []),
  (.nop, (6, 0), [], 0, []),
  (.iload_n 1, (6, 1), [], 0, []),
  (.bipush 48, (7, 2), [], 0, []),
  (.isub, (9, 1), [], 0, []),
  (.aload_n 0, (10, 1), [], 0, []),
  (.getfield 9, (11, 3), [5, 0, 3], 0, []),
  (.getfield 69, (14, 3), [0, 0, 0], 0, []),
  (.if_icmp .ge 7, (17, 3), [14], 0, []),
  (.nop, (20, 0), [0, 1], 0, []),
  (.iconst 1, (20, 1), [], 0, []),
  (.goto 4, (21, 3), [16], 0, []),
  (.nop, (24, 0), [0, 1], 0, []),
  (.iconst 0, (24, 1), [], 0, []),
  (.nop, (25, 0), [0, 1], 0, []),
  (.ireturn, (25, 1), [1], 0, [])]
/-- DictProof$Reader.acceptsOwner (I)Z -/
def tb_196 : List Op := [(.aload_n 0, (0, 1), [], 0, []),
  (.iload_n 1, (1, 1), [], 0, []),
  (.invokevirtual 86, (2, 3), [195, 2, 5, 0, 0, 0, 2], 0, []),
  (.nop, (5, 0), [], 0, []),
  (.ifCond .ne 5, (5, 3), [8], 0, []),
  (.nop, (8, 0), [0, 1], 0, []),
  (.iconst 0, (8, 1), [], 0, []),
  (.ireturn, (9, 1), [1], 0, []),
  (.nop, (10, 0), [], 0, []),
  (.aload_n 0, (10, 1), [], 0, []),
  (.getfield 15, (11, 3), [5, 1, 3], 0, []),
  (.iload_n 1, (14, 1), [], 0, []),
  (.bipush 48, (15, 2), [], 0, []),
  (.isub, (17, 1), [], 0, []),
  (.putfield 89, (18, 3), [6, 1, 0], 0, []),
  (.aload_n 0, (21, 1), [], 0, []),
  (.iconst 1, (22, 1), [], 0, []),
  (.putfield 26, (23, 3), [5, 4, 0], 0, []),
  (.aload_n 0, (26, 1), [], 0, []),
  (.iconst 5, (27, 1), [], 0, []),
  (.putfield 19, (28, 3), [5, 2, 0], 0, []),
  (.iconst 1, (31, 1), [], 0, []),
  (.ireturn, (32, 1), [1], 0, [])]
/-- DictProof$Reader.acceptsHead (I)Z -/
def tb_197 : List Op := [(.iload_n 1, (0, 1), [], 0, []),
  (.invokestatic 94, (1, 3), [207, 1, 0, 0, 0, 0, 1], 0, []),
  (.nop, (4, 0), [1, 2, 3], 0, []),
  (.istore_n 2, (4, 1), [], 0, []),
  (.aload_n 0, (5, 1), [], 0, []),
  (.getfield 15, (6, 3), [5, 1, 3], 0, []),
  (.getfield 99, (9, 3), [6, 2, 4], 0, []),
  (.getfield 103, (12, 3), [7, 3, 0], 0, []),
  (.aload_n 0, (15, 1), [], 0, []),
  (.getfield 26, (16, 3), [5, 4, 0], 0, []),
  (.iadd, (19, 1), [], 0, []),
  (.iload_n 2, (20, 1), [], 0, []),
  (.invokestatic 106, (21, 3), [208, 1, 0, 0, 0, 0, 1], 0, []),
  (.nop, (24, 0), [1, 3], 0, []),
  (.iadd, (24, 1), [], 0, []),
  (.istore_n 3, (25, 1), [], 0, []),
  (.iload_n 2, (26, 1), [], 0, []),
  (.iconst (-1), (27, 1), [], 0, []),
  (.if_icmp .eq 8, (28, 3), [23], 0, []),
  (.nop, (31, 0), [1], 0, []),
  (.iload_n 3, (31, 1), [], 0, []),
  (.iconst 5, (32, 1), [], 0, []),
  (.if_icmp .le 5, (33, 3), [26], 0, []),
  (.nop, (36, 0), [0, 1, 2, 3], 0, []),
  (.iconst 0, (36, 1), [], 0, []),
  (.ireturn, (37, 1), [1], 0, []),
  (.nop, (38, 0), [1, 3], 0, []),
  (.aload_n 0, (38, 1), [], 0, []),
  (.getfield 15, (39, 3), [5, 1, 3], 0, []),
  (.getfield 99, (42, 3), [6, 2, 4], 0, []),
  (.iload_n 2, (45, 1), [], 0, []),
  (.invokevirtual 109, (46, 3), [211, 2, 7, 0, 0, 0, 2], 0, []),
  (.nop, (49, 0), [1, 3], 0, []),
  (.aload_n 0, (49, 1), [], 0, []),
  (.dup, (50, 1), [], 0, []),
  (.getfield 26, (51, 3), [5, 4, 0], 0, []),
  (.iload_n 2, (54, 1), [], 0, []),
  (.invokestatic 106, (55, 3), [208, 1, 0, 0, 0, 0, 1], 0, []),
  (.nop, (58, 0), [1, 2, 3], 0, []),
  (.iconst 1, (58, 1), [], 0, []),
  (.isub, (59, 1), [], 0, []),
  (.iadd, (60, 1), [], 0, []),
  (.putfield 26, (61, 3), [5, 4, 0], 0, []),
  (.aload_n 0, (64, 1), [], 0, []),
  (.getfield 26, (65, 3), [5, 4, 0], 0, []),
  (.ifCond .ne 9, (68, 3), [50], 0, []),
  (.nop, (71, 0), [1, 2, 3], 0, []),
  (.aload_n 0, (71, 1), [], 0, []),
  (.bipush 6, (72, 2), [], 0, []),
  (.putfield 19, (74, 3), [5, 2, 0], 0, []),
  (.nop, (77, 0), [0, 1, 2, 3], 0, []),
  (.iconst 1, (77, 1), [], 0, []),
  (.ireturn, (78, 1), [1], 0, [])]
/-- DictProof$Reader.acceptsCondition (I)Z -/
def tb_198 : List Op := [(.aload_n 0, (0, 1), [], 0, []),
  (.iload_n 1, (1, 1), [], 0, []),
  (.invokevirtual 86, (2, 3), [195, 2, 5, 0, 0, 0, 2], 0, []),
  (.nop, (5, 0), [], 0, []),
  (.ifCond .eq 13, (5, 3), [11], 0, []),
  (.nop, (8, 0), [], 0, []),
  (.aload_n 0, (8, 1), [], 0, []),
  (.getfield 15, (9, 3), [5, 1, 3], 0, []),
  (.invokevirtual 112, (12, 3), [204, 1, 6, 0, 0, 0, 1], 0, []),
  (.nop, (15, 0), [], 0, []),
  (.ifCond .ne 5, (15, 3), [14], 0, []),
  (.nop, (18, 0), [0, 1], 0, []),
  (.iconst 0, (18, 1), [], 0, []),
  (.ireturn, (19, 1), [1], 0, []),
  (.nop, (20, 0), [], 0, []),
  (.aload_n 0, (20, 1), [], 0, []),
  (.iload_n 1, (21, 1), [], 0, []),
  (.bipush 48, (22, 2), [], 0, []),
  (.isub, (24, 1), [], 0, []),
  (.putfield 23, (25, 3), [5, 3, 0], 0, []),
  (.aload_n 0, (28, 1), [], 0, []),
  (.bipush 7, (29, 2), [], 0, []),
  (.putfield 19, (31, 3), [5, 2, 0], 0, []),
  (.iconst 1, (34, 1), [], 0, []),
  (.ireturn, (35, 1), [1], 0, [])]
/-- DictProof$Reader.acceptsGap (I)Z -/
def tb_199 : List Op := [(.iload_n 1, (0, 1), [], 0, []),
  (.invokestatic 94, (1, 3), [207, 1, 0, 0, 0, 0, 1], 0, []),
  (.nop, (4, 0), [1, 2], 0, []),
  (.invokestatic 116, (4, 3), [209, 1, 0, 0, 0, 0, 1], 0, []),
  (.nop, (7, 0), [1, 2], 0, []),
  (.istore_n 2, (7, 1), [], 0, []),
  (.iload_n 2, (8, 1), [], 0, []),
  (.iconst (-1), (9, 1), [], 0, []),
  (.if_icmp .eq 17, (10, 3), [17], 0, []),
  (.nop, (13, 0), [1], 0, []),
  (.aload_n 0, (13, 1), [], 0, []),
  (.getfield 15, (14, 3), [5, 1, 3], 0, []),
  (.getfield 99, (17, 3), [6, 2, 4], 0, []),
  (.iload_n 2, (20, 1), [], 0, []),
  (.invokevirtual 119, (21, 3), [217, 2, 7, 0, 0, 0, 3], 0, []),
  (.nop, (24, 0), [1], 0, []),
  (.ifCond .ne 5, (24, 3), [20], 0, []),
  (.nop, (27, 0), [0, 1, 2], 0, []),
  (.iconst 0, (27, 1), [], 0, []),
  (.ireturn, (28, 1), [1], 0, []),
  (.nop, (29, 0), [1], 0, []),
  (.aload_n 0, (29, 1), [], 0, []),
  (.getfield 15, (30, 3), [5, 1, 3], 0, []),
  (.aload_n 0, (33, 1), [], 0, []),
  (.getfield 23, (34, 3), [5, 3, 0], 0, []),
  (.iload_n 2, (37, 1), [], 0, []),
  (.invokevirtual 122, (38, 3), [205, 3, 6, 0, 0, 0, 3], 0, []),
  (.nop, (41, 0), [1, 2], 0, []),
  (.aload_n 0, (41, 1), [], 0, []),
  (.bipush 6, (42, 2), [], 0, []),
  (.putfield 19, (44, 3), [5, 2, 0], 0, []),
  (.iconst 1, (47, 1), [], 0, []),
  (.ireturn, (48, 1), [1], 0, [])]
/-- DictProof$Reader.acceptsNext (I)Z -/
def tb_200 : List Op := [(.iload_n 1, (0, 1), [], 0, []),
  (.bipush 44, (1, 2), [], 0, []),
  (.if_icmp .ne 15, (3, 3), [9], 0, []),
  (.nop, (6, 0), [1], 0, []),
  (.aload_n 0, (6, 1), [], 0, []),
  (.getfield 9, (7, 3), [5, 0, 3], 0, []),
  (.getfield 80, (10, 3), [0, 4, 0], 0, []),
  (.bipush 6, (13, 2), [], 0, []),
  (.if_icmp .lt 5, (15, 3), [12], 0, []),
  (.nop, (18, 0), [0, 1], 0, []),
  (.iconst 0, (18, 1), [], 0, []),
  (.ireturn, (19, 1), [1], 0, []),
  (.nop, (20, 0), [1], 0, []),
  (.aload_n 0, (20, 1), [], 0, []),
  (.iconst 3, (21, 1), [], 0, []),
  (.putfield 19, (22, 3), [5, 2, 0], 0, []),
  (.iconst 1, (25, 1), [], 0, []),
  (.ireturn, (26, 1), [1], 0, [])]
/-- DictProof$Rule.<init> ()V -/
def tb_201 : List Op := [(.aload_n 0, (0, 1), [], 0, []),
  (.invokespecial 3, (1, 3), [0, 0, 0, 0, 0, 9], 0, []),
  (.aload_n 0, (4, 1), [], 0, []),
  (.iconst 0, (5, 1), [], 0, []),
  (.putfield 9, (6, 3), [6, 0, 0], 0, []),
  (.aload_n 0, (9, 1), [], 0, []),
  (.iconst 0, (10, 1), [], 0, []),
  (.putfield 15, (11, 3), [6, 1, 0], 0, []),
  (.aload_n 0, (14, 1), [], 0, []),
  (.new 18, (15, 3), [7, 4], 0, []),
  (.dup, (18, 1), [], 0, []),
  (.invokespecial 20, (19, 3), [206, 1, 7, 3, 27, 1, 1], 0, []),
  (.nop, (22, 0), [], 0, []),
  (.putfield 21, (22, 3), [6, 2, 4], 0, []),
  (.aload_n 0, (25, 1), [], 0, []),
  (.iconst 0, (26, 1), [], 0, []),
  (.putfield 25, (27, 3), [6, 3, 0], 0, []),
  (.aload_n 0, (30, 1), [], 0, []),
  (.iconst 2, (31, 1), [], 0, []),
  (.newarray .int, (32, 2), [20], 0, []),
  (.putfield 28, (34, 3), [6, 4, 4], 0, []),
  (.aload_n 0, (37, 1), [], 0, []),
  (.iconst 2, (38, 1), [], 0, []),
  (.newarray .int, (39, 2), [20], 0, []),
  (.putfield 32, (41, 3), [6, 5, 4], 0, []),
  (.aload_n 0, (44, 1), [], 0, []),
  (.iconst 0, (45, 1), [], 0, []),
  (.putfield 35, (46, 3), [6, 6, 0], 0, []),
  (.return_, (49, 1), [], 0, [])]
/-- DictProof$Rule.startWith (I)V -/
def tb_202 : List Op := [(.aload_n 0, (0, 1), [], 0, []),
  (.iload_n 1, (1, 1), [], 0, []),
  (.putfield 9, (2, 3), [6, 0, 0], 0, []),
  (.aload_n 0, (5, 1), [], 0, []),
  (.iconst 0, (6, 1), [], 0, []),
  (.putfield 15, (7, 3), [6, 1, 0], 0, []),
  (.aload_n 0, (10, 1), [], 0, []),
  (.getfield 21, (11, 3), [6, 2, 4], 0, []),
  (.invokevirtual 38, (14, 3), [210, 1, 7, 0, 0, 0, 1], 0, []),
  (.nop, (17, 0), [1], 0, []),
  (.aload_n 0, (17, 1), [], 0, []),
  (.iconst 0, (18, 1), [], 0, []),
  (.putfield 25, (19, 3), [6, 3, 0], 0, []),
  (.return_, (22, 1), [], 0, [])]
/-- DictProof$Rule.isSound ()Z -/
def tb_203 : List Op := [(.aload_n 0, (0, 1), [], 0, []),
  (.getfield 25, (1, 3), [6, 3, 0], 0, []),
  (.ifCond .eq 15, (4, 3), [11], 0, []),
  (.nop, (7, 0), [], 0, []),
  (.aload_n 0, (7, 1), [], 0, []),
  (.getfield 21, (8, 3), [6, 2, 4], 0, []),
  (.iconst 0, (11, 1), [], 0, []),
  (.invokevirtual 41, (12, 3), [216, 2, 7, 0, 0, 0, 2], 0, []),
  (.nop, (15, 0), [0], 0, []),
  (.iconst (-1), (15, 1), [], 0, []),
  (.if_icmp .ne 7, (16, 3), [14], 0, []),
  (.nop, (19, 0), [0], 0, []),
  (.iconst 1, (19, 1), [], 0, []),
  (.goto 4, (20, 3), [16], 0, []),
  (.nop, (23, 0), [0], 0, []),
  (.iconst 0, (23, 1), [], 0, []),
  (.nop, (24, 0), [0], 0, []),
  (.ireturn, (24, 1), [1], 0, [])]
/-- DictProof$Rule.hasRoom ()Z -/
def tb_204 : List Op := [(.aload_n 0, (0, 1), [], 0, []),
  (.getfield 25, (1, 3), [6, 3, 0], 0, []),
  (.iconst 2, (4, 1), [], 0, []),
  (.if_icmp .ge 29, (5, 3), [21], 0, []),
  (.nop, (8, 0), [], 0, []),
  (.aload_n 0, (8, 1), [], 0, []),
  (.getfield 21, (9, 3), [6, 2, 4], 0, []),
  (.iconst 0, (12, 1), [], 0, []),
  (.invokevirtual 45, (13, 3), [217, 2, 7, 0, 0, 0, 3], 0, []),
  (.nop, (16, 0), [], 0, []),
  (.ifCond .ne 14, (16, 3), [18], 0, []),
  (.nop, (19, 0), [], 0, []),
  (.aload_n 0, (19, 1), [], 0, []),
  (.getfield 21, (20, 3), [6, 2, 4], 0, []),
  (.iconst 1, (23, 1), [], 0, []),
  (.invokevirtual 45, (24, 3), [217, 2, 7, 0, 0, 0, 3], 0, []),
  (.nop, (27, 0), [0], 0, []),
  (.ifCond .eq 7, (27, 3), [21], 0, []),
  (.nop, (30, 0), [0], 0, []),
  (.iconst 1, (30, 1), [], 0, []),
  (.goto 4, (31, 3), [23], 0, []),
  (.nop, (34, 0), [0], 0, []),
  (.iconst 0, (34, 1), [], 0, []),
  (.nop, (35, 0), [0], 0, []),
  (.ireturn, (35, 1), [1], 0, [])]
/-- DictProof$Rule.addCondition (II)V -/
def tb_205 : List Op := [(.aload_n 0, (0, 1), [], 0, []),
  (.getfield 25, (1, 3), [6, 3, 0], 0, []),
  (.iconst 2, (4, 1), [], 0, []),
  (.if_icmp .ge 33, (5, 3), [23], 0, []),
  (.nop, (8, 0), [], 0, []),
  (.aload_n 0, (8, 1), [], 0, []),
  (.getfield 28, (9, 3), [6, 4, 4], 0, []),
  (.aload_n 0, (12, 1), [], 0, []),
  (.getfield 25, (13, 3), [6, 3, 0], 0, []),
  (.iload_n 1, (16, 1), [], 0, []),
  (.iastore, (17, 1), [], 0, []),
  (.aload_n 0, (18, 1), [], 0, []),
  (.getfield 32, (19, 3), [6, 5, 4], 0, []),
  (.aload_n 0, (22, 1), [], 0, []),
  (.getfield 25, (23, 3), [6, 3, 0], 0, []),
  (.iload_n 2, (26, 1), [], 0, []),
  (.iastore, (27, 1), [], 0, []),
  (.aload_n 0, (28, 1), [], 0, []),
  (.dup, (29, 1), [], 0, []),
  (.getfield 25, (30, 3), [6, 3, 0], 0, []),
  (.iconst 1, (33, 1), [], 0, []),
  (.iadd, (34, 1), [], 0, []),
  (.putfield 25, (35, 3), [6, 3, 0], 0, []),
  (.nop, (38, 0), [0, 1, 2], 0, []),
  (.return_, (38, 1), [], 0, [])]
/-- DictProof$Shape.<init> ()V -/
def tb_206 : List Op := [(.aload_n 0, (0, 1), [], 0, []),
  (.invokespecial 3, (1, 3), [0, 0, 0, 0, 0, 9], 0, []),
  (.aload_n 0, (4, 1), [], 0, []),
  (.bipush 9, (5, 2), [], 0, []),
  (.newarray .int, (7, 2), [20], 0, []),
  (.putfield 9, (9, 3), [7, 0, 4], 0, []),
  (.aload_n 0, (12, 1), [], 0, []),
  (.bipush 9, (13, 2), [], 0, []),
  (.newarray .int, (15, 2), [20], 0, []),
  (.putfield 15, (17, 3), [7, 1, 4], 0, []),
  (.aload_n 0, (20, 1), [], 0, []),
  (.bipush 9, (21, 2), [], 0, []),
  (.newarray .int, (23, 2), [20], 0, []),
  (.putfield 18, (25, 3), [7, 2, 4], 0, []),
  (.aload_n 0, (28, 1), [], 0, []),
  (.iconst 0, (29, 1), [], 0, []),
  (.putfield 21, (30, 3), [7, 3, 0], 0, []),
  (.return_, (33, 1), [], 0, [])]
/-- DictProof$Shape.signOf (I)I -/
def tb_207 : List Op := [(.iload_n 0, (0, 1), [], 0, []),
  (.lookupswitch 71 #[(98, 61), (105, 59), (108, 63), (112, 65), (120, 67), (121, 69)], (1, 59), [20], 0, [(98, 5), (105, 2), (108, 8), (112, 11), (120, 14), (121, 17)]),
  (.nop, (60, 0), [0], 0, []),
  (.iconst 0, (60, 1), [], 0, []),
  (.ireturn, (61, 1), [0], 0, []),
  (.nop, (62, 0), [0], 0, []),
  (.iconst 1, (62, 1), [], 0, []),
  (.ireturn, (63, 1), [0], 0, []),
  (.nop, (64, 0), [0], 0, []),
  (.iconst 2, (64, 1), [], 0, []),
  (.ireturn, (65, 1), [0], 0, []),
  (.nop, (66, 0), [0], 0, []),
  (.iconst 3, (66, 1), [], 0, []),
  (.ireturn, (67, 1), [0], 0, []),
  (.nop, (68, 0), [0], 0, []),
  (.iconst 4, (68, 1), [], 0, []),
  (.ireturn, (69, 1), [0], 0, []),
  (.nop, (70, 0), [0], 0, []),
  (.iconst 5, (70, 1), [], 0, []),
  (.ireturn, (71, 1), [0], 0, []),
  (.nop, (72, 0), [0], 0, []),
  (.iconst (-1), (72, 1), [], 0, []),
  (.ireturn, (73, 1), [0], 0, [])]
/-- DictProof$Shape.partsOf (I)I -/
def tb_208 : List Op := [(.iload_n 0, (0, 1), [], 0, []),
  (.ifCond .lt 11, (1, 3), [7], 0, []),
  (.nop, (4, 0), [], 0, []),
  (.iload_n 0, (4, 1), [], 0, []),
  (.getstatic 25, (5, 3), [2], 0, []),
  (.arraylength, (8, 1), [], 0, []),
  (.if_icmp .lt 7, (9, 3), [10], 0, []),
  (.nop, (12, 0), [0], 0, []),
  (.iconst 0, (12, 1), [], 0, []),
  (.goto 8, (13, 3), [14], 0, []),
  (.nop, (16, 0), [], 0, []),
  (.getstatic 25, (16, 3), [2], 0, []),
  (.iload_n 0, (19, 1), [], 0, []),
  (.iaload, (20, 1), [], 0, []),
  (.nop, (21, 0), [0], 0, []),
  (.ireturn, (21, 1), [0], 0, [])]
/-- DictProof$Shape.variableOf (I)I -/
def tb_209 : List Op := [(.iload_n 0, (0, 1), [], 0, []),
  (.iconst 4, (1, 1), [], 0, []),
  (.if_icmp .ge 7, (2, 3), [6], 0, []),
  (.nop, (5, 0), [0], 0, []),
  (.iconst (-1), (5, 1), [], 0, []),
  (.goto 6, (6, 3), [10], 0, []),
  (.nop, (9, 0), [], 0, []),
  (.iload_n 0, (9, 1), [], 0, []),
  (.iconst 4, (10, 1), [], 0, []),
  (.isub, (11, 1), [], 0, []),
  (.nop, (12, 0), [0], 0, []),
  (.ireturn, (12, 1), [0], 0, [])]
/-- DictProof$Shape.clear ()V -/
def tb_210 : List Op := [(.aload_n 0, (0, 1), [], 0, []),
  (.iconst 0, (1, 1), [], 0, []),
  (.putfield 21, (2, 3), [7, 3, 0], 0, []),
  (.return_, (5, 1), [], 0, [])]
/-- DictProof$Shape.add (I)V -/
def tb_211 : List Op := [(.aload_n 0, (0, 1), [], 0, []),
  (.getfield 21, (1, 3), [7, 3, 0], 0, []),
  (.bipush 9, (4, 2), [], 0, []),
  (.if_icmp .ge 23, (6, 3), [17], 0, []),
  (.nop, (9, 0), [], 0, []),
  (.aload_n 0, (9, 1), [], 0, []),
  (.getfield 9, (10, 3), [7, 0, 4], 0, []),
  (.aload_n 0, (13, 1), [], 0, []),
  (.getfield 21, (14, 3), [7, 3, 0], 0, []),
  (.iload_n 1, (17, 1), [], 0, []),
  (.iastore, (18, 1), [], 0, []),
  (.aload_n 0, (19, 1), [], 0, []),
  (.dup, (20, 1), [], 0, []),
  (.getfield 21, (21, 3), [7, 3, 0], 0, []),
  (.iconst 1, (24, 1), [], 0, []),
  (.iadd, (25, 1), [], 0, []),
  (.putfield 21, (26, 3), [7, 3, 0], 0, []),
  (.nop, (29, 0), [0, 1], 0, []),
  (.return_, (29, 1), [], 0, [])]
/-- DictProof$Shape.settle ()V -/
def tb_212 : List Op := [(.aload_n 0, (0, 1), [], 0, []),
  (.getfield 21, (1, 3), [7, 3, 0], 0, []),
  (.iconst 1, (4, 1), [], 0, []),
  (.isub, (5, 1), [], 0, []),
  (.istore_n 1, (6, 1), [], 0, []),
  (.nop, (7, 0), [2, 3], 0, []),
  (.iload_n 1, (7, 1), [], 0, []),
  (.ifCond .lt 47, (8, 3), [40], 0, []),
  (.nop, (11, 0), [2, 3], 0, []),
  (.iload_n 1, (11, 1), [], 0, []),
  (.iconst 1, (12, 1), [], 0, []),
  (.iadd, (13, 1), [], 0, []),
  (.istore_n 2, (14, 1), [], 0, []),
  (.iconst 0, (15, 1), [], 0, []),
  (.istore_n 3, (16, 1), [], 0, []),
  (.nop, (17, 0), [], 0, []),
  (.iload_n 3, (17, 1), [], 0, []),
  (.aload_n 0, (18, 1), [], 0, []),
  (.getfield 9, (19, 3), [7, 0, 4], 0, []),
  (.iload_n 1, (22, 1), [], 0, []),
  (.iaload, (23, 1), [], 0, []),
  (.invokestatic 28, (24, 3), [208, 1, 0, 0, 0, 0, 1], 0, []),
  (.nop, (27, 0), [], 0, []),
  (.if_icmp .ge 15, (27, 3), [32], 0, []),
  (.nop, (30, 0), [], 0, []),
  (.aload_n 0, (30, 1), [], 0, []),
  (.iload_n 2, (31, 1), [], 0, []),
  (.invokevirtual 32, (32, 3), [213, 2, 7, 0, 0, 0, 2], 0, []),
  (.nop, (35, 0), [2], 0, []),
  (.istore_n 2, (35, 1), [], 0, []),
  (.iinc 3 1, (36, 3), [], 0, []),
  (.goto (-22), (39, 3), [15], 0, []),
  (.nop, (42, 0), [3], 0, []),
  (.aload_n 0, (42, 1), [], 0, []),
  (.getfield 15, (43, 3), [7, 1, 4], 0, []),
  (.iload_n 1, (46, 1), [], 0, []),
  (.iload_n 2, (47, 1), [], 0, []),
  (.iastore, (48, 1), [], 0, []),
  (.iinc 1 (-1), (49, 3), [], 0, []),
  (.goto (-45), (52, 3), [5], 0, []),
  (.nop, (55, 0), [1, 2, 3], 0, []),
  (.iconst 0, (55, 1), [], 0, []),
  (.istore_n 1, (56, 1), [], 0, []),
  (.nop, (57, 0), [2, 3], 0, []),
  (.iload_n 1, (57, 1), [], 0, []),
  (.aload_n 0, (58, 1), [], 0, []),
  (.getfield 21, (59, 3), [7, 3, 0], 0, []),
  (.if_icmp .ge 20, (62, 3), [59], 0, []),
  (.nop, (65, 0), [2, 3], 0, []),
  (.aload_n 0, (65, 1), [], 0, []),
  (.getfield 18, (66, 3), [7, 2, 4], 0, []),
  (.iload_n 1, (69, 1), [], 0, []),
  (.aload_n 0, (70, 1), [], 0, []),
  (.iload_n 1, (71, 1), [], 0, []),
  (.invokevirtual 35, (72, 3), [214, 2, 7, 0, 0, 0, 3], 0, []),
  (.nop, (75, 0), [2, 3], 0, []),
  (.iastore, (75, 1), [], 0, []),
  (.iinc 1 1, (76, 3), [], 0, []),
  (.goto (-22), (79, 3), [43], 0, []),
  (.nop, (82, 0), [0, 1, 2, 3], 0, []),
  (.return_, (82, 1), [], 0, [])]
/-- DictProof$Shape.endOf (I)I -/
def tb_213 : List Op := [(.iload_n 1, (0, 1), [], 0, []),
  (.ifCond .lt 11, (1, 3), [7], 0, []),
  (.nop, (4, 0), [], 0, []),
  (.iload_n 1, (4, 1), [], 0, []),
  (.aload_n 0, (5, 1), [], 0, []),
  (.getfield 21, (6, 3), [7, 3, 0], 0, []),
  (.if_icmp .lt 10, (9, 3), [11], 0, []),
  (.nop, (12, 0), [1], 0, []),
  (.aload_n 0, (12, 1), [], 0, []),
  (.getfield 21, (13, 3), [7, 3, 0], 0, []),
  (.goto 9, (16, 3), [16], 0, []),
  (.nop, (19, 0), [], 0, []),
  (.aload_n 0, (19, 1), [], 0, []),
  (.getfield 15, (20, 3), [7, 1, 4], 0, []),
  (.iload_n 1, (23, 1), [], 0, []),
  (.iaload, (24, 1), [], 0, []),
  (.nop, (25, 0), [0, 1], 0, []),
  (.ireturn, (25, 1), [0], 0, [])]
/-- DictProof$Shape.firstLike (I)I -/
def tb_214 : List Op := [(.iconst 0, (0, 1), [], 0, []),
  (.istore_n 2, (1, 1), [], 0, []),
  (.nop, (2, 0), [], 0, []),
  (.iload_n 2, (2, 1), [], 0, []),
  (.iload_n 1, (3, 1), [], 0, []),
  (.if_icmp .ge 20, (4, 3), [19], 0, []),
  (.nop, (7, 0), [], 0, []),
  (.aload_n 0, (7, 1), [], 0, []),
  (.iload_n 2, (8, 1), [], 0, []),
  (.iload_n 1, (9, 1), [], 0, []),
  (.invokevirtual 38, (10, 3), [215, 3, 7, 0, 0, 0, 5], 0, []),
  (.nop, (13, 0), [], 0, []),
  (.ifCond .eq 5, (13, 3), [16], 0, []),
  (.nop, (16, 0), [0, 1], 0, []),
  (.iload_n 2, (16, 1), [], 0, []),
  (.ireturn, (17, 1), [0], 0, []),
  (.nop, (18, 0), [], 0, []),
  (.iinc 2 1, (18, 3), [], 0, []),
  (.goto (-19), (21, 3), [2], 0, []),
  (.nop, (24, 0), [0, 2], 0, []),
  (.iload_n 1, (24, 1), [], 0, []),
  (.ireturn, (25, 1), [0], 0, [])]
/-- DictProof$Shape.isLike (II)Z -/
def tb_215 : List Op := [(.aload_n 0, (0, 1), [], 0, []),
  (.getfield 15, (1, 3), [7, 1, 4], 0, []),
  (.iload_n 1, (4, 1), [], 0, []),
  (.iaload, (5, 1), [], 0, []),
  (.iload_n 1, (6, 1), [], 0, []),
  (.isub, (7, 1), [], 0, []),
  (.istore_n 3, (8, 1), [], 0, []),
  (.iload_n 3, (9, 1), [], 0, []),
  (.aload_n 0, (10, 1), [], 0, []),
  (.getfield 15, (11, 3), [7, 1, 4], 0, []),
  (.iload_n 2, (14, 1), [], 0, []),
  (.iaload, (15, 1), [], 0, []),
  (.iload_n 2, (16, 1), [], 0, []),
  (.isub, (17, 1), [], 0, []),
  (.if_icmp .eq 5, (18, 3), [18], 0, []),
  (.nop, (21, 0), [0, 1, 2, 3, 4], 0, []),
  (.iconst 0, (21, 1), [], 0, []),
  (.ireturn, (22, 1), [1], 0, []),
  (.nop, (23, 0), [4], 0, []),
  (.iconst 0, (23, 1), [], 0, []),
  (.istore 4, (24, 2), [], 0, []),
  (.nop, (26, 0), [], 0, []),
  (.iload 4, (26, 2), [], 0, []),
  (.iload_n 3, (28, 1), [], 0, []),
  (.if_icmp .ge 43, (29, 3), [52], 0, []),
  (.nop, (32, 0), [], 0, []),
  (.iload_n 2, (32, 1), [], 0, []),
  (.iload 4, (33, 2), [], 0, []),
  (.iadd, (35, 1), [], 0, []),
  (.aload_n 0, (36, 1), [], 0, []),
  (.getfield 21, (37, 3), [7, 3, 0], 0, []),
  (.if_icmp .ge 32, (40, 3), [52], 0, []),
  (.nop, (43, 0), [], 0, []),
  (.aload_n 0, (43, 1), [], 0, []),
  (.getfield 9, (44, 3), [7, 0, 4], 0, []),
  (.iload_n 1, (47, 1), [], 0, []),
  (.iload 4, (48, 2), [], 0, []),
  (.iadd, (50, 1), [], 0, []),
  (.iaload, (51, 1), [], 0, []),
  (.aload_n 0, (52, 1), [], 0, []),
  (.getfield 9, (53, 3), [7, 0, 4], 0, []),
  (.iload_n 2, (56, 1), [], 0, []),
  (.iload 4, (57, 2), [], 0, []),
  (.iadd, (59, 1), [], 0, []),
  (.iaload, (60, 1), [], 0, []),
  (.if_icmp .eq 5, (61, 3), [49], 0, []),
  (.nop, (64, 0), [0, 1, 2, 3, 4], 0, []),
  (.iconst 0, (64, 1), [], 0, []),
  (.ireturn, (65, 1), [1], 0, []),
  (.nop, (66, 0), [], 0, []),
  (.iinc 4 1, (66, 3), [], 0, []),
  (.goto (-43), (69, 3), [21], 0, []),
  (.nop, (72, 0), [0, 1, 2, 3, 4], 0, []),
  (.iconst 1, (72, 1), [], 0, []),
  (.ireturn, (73, 1), [1], 0, [])]
/-- DictProof$Shape.variableAt (I)I -/
def tb_216 : List Op := [(.iload_n 1, (0, 1), [], 0, []),
  (.ifCond .lt 11, (1, 3), [7], 0, []),
  (.nop, (4, 0), [], 0, []),
  (.iload_n 1, (4, 1), [], 0, []),
  (.aload_n 0, (5, 1), [], 0, []),
  (.getfield 21, (6, 3), [7, 3, 0], 0, []),
  (.if_icmp .lt 7, (9, 3), [10], 0, []),
  (.nop, (12, 0), [0, 1], 0, []),
  (.iconst (-1), (12, 1), [], 0, []),
  (.goto 12, (13, 3), [16], 0, []),
  (.nop, (16, 0), [], 0, []),
  (.aload_n 0, (16, 1), [], 0, []),
  (.getfield 9, (17, 3), [7, 0, 4], 0, []),
  (.iload_n 1, (20, 1), [], 0, []),
  (.iaload, (21, 1), [], 0, []),
  (.invokestatic 42, (22, 3), [209, 1, 0, 0, 0, 0, 1], 0, []),
  (.nop, (25, 0), [0, 1], 0, []),
  (.ireturn, (25, 1), [0], 0, [])]
/-- DictProof$Shape.hasVariable (I)Z -/
def tb_217 : List Op := [(.iconst 0, (0, 1), [], 0, []),
  (.istore_n 2, (1, 1), [], 0, []),
  (.nop, (2, 0), [], 0, []),
  (.iload_n 2, (2, 1), [], 0, []),
  (.aload_n 0, (3, 1), [], 0, []),
  (.getfield 21, (4, 3), [7, 3, 0], 0, []),
  (.if_icmp .ge 24, (7, 3), [22], 0, []),
  (.nop, (10, 0), [], 0, []),
  (.aload_n 0, (10, 1), [], 0, []),
  (.getfield 9, (11, 3), [7, 0, 4], 0, []),
  (.iload_n 2, (14, 1), [], 0, []),
  (.iaload, (15, 1), [], 0, []),
  (.invokestatic 42, (16, 3), [209, 1, 0, 0, 0, 0, 1], 0, []),
  (.nop, (19, 0), [], 0, []),
  (.iload_n 1, (19, 1), [], 0, []),
  (.if_icmp .ne 5, (20, 3), [19], 0, []),
  (.nop, (23, 0), [0, 1, 2], 0, []),
  (.iconst 1, (23, 1), [], 0, []),
  (.ireturn, (24, 1), [1], 0, []),
  (.nop, (25, 0), [], 0, []),
  (.iinc 2 1, (25, 3), [], 0, []),
  (.goto (-26), (28, 3), [2], 0, []),
  (.nop, (31, 0), [0, 1, 2], 0, []),
  (.iconst 0, (31, 1), [], 0, []),
  (.ireturn, (32, 1), [1], 0, [])]
/-- DictProof$Shape.covers (LDictProof$Shape;I[I)Z -/
def tb_218 : List Op := [(.iconst 0, (0, 1), [], 0, []),
  (.istore 4, (1, 2), [], 0, []),
  (.nop, (3, 0), [5, 6], 0, []),
  (.iload 4, (3, 2), [], 0, []),
  (.aload_n 3, (5, 1), [], 0, []),
  (.arraylength, (6, 1), [], 0, []),
  (.if_icmp .ge 14, (7, 3), [14], 0, []),
  (.nop, (10, 0), [5, 6], 0, []),
  (.aload_n 3, (10, 1), [], 0, []),
  (.iload 4, (11, 2), [], 0, []),
  (.iconst (-1), (13, 1), [], 0, []),
  (.iastore, (14, 1), [], 0, []),
  (.iinc 4 1, (15, 3), [], 0, []),
  (.goto (-15), (18, 3), [2], 0, []),
  (.nop, (21, 0), [4, 5, 6], 0, []),
  (.iload_n 2, (21, 1), [], 0, []),
  (.istore 4, (22, 2), [], 0, []),
  (.iconst 0, (24, 1), [], 0, []),
  (.istore 5, (25, 2), [], 0, []),
  (.nop, (27, 0), [2, 6], 0, []),
  (.iload 5, (27, 2), [], 0, []),
  (.aload_n 0, (29, 1), [], 0, []),
  (.getfield 21, (30, 3), [7, 3, 0], 0, []),
  (.if_icmp .ge 120, (33, 3), [102], 0, []),
  (.nop, (36, 0), [2, 6], 0, []),
  (.iload 4, (36, 2), [], 0, []),
  (.ifCond .lt 12, (38, 3), [32], 0, []),
  (.nop, (41, 0), [2, 6], 0, []),
  (.iload 4, (41, 2), [], 0, []),
  (.aload_n 1, (43, 1), [], 0, []),
  (.getfield 21, (44, 3), [7, 3, 0], 0, []),
  (.if_icmp .lt 5, (47, 3), [35], 0, []),
  (.nop, (50, 0), [0, 1, 2, 3, 4, 5, 6], 0, []),
  (.iconst 0, (50, 1), [], 0, []),
  (.ireturn, (51, 1), [1], 0, []),
  (.nop, (52, 0), [2, 6], 0, []),
  (.aload_n 0, (52, 1), [], 0, []),
  (.getfield 9, (53, 3), [7, 0, 4], 0, []),
  (.iload 5, (56, 2), [], 0, []),
  (.iaload, (58, 1), [], 0, []),
  (.iconst 4, (59, 1), [], 0, []),
  (.isub, (60, 1), [], 0, []),
  (.istore 6, (61, 2), [], 0, []),
  (.iload 6, (63, 2), [], 0, []),
  (.ifCond .lt 10, (65, 3), [50], 0, []),
  (.nop, (68, 0), [2], 0, []),
  (.iload 6, (68, 2), [], 0, []),
  (.aload_n 3, (70, 1), [], 0, []),
  (.arraylength, (71, 1), [], 0, []),
  (.if_icmp .lt 28, (72, 3), [66], 0, []),
  (.nop, (75, 0), [2, 6], 0, []),
  (.aload_n 0, (75, 1), [], 0, []),
  (.getfield 9, (76, 3), [7, 0, 4], 0, []),
  (.iload 5, (79, 2), [], 0, []),
  (.iaload, (81, 1), [], 0, []),
  (.aload_n 1, (82, 1), [], 0, []),
  (.getfield 9, (83, 3), [7, 0, 4], 0, []),
  (.iload 4, (86, 2), [], 0, []),
  (.iaload, (88, 1), [], 0, []),
  (.if_icmp .eq 5, (89, 3), [63], 0, []),
  (.nop, (92, 0), [0, 1, 2, 3, 4, 5, 6], 0, []),
  (.iconst 0, (92, 1), [], 0, []),
  (.ireturn, (93, 1), [1], 0, []),
  (.nop, (94, 0), [2, 6], 0, []),
  (.iinc 4 1, (94, 3), [], 0, []),
  (.goto 50, (97, 3), [99], 0, []),
  (.nop, (100, 0), [2], 0, []),
  (.aload_n 3, (100, 1), [], 0, []),
  (.iload 6, (101, 2), [], 0, []),
  (.iaload, (103, 1), [], 0, []),
  (.iconst (-1), (104, 1), [], 0, []),
  (.if_icmp .ne 12, (105, 3), [78], 0, []),
  (.nop, (108, 0), [2], 0, []),
  (.aload_n 3, (108, 1), [], 0, []),
  (.iload 6, (109, 2), [], 0, []),
  (.iload 4, (111, 2), [], 0, []),
  (.iastore, (113, 1), [], 0, []),
  (.goto 24, (114, 3), [93], 0, []),
  (.nop, (117, 0), [2], 0, []),
  (.aload_n 1, (117, 1), [], 0, []),
  (.getfield 18, (118, 3), [7, 2, 4], 0, []),
  (.aload_n 3, (121, 1), [], 0, []),
  (.iload 6, (122, 2), [], 0, []),
  (.iaload, (124, 1), [], 0, []),
  (.iaload, (125, 1), [], 0, []),
  (.aload_n 1, (126, 1), [], 0, []),
  (.getfield 18, (127, 3), [7, 2, 4], 0, []),
  (.iload 4, (130, 2), [], 0, []),
  (.iaload, (132, 1), [], 0, []),
  (.if_icmp .eq 5, (133, 3), [93], 0, []),
  (.nop, (136, 0), [0, 1, 2, 3, 4, 5, 6], 0, []),
  (.iconst 0, (136, 1), [], 0, []),
  (.ireturn, (137, 1), [1], 0, []),
  (.nop, (138, 0), [2, 6], 0, []),
  (.aload_n 1, (138, 1), [], 0, []),
  (.getfield 15, (139, 3), [7, 1, 4], 0, []),
  (.iload 4, (142, 2), [], 0, []),
  (.iaload, (144, 1), [], 0, []),
  (.istore 4, (145, 2), [], 0, []),
  (.nop, (147, 0), [2, 6], 0, []),
  (.iinc 5 1, (147, 3), [], 0, []),
  (.goto (-123), (150, 3), [19], 0, []),
  (.nop, (153, 0), [1, 2, 3, 4, 5, 6], 0, []),
  (.aload_n 0, (153, 1), [], 0, []),
  (.getfield 21, (154, 3), [7, 3, 0], 0, []),
  (.ifCond .le 7, (157, 3), [109], 0, []),
  (.nop, (160, 0), [0, 1, 2, 3, 4, 5, 6], 0, []),
  (.iconst 1, (160, 1), [], 0, []),
  (.goto 4, (161, 3), [111], 0, []),
  (.nop, (164, 0), [0, 1, 2, 3, 4, 5, 6], 0, []),
  (.iconst 0, (164, 1), [], 0, []),
  (.nop, (165, 0), [0, 1, 2, 3, 4, 5, 6], 0, []),
  (.ireturn, (165, 1), [1], 0, [])]
/-- DictProof$Shape.isSameAs (LDictProof$Shape;)Z -/
def tb_219 : List Op := [(.aload_n 0, (0, 1), [], 0, []),
  (.getfield 21, (1, 3), [7, 3, 0], 0, []),
  (.aload_n 1, (4, 1), [], 0, []),
  (.getfield 21, (5, 3), [7, 3, 0], 0, []),
  (.if_icmp .eq 5, (8, 3), [8], 0, []),
  (.nop, (11, 0), [0, 1, 2], 0, []),
  (.iconst 0, (11, 1), [], 0, []),
  (.ireturn, (12, 1), [1], 0, []),
  (.nop, (13, 0), [2], 0, []),
  (.iconst 0, (13, 1), [], 0, []),
  (.istore_n 2, (14, 1), [], 0, []),
  (.nop, (15, 0), [], 0, []),
  (.iload_n 2, (15, 1), [], 0, []),
  (.aload_n 0, (16, 1), [], 0, []),
  (.getfield 21, (17, 3), [7, 3, 0], 0, []),
  (.if_icmp .ge 26, (20, 3), [32], 0, []),
  (.nop, (23, 0), [], 0, []),
  (.aload_n 0, (23, 1), [], 0, []),
  (.getfield 9, (24, 3), [7, 0, 4], 0, []),
  (.iload_n 2, (27, 1), [], 0, []),
  (.iaload, (28, 1), [], 0, []),
  (.aload_n 1, (29, 1), [], 0, []),
  (.getfield 9, (30, 3), [7, 0, 4], 0, []),
  (.iload_n 2, (33, 1), [], 0, []),
  (.iaload, (34, 1), [], 0, []),
  (.if_icmp .eq 5, (35, 3), [29], 0, []),
  (.nop, (38, 0), [0, 1, 2], 0, []),
  (.iconst 0, (38, 1), [], 0, []),
  (.ireturn, (39, 1), [1], 0, []),
  (.nop, (40, 0), [], 0, []),
  (.iinc 2 1, (40, 3), [], 0, []),
  (.goto (-28), (43, 3), [11], 0, []),
  (.nop, (46, 0), [0, 1, 2], 0, []),
  (.iconst 1, (46, 1), [], 0, []),
  (.ireturn, (47, 1), [1], 0, [])]
/-- DictProof$Shape.copyFrom (LDictProof$Shape;)V -/
def tb_220 : List Op := [(.aload_n 0, (0, 1), [], 0, []),
  (.aload_n 1, (1, 1), [], 0, []),
  (.getfield 21, (2, 3), [7, 3, 0], 0, []),
  (.putfield 21, (5, 3), [7, 3, 0], 0, []),
  (.iconst 0, (8, 1), [], 0, []),
  (.istore_n 2, (9, 1), [], 0, []),
  (.nop, (10, 0), [], 0, []),
  (.iload_n 2, (10, 1), [], 0, []),
  (.aload_n 0, (11, 1), [], 0, []),
  (.getfield 21, (12, 3), [7, 3, 0], 0, []),
  (.if_icmp .ge 45, (15, 3), [38], 0, []),
  (.nop, (18, 0), [], 0, []),
  (.aload_n 0, (18, 1), [], 0, []),
  (.getfield 9, (19, 3), [7, 0, 4], 0, []),
  (.iload_n 2, (22, 1), [], 0, []),
  (.aload_n 1, (23, 1), [], 0, []),
  (.getfield 9, (24, 3), [7, 0, 4], 0, []),
  (.iload_n 2, (27, 1), [], 0, []),
  (.iaload, (28, 1), [], 0, []),
  (.iastore, (29, 1), [], 0, []),
  (.aload_n 0, (30, 1), [], 0, []),
  (.getfield 15, (31, 3), [7, 1, 4], 0, []),
  (.iload_n 2, (34, 1), [], 0, []),
  (.aload_n 1, (35, 1), [], 0, []),
  (.getfield 15, (36, 3), [7, 1, 4], 0, []),
  (.iload_n 2, (39, 1), [], 0, []),
  (.iaload, (40, 1), [], 0, []),
  (.iastore, (41, 1), [], 0, []),
  (.aload_n 0, (42, 1), [], 0, []),
  (.getfield 18, (43, 3), [7, 2, 4], 0, []),
  (.iload_n 2, (46, 1), [], 0, []),
  (.aload_n 1, (47, 1), [], 0, []),
  (.getfield 18, (48, 3), [7, 2, 4], 0, []),
  (.iload_n 2, (51, 1), [], 0, []),
  (.iaload, (52, 1), [], 0, []),
  (.iastore, (53, 1), [], 0, []),
  (.iinc 2 1, (54, 3), [], 0, []),
  (.goto (-47), (57, 3), [6], 0, []),
  (.nop, (60, 0), [0, 1, 2], 0, []),
  (.return_, (60, 1), [], 0, [])]
/-- java/lang/Integer.bitCount (I)I -/
def tb_221 : List Op := [(.iload_n 0, (0, 1), [], 0, []),
  (.iload_n 0, (1, 1), [], 0, []),
  (.iconst 1, (2, 1), [], 0, []),
  (.iushr, (3, 1), [], 0, []),
  (.ldc_w 265, (4, 3), [], 1431655765, []),
  (.iand, (7, 1), [], 0, []),
  (.isub, (8, 1), [], 0, []),
  (.istore_n 0, (9, 1), [], 0, []),
  (.iload_n 0, (10, 1), [], 0, []),
  (.ldc_w 266, (11, 3), [], 858993459, []),
  (.iand, (14, 1), [], 0, []),
  (.iload_n 0, (15, 1), [], 0, []),
  (.iconst 2, (16, 1), [], 0, []),
  (.iushr, (17, 1), [], 0, []),
  (.ldc_w 266, (18, 3), [], 858993459, []),
  (.iand, (21, 1), [], 0, []),
  (.iadd, (22, 1), [], 0, []),
  (.istore_n 0, (23, 1), [], 0, []),
  (.iload_n 0, (24, 1), [], 0, []),
  (.iload_n 0, (25, 1), [], 0, []),
  (.iconst 4, (26, 1), [], 0, []),
  (.iushr, (27, 1), [], 0, []),
  (.iadd, (28, 1), [], 0, []),
  (.ldc_w 267, (29, 3), [], 252645135, []),
  (.iand, (32, 1), [], 0, []),
  (.istore_n 0, (33, 1), [], 0, []),
  (.iload_n 0, (34, 1), [], 0, []),
  (.iload_n 0, (35, 1), [], 0, []),
  (.bipush 8, (36, 2), [], 0, []),
  (.iushr, (38, 1), [], 0, []),
  (.iadd, (39, 1), [], 0, []),
  (.istore_n 0, (40, 1), [], 0, []),
  (.iload_n 0, (41, 1), [], 0, []),
  (.iload_n 0, (42, 1), [], 0, []),
  (.bipush 16, (43, 2), [], 0, []),
  (.iushr, (45, 1), [], 0, []),
  (.iadd, (46, 1), [], 0, []),
  (.istore_n 0, (47, 1), [], 0, []),
  (.iload_n 0, (48, 1), [], 0, []),
  (.bipush 63, (49, 2), [], 0, []),
  (.iand, (51, 1), [], 0, []),
  (.ireturn, (52, 1), [0], 0, [])]
/-- java/lang/Long.bitCount (J)I -/
def tb_222 : List Op := [(.lload_n 0, (0, 1), [], 0, []),
  (.lload_n 0, (1, 1), [], 0, []),
  (.iconst 1, (2, 1), [], 0, []),
  (.lushr, (3, 1), [], 0, []),
  (.ldc2_w 314, (4, 3), [], 6148914691236517205, []),
  (.land, (7, 1), [], 0, []),
  (.lsub, (8, 1), [], 0, []),
  (.lstore_n 0, (9, 1), [], 0, []),
  (.lload_n 0, (10, 1), [], 0, []),
  (.ldc2_w 316, (11, 3), [], 3689348814741910323, []),
  (.land, (14, 1), [], 0, []),
  (.lload_n 0, (15, 1), [], 0, []),
  (.iconst 2, (16, 1), [], 0, []),
  (.lushr, (17, 1), [], 0, []),
  (.ldc2_w 316, (18, 3), [], 3689348814741910323, []),
  (.land, (21, 1), [], 0, []),
  (.ladd, (22, 1), [], 0, []),
  (.lstore_n 0, (23, 1), [], 0, []),
  (.lload_n 0, (24, 1), [], 0, []),
  (.lload_n 0, (25, 1), [], 0, []),
  (.iconst 4, (26, 1), [], 0, []),
  (.lushr, (27, 1), [], 0, []),
  (.ladd, (28, 1), [], 0, []),
  (.ldc2_w 318, (29, 3), [], 1085102592571150095, []),
  (.land, (32, 1), [], 0, []),
  (.lstore_n 0, (33, 1), [], 0, []),
  (.lload_n 0, (34, 1), [], 0, []),
  (.lload_n 0, (35, 1), [], 0, []),
  (.bipush 8, (36, 2), [], 0, []),
  (.lushr, (38, 1), [], 0, []),
  (.ladd, (39, 1), [], 0, []),
  (.lstore_n 0, (40, 1), [], 0, []),
  (.lload_n 0, (41, 1), [], 0, []),
  (.lload_n 0, (42, 1), [], 0, []),
  (.bipush 16, (43, 2), [], 0, []),
  (.lushr, (45, 1), [], 0, []),
  (.ladd, (46, 1), [], 0, []),
  (.lstore_n 0, (47, 1), [], 0, []),
  (.lload_n 0, (48, 1), [], 0, []),
  (.lload_n 0, (49, 1), [], 0, []),
  (.bipush 32, (50, 2), [], 0, []),
  (.lushr, (52, 1), [], 0, []),
  (.ladd, (53, 1), [], 0, []),
  (.lstore_n 0, (54, 1), [], 0, []),
  (.lload_n 0, (55, 1), [], 0, []),
  (.l2i, (56, 1), [], 0, []),
  (.bipush 127, (57, 2), [], 0, []),
  (.iand, (59, 1), [], 0, []),
  (.ireturn, (60, 1), [0], 0, [])]
/-- java/lang/Math.max (II)I -/
def tb_223 : List Op := [(.iload_n 0, (0, 1), [], 0, []),
  (.iload_n 1, (1, 1), [], 0, []),
  (.if_icmp .lt 7, (2, 3), [6], 0, []),
  (.nop, (5, 0), [1], 0, []),
  (.iload_n 0, (5, 1), [], 0, []),
  (.goto 4, (6, 3), [8], 0, []),
  (.nop, (9, 0), [0], 0, []),
  (.iload_n 1, (9, 1), [], 0, []),
  (.nop, (10, 0), [0, 1], 0, []),
  (.ireturn, (10, 1), [0], 0, [])]
def prog : List (List Op) := [tb_0, tb_1, tb_2, tb_3, tb_4, tb_5, tb_6, tb_7, tb_8, tb_9, tb_10, tb_11, tb_12, tb_13, tb_14, tb_15, tb_16, tb_17, tb_18, tb_19, tb_20, tb_21, tb_22, tb_23, tb_24, tb_25, tb_26, tb_27, tb_28, tb_29, tb_30, tb_31, tb_32, tb_33, tb_34, tb_35, tb_36, tb_37, tb_38, tb_39, tb_40, tb_41, tb_42, tb_43, tb_44, tb_45, tb_46, tb_47, tb_48, tb_49, tb_50, tb_51, tb_52, tb_53, tb_54, tb_55, tb_56, tb_57, tb_58, tb_59, tb_60, tb_61, tb_62, tb_63, tb_64, tb_65, tb_66, tb_67, tb_68, tb_69, tb_70, tb_71, tb_72, tb_73, tb_74, tb_75, tb_76, tb_77, tb_78, tb_79, tb_80, tb_81, tb_82, tb_83, tb_84, tb_85, tb_86, tb_87, tb_88, tb_89, tb_90, tb_91, tb_92, tb_93, tb_94, tb_95, tb_96, tb_97, tb_98, tb_99, tb_100, tb_101, tb_102, tb_103, tb_104, tb_105, tb_106, tb_107, tb_108, tb_109, tb_110, tb_111, tb_112, tb_113, tb_114, tb_115, tb_116, tb_117, tb_118, tb_119, tb_120, tb_121, tb_122, tb_123, tb_124, tb_125, tb_126, tb_127, tb_128, tb_129, tb_130, tb_131, tb_132, tb_133, tb_134, tb_135, tb_136, tb_137, tb_138, tb_139, tb_140, tb_141, tb_142, tb_143, tb_144, tb_145, tb_146, tb_147, tb_148, tb_149, tb_150, tb_151, tb_152, tb_153, tb_154, tb_155, tb_156, tb_157, tb_158, tb_159, tb_160, tb_161, tb_162, tb_163, tb_164, tb_165, tb_166, tb_167, tb_168, tb_169, tb_170, tb_171, tb_172, tb_173, tb_174, tb_175, tb_176, tb_177, tb_178, tb_179, tb_180, tb_181, tb_182, tb_183, tb_184, tb_185, tb_186, tb_187, tb_188, tb_189, tb_190, tb_191, tb_192, tb_193, tb_194, tb_195, tb_196, tb_197, tb_198, tb_199, tb_200, tb_201, tb_202, tb_203, tb_204, tb_205, tb_206, tb_207, tb_208, tb_209, tb_210, tb_211, tb_212, tb_213, tb_214, tb_215, tb_216, tb_217, tb_218, tb_219, tb_220, tb_221, tb_222, tb_223]
def opBad : Op := (.athrow, (0, 0), [], 0, [])
def opAt (k j : Nat) : Op := (prog.getD k []).getD j opBad
def pcK (k j : Nat) : Nat := (opAt k j).2.1.1
def mNm : List MethodName := [⟨"DictProofLaw", "law", "([I)Z"⟩,
  ⟨"DictProof", "<init>", "()V"⟩,
  ⟨"DictProof", "letter", "(I)I"⟩,
  ⟨"DictProof", "blank", "()I"⟩,
  ⟨"DictProof", "fault", "()I"⟩,
  ⟨"DictProof", "book", "()I"⟩,
  ⟨"DictProof", "type", "(I)I"⟩,
  ⟨"DictProof", "readPage", "()I"⟩,
  ⟨"DictProof", "pageIsType", "()Z"⟩,
  ⟨"DictProof", "about", "(II)I"⟩,
  ⟨"DictProof", "instance", "(II)I"⟩,
  ⟨"DictProof", "as", "(II)I"⟩,
  ⟨"DictProof", "change", "(II)I"⟩,
  ⟨"DictProof", "pair", "(III)I"⟩,
  ⟨"DictProof", "fits", "(II)I"⟩,
  ⟨"DictProof", "isClass", "(I)Z"⟩,
  ⟨"DictProof", "isInstance", "(I)Z"⟩,
  ⟨"DictProof", "isFilled", "(I)Z"⟩,
  ⟨"DictProof", "isKind", "(I)Z"⟩,
  ⟨"DictProof", "asNumber", "(Z)I"⟩,
  ⟨"DictProof", "overlap", "(II)Z"⟩,
  ⟨"DictProof", "clash", "(II)Z"⟩,
  ⟨"DictProof", "askAmong", "(I)I"⟩,
  ⟨"DictProof", "lackedAsWorked", "(LDictProof$Rule;)I"⟩,
  ⟨"DictProof", "goal", "(III)I"⟩,
  ⟨"DictProof", "entry", "(III)I"⟩,
  ⟨"DictProof", "need", "(IIII)I"⟩,
  ⟨"DictProof", "findGoal", "(II)LDictProof$Goal;"⟩,
  ⟨"DictProof", "told", "(LDictProof$Goal;I)I"⟩,
  ⟨"DictProof", "needBit", "(II)I"⟩,
  ⟨"DictProof", "see", "(IIZ)I"⟩,
  ⟨"DictProof", "forget", "()I"⟩,
  ⟨"DictProof", "drawn", "(III)I"⟩,
  ⟨"DictProof", "drawOf", "(I)I"⟩,
  ⟨"DictProof", "drawShape", "()V"⟩,
  ⟨"DictProof", "image", "()I"⟩,
  ⟨"DictProof", "restore", "()I"⟩,
  ⟨"DictProof", "count", "(I)I"⟩,
  ⟨"DictProof", "digest", "()J"⟩,
  ⟨"DictProof", "digestSlot", "(JI)J"⟩,
  ⟨"DictProof", "countPairs", "(Z)I"⟩,
  ⟨"DictProof", "countLacked", "()I"⟩,
  ⟨"DictProofModel", "<init>", "()V"⟩,
  ⟨"DictProofModel", "within", "(III)Z"⟩,
  ⟨"DictProofModel", "isIn", "(II)Z"⟩,
  ⟨"DictProofModel", "size", "(I)I"⟩,
  ⟨"DictProofModel", "isVariable", "(I)Z"⟩,
  ⟨"DictProofModel", "wants", "(I)I"⟩,
  ⟨"DictProofModel", "letter", "(I)I"⟩,
  ⟨"DictProofModel", "blank", "()I"⟩,
  ⟨"DictProofModel", "kindBy", "(I)I"⟩,
  ⟨"DictProofModel", "at", "(I)I"⟩,
  ⟨"DictProofModel", "figure", "(I)I"⟩,
  ⟨"DictProofModel", "broken", "(I)I"⟩,
  ⟨"DictProofModel", "readClass", "(I)I"⟩,
  ⟨"DictProofModel", "readClasses", "()I"⟩,
  ⟨"DictProofModel", "readHead", "(II)I"⟩,
  ⟨"DictProofModel", "isInHead", "(II)Z"⟩,
  ⟨"DictProofModel", "readConditions", "(II)I"⟩,
  ⟨"DictProofModel", "readInstance", "(I)I"⟩,
  ⟨"DictProofModel", "read", "()I"⟩,
  ⟨"DictProofModel", "fault", "()I"⟩,
  ⟨"DictProofModel", "book", "()I"⟩,
  ⟨"DictProofModel", "takeInstance", "(I)V"⟩,
  ⟨"DictProofModel", "laySizes", "()V"⟩,
  ⟨"DictProofModel", "layHead", "(I)V"⟩,
  ⟨"DictProofModel", "laySlot", "(I)V"⟩,
  ⟨"DictProofModel", "isSameAt", "(II)Z"⟩,
  ⟨"DictProofModel", "fitsAt", "(II)Z"⟩,
  ⟨"DictProofModel", "laySpecial", "()V"⟩,
  ⟨"DictProofModel", "isSound", "(I)Z"⟩,
  ⟨"DictProofModel", "meantFor", "(II)I"⟩,
  ⟨"DictProofModel", "ofRank", "(II)I"⟩,
  ⟨"DictProofModel", "isOneSole", "(I)Z"⟩,
  ⟨"DictProofModel", "mostSpecial", "(I)I"⟩,
  ⟨"DictProofModel", "takes", "(II)I"⟩,
  ⟨"DictProofModel", "layNeed", "(II)V"⟩,
  ⟨"DictProofModel", "addBelow", "(III)V"⟩,
  ⟨"DictProofModel", "layGoal", "(II)V"⟩,
  ⟨"DictProofModel", "layGoals", "()V"⟩,
  ⟨"DictProofModel", "isNew", "(II)Z"⟩,
  ⟨"DictProofModel", "differentGoals", "(I)I"⟩,
  ⟨"DictProofModel", "mark", "(I)V"⟩,
  ⟨"DictProofModel", "plainOf", "(I)I"⟩,
  ⟨"DictProofModel", "entryAt", "(II)I"⟩,
  ⟨"DictProofModel", "isClass", "(I)Z"⟩,
  ⟨"DictProofModel", "isInstance", "(I)Z"⟩,
  ⟨"DictProofModel", "isFilled", "(I)Z"⟩,
  ⟨"DictProofModel", "type", "(I)I"⟩,
  ⟨"DictProofModel", "instancesOf", "(I)I"⟩,
  ⟨"DictProofModel", "aboutNow", "(II)I"⟩,
  ⟨"DictProofModel", "about", "(II)I"⟩,
  ⟨"DictProofModel", "isGiven", "(II)Z"⟩,
  ⟨"DictProofModel", "lacksOf", "(I)I"⟩,
  ⟨"DictProofModel", "instanceNow", "(II)I"⟩,
  ⟨"DictProofModel", "instance", "(II)I"⟩,
  ⟨"DictProofModel", "as", "(II)I"⟩,
  ⟨"DictProofModel", "change", "(II)I"⟩,
  ⟨"DictProofModel", "letterOf", "(I)I"⟩,
  ⟨"DictProofModel", "variableOf", "(I)I"⟩,
  ⟨"DictProofModel", "standsFor", "(I)I"⟩,
  ⟨"DictProofModel", "behind", "(I)I"⟩,
  ⟨"DictProofModel", "occurs", "(II)Z"⟩,
  ⟨"DictProofModel", "addPair", "(II)V"⟩,
  ⟨"DictProofModel", "joins", "(II)Z"⟩,
  ⟨"DictProofModel", "areOne", "(II)Z"⟩,
  ⟨"DictProofModel", "overlap", "(II)Z"⟩,
  ⟨"DictProofModel", "isSpecial", "(II)Z"⟩,
  ⟨"DictProofModel", "clash", "(II)Z"⟩,
  ⟨"DictProofModel", "pairNow", "(III)Z"⟩,
  ⟨"DictProofModel", "pair", "(III)I"⟩,
  ⟨"DictProofModel", "fits", "(II)I"⟩,
  ⟨"DictProofModel", "goalNow", "(II)I"⟩,
  ⟨"DictProofModel", "goal", "(III)I"⟩,
  ⟨"DictProofModel", "entry", "(III)I"⟩,
  ⟨"DictProofModel", "need", "(IIII)I"⟩,
  ⟨"DictProofModel", "could", "(II)Z"⟩,
  ⟨"DictProofModel", "see", "(IIZ)I"⟩,
  ⟨"DictProofModel", "forget", "()I"⟩,
  ⟨"DictProofModel", "sortsOf", "(I)I"⟩,
  ⟨"DictProofModel", "askOf", "(I)I"⟩,
  ⟨"DictProofModel", "draw", "(I)I"⟩,
  ⟨"DictProofModel", "letterBy", "(I)I"⟩,
  ⟨"DictProofModel", "addLetter", "(I)V"⟩,
  ⟨"DictProofModel", "drawType", "()V"⟩,
  ⟨"DictProofModel", "drawnNow", "(III)I"⟩,
  ⟨"DictProofModel", "drawn", "(III)I"⟩,
  ⟨"DictProofModel", "filled", "()I"⟩,
  ⟨"DictProofModel", "image", "()I"⟩,
  ⟨"DictProofModel", "restore", "()I"⟩,
  ⟨"DictProofModel", "unsound", "()I"⟩,
  ⟨"DictProofModel", "pairsOf", "(I)I"⟩,
  ⟨"DictProofModel", "lacksOfAll", "()I"⟩,
  ⟨"DictProofModel", "isSlotLike", "(II)Z"⟩,
  ⟨"DictProofModel", "differentTypes", "()I"⟩,
  ⟨"DictProofModel", "howMany", "(I)I"⟩,
  ⟨"DictProofModel", "count", "(I)I"⟩,
  ⟨"DictProofModel", "mix", "(J)V"⟩,
  ⟨"DictProofModel", "mixSlot", "(I)V"⟩,
  ⟨"DictProofModel", "digest", "()J"⟩,
  ⟨"DictProof$Book", "<init>", "()V"⟩,
  ⟨"DictProof$Book", "clear", "()V"⟩,
  ⟨"DictProof$Book", "addClass", "()V"⟩,
  ⟨"DictProof$Book", "addRight", "(I)V"⟩,
  ⟨"DictProof$Book", "addInstance", "(I)V"⟩,
  ⟨"DictProof$Book", "settle", "(LDictProof$Meeting;)V"⟩,
  ⟨"DictProof$Book", "settleClass", "(I)V"⟩,
  ⟨"DictProof$Book", "settleInstance", "(I)V"⟩,
  ⟨"DictProof$Book", "compareHeads", "(ILDictProof$Meeting;)V"⟩,
  ⟨"DictProof$Book", "isFiner", "(II)Z"⟩,
  ⟨"DictProof$Book", "canMeet", "(II)Z"⟩,
  ⟨"DictProof$Book", "mostSpecial", "(I)I"⟩,
  ⟨"DictProof$Book", "plainOf", "(I)I"⟩,
  ⟨"DictProof$Book", "needsAbove", "(II)I"⟩,
  ⟨"DictProof$Desk", "<init>", "()V"⟩,
  ⟨"DictProof$Desk", "startWith", "(LDictProof$Book;)V"⟩,
  ⟨"DictProof$Desk", "copyFrom", "(LDictProof$Desk;)V"⟩,
  ⟨"DictProof$Desk", "keepSeen", "(II)V"⟩,
  ⟨"DictProof$Desk", "sortsOf", "(I)I"⟩,
  ⟨"DictProof$Desk", "filledSlots", "()I"⟩,
  ⟨"DictProof$Desk", "differentTypes", "()I"⟩,
  ⟨"DictProof$Desk", "isEarlier", "(I)Z"⟩,
  ⟨"DictProof$Finder", "<init>", "()V"⟩,
  ⟨"DictProof$Finder", "work", "(LDictProof$Book;[ILDictProof$Shape;)V"⟩,
  ⟨"DictProof$Finder", "rootOf", "(I)LDictProof$Goal;"⟩,
  ⟨"DictProof$Finder", "goalAt", "(II)LDictProof$Goal;"⟩,
  ⟨"DictProof$Finder", "sortByKind", "([I)V"⟩,
  ⟨"DictProof$Finder", "fittingAt", "(I)I"⟩,
  ⟨"DictProof$Finder", "findOne", "(III)V"⟩,
  ⟨"DictProof$Finder", "takenOf", "(I)I"⟩,
  ⟨"DictProof$Finder", "joinConditions", "(LDictProof$Goal;LDictProof$Rule;[I)V"⟩,
  ⟨"DictProof$Goal", "<init>", "()V"⟩,
  ⟨"DictProof$Goal", "failAs", "(I)V"⟩,
  ⟨"DictProof$Goal", "findAsNeed", "(IIJ)V"⟩,
  ⟨"DictProof$Goal", "begin", "(IJ)V"⟩,
  ⟨"DictProof$Goal", "join", "(LDictProof$Goal;)V"⟩,
  ⟨"DictProof$Goal", "numberAt", "(I)I"⟩,
  ⟨"DictProof$Meeting", "<init>", "()V"⟩,
  ⟨"DictProof$Meeting", "isPossible", "(LDictProof$Shape;LDictProof$Shape;)Z"⟩,
  ⟨"DictProof$Meeting", "load", "(LDictProof$Shape;I)V"⟩,
  ⟨"DictProof$Meeting", "expectAlike", "(II)V"⟩,
  ⟨"DictProof$Meeting", "bringTogether", "()Z"⟩,
  ⟨"DictProof$Meeting", "leaderOf", "(I)I"⟩,
  ⟨"DictProof$Meeting", "joinGroups", "(II)Z"⟩,
  ⟨"DictProof$Meeting", "comesToAnEnd", "()Z"⟩,
  ⟨"DictProof$Meeting", "partEnds", "(I)Z"⟩,
  ⟨"DictProof$Reader", "<init>", "()V"⟩,
  ⟨"DictProof$Reader", "start", "(LDictProof$Book;)V"⟩,
  ⟨"DictProof$Reader", "isWhole", "()Z"⟩,
  ⟨"DictProof$Reader", "accepts", "(I)Z"⟩,
  ⟨"DictProof$Reader", "acceptsClass", "(I)Z"⟩,
  ⟨"DictProof$Reader", "acceptsSecondDigit", "(I)Z"⟩,
  ⟨"DictProof$Reader", "acceptsClassEnd", "(I)Z"⟩,
  ⟨"DictProof$Reader", "acceptsKind", "(I)Z"⟩,
  ⟨"DictProof$Reader", "kindOf", "(I)I"⟩,
  ⟨"DictProof$Reader", "isClassDigit", "(I)Z"⟩,
  ⟨"DictProof$Reader", "acceptsOwner", "(I)Z"⟩,
  ⟨"DictProof$Reader", "acceptsHead", "(I)Z"⟩,
  ⟨"DictProof$Reader", "acceptsCondition", "(I)Z"⟩,
  ⟨"DictProof$Reader", "acceptsGap", "(I)Z"⟩,
  ⟨"DictProof$Reader", "acceptsNext", "(I)Z"⟩,
  ⟨"DictProof$Rule", "<init>", "()V"⟩,
  ⟨"DictProof$Rule", "startWith", "(I)V"⟩,
  ⟨"DictProof$Rule", "isSound", "()Z"⟩,
  ⟨"DictProof$Rule", "hasRoom", "()Z"⟩,
  ⟨"DictProof$Rule", "addCondition", "(II)V"⟩,
  ⟨"DictProof$Shape", "<init>", "()V"⟩,
  ⟨"DictProof$Shape", "signOf", "(I)I"⟩,
  ⟨"DictProof$Shape", "partsOf", "(I)I"⟩,
  ⟨"DictProof$Shape", "variableOf", "(I)I"⟩,
  ⟨"DictProof$Shape", "clear", "()V"⟩,
  ⟨"DictProof$Shape", "add", "(I)V"⟩,
  ⟨"DictProof$Shape", "settle", "()V"⟩,
  ⟨"DictProof$Shape", "endOf", "(I)I"⟩,
  ⟨"DictProof$Shape", "firstLike", "(I)I"⟩,
  ⟨"DictProof$Shape", "isLike", "(II)Z"⟩,
  ⟨"DictProof$Shape", "variableAt", "(I)I"⟩,
  ⟨"DictProof$Shape", "hasVariable", "(I)Z"⟩,
  ⟨"DictProof$Shape", "covers", "(LDictProof$Shape;I[I)Z"⟩,
  ⟨"DictProof$Shape", "isSameAs", "(LDictProof$Shape;)Z"⟩,
  ⟨"DictProof$Shape", "copyFrom", "(LDictProof$Shape;)V"⟩,
  ⟨"java/lang/Integer", "bitCount", "(I)I"⟩,
  ⟨"java/lang/Long", "bitCount", "(J)I"⟩,
  ⟨"java/lang/Math", "max", "(II)I"⟩]
def yK (k : Nat) : MethodName := mNm.getD k ⟨"", "", ""⟩
def mCd : List ByteArray := [code, prog_1_method_1_code, prog_1_method_2_code, prog_1_method_3_code, prog_1_method_4_code, prog_1_method_5_code, prog_1_method_6_code, prog_1_method_7_code, prog_1_method_8_code, prog_1_method_9_code, prog_1_method_10_code, prog_1_method_11_code, prog_1_method_12_code, prog_1_method_13_code, prog_1_method_14_code, prog_1_method_15_code, prog_1_method_16_code, prog_1_method_17_code, prog_1_method_18_code, prog_1_method_19_code, prog_1_method_20_code, prog_1_method_21_code, prog_1_method_22_code, prog_1_method_23_code, prog_1_method_24_code, prog_1_method_25_code, prog_1_method_26_code, prog_1_method_27_code, prog_1_method_28_code, prog_1_method_29_code, prog_1_method_30_code, prog_1_method_31_code, prog_1_method_32_code, prog_1_method_33_code, prog_1_method_34_code, prog_1_method_35_code, prog_1_method_36_code, prog_1_method_37_code, prog_1_method_38_code, prog_1_method_39_code, prog_1_method_40_code, prog_1_method_41_code, prog_11_method_1_code, prog_11_method_3_code, prog_11_method_4_code, prog_11_method_5_code, prog_11_method_6_code, prog_11_method_7_code, prog_11_method_8_code, prog_11_method_9_code, prog_11_method_10_code, prog_11_method_11_code, prog_11_method_12_code, prog_11_method_13_code, prog_11_method_14_code, prog_11_method_15_code, prog_11_method_16_code, prog_11_method_17_code, prog_11_method_18_code, prog_11_method_19_code, prog_11_method_20_code, prog_11_method_21_code, prog_11_method_22_code, prog_11_method_23_code, prog_11_method_24_code, prog_11_method_25_code, prog_11_method_26_code, prog_11_method_27_code, prog_11_method_28_code, prog_11_method_29_code, prog_11_method_30_code, prog_11_method_31_code, prog_11_method_32_code, prog_11_method_33_code, prog_11_method_34_code, prog_11_method_35_code, prog_11_method_36_code, prog_11_method_37_code, prog_11_method_38_code, prog_11_method_39_code, prog_11_method_40_code, prog_11_method_41_code, prog_11_method_42_code, prog_11_method_43_code, prog_11_method_44_code, prog_11_method_45_code, prog_11_method_46_code, prog_11_method_47_code, prog_11_method_48_code, prog_11_method_49_code, prog_11_method_50_code, prog_11_method_51_code, prog_11_method_52_code, prog_11_method_53_code, prog_11_method_54_code, prog_11_method_55_code, prog_11_method_56_code, prog_11_method_57_code, prog_11_method_58_code, prog_11_method_59_code, prog_11_method_60_code, prog_11_method_61_code, prog_11_method_62_code, prog_11_method_63_code, prog_11_method_64_code, prog_11_method_65_code, prog_11_method_66_code, prog_11_method_67_code, prog_11_method_68_code, prog_11_method_69_code, prog_11_method_70_code, prog_11_method_71_code, prog_11_method_72_code, prog_11_method_73_code, prog_11_method_74_code, prog_11_method_75_code, prog_11_method_76_code, prog_11_method_77_code, prog_11_method_78_code, prog_11_method_79_code, prog_11_method_80_code, prog_11_method_81_code, prog_11_method_82_code, prog_11_method_83_code, prog_11_method_84_code, prog_11_method_85_code, prog_11_method_86_code, prog_11_method_87_code, prog_11_method_88_code, prog_11_method_89_code, prog_11_method_90_code, prog_11_method_91_code, prog_11_method_92_code, prog_11_method_93_code, prog_11_method_94_code, prog_11_method_95_code, prog_11_method_96_code, prog_11_method_97_code, prog_11_method_98_code, prog_11_method_99_code, prog_2_method_1_code, prog_2_method_2_code, prog_2_method_3_code, prog_2_method_4_code, prog_2_method_5_code, prog_2_method_6_code, prog_2_method_7_code, prog_2_method_8_code, prog_2_method_9_code, prog_2_method_10_code, prog_2_method_11_code, prog_2_method_12_code, prog_2_method_13_code, prog_2_method_14_code, prog_3_method_1_code, prog_3_method_2_code, prog_3_method_3_code, prog_3_method_4_code, prog_3_method_5_code, prog_3_method_6_code, prog_3_method_7_code, prog_3_method_8_code, prog_4_method_1_code, prog_4_method_2_code, prog_4_method_3_code, prog_4_method_4_code, prog_4_method_5_code, prog_4_method_6_code, prog_4_method_7_code, prog_4_method_8_code, prog_4_method_9_code, prog_5_method_1_code, prog_5_method_2_code, prog_5_method_3_code, prog_5_method_4_code, prog_5_method_5_code, prog_5_method_6_code, prog_6_method_1_code, prog_6_method_2_code, prog_6_method_3_code, prog_6_method_4_code, prog_6_method_5_code, prog_6_method_6_code, prog_6_method_7_code, prog_6_method_8_code, prog_6_method_9_code, prog_7_method_1_code, prog_7_method_2_code, prog_7_method_3_code, prog_7_method_4_code, prog_7_method_5_code, prog_7_method_6_code, prog_7_method_7_code, prog_7_method_8_code, prog_7_method_9_code, prog_7_method_10_code, prog_7_method_11_code, prog_7_method_12_code, prog_7_method_13_code, prog_7_method_14_code, prog_7_method_15_code, prog_8_method_1_code, prog_8_method_2_code, prog_8_method_3_code, prog_8_method_4_code, prog_8_method_5_code, prog_9_method_1_code, prog_9_method_2_code, prog_9_method_3_code, prog_9_method_4_code, prog_9_method_5_code, prog_9_method_6_code, prog_9_method_7_code, prog_9_method_8_code, prog_9_method_9_code, prog_9_method_10_code, prog_9_method_11_code, prog_9_method_12_code, prog_9_method_13_code, prog_9_method_14_code, prog_9_method_15_code, prog_12_method_49_code, prog_13_method_50_code, prog_14_method_65_code]
def cK (k : Nat) : ByteArray := mCd.getD k ⟨#[]⟩
def mMx : List Nat := [4, 1, 2, 2, 1, 2, 4, 2, 4, 3, 4, 5, 4, 4, 3, 2, 2, 2, 1, 1, 3, 4, 7, 6, 4, 5, 7, 3, 3, 2, 4, 2, 8, 2, 5, 1, 1, 2, 5, 8, 5, 3, 1, 3, 2, 3, 1, 1, 2, 2, 1, 2, 2, 2, 4, 2, 6, 5, 5, 4, 2, 1, 3, 4, 4, 3, 3, 5, 7, 4, 2, 6, 6, 4, 6, 6, 5, 4, 5, 3, 5, 6, 2, 6, 7, 2, 2, 2, 5, 4, 3, 3, 7, 7, 3, 3, 4, 4, 2, 2, 3, 4, 6, 3, 7, 4, 3, 3, 4, 4, 4, 3, 4, 4, 5, 8, 2, 4, 2, 6, 9, 2, 1, 2, 5, 8, 4, 3, 2, 2, 3, 5, 3, 5, 5, 2, 2, 3, 4, 3, 2, 1, 1, 2, 2, 3, 3, 4, 6, 3, 3, 4, 5, 5, 2, 3, 3, 3, 4, 3, 3, 3, 2, 7, 2, 4, 4, 4, 9, 3, 6, 1, 2, 5, 4, 2, 7, 1, 4, 6, 4, 2, 4, 3, 3, 2, 1, 2, 1, 2, 2, 3, 2, 3, 1, 2, 2, 4, 2, 3, 2, 1, 2, 1, 1, 3, 1, 1, 1, 1, 1, 2, 4, 2, 3, 5, 2, 3, 7, 3, 3, 1, 2, 2]
def mxK (k : Nat) : Nat := mMx.getD k 0
def mRt : List (Option FieldType) := [(some .boolean), none, (some .int), (some .int), (some .int), (some .int), (some .int), (some .int), (some .boolean), (some .int), (some .int), (some .int), (some .int), (some .int), (some .int), (some .boolean), (some .boolean), (some .boolean), (some .boolean), (some .int), (some .boolean), (some .boolean), (some .int), (some .int), (some .int), (some .int), (some .int), (some (.object "DictProof$Goal")), (some .int), (some .int), (some .int), (some .int), (some .int), (some .int), none, (some .int), (some .int), (some .int), (some .long), (some .long), (some .int), (some .int), none, (some .boolean), (some .boolean), (some .int), (some .boolean), (some .int), (some .int), (some .int), (some .int), (some .int), (some .int), (some .int), (some .int), (some .int), (some .int), (some .boolean), (some .int), (some .int), (some .int), (some .int), (some .int), none, none, none, none, (some .boolean), (some .boolean), none, (some .boolean), (some .int), (some .int), (some .boolean), (some .int), (some .int), none, none, none, none, (some .boolean), (some .int), none, (some .int), (some .int), (some .boolean), (some .boolean), (some .boolean), (some .int), (some .int), (some .int), (some .int), (some .boolean), (some .int), (some .int), (some .int), (some .int), (some .int), (some .int), (some .int), (some .int), (some .int), (some .boolean), none, (some .boolean), (some .boolean), (some .boolean), (some .boolean), (some .boolean), (some .boolean), (some .int), (some .int), (some .int), (some .int), (some .int), (some .int), (some .boolean), (some .int), (some .int), (some .int), (some .int), (some .int), (some .int), none, none, (some .int), (some .int), (some .int), (some .int), (some .int), (some .int), (some .int), (some .int), (some .boolean), (some .int), (some .int), (some .int), none, none, (some .long), none, none, none, none, none, none, none, none, none, (some .boolean), (some .boolean), (some .int), (some .int), (some .int), none, none, none, none, (some .int), (some .int), (some .int), (some .boolean), none, none, (some (.object "DictProof$Goal")), (some (.object "DictProof$Goal")), none, (some .int), none, (some .int), none, none, none, none, none, none, (some .int), none, (some .boolean), none, none, (some .boolean), (some .int), (some .boolean), (some .boolean), (some .boolean), none, none, (some .boolean), (some .boolean), (some .boolean), (some .boolean), (some .boolean), (some .boolean), (some .int), (some .boolean), (some .boolean), (some .boolean), (some .boolean), (some .boolean), (some .boolean), none, none, (some .boolean), (some .boolean), none, none, (some .int), (some .int), (some .int), none, none, none, (some .int), (some .int), (some .boolean), (some .int), (some .boolean), (some .boolean), (some .boolean), none, (some .int), (some .int), (some .int)]
def rtK (k : Nat) : Option FieldType := mRt.getD k none
def mDp : List Nat := [12, 4, 0, 0, 6, 6, 3, 5, 1, 1, 4, 1, 1, 3, 1, 0, 0, 0, 0, 0, 1, 2, 1, 2, 5, 5, 5, 4, 3, 0, 1, 0, 4, 0, 3, 2, 2, 5, 6, 4, 3, 4, 1, 0, 0, 0, 0, 0, 1, 0, 0, 0, 1, 0, 2, 3, 1, 1, 2, 3, 4, 5, 5, 2, 1, 2, 2, 0, 1, 3, 1, 2, 1, 1, 1, 3, 0, 0, 4, 5, 1, 2, 0, 1, 0, 1, 1, 1, 1, 0, 1, 2, 1, 6, 7, 8, 2, 2, 0, 1, 2, 1, 3, 0, 4, 5, 6, 0, 7, 8, 9, 3, 3, 6, 6, 6, 0, 2, 0, 1, 2, 0, 0, 0, 2, 6, 7, 0, 1, 1, 2, 9, 7, 0, 1, 10, 11, 0, 6, 11, 3, 0, 0, 0, 2, 5, 0, 3, 4, 0, 0, 0, 2, 1, 2, 1, 1, 0, 0, 1, 2, 1, 2, 3, 1, 0, 0, 1, 2, 1, 1, 1, 0, 1, 0, 0, 0, 1, 3, 1, 0, 2, 0, 1, 2, 1, 1, 1, 0, 4, 1, 1, 0, 3, 0, 0, 1, 1, 3, 2, 0, 2, 1, 2, 2, 0, 1, 0, 0, 0, 0, 0, 2, 0, 1, 0, 1, 1, 0, 0, 0, 0, 0, 0]
def dpK (k : Nat) : Nat := mDp.getD k 0
def mOw : List Nat := [10, 8, 8, 8, 8, 8, 8, 8, 8, 8, 8, 8, 8, 8, 8, 8, 8, 8, 8, 8, 8, 8, 8, 8, 8, 8, 8, 8, 8, 8, 8, 8, 8, 8, 8, 8, 8, 8, 8, 8, 8, 8, 9, 9, 9, 9, 9, 9, 9, 9, 9, 9, 9, 9, 9, 9, 9, 9, 9, 9, 9, 9, 9, 9, 9, 9, 9, 9, 9, 9, 9, 9, 9, 9, 9, 9, 9, 9, 9, 9, 9, 9, 9, 9, 9, 9, 9, 9, 9, 9, 9, 9, 9, 9, 9, 9, 9, 9, 9, 9, 9, 9, 9, 9, 9, 9, 9, 9, 9, 9, 9, 9, 9, 9, 9, 9, 9, 9, 9, 9, 9, 9, 9, 9, 9, 9, 9, 9, 9, 9, 9, 9, 9, 9, 9, 9, 9, 9, 9, 9, 0, 0, 0, 0, 0, 0, 0, 0, 0, 0, 0, 0, 0, 0, 1, 1, 1, 1, 1, 1, 1, 1, 2, 2, 2, 2, 2, 2, 2, 2, 2, 3, 3, 3, 3, 3, 3, 4, 4, 4, 4, 4, 4, 4, 4, 4, 5, 5, 5, 5, 5, 5, 5, 5, 5, 5, 5, 5, 5, 5, 5, 6, 6, 6, 6, 6, 7, 7, 7, 7, 7, 7, 7, 7, 7, 7, 7, 7, 7, 7, 7, 11, 12, 13]
def owK (k : Nat) : Nat := mOw.getD k 0
def mBu : List (Nat × Nat) := [(600000, 7302250), (239, 1610), (0, 0), (0, 0), (0, 0), (0, 0), (0, 0), (0, 0), (0, 0), (0, 0), (0, 0), (0, 0), (0, 0), (0, 0), (0, 0), (0, 0), (0, 0), (0, 0), (0, 0), (0, 0), (0, 0), (0, 0), (0, 0), (0, 0), (0, 0), (0, 0), (0, 0), (0, 0), (0, 0), (0, 0), (0, 0), (0, 0), (0, 0), (0, 0), (0, 0), (0, 0), (0, 0), (0, 0), (0, 0), (0, 0), (0, 0), (0, 0), (45, 914), (0, 0), (0, 0), (0, 0), (0, 0), (0, 0), (0, 0), (0, 0), (0, 0), (0, 0), (0, 0), (0, 0), (0, 0), (0, 0), (0, 0), (0, 0), (0, 0), (0, 0), (0, 0), (0, 0), (0, 0), (0, 0), (0, 0), (0, 0), (0, 0), (0, 0), (0, 0), (0, 0), (0, 0), (0, 0), (0, 0), (0, 0), (0, 0), (0, 0), (0, 0), (0, 0), (0, 0), (0, 0), (0, 0), (0, 0), (0, 0), (0, 0), (0, 0), (0, 0), (0, 0), (0, 0), (0, 0), (0, 0), (0, 0), (0, 0), (0, 0), (0, 0), (0, 0), (0, 0), (0, 0), (0, 0), (0, 0), (0, 0), (0, 0), (0, 0), (0, 0), (0, 0), (0, 0), (0, 0), (0, 0), (0, 0), (0, 0), (0, 0), (0, 0), (0, 0), (0, 0), (0, 0), (0, 0), (0, 0), (0, 0), (0, 0), (0, 0), (0, 0), (0, 0), (0, 0), (0, 0), (0, 0), (0, 0), (0, 0), (0, 0), (0, 0), (0, 0), (0, 0), (0, 0), (0, 0), (0, 0), (0, 0), (0, 0), (0, 0), (0, 0), (0, 0), (0, 0), (0, 0), (49, 284), (0, 0), (0, 0), (0, 0), (0, 0), (0, 0), (0, 0), (0, 0), (0, 0), (0, 0), (0, 0), (0, 0), (0, 0), (0, 0), (20, 146), (0, 0), (0, 0), (0, 0), (0, 0), (0, 0), (0, 0), (0, 0), (81, 455), (0, 0), (0, 0), (0, 0), (0, 0), (0, 0), (0, 0), (0, 0), (0, 0), (1, 2), (0, 0), (0, 0), (0, 0), (0, 0), (0, 0), (7, 130), (0, 0), (0, 0), (0, 0), (0, 0), (0, 0), (0, 0), (0, 0), (0, 0), (0, 0), (0, 0), (0, 0), (0, 0), (0, 0), (0, 0), (0, 0), (0, 0), (0, 0), (0, 0), (0, 0), (0, 0), (0, 0), (0, 0), (0, 0), (6, 35), (0, 0), (0, 0), (0, 0), (0, 0), (3, 27), (0, 0), (0, 0), (0, 0), (0, 0), (0, 0), (0, 0), (0, 0), (0, 0), (0, 0), (0, 0), (0, 0), (0, 0), (0, 0), (0, 0), (0, 0), (0, 0), (0, 0)]
def buK (k : Nat) : Nat × Nat := mBu.getD k (0, 0)
def mSt : List Bool := [true, false, false, false, false, false, false, false, false, false, false, false, false, false, false, false, false, false, true, true, false, false, true, false, false, false, false, false, false, true, false, false, false, false, false, false, false, false, false, false, false, false, false, true, true, true, true, true, false, false, true, false, false, false, false, false, false, false, false, false, false, false, false, false, false, false, false, false, false, false, false, false, false, false, false, false, false, false, false, false, false, false, false, false, false, false, false, false, false, false, false, false, false, false, false, false, false, false, false, false, false, false, false, false, false, false, false, false, false, false, false, false, false, false, false, false, true, false, false, false, false, false, true, false, false, false, false, false, false, false, false, false, false, false, false, false, false, false, false, false, false, false, false, false, false, false, false, false, false, false, false, false, false, false, false, false, false, false, false, false, false, false, false, false, false, false, false, false, false, false, false, false, false, false, false, false, false, false, false, false, false, false, false, false, false, false, false, false, false, false, false, false, false, false, true, false, false, false, false, false, false, false, false, false, false, false, false, true, true, true, false, false, false, false, false, false, false, false, false, false, false, true, true, true]
def stK (k : Nat) : Bool := mSt.getD k false
def mNa : List Nat := [1, 0, 1, 0, 0, 0, 1, 0, 0, 2, 2, 2, 2, 3, 2, 1, 1, 1, 1, 1, 2, 2, 1, 1, 3, 3, 4, 2, 2, 2, 3, 0, 3, 1, 0, 0, 0, 1, 0, 2, 1, 0, 0, 3, 2, 1, 1, 1, 1, 0, 1, 1, 1, 1, 1, 0, 2, 2, 2, 1, 0, 0, 0, 1, 0, 1, 1, 2, 2, 0, 1, 2, 2, 1, 1, 2, 2, 3, 2, 0, 2, 1, 1, 1, 2, 1, 1, 1, 1, 1, 2, 2, 2, 1, 2, 2, 2, 2, 1, 1, 1, 1, 2, 2, 2, 2, 2, 2, 2, 3, 3, 2, 2, 3, 3, 4, 2, 3, 0, 1, 1, 1, 1, 1, 0, 3, 3, 0, 0, 0, 0, 1, 0, 2, 0, 1, 1, 1, 1, 0, 0, 0, 0, 1, 1, 1, 1, 1, 2, 2, 2, 1, 1, 2, 0, 1, 1, 2, 1, 0, 0, 1, 0, 3, 1, 2, 1, 1, 3, 1, 3, 0, 1, 3, 2, 1, 1, 0, 2, 2, 2, 0, 1, 2, 0, 1, 0, 1, 0, 1, 1, 1, 1, 1, 1, 1, 1, 1, 1, 1, 1, 0, 1, 0, 0, 2, 0, 1, 1, 1, 0, 1, 0, 1, 1, 2, 1, 1, 3, 1, 1, 1, 1, 2]
def naK (k : Nat) : Nat := mNa.getD k 0
def flT : List (List (Nat × Nat × Nat)) := [[(9, 0, 0), (15, 0, 1), (19, 0, 2), (22, 0, 3), (25, 0, 4), (30, 0, 5), (34, 0, 6), (37, 0, 7), (40, 0, 8), (43, 0, 9), (61, 6, 2), (70, 6, 1), (77, 6, 6), (80, 6, 3), (83, 6, 4), (86, 6, 5)], [(9, 1, 0), (17, 1, 1), (21, 1, 2), (25, 1, 3), (28, 1, 4), (32, 0, 4), (37, 0, 5), (41, 6, 0), (53, 7, 3)], [(11, 2, 0), (17, 2, 1), (23, 2, 2), (26, 2, 3), (30, 2, 4), (39, 7, 3), (49, 0, 0), (54, 0, 3), (65, 0, 4), (68, 0, 5), (72, 6, 2), (81, 0, 6), (84, 7, 2), (117, 6, 3), (120, 6, 4), (123, 6, 5), (126, 3, 0)], [(9, 3, 0), (15, 3, 1), (18, 3, 2), (21, 3, 3), (24, 3, 4), (27, 3, 5), (31, 3, 6), (34, 3, 7), (37, 3, 8)], [(11, 4, 0), (15, 4, 1), (18, 4, 2), (21, 4, 3), (24, 4, 4), (28, 4, 5), (31, 4, 6), (34, 4, 7), (38, 7, 3), (58, 7, 0), (66, 7, 2)], [(9, 5, 0), (15, 5, 1), (19, 5, 2), (23, 5, 3), (26, 5, 4), (34, 0, 5), (69, 0, 0), (80, 0, 4), (89, 6, 1), (99, 6, 2), (103, 7, 3)], [(9, 6, 0), (15, 6, 1), (21, 6, 2), (25, 6, 3), (28, 6, 4), (32, 6, 5), (35, 6, 6)], [(9, 7, 0), (15, 7, 1), (18, 7, 2), (21, 7, 3)], [(9, 8, 0), (13, 8, 1), (20, 8, 2), (24, 8, 3), (27, 8, 4), (33, 8, 5), (40, 8, 6), (47, 8, 7), (51, 8, 8), (54, 8, 9), (61, 8, 10), (65, 8, 11), (71, 8, 12), (75, 8, 13), (95, 0, 4), (101, 1, 1), (118, 7, 3), (134, 0, 1), (137, 0, 2), (140, 0, 3), (151, 0, 5), (155, 1, 0), (158, 6, 1), (163, 6, 2), (166, 6, 3), (169, 0, 6), (210, 0, 0), (229, 3, 0), (234, 3, 4), (237, 6, 6), (248, 3, 1), (260, 3, 2), (263, 3, 5), (271, 3, 3), (274, 1, 2)], [(7, 9, 2), (13, 9, 3), (16, 9, 5), (19, 9, 6), (22, 9, 7), (25, 9, 8), (28, 9, 9), (31, 9, 10), (34, 9, 11), (37, 9, 12), (40, 9, 13), (43, 9, 14), (46, 9, 16), (49, 9, 17), (52, 9, 18), (55, 9, 20), (59, 9, 25), (62, 9, 26), (65, 9, 27), (68, 9, 28), (71, 9, 29), (74, 9, 30), (77, 9, 31), (80, 9, 32), (83, 9, 33), (86, 9, 35), (89, 9, 36), (92, 9, 37), (95, 9, 38), (98, 9, 39), (101, 9, 40), (104, 9, 41), (107, 9, 42), (110, 9, 43), (113, 9, 44), (116, 9, 47), (119, 9, 48), (122, 9, 49), (125, 9, 51), (128, 9, 56), (131, 9, 57), (134, 9, 58), (137, 9, 59), (140, 9, 60), (143, 9, 61), (150, 9, 19), (158, 9, 22), (162, 9, 23), (185, 9, 24), (198, 9, 21), (211, 9, 1), (217, 9, 4), (227, 9, 0), (230, 9, 15), (233, 9, 34), (316, 9, 45), (319, 9, 46), (334, 9, 50), (385, 9, 52), (411, 9, 53), (414, 9, 54), (417, 9, 55), (443, 9, 62)], [], [], [], []]
def mlT : List (List (Nat × Nat)) := [[(47, 202), (51, 146), (54, 147), (57, 148), (65, 212), (73, 203), (93, 153), (96, 218), (100, 178)], [(46, 210), (49, 220), (60, 161), (64, 219)], [(35, 166), (45, 167), (57, 168), (61, 165), (77, 218), (87, 216), (90, 173), (94, 169), (97, 172), (101, 174), (105, 170), (109, 221), (114, 151), (129, 175)], [(41, 174)], [(43, 179), (47, 180), (51, 181), (55, 184), (59, 208), (63, 213), (69, 182), (72, 183), (76, 209), (79, 185)], [(29, 141), (38, 190), (42, 191), (45, 192), (48, 193), (51, 196), (54, 197), (57, 198), (60, 200), (63, 199), (66, 142), (72, 143), (76, 194), (83, 144), (86, 195), (94, 207), (106, 208), (109, 211), (112, 204), (116, 209), (119, 217), (122, 205)], [(38, 210), (41, 216), (45, 217)], [(28, 208), (32, 213), (35, 214), (38, 215), (42, 209)], [(19, 140), (46, 154), (60, 162), (79, 7), (83, 188), (87, 145), (91, 155), (98, 8), (105, 210), (108, 207), (112, 211), (116, 212), (121, 187), (124, 189), (128, 208), (131, 15), (143, 221), (148, 16), (172, 158), (175, 22), (178, 163), (182, 23), (186, 18), (189, 20), (193, 19), (197, 21), (200, 149), (203, 17), (206, 218), (213, 150), (219, 223), (225, 164), (240, 27), (244, 28), (251, 176), (254, 29), (257, 152), (266, 222), (277, 157), (281, 33), (284, 34), (295, 156), (299, 159), (302, 40), (305, 41), (308, 160), (315, 9), (318, 10), (321, 39), (325, 37)], [(146, 43), (154, 51), (165, 52), (168, 53), (171, 54), (174, 47), (177, 57), (181, 46), (188, 50), (191, 56), (195, 58), (201, 55), (205, 59), (208, 60), (214, 44), (220, 63), (224, 69), (236, 64), (239, 67), (242, 65), (245, 68), (248, 70), (251, 71), (254, 45), (257, 73), (260, 72), (263, 74), (266, 75), (269, 77), (273, 76), (277, 78), (280, 80), (283, 82), (286, 89), (289, 85), (292, 90), (295, 79), (298, 92), (301, 119), (304, 120), (307, 93), (310, 86), (313, 94), (322, 98), (325, 99), (328, 100), (331, 101), (337, 102), (340, 103), (343, 104), (346, 105), (349, 107), (352, 106), (355, 108), (358, 109), (361, 87), (364, 66), (367, 81), (370, 83), (373, 112), (376, 84), (379, 116), (395, 121), (398, 122), (401, 123), (404, 124), (407, 125), (420, 127), (423, 133), (426, 130), (429, 131), (432, 132), (435, 134), (438, 135), (446, 137), (452, 138)], [(9, 1), (12, 42), (13, 2), (17, 48), (18, 3), (22, 49), (23, 4), (26, 61), (27, 5), (30, 62), (31, 6), (34, 88), (35, 9), (39, 91), (40, 10), (43, 95), (44, 11), (47, 96), (48, 12), (51, 97), (52, 13), (56, 110), (57, 14), (60, 111), (61, 24), (64, 113), (65, 25), (68, 114), (69, 26), (73, 115), (74, 30), (78, 117), (79, 31), (82, 118), (83, 32), (86, 126), (87, 35), (90, 128), (91, 36), (94, 129), (95, 37), (98, 136), (99, 38), (103, 139)], [], [], []]
def nlT : List (List (Nat × Nat)) := [[(46, 201), (89, 29)], [(31, 206), (56, 19)], [(34, 171)], [(45, 29)], [], [], [(20, 206)], [], [(32, 186), (39, 177), (70, 206)], [], [], [], [], []]
def clT : List (List (Nat × Nat)) := [[(28, 6)], [(15, 7)], [(9, 3)], [(10, 3)], [], [], [(18, 7)], [], [(17, 0), (30, 5), (37, 4), (44, 1), (58, 2), (68, 7)], [], [(7, 8), (10, 9)], [], [], []]
def kiT : List (List (Nat × Int)) := [[], [], [], [], [], [], [], [], [], [(382, 268435456)], [], [(265, 1431655765), (266, 858993459), (267, 252645135)], [], []]
def klT : List (List (Nat × Int)) := [[], [], [], [], [], [], [], [], [(287, 1103515245), (289, 12345), (291, 2147483647), (293, 65536), (311, 1367), (313, 31)], [(383, 1103515245), (389, 12345), (391, 2147483647), (393, 65536), (441, 31), (450, 1367)], [], [], [(314, 6148914691236517205), (316, 3689348814741910323), (318, 1085102592571150095)], []]
def oiT : List (List Nat) := [[3], [3], [3], [3], [5], [3], [3], [3], [1], [1], [], [], [], []]
def stT : List (List (Nat × Nat)) := [[], [], [], [], [], [], [], [(25, 2)], [(216, 1)], [], [], [], [], []]
end
section
-- ===== what the tables of the Statement say of the links, by their places =====
def lwG : List Cond := lw_tbl.filter goodWord
theorem lwt_app : lw_tbl = k2_sels lw_privs ++ (tables_1_1 ++ (tables_1_2 ++ (tables_1_3 ++ (tables_1_4 ++ (tables_1_5 ++ tables_1_6))))) := rfl
theorem lwt_0 {w : Cond} (h : w ∈ k2_sels lw_privs) : w ∈ lw_tbl := by rw [lwt_app]; exact List.mem_append_left _ h
theorem lwt_1 {w : Cond} (h : w ∈ tables_1_1) : w ∈ lw_tbl := by rw [lwt_app]; exact (List.mem_append_right _ (List.mem_append_left _ h))
theorem lwt_2 {w : Cond} (h : w ∈ tables_1_2) : w ∈ lw_tbl := by rw [lwt_app]; exact (List.mem_append_right _ (List.mem_append_right _ (List.mem_append_left _ h)))
theorem lwt_3 {w : Cond} (h : w ∈ tables_1_3) : w ∈ lw_tbl := by rw [lwt_app]; exact (List.mem_append_right _ (List.mem_append_right _ (List.mem_append_right _ (List.mem_append_left _ h))))
theorem lwt_4 {w : Cond} (h : w ∈ tables_1_4) : w ∈ lw_tbl := by rw [lwt_app]; exact (List.mem_append_right _ (List.mem_append_right _ (List.mem_append_right _ (List.mem_append_right _ (List.mem_append_left _ h)))))
theorem lwt_5 {w : Cond} (h : w ∈ tables_1_5) : w ∈ lw_tbl := by rw [lwt_app]; exact (List.mem_append_right _ (List.mem_append_right _ (List.mem_append_right _ (List.mem_append_right _ (List.mem_append_right _ (List.mem_append_left _ h))))))
theorem lwt_6 {w : Cond} (h : w ∈ tables_1_6) : w ∈ lw_tbl := by rw [lwt_app]; exact (List.mem_append_right _ (List.mem_append_right _ (List.mem_append_right _ (List.mem_append_right _ (List.mem_append_right _ (List.mem_append_right _ h))))))
theorem lwg {w : Cond} (h : w ∈ lw_tbl) (hg : goodWord w = true) : w ∈ lwG := List.mem_filter.mpr ⟨h, hg⟩
set_option maxRecDepth 20000 in
theorem fl_0 : ∀ e ∈ flT.getD 0 [], Cond.fieldLink (cnm 0) e.1 (cnm e.2.1) (cT e.2.1 e.2.2).2.1 (cT e.2.1 e.2.2).2.2.1 ∈ lwG := (List.forall_mem_cons.mpr ⟨(lwg (lwt_1 (List.mem_of_getElem? (i := 102) rfl)) rfl), (List.forall_mem_cons.mpr ⟨(lwg (lwt_1 (List.mem_of_getElem? (i := 106) rfl)) rfl), (List.forall_mem_cons.mpr ⟨(lwg (lwt_1 (List.mem_of_getElem? (i := 108) rfl)) rfl), (List.forall_mem_cons.mpr ⟨(lwg (lwt_1 (List.mem_of_getElem? (i := 110) rfl)) rfl), (List.forall_mem_cons.mpr ⟨(lwg (lwt_1 (List.mem_of_getElem? (i := 113) rfl)) rfl), (List.forall_mem_cons.mpr ⟨(lwg (lwt_1 (List.mem_of_getElem? (i := 118) rfl)) rfl), (List.forall_mem_cons.mpr ⟨(lwg (lwt_1 (List.mem_of_getElem? (i := 123) rfl)) rfl), (List.forall_mem_cons.mpr ⟨(lwg (lwt_1 (List.mem_of_getElem? (i := 126) rfl)) rfl), (List.forall_mem_cons.mpr ⟨(lwg (lwt_1 (List.mem_of_getElem? (i := 127) rfl)) rfl), (List.forall_mem_cons.mpr ⟨(lwg (lwt_1 (List.mem_of_getElem? (i := 128) rfl)) rfl), (List.forall_mem_cons.mpr ⟨(lwg (lwt_1 (List.mem_of_getElem? (i := 71) rfl)) rfl), (List.forall_mem_cons.mpr ⟨(lwg (lwt_1 (List.mem_of_getElem? (i := 66) rfl)) rfl), (List.forall_mem_cons.mpr ⟨(lwg (lwt_1 (List.mem_of_getElem? (i := 85) rfl)) rfl), (List.forall_mem_cons.mpr ⟨(lwg (lwt_1 (List.mem_of_getElem? (i := 75) rfl)) rfl), (List.forall_mem_cons.mpr ⟨(lwg (lwt_1 (List.mem_of_getElem? (i := 79) rfl)) rfl), (List.forall_mem_cons.mpr ⟨(lwg (lwt_1 (List.mem_of_getElem? (i := 82) rfl)) rfl), (fun _ h => absurd h List.not_mem_nil)⟩)⟩)⟩)⟩)⟩)⟩)⟩)⟩)⟩)⟩)⟩)⟩)⟩)⟩)⟩)⟩)
set_option maxRecDepth 20000 in
theorem fl_1 : ∀ e ∈ flT.getD 1 [], Cond.fieldLink (cnm 1) e.1 (cnm e.2.1) (cT e.2.1 e.2.2).2.1 (cT e.2.1 e.2.2).2.2.1 ∈ lwG := (List.forall_mem_cons.mpr ⟨(lwg (lwt_1 (List.mem_of_getElem? (i := 213) rfl)) rfl), (List.forall_mem_cons.mpr ⟨(lwg (lwt_1 (List.mem_of_getElem? (i := 215) rfl)) rfl), (List.forall_mem_cons.mpr ⟨(lwg (lwt_1 (List.mem_of_getElem? (i := 217) rfl)) rfl), (List.forall_mem_cons.mpr ⟨(lwg (lwt_1 (List.mem_of_getElem? (i := 219) rfl)) rfl), (List.forall_mem_cons.mpr ⟨(lwg (lwt_1 (List.mem_of_getElem? (i := 220) rfl)) rfl), (List.forall_mem_cons.mpr ⟨(lwg (lwt_1 (List.mem_of_getElem? (i := 114) rfl)) rfl), (List.forall_mem_cons.mpr ⟨(lwg (lwt_1 (List.mem_of_getElem? (i := 119) rfl)) rfl), (List.forall_mem_cons.mpr ⟨(lwg (lwt_1 (List.mem_of_getElem? (i := 64) rfl)) rfl), (List.forall_mem_cons.mpr ⟨(lwg (lwt_1 (List.mem_of_getElem? (i := 50) rfl)) rfl), (fun _ h => absurd h List.not_mem_nil)⟩)⟩)⟩)⟩)⟩)⟩)⟩)⟩)⟩)
set_option maxRecDepth 20000 in
theorem fl_2 : ∀ e ∈ flT.getD 2 [], Cond.fieldLink (cnm 2) e.1 (cnm e.2.1) (cT e.2.1 e.2.2).2.1 (cT e.2.1 e.2.2).2.2.1 ∈ lwG := (List.forall_mem_cons.mpr ⟨(lwg (lwt_2 (List.mem_of_getElem? (i := 43) rfl)) rfl), (List.forall_mem_cons.mpr ⟨(lwg (lwt_2 (List.mem_of_getElem? (i := 44) rfl)) rfl), (List.forall_mem_cons.mpr ⟨(lwg (lwt_2 (List.mem_of_getElem? (i := 45) rfl)) rfl), (List.forall_mem_cons.mpr ⟨(lwg (lwt_2 (List.mem_of_getElem? (i := 46) rfl)) rfl), (List.forall_mem_cons.mpr ⟨(lwg (lwt_2 (List.mem_of_getElem? (i := 47) rfl)) rfl), (List.forall_mem_cons.mpr ⟨(lwg (lwt_1 (List.mem_of_getElem? (i := 49) rfl)) rfl), (List.forall_mem_cons.mpr ⟨(lwg (lwt_1 (List.mem_of_getElem? (i := 103) rfl)) rfl), (List.forall_mem_cons.mpr ⟨(lwg (lwt_1 (List.mem_of_getElem? (i := 111) rfl)) rfl), (List.forall_mem_cons.mpr ⟨(lwg (lwt_1 (List.mem_of_getElem? (i := 115) rfl)) rfl), (List.forall_mem_cons.mpr ⟨(lwg (lwt_1 (List.mem_of_getElem? (i := 121) rfl)) rfl), (List.forall_mem_cons.mpr ⟨(lwg (lwt_1 (List.mem_of_getElem? (i := 70) rfl)) rfl), (List.forall_mem_cons.mpr ⟨(lwg (lwt_1 (List.mem_of_getElem? (i := 124) rfl)) rfl), (List.forall_mem_cons.mpr ⟨(lwg (lwt_1 (List.mem_of_getElem? (i := 46) rfl)) rfl), (List.forall_mem_cons.mpr ⟨(lwg (lwt_1 (List.mem_of_getElem? (i := 76) rfl)) rfl), (List.forall_mem_cons.mpr ⟨(lwg (lwt_1 (List.mem_of_getElem? (i := 80) rfl)) rfl), (List.forall_mem_cons.mpr ⟨(lwg (lwt_1 (List.mem_of_getElem? (i := 83) rfl)) rfl), (List.forall_mem_cons.mpr ⟨(lwg (lwt_2 (List.mem_of_getElem? (i := 9) rfl)) rfl), (fun _ h => absurd h List.not_mem_nil)⟩)⟩)⟩)⟩)⟩)⟩)⟩)⟩)⟩)⟩)⟩)⟩)⟩)⟩)⟩)⟩)⟩)
set_option maxRecDepth 20000 in
theorem fl_3 : ∀ e ∈ flT.getD 3 [], Cond.fieldLink (cnm 3) e.1 (cnm e.2.1) (cT e.2.1 e.2.2).2.1 (cT e.2.1 e.2.2).2.2.1 ∈ lwG := (List.forall_mem_cons.mpr ⟨(lwg (lwt_2 (List.mem_of_getElem? (i := 8) rfl)) rfl), (List.forall_mem_cons.mpr ⟨(lwg (lwt_2 (List.mem_of_getElem? (i := 11) rfl)) rfl), (List.forall_mem_cons.mpr ⟨(lwg (lwt_2 (List.mem_of_getElem? (i := 13) rfl)) rfl), (List.forall_mem_cons.mpr ⟨(lwg (lwt_2 (List.mem_of_getElem? (i := 15) rfl)) rfl), (List.forall_mem_cons.mpr ⟨(lwg (lwt_2 (List.mem_of_getElem? (i := 17) rfl)) rfl), (List.forall_mem_cons.mpr ⟨(lwg (lwt_2 (List.mem_of_getElem? (i := 19) rfl)) rfl), (List.forall_mem_cons.mpr ⟨(lwg (lwt_2 (List.mem_of_getElem? (i := 21) rfl)) rfl), (List.forall_mem_cons.mpr ⟨(lwg (lwt_2 (List.mem_of_getElem? (i := 22) rfl)) rfl), (List.forall_mem_cons.mpr ⟨(lwg (lwt_2 (List.mem_of_getElem? (i := 23) rfl)) rfl), (fun _ h => absurd h List.not_mem_nil)⟩)⟩)⟩)⟩)⟩)⟩)⟩)⟩)⟩)
set_option maxRecDepth 20000 in
theorem fl_4 : ∀ e ∈ flT.getD 4 [], Cond.fieldLink (cnm 4) e.1 (cnm e.2.1) (cT e.2.1 e.2.2).2.1 (cT e.2.1 e.2.2).2.2.1 ∈ lwG := (List.forall_mem_cons.mpr ⟨(lwg (lwt_1 (List.mem_of_getElem? (i := 178) rfl)) rfl), (List.forall_mem_cons.mpr ⟨(lwg (lwt_1 (List.mem_of_getElem? (i := 179) rfl)) rfl), (List.forall_mem_cons.mpr ⟨(lwg (lwt_1 (List.mem_of_getElem? (i := 180) rfl)) rfl), (List.forall_mem_cons.mpr ⟨(lwg (lwt_1 (List.mem_of_getElem? (i := 181) rfl)) rfl), (List.forall_mem_cons.mpr ⟨(lwg (lwt_1 (List.mem_of_getElem? (i := 182) rfl)) rfl), (List.forall_mem_cons.mpr ⟨(lwg (lwt_1 (List.mem_of_getElem? (i := 183) rfl)) rfl), (List.forall_mem_cons.mpr ⟨(lwg (lwt_1 (List.mem_of_getElem? (i := 184) rfl)) rfl), (List.forall_mem_cons.mpr ⟨(lwg (lwt_1 (List.mem_of_getElem? (i := 185) rfl)) rfl), (List.forall_mem_cons.mpr ⟨(lwg (lwt_1 (List.mem_of_getElem? (i := 48) rfl)) rfl), (List.forall_mem_cons.mpr ⟨(lwg (lwt_1 (List.mem_of_getElem? (i := 42) rfl)) rfl), (List.forall_mem_cons.mpr ⟨(lwg (lwt_1 (List.mem_of_getElem? (i := 45) rfl)) rfl), (fun _ h => absurd h List.not_mem_nil)⟩)⟩)⟩)⟩)⟩)⟩)⟩)⟩)⟩)⟩)⟩)
set_option maxRecDepth 20000 in
theorem fl_5 : ∀ e ∈ flT.getD 5 [], Cond.fieldLink (cnm 5) e.1 (cnm e.2.1) (cT e.2.1 e.2.2).2.1 (cT e.2.1 e.2.2).2.2.1 ∈ lwG := (List.forall_mem_cons.mpr ⟨(lwg (lwt_1 (List.mem_of_getElem? (i := 156) rfl)) rfl), (List.forall_mem_cons.mpr ⟨(lwg (lwt_1 (List.mem_of_getElem? (i := 157) rfl)) rfl), (List.forall_mem_cons.mpr ⟨(lwg (lwt_1 (List.mem_of_getElem? (i := 158) rfl)) rfl), (List.forall_mem_cons.mpr ⟨(lwg (lwt_1 (List.mem_of_getElem? (i := 159) rfl)) rfl), (List.forall_mem_cons.mpr ⟨(lwg (lwt_1 (List.mem_of_getElem? (i := 160) rfl)) rfl), (List.forall_mem_cons.mpr ⟨(lwg (lwt_1 (List.mem_of_getElem? (i := 120) rfl)) rfl), (List.forall_mem_cons.mpr ⟨(lwg (lwt_1 (List.mem_of_getElem? (i := 104) rfl)) rfl), (List.forall_mem_cons.mpr ⟨(lwg (lwt_1 (List.mem_of_getElem? (i := 117) rfl)) rfl), (List.forall_mem_cons.mpr ⟨(lwg (lwt_1 (List.mem_of_getElem? (i := 68) rfl)) rfl), (List.forall_mem_cons.mpr ⟨(lwg (lwt_1 (List.mem_of_getElem? (i := 73) rfl)) rfl), (List.forall_mem_cons.mpr ⟨(lwg (lwt_1 (List.mem_of_getElem? (i := 52) rfl)) rfl), (fun _ h => absurd h List.not_mem_nil)⟩)⟩)⟩)⟩)⟩)⟩)⟩)⟩)⟩)⟩)⟩)
set_option maxRecDepth 20000 in
theorem fl_6 : ∀ e ∈ flT.getD 6 [], Cond.fieldLink (cnm 6) e.1 (cnm e.2.1) (cT e.2.1 e.2.2).2.1 (cT e.2.1 e.2.2).2.2.1 ∈ lwG := (List.forall_mem_cons.mpr ⟨(lwg (lwt_1 (List.mem_of_getElem? (i := 63) rfl)) rfl), (List.forall_mem_cons.mpr ⟨(lwg (lwt_1 (List.mem_of_getElem? (i := 65) rfl)) rfl), (List.forall_mem_cons.mpr ⟨(lwg (lwt_1 (List.mem_of_getElem? (i := 69) rfl)) rfl), (List.forall_mem_cons.mpr ⟨(lwg (lwt_1 (List.mem_of_getElem? (i := 74) rfl)) rfl), (List.forall_mem_cons.mpr ⟨(lwg (lwt_1 (List.mem_of_getElem? (i := 78) rfl)) rfl), (List.forall_mem_cons.mpr ⟨(lwg (lwt_1 (List.mem_of_getElem? (i := 81) rfl)) rfl), (List.forall_mem_cons.mpr ⟨(lwg (lwt_1 (List.mem_of_getElem? (i := 84) rfl)) rfl), (fun _ h => absurd h List.not_mem_nil)⟩)⟩)⟩)⟩)⟩)⟩)⟩)
set_option maxRecDepth 20000 in
theorem fl_7 : ∀ e ∈ flT.getD 7 [], Cond.fieldLink (cnm 7) e.1 (cnm e.2.1) (cT e.2.1 e.2.2).2.1 (cT e.2.1 e.2.2).2.2.1 ∈ lwG := (List.forall_mem_cons.mpr ⟨(lwg (lwt_1 (List.mem_of_getElem? (i := 41) rfl)) rfl), (List.forall_mem_cons.mpr ⟨(lwg (lwt_1 (List.mem_of_getElem? (i := 43) rfl)) rfl), (List.forall_mem_cons.mpr ⟨(lwg (lwt_1 (List.mem_of_getElem? (i := 44) rfl)) rfl), (List.forall_mem_cons.mpr ⟨(lwg (lwt_1 (List.mem_of_getElem? (i := 47) rfl)) rfl), (fun _ h => absurd h List.not_mem_nil)⟩)⟩)⟩)⟩)
set_option maxRecDepth 20000 in
theorem fl_8 : ∀ e ∈ flT.getD 8 [], Cond.fieldLink (cnm 8) e.1 (cnm e.2.1) (cT e.2.1 e.2.2).2.1 (cT e.2.1 e.2.2).2.2.1 ∈ lwG := (List.forall_mem_cons.mpr ⟨(lwg (lwt_2 (List.mem_of_getElem? (i := 61) rfl)) rfl), (List.forall_mem_cons.mpr ⟨(lwg (lwt_2 (List.mem_of_getElem? (i := 62) rfl)) rfl), (List.forall_mem_cons.mpr ⟨(lwg (lwt_2 (List.mem_of_getElem? (i := 63) rfl)) rfl), (List.forall_mem_cons.mpr ⟨(lwg (lwt_2 (List.mem_of_getElem? (i := 64) rfl)) rfl), (List.forall_mem_cons.mpr ⟨(lwg (lwt_2 (List.mem_of_getElem? (i := 65) rfl)) rfl), (List.forall_mem_cons.mpr ⟨(lwg (lwt_2 (List.mem_of_getElem? (i := 66) rfl)) rfl), (List.forall_mem_cons.mpr ⟨(lwg (lwt_2 (List.mem_of_getElem? (i := 67) rfl)) rfl), (List.forall_mem_cons.mpr ⟨(lwg (lwt_2 (List.mem_of_getElem? (i := 68) rfl)) rfl), (List.forall_mem_cons.mpr ⟨(lwg (lwt_2 (List.mem_of_getElem? (i := 69) rfl)) rfl), (List.forall_mem_cons.mpr ⟨(lwg (lwt_2 (List.mem_of_getElem? (i := 70) rfl)) rfl), (List.forall_mem_cons.mpr ⟨(lwg (lwt_2 (List.mem_of_getElem? (i := 71) rfl)) rfl), (List.forall_mem_cons.mpr ⟨(lwg (lwt_2 (List.mem_of_getElem? (i := 72) rfl)) rfl), (List.forall_mem_cons.mpr ⟨(lwg (lwt_2 (List.mem_of_getElem? (i := 73) rfl)) rfl), (List.forall_mem_cons.mpr ⟨(lwg (lwt_2 (List.mem_of_getElem? (i := 74) rfl)) rfl), (List.forall_mem_cons.mpr ⟨(lwg (lwt_1 (List.mem_of_getElem? (i := 116) rfl)) rfl), (List.forall_mem_cons.mpr ⟨(lwg (lwt_1 (List.mem_of_getElem? (i := 216) rfl)) rfl), (List.forall_mem_cons.mpr ⟨(lwg (lwt_1 (List.mem_of_getElem? (i := 51) rfl)) rfl), (List.forall_mem_cons.mpr ⟨(lwg (lwt_1 (List.mem_of_getElem? (i := 107) rfl)) rfl), (List.forall_mem_cons.mpr ⟨(lwg (lwt_1 (List.mem_of_getElem? (i := 109) rfl)) rfl), (List.forall_mem_cons.mpr ⟨(lwg (lwt_1 (List.mem_of_getElem? (i := 112) rfl)) rfl), (List.forall_mem_cons.mpr ⟨(lwg (lwt_1 (List.mem_of_getElem? (i := 122) rfl)) rfl), (List.forall_mem_cons.mpr ⟨(lwg (lwt_1 (List.mem_of_getElem? (i := 214) rfl)) rfl), (List.forall_mem_cons.mpr ⟨(lwg (lwt_1 (List.mem_of_getElem? (i := 67) rfl)) rfl), (List.forall_mem_cons.mpr ⟨(lwg (lwt_1 (List.mem_of_getElem? (i := 72) rfl)) rfl), (List.forall_mem_cons.mpr ⟨(lwg (lwt_1 (List.mem_of_getElem? (i := 77) rfl)) rfl), (List.forall_mem_cons.mpr ⟨(lwg (lwt_1 (List.mem_of_getElem? (i := 125) rfl)) rfl), (List.forall_mem_cons.mpr ⟨(lwg (lwt_1 (List.mem_of_getElem? (i := 105) rfl)) rfl), (List.forall_mem_cons.mpr ⟨(lwg (lwt_2 (List.mem_of_getElem? (i := 10) rfl)) rfl), (List.forall_mem_cons.mpr ⟨(lwg (lwt_2 (List.mem_of_getElem? (i := 18) rfl)) rfl), (List.forall_mem_cons.mpr ⟨(lwg (lwt_1 (List.mem_of_getElem? (i := 86) rfl)) rfl), (List.forall_mem_cons.mpr ⟨(lwg (lwt_2 (List.mem_of_getElem? (i := 12) rfl)) rfl), (List.forall_mem_cons.mpr ⟨(lwg (lwt_2 (List.mem_of_getElem? (i := 14) rfl)) rfl), (List.forall_mem_cons.mpr ⟨(lwg (lwt_2 (List.mem_of_getElem? (i := 20) rfl)) rfl), (List.forall_mem_cons.mpr ⟨(lwg (lwt_2 (List.mem_of_getElem? (i := 16) rfl)) rfl), (List.forall_mem_cons.mpr ⟨(lwg (lwt_1 (List.mem_of_getElem? (i := 218) rfl)) rfl), (fun _ h => absurd h List.not_mem_nil)⟩)⟩)⟩)⟩)⟩)⟩)⟩)⟩)⟩)⟩)⟩)⟩)⟩)⟩)⟩)⟩)⟩)⟩)⟩)⟩)⟩)⟩)⟩)⟩)⟩)⟩)⟩)⟩)⟩)⟩)⟩)⟩)⟩)⟩)⟩)
set_option maxRecDepth 20000 in
theorem fl_9 : ∀ e ∈ flT.getD 9 [], Cond.fieldLink (cnm 9) e.1 (cnm e.2.1) (cT e.2.1 e.2.2).2.1 (cT e.2.1 e.2.2).2.2.1 ∈ lwG := (List.forall_mem_cons.mpr ⟨(lwg (lwt_4 (List.mem_of_getElem? (i := 124) rfl)) rfl), (List.forall_mem_cons.mpr ⟨(lwg (lwt_4 (List.mem_of_getElem? (i := 125) rfl)) rfl), (List.forall_mem_cons.mpr ⟨(lwg (lwt_4 (List.mem_of_getElem? (i := 127) rfl)) rfl), (List.forall_mem_cons.mpr ⟨(lwg (lwt_4 (List.mem_of_getElem? (i := 128) rfl)) rfl), (List.forall_mem_cons.mpr ⟨(lwg (lwt_4 (List.mem_of_getElem? (i := 129) rfl)) rfl), (List.forall_mem_cons.mpr ⟨(lwg (lwt_4 (List.mem_of_getElem? (i := 130) rfl)) rfl), (List.forall_mem_cons.mpr ⟨(lwg (lwt_4 (List.mem_of_getElem? (i := 131) rfl)) rfl), (List.forall_mem_cons.mpr ⟨(lwg (lwt_4 (List.mem_of_getElem? (i := 132) rfl)) rfl), (List.forall_mem_cons.mpr ⟨(lwg (lwt_4 (List.mem_of_getElem? (i := 133) rfl)) rfl), (List.forall_mem_cons.mpr ⟨(lwg (lwt_4 (List.mem_of_getElem? (i := 134) rfl)) rfl), (List.forall_mem_cons.mpr ⟨(lwg (lwt_4 (List.mem_of_getElem? (i := 135) rfl)) rfl), (List.forall_mem_cons.mpr ⟨(lwg (lwt_4 (List.mem_of_getElem? (i := 136) rfl)) rfl), (List.forall_mem_cons.mpr ⟨(lwg (lwt_4 (List.mem_of_getElem? (i := 138) rfl)) rfl), (List.forall_mem_cons.mpr ⟨(lwg (lwt_4 (List.mem_of_getElem? (i := 139) rfl)) rfl), (List.forall_mem_cons.mpr ⟨(lwg (lwt_4 (List.mem_of_getElem? (i := 140) rfl)) rfl), (List.forall_mem_cons.mpr ⟨(lwg (lwt_4 (List.mem_of_getElem? (i := 142) rfl)) rfl), (List.forall_mem_cons.mpr ⟨(lwg (lwt_4 (List.mem_of_getElem? (i := 147) rfl)) rfl), (List.forall_mem_cons.mpr ⟨(lwg (lwt_4 (List.mem_of_getElem? (i := 148) rfl)) rfl), (List.forall_mem_cons.mpr ⟨(lwg (lwt_4 (List.mem_of_getElem? (i := 149) rfl)) rfl), (List.forall_mem_cons.mpr ⟨(lwg (lwt_4 (List.mem_of_getElem? (i := 150) rfl)) rfl), (List.forall_mem_cons.mpr ⟨(lwg (lwt_4 (List.mem_of_getElem? (i := 151) rfl)) rfl), (List.forall_mem_cons.mpr ⟨(lwg (lwt_4 (List.mem_of_getElem? (i := 152) rfl)) rfl), (List.forall_mem_cons.mpr ⟨(lwg (lwt_4 (List.mem_of_getElem? (i := 153) rfl)) rfl), (List.forall_mem_cons.mpr ⟨(lwg (lwt_4 (List.mem_of_getElem? (i := 154) rfl)) rfl), (List.forall_mem_cons.mpr ⟨(lwg (lwt_4 (List.mem_of_getElem? (i := 155) rfl)) rfl), (List.forall_mem_cons.mpr ⟨(lwg (lwt_4 (List.mem_of_getElem? (i := 157) rfl)) rfl), (List.forall_mem_cons.mpr ⟨(lwg (lwt_4 (List.mem_of_getElem? (i := 158) rfl)) rfl), (List.forall_mem_cons.mpr ⟨(lwg (lwt_4 (List.mem_of_getElem? (i := 159) rfl)) rfl), (List.forall_mem_cons.mpr ⟨(lwg (lwt_4 (List.mem_of_getElem? (i := 160) rfl)) rfl), (List.forall_mem_cons.mpr ⟨(lwg (lwt_4 (List.mem_of_getElem? (i := 161) rfl)) rfl), (List.forall_mem_cons.mpr ⟨(lwg (lwt_4 (List.mem_of_getElem? (i := 162) rfl)) rfl), (List.forall_mem_cons.mpr ⟨(lwg (lwt_4 (List.mem_of_getElem? (i := 163) rfl)) rfl), (List.forall_mem_cons.mpr ⟨(lwg (lwt_4 (List.mem_of_getElem? (i := 164) rfl)) rfl), (List.forall_mem_cons.mpr ⟨(lwg (lwt_4 (List.mem_of_getElem? (i := 165) rfl)) rfl), (List.forall_mem_cons.mpr ⟨(lwg (lwt_4 (List.mem_of_getElem? (i := 166) rfl)) rfl), (List.forall_mem_cons.mpr ⟨(lwg (lwt_4 (List.mem_of_getElem? (i := 169) rfl)) rfl), (List.forall_mem_cons.mpr ⟨(lwg (lwt_4 (List.mem_of_getElem? (i := 170) rfl)) rfl), (List.forall_mem_cons.mpr ⟨(lwg (lwt_4 (List.mem_of_getElem? (i := 171) rfl)) rfl), (List.forall_mem_cons.mpr ⟨(lwg (lwt_4 (List.mem_of_getElem? (i := 173) rfl)) rfl), (List.forall_mem_cons.mpr ⟨(lwg (lwt_4 (List.mem_of_getElem? (i := 178) rfl)) rfl), (List.forall_mem_cons.mpr ⟨(lwg (lwt_4 (List.mem_of_getElem? (i := 179) rfl)) rfl), (List.forall_mem_cons.mpr ⟨(lwg (lwt_4 (List.mem_of_getElem? (i := 180) rfl)) rfl), (List.forall_mem_cons.mpr ⟨(lwg (lwt_4 (List.mem_of_getElem? (i := 181) rfl)) rfl), (List.forall_mem_cons.mpr ⟨(lwg (lwt_4 (List.mem_of_getElem? (i := 182) rfl)) rfl), (List.forall_mem_cons.mpr ⟨(lwg (lwt_4 (List.mem_of_getElem? (i := 183) rfl)) rfl), (List.forall_mem_cons.mpr ⟨(lwg (lwt_4 (List.mem_of_getElem? (i := 141) rfl)) rfl), (List.forall_mem_cons.mpr ⟨(lwg (lwt_4 (List.mem_of_getElem? (i := 144) rfl)) rfl), (List.forall_mem_cons.mpr ⟨(lwg (lwt_4 (List.mem_of_getElem? (i := 145) rfl)) rfl), (List.forall_mem_cons.mpr ⟨(lwg (lwt_4 (List.mem_of_getElem? (i := 146) rfl)) rfl), (List.forall_mem_cons.mpr ⟨(lwg (lwt_4 (List.mem_of_getElem? (i := 143) rfl)) rfl), (List.forall_mem_cons.mpr ⟨(lwg (lwt_4 (List.mem_of_getElem? (i := 123) rfl)) rfl), (List.forall_mem_cons.mpr ⟨(lwg (lwt_4 (List.mem_of_getElem? (i := 126) rfl)) rfl), (List.forall_mem_cons.mpr ⟨(lwg (lwt_4 (List.mem_of_getElem? (i := 122) rfl)) rfl), (List.forall_mem_cons.mpr ⟨(lwg (lwt_4 (List.mem_of_getElem? (i := 137) rfl)) rfl), (List.forall_mem_cons.mpr ⟨(lwg (lwt_4 (List.mem_of_getElem? (i := 156) rfl)) rfl), (List.forall_mem_cons.mpr ⟨(lwg (lwt_4 (List.mem_of_getElem? (i := 167) rfl)) rfl), (List.forall_mem_cons.mpr ⟨(lwg (lwt_4 (List.mem_of_getElem? (i := 168) rfl)) rfl), (List.forall_mem_cons.mpr ⟨(lwg (lwt_4 (List.mem_of_getElem? (i := 172) rfl)) rfl), (List.forall_mem_cons.mpr ⟨(lwg (lwt_4 (List.mem_of_getElem? (i := 174) rfl)) rfl), (List.forall_mem_cons.mpr ⟨(lwg (lwt_4 (List.mem_of_getElem? (i := 175) rfl)) rfl), (List.forall_mem_cons.mpr ⟨(lwg (lwt_4 (List.mem_of_getElem? (i := 176) rfl)) rfl), (List.forall_mem_cons.mpr ⟨(lwg (lwt_4 (List.mem_of_getElem? (i := 177) rfl)) rfl), (List.forall_mem_cons.mpr ⟨(lwg (lwt_4 (List.mem_of_getElem? (i := 184) rfl)) rfl), (fun _ h => absurd h List.not_mem_nil)⟩)⟩)⟩)⟩)⟩)⟩)⟩)⟩)⟩)⟩)⟩)⟩)⟩)⟩)⟩)⟩)⟩)⟩)⟩)⟩)⟩)⟩)⟩)⟩)⟩)⟩)⟩)⟩)⟩)⟩)⟩)⟩)⟩)⟩)⟩)⟩)⟩)⟩)⟩)⟩)⟩)⟩)⟩)⟩)⟩)⟩)⟩)⟩)⟩)⟩)⟩)⟩)⟩)⟩)⟩)⟩)⟩)⟩)⟩)⟩)⟩)⟩)⟩)
set_option maxRecDepth 20000 in
theorem fl_10 : ∀ e ∈ flT.getD 10 [], Cond.fieldLink (cnm 10) e.1 (cnm e.2.1) (cT e.2.1 e.2.2).2.1 (cT e.2.1 e.2.2).2.2.1 ∈ lwG := (fun _ h => absurd h List.not_mem_nil)
set_option maxRecDepth 20000 in
theorem fl_11 : ∀ e ∈ flT.getD 11 [], Cond.fieldLink (cnm 11) e.1 (cnm e.2.1) (cT e.2.1 e.2.2).2.1 (cT e.2.1 e.2.2).2.2.1 ∈ lwG := (fun _ h => absurd h List.not_mem_nil)
set_option maxRecDepth 20000 in
theorem fl_12 : ∀ e ∈ flT.getD 12 [], Cond.fieldLink (cnm 12) e.1 (cnm e.2.1) (cT e.2.1 e.2.2).2.1 (cT e.2.1 e.2.2).2.2.1 ∈ lwG := (fun _ h => absurd h List.not_mem_nil)
set_option maxRecDepth 20000 in
theorem fl_13 : ∀ e ∈ flT.getD 13 [], Cond.fieldLink (cnm 13) e.1 (cnm e.2.1) (cT e.2.1 e.2.2).2.1 (cT e.2.1 e.2.2).2.2.1 ∈ lwG := (fun _ h => absurd h List.not_mem_nil)
theorem fl_ok : ∀ o, ∀ e ∈ flT.getD o [], Cond.fieldLink (cnm o) e.1 (cnm e.2.1) (cT e.2.1 e.2.2).2.1 (cT e.2.1 e.2.2).2.2.1 ∈ lwG := by
  intro o
  match o with
  | 0 => exact fl_0
  | 1 => exact fl_1
  | 2 => exact fl_2
  | 3 => exact fl_3
  | 4 => exact fl_4
  | 5 => exact fl_5
  | 6 => exact fl_6
  | 7 => exact fl_7
  | 8 => exact fl_8
  | 9 => exact fl_9
  | 10 => exact fl_10
  | 11 => exact fl_11
  | 12 => exact fl_12
  | 13 => exact fl_13
  | o + 14 => intro e h; rw [show flT.getD (o + 14) [] = [] from rfl] at h; exact absurd h List.not_mem_nil
set_option maxRecDepth 20000 in
theorem ml_0 : ∀ e ∈ mlT.getD 0 [], Cond.methodLink (cnm 0) e.1 (yK e.2) ∈ lwG := (List.forall_mem_cons.mpr ⟨(lwg (lwt_2 (List.mem_of_getElem? (i := 163) rfl)) rfl), (List.forall_mem_cons.mpr ⟨(lwg (lwt_2 (List.mem_of_getElem? (i := 236) rfl)) rfl), (List.forall_mem_cons.mpr ⟨(lwg (lwt_3 (List.mem_of_getElem? (i := 0) rfl)) rfl), (List.forall_mem_cons.mpr ⟨(lwg (lwt_3 (List.mem_of_getElem? (i := 36) rfl)) rfl), (List.forall_mem_cons.mpr ⟨(lwg (lwt_3 (List.mem_of_getElem? (i := 4) rfl)) rfl), (List.forall_mem_cons.mpr ⟨(lwg (lwt_3 (List.mem_of_getElem? (i := 21) rfl)) rfl), (List.forall_mem_cons.mpr ⟨(lwg (lwt_3 (List.mem_of_getElem? (i := 32) rfl)) rfl), (List.forall_mem_cons.mpr ⟨(lwg (lwt_3 (List.mem_of_getElem? (i := 40) rfl)) rfl), (List.forall_mem_cons.mpr ⟨(lwg (lwt_3 (List.mem_of_getElem? (i := 44) rfl)) rfl), (fun _ h => absurd h List.not_mem_nil)⟩)⟩)⟩)⟩)⟩)⟩)⟩)⟩)⟩)
set_option maxRecDepth 20000 in
theorem ml_1 : ∀ e ∈ mlT.getD 1 [], Cond.methodLink (cnm 1) e.1 (yK e.2) ∈ lwG := (List.forall_mem_cons.mpr ⟨(lwg (lwt_3 (List.mem_of_getElem? (i := 83) rfl)) rfl), (List.forall_mem_cons.mpr ⟨(lwg (lwt_4 (List.mem_of_getElem? (i := 66) rfl)) rfl), (List.forall_mem_cons.mpr ⟨(lwg (lwt_4 (List.mem_of_getElem? (i := 95) rfl)) rfl), (List.forall_mem_cons.mpr ⟨(lwg (lwt_4 (List.mem_of_getElem? (i := 99) rfl)) rfl), (fun _ h => absurd h List.not_mem_nil)⟩)⟩)⟩)⟩)
set_option maxRecDepth 20000 in
theorem ml_2 : ∀ e ∈ mlT.getD 2 [], Cond.methodLink (cnm 2) e.1 (yK e.2) ∈ lwG := (List.forall_mem_cons.mpr ⟨(lwg (lwt_3 (List.mem_of_getElem? (i := 135) rfl)) rfl), (List.forall_mem_cons.mpr ⟨(lwg (lwt_3 (List.mem_of_getElem? (i := 139) rfl)) rfl), (List.forall_mem_cons.mpr ⟨(lwg (lwt_3 (List.mem_of_getElem? (i := 144) rfl)) rfl), (List.forall_mem_cons.mpr ⟨(lwg (lwt_3 (List.mem_of_getElem? (i := 148) rfl)) rfl), (List.forall_mem_cons.mpr ⟨(lwg (lwt_3 (List.mem_of_getElem? (i := 143) rfl)) rfl), (List.forall_mem_cons.mpr ⟨(lwg (lwt_3 (List.mem_of_getElem? (i := 152) rfl)) rfl), (List.forall_mem_cons.mpr ⟨(lwg (lwt_3 (List.mem_of_getElem? (i := 153) rfl)) rfl), (List.forall_mem_cons.mpr ⟨(lwg (lwt_3 (List.mem_of_getElem? (i := 162) rfl)) rfl), (List.forall_mem_cons.mpr ⟨(lwg (lwt_3 (List.mem_of_getElem? (i := 171) rfl)) rfl), (List.forall_mem_cons.mpr ⟨(lwg (lwt_3 (List.mem_of_getElem? (i := 175) rfl)) rfl), (List.forall_mem_cons.mpr ⟨(lwg (lwt_3 (List.mem_of_getElem? (i := 176) rfl)) rfl), (List.forall_mem_cons.mpr ⟨(lwg (lwt_3 (List.mem_of_getElem? (i := 166) rfl)) rfl), (List.forall_mem_cons.mpr ⟨(lwg (lwt_3 (List.mem_of_getElem? (i := 167) rfl)) rfl), (List.forall_mem_cons.mpr ⟨(lwg (lwt_3 (List.mem_of_getElem? (i := 180) rfl)) rfl), (fun _ h => absurd h List.not_mem_nil)⟩)⟩)⟩)⟩)⟩)⟩)⟩)⟩)⟩)⟩)⟩)⟩)⟩)⟩)
set_option maxRecDepth 20000 in
theorem ml_3 : ∀ e ∈ mlT.getD 3 [], Cond.methodLink (cnm 3) e.1 (yK e.2) ∈ lwG := (List.forall_mem_cons.mpr ⟨(lwg (lwt_3 (List.mem_of_getElem? (i := 157) rfl)) rfl), (fun _ h => absurd h List.not_mem_nil)⟩)
set_option maxRecDepth 20000 in
theorem ml_4 : ∀ e ∈ mlT.getD 4 [], Cond.methodLink (cnm 4) e.1 (yK e.2) ∈ lwG := (List.forall_mem_cons.mpr ⟨(lwg (lwt_3 (List.mem_of_getElem? (i := 48) rfl)) rfl), (List.forall_mem_cons.mpr ⟨(lwg (lwt_3 (List.mem_of_getElem? (i := 54) rfl)) rfl), (List.forall_mem_cons.mpr ⟨(lwg (lwt_3 (List.mem_of_getElem? (i := 58) rfl)) rfl), (List.forall_mem_cons.mpr ⟨(lwg (lwt_3 (List.mem_of_getElem? (i := 71) rfl)) rfl), (List.forall_mem_cons.mpr ⟨(lwg (lwt_3 (List.mem_of_getElem? (i := 52) rfl)) rfl), (List.forall_mem_cons.mpr ⟨(lwg (lwt_3 (List.mem_of_getElem? (i := 53) rfl)) rfl), (List.forall_mem_cons.mpr ⟨(lwg (lwt_3 (List.mem_of_getElem? (i := 62) rfl)) rfl), (List.forall_mem_cons.mpr ⟨(lwg (lwt_3 (List.mem_of_getElem? (i := 66) rfl)) rfl), (List.forall_mem_cons.mpr ⟨(lwg (lwt_3 (List.mem_of_getElem? (i := 70) rfl)) rfl), (List.forall_mem_cons.mpr ⟨(lwg (lwt_3 (List.mem_of_getElem? (i := 75) rfl)) rfl), (fun _ h => absurd h List.not_mem_nil)⟩)⟩)⟩)⟩)⟩)⟩)⟩)⟩)⟩)⟩)
set_option maxRecDepth 20000 in
theorem ml_5 : ∀ e ∈ mlT.getD 5 [], Cond.methodLink (cnm 5) e.1 (yK e.2) ∈ lwG := (List.forall_mem_cons.mpr ⟨(lwg (lwt_2 (List.mem_of_getElem? (i := 124) rfl)) rfl), (List.forall_mem_cons.mpr ⟨(lwg (lwt_2 (List.mem_of_getElem? (i := 132) rfl)) rfl), (List.forall_mem_cons.mpr ⟨(lwg (lwt_2 (List.mem_of_getElem? (i := 144) rfl)) rfl), (List.forall_mem_cons.mpr ⟨(lwg (lwt_2 (List.mem_of_getElem? (i := 148) rfl)) rfl), (List.forall_mem_cons.mpr ⟨(lwg (lwt_2 (List.mem_of_getElem? (i := 152) rfl)) rfl), (List.forall_mem_cons.mpr ⟨(lwg (lwt_2 (List.mem_of_getElem? (i := 171) rfl)) rfl), (List.forall_mem_cons.mpr ⟨(lwg (lwt_2 (List.mem_of_getElem? (i := 179) rfl)) rfl), (List.forall_mem_cons.mpr ⟨(lwg (lwt_2 (List.mem_of_getElem? (i := 195) rfl)) rfl), (List.forall_mem_cons.mpr ⟨(lwg (lwt_2 (List.mem_of_getElem? (i := 210) rfl)) rfl), (List.forall_mem_cons.mpr ⟨(lwg (lwt_2 (List.mem_of_getElem? (i := 214) rfl)) rfl), (List.forall_mem_cons.mpr ⟨(lwg (lwt_2 (List.mem_of_getElem? (i := 136) rfl)) rfl), (List.forall_mem_cons.mpr ⟨(lwg (lwt_2 (List.mem_of_getElem? (i := 140) rfl)) rfl), (List.forall_mem_cons.mpr ⟨(lwg (lwt_2 (List.mem_of_getElem? (i := 156) rfl)) rfl), (List.forall_mem_cons.mpr ⟨(lwg (lwt_2 (List.mem_of_getElem? (i := 159) rfl)) rfl), (List.forall_mem_cons.mpr ⟨(lwg (lwt_2 (List.mem_of_getElem? (i := 175) rfl)) rfl), (List.forall_mem_cons.mpr ⟨(lwg (lwt_2 (List.mem_of_getElem? (i := 183) rfl)) rfl), (List.forall_mem_cons.mpr ⟨(lwg (lwt_2 (List.mem_of_getElem? (i := 186) rfl)) rfl), (List.forall_mem_cons.mpr ⟨(lwg (lwt_2 (List.mem_of_getElem? (i := 191) rfl)) rfl), (List.forall_mem_cons.mpr ⟨(lwg (lwt_2 (List.mem_of_getElem? (i := 199) rfl)) rfl), (List.forall_mem_cons.mpr ⟨(lwg (lwt_2 (List.mem_of_getElem? (i := 218) rfl)) rfl), (List.forall_mem_cons.mpr ⟨(lwg (lwt_2 (List.mem_of_getElem? (i := 219) rfl)) rfl), (List.forall_mem_cons.mpr ⟨(lwg (lwt_2 (List.mem_of_getElem? (i := 220) rfl)) rfl), (fun _ h => absurd h List.not_mem_nil)⟩)⟩)⟩)⟩)⟩)⟩)⟩)⟩)⟩)⟩)⟩)⟩)⟩)⟩)⟩)⟩)⟩)⟩)⟩)⟩)⟩)⟩)
set_option maxRecDepth 20000 in
theorem ml_6 : ∀ e ∈ mlT.getD 6 [], Cond.methodLink (cnm 6) e.1 (yK e.2) ∈ lwG := (List.forall_mem_cons.mpr ⟨(lwg (lwt_2 (List.mem_of_getElem? (i := 167) rfl)) rfl), (List.forall_mem_cons.mpr ⟨(lwg (lwt_3 (List.mem_of_getElem? (i := 25) rfl)) rfl), (List.forall_mem_cons.mpr ⟨(lwg (lwt_2 (List.mem_of_getElem? (i := 203) rfl)) rfl), (fun _ h => absurd h List.not_mem_nil)⟩)⟩)⟩)
set_option maxRecDepth 20000 in
theorem ml_7 : ∀ e ∈ mlT.getD 7 [], Cond.methodLink (cnm 7) e.1 (yK e.2) ∈ lwG := (List.forall_mem_cons.mpr ⟨(lwg (lwt_3 (List.mem_of_getElem? (i := 8) rfl)) rfl), (List.forall_mem_cons.mpr ⟨(lwg (lwt_3 (List.mem_of_getElem? (i := 9) rfl)) rfl), (List.forall_mem_cons.mpr ⟨(lwg (lwt_3 (List.mem_of_getElem? (i := 13) rfl)) rfl), (List.forall_mem_cons.mpr ⟨(lwg (lwt_3 (List.mem_of_getElem? (i := 17) rfl)) rfl), (List.forall_mem_cons.mpr ⟨(lwg (lwt_2 (List.mem_of_getElem? (i := 207) rfl)) rfl), (fun _ h => absurd h List.not_mem_nil)⟩)⟩)⟩)⟩)⟩)
set_option maxRecDepth 20000 in
theorem ml_8 : ∀ e ∈ mlT.getD 8 [], Cond.methodLink (cnm 8) e.1 (yK e.2) ∈ lwG := (List.forall_mem_cons.mpr ⟨(lwg (lwt_1 (List.mem_of_getElem? (i := 24) rfl)) rfl), (List.forall_mem_cons.mpr ⟨(lwg (lwt_1 (List.mem_of_getElem? (i := 206) rfl)) rfl), (List.forall_mem_cons.mpr ⟨(lwg (lwt_1 (List.mem_of_getElem? (i := 234) rfl)) rfl), (List.forall_mem_cons.mpr ⟨(lwg (lwt_2 (List.mem_of_getElem? (i := 116) rfl)) rfl), (List.forall_mem_cons.mpr ⟨(lwg (lwt_2 (List.mem_of_getElem? (i := 228) rfl)) rfl), (List.forall_mem_cons.mpr ⟨(lwg (lwt_2 (List.mem_of_getElem? (i := 232) rfl)) rfl), (List.forall_mem_cons.mpr ⟨(lwg (lwt_3 (List.mem_of_getElem? (i := 79) rfl)) rfl), (List.forall_mem_cons.mpr ⟨(lwg (lwt_3 (List.mem_of_getElem? (i := 88) rfl)) rfl), (List.forall_mem_cons.mpr ⟨(lwg (lwt_3 (List.mem_of_getElem? (i := 94) rfl)) rfl), (List.forall_mem_cons.mpr ⟨(lwg (lwt_3 (List.mem_of_getElem? (i := 92) rfl)) rfl), (List.forall_mem_cons.mpr ⟨(lwg (lwt_3 (List.mem_of_getElem? (i := 95) rfl)) rfl), (List.forall_mem_cons.mpr ⟨(lwg (lwt_3 (List.mem_of_getElem? (i := 96) rfl)) rfl), (List.forall_mem_cons.mpr ⟨(lwg (lwt_2 (List.mem_of_getElem? (i := 120) rfl)) rfl), (List.forall_mem_cons.mpr ⟨(lwg (lwt_2 (List.mem_of_getElem? (i := 128) rfl)) rfl), (List.forall_mem_cons.mpr ⟨(lwg (lwt_3 (List.mem_of_getElem? (i := 93) rfl)) rfl), (List.forall_mem_cons.mpr ⟨(lwg (lwt_3 (List.mem_of_getElem? (i := 101) rfl)) rfl), (List.forall_mem_cons.mpr ⟨(lwg (lwt_3 (List.mem_of_getElem? (i := 105) rfl)) rfl), (List.forall_mem_cons.mpr ⟨(lwg (lwt_3 (List.mem_of_getElem? (i := 115) rfl)) rfl), (List.forall_mem_cons.mpr ⟨(lwg (lwt_3 (List.mem_of_getElem? (i := 119) rfl)) rfl), (List.forall_mem_cons.mpr ⟨(lwg (lwt_3 (List.mem_of_getElem? (i := 123) rfl)) rfl), (List.forall_mem_cons.mpr ⟨(lwg (lwt_3 (List.mem_of_getElem? (i := 131) rfl)) rfl), (List.forall_mem_cons.mpr ⟨(lwg (lwt_3 (List.mem_of_getElem? (i := 184) rfl)) rfl), (List.forall_mem_cons.mpr ⟨(lwg (lwt_3 (List.mem_of_getElem? (i := 196) rfl)) rfl), (List.forall_mem_cons.mpr ⟨(lwg (lwt_3 (List.mem_of_getElem? (i := 207) rfl)) rfl), (List.forall_mem_cons.mpr ⟨(lwg (lwt_3 (List.mem_of_getElem? (i := 215) rfl)) rfl), (List.forall_mem_cons.mpr ⟨(lwg (lwt_3 (List.mem_of_getElem? (i := 218) rfl)) rfl), (List.forall_mem_cons.mpr ⟨(lwg (lwt_3 (List.mem_of_getElem? (i := 222) rfl)) rfl), (List.forall_mem_cons.mpr ⟨(lwg (lwt_3 (List.mem_of_getElem? (i := 230) rfl)) rfl), (List.forall_mem_cons.mpr ⟨(lwg (lwt_3 (List.mem_of_getElem? (i := 234) rfl)) rfl), (List.forall_mem_cons.mpr ⟨(lwg (lwt_3 (List.mem_of_getElem? (i := 211) rfl)) rfl), (List.forall_mem_cons.mpr ⟨(lwg (lwt_3 (List.mem_of_getElem? (i := 128) rfl)) rfl), (List.forall_mem_cons.mpr ⟨(lwg (lwt_3 (List.mem_of_getElem? (i := 188) rfl)) rfl), (List.forall_mem_cons.mpr ⟨(lwg (lwt_3 (List.mem_of_getElem? (i := 239) rfl)) rfl), (List.forall_mem_cons.mpr ⟨(lwg (lwt_4 (List.mem_of_getElem? (i := 3) rfl)) rfl), (List.forall_mem_cons.mpr ⟨(lwg (lwt_4 (List.mem_of_getElem? (i := 21) rfl)) rfl), (List.forall_mem_cons.mpr ⟨(lwg (lwt_4 (List.mem_of_getElem? (i := 29) rfl)) rfl), (List.forall_mem_cons.mpr ⟨(lwg (lwt_4 (List.mem_of_getElem? (i := 13) rfl)) rfl), (List.forall_mem_cons.mpr ⟨(lwg (lwt_4 (List.mem_of_getElem? (i := 7) rfl)) rfl), (List.forall_mem_cons.mpr ⟨(lwg (lwt_4 (List.mem_of_getElem? (i := 34) rfl)) rfl), (List.forall_mem_cons.mpr ⟨(lwg (lwt_4 (List.mem_of_getElem? (i := 46) rfl)) rfl), (List.forall_mem_cons.mpr ⟨(lwg (lwt_4 (List.mem_of_getElem? (i := 54) rfl)) rfl), (List.forall_mem_cons.mpr ⟨(lwg (lwt_4 (List.mem_of_getElem? (i := 62) rfl)) rfl), (List.forall_mem_cons.mpr ⟨(lwg (lwt_4 (List.mem_of_getElem? (i := 70) rfl)) rfl), (List.forall_mem_cons.mpr ⟨(lwg (lwt_4 (List.mem_of_getElem? (i := 83) rfl)) rfl), (List.forall_mem_cons.mpr ⟨(lwg (lwt_4 (List.mem_of_getElem? (i := 87) rfl)) rfl), (List.forall_mem_cons.mpr ⟨(lwg (lwt_4 (List.mem_of_getElem? (i := 91) rfl)) rfl), (List.forall_mem_cons.mpr ⟨(lwg (lwt_4 (List.mem_of_getElem? (i := 109) rfl)) rfl), (List.forall_mem_cons.mpr ⟨(lwg (lwt_4 (List.mem_of_getElem? (i := 110) rfl)) rfl), (List.forall_mem_cons.mpr ⟨(lwg (lwt_4 (List.mem_of_getElem? (i := 111) rfl)) rfl), (List.forall_mem_cons.mpr ⟨(lwg (lwt_4 (List.mem_of_getElem? (i := 115) rfl)) rfl), (fun _ h => absurd h List.not_mem_nil)⟩)⟩)⟩)⟩)⟩)⟩)⟩)⟩)⟩)⟩)⟩)⟩)⟩)⟩)⟩)⟩)⟩)⟩)⟩)⟩)⟩)⟩)⟩)⟩)⟩)⟩)⟩)⟩)⟩)⟩)⟩)⟩)⟩)⟩)⟩)⟩)⟩)⟩)⟩)⟩)⟩)⟩)⟩)⟩)⟩)⟩)⟩)⟩)⟩)⟩)
set_option maxRecDepth 20000 in
theorem ml_9 : ∀ e ∈ mlT.getD 9 [], Cond.methodLink (cnm 9) e.1 (yK e.2) ∈ lwG := (List.forall_mem_cons.mpr ⟨(lwg (lwt_5 (List.mem_of_getElem? (i := 77) rfl)) rfl), (List.forall_mem_cons.mpr ⟨(lwg (lwt_5 (List.mem_of_getElem? (i := 100) rfl)) rfl), (List.forall_mem_cons.mpr ⟨(lwg (lwt_5 (List.mem_of_getElem? (i := 104) rfl)) rfl), (List.forall_mem_cons.mpr ⟨(lwg (lwt_5 (List.mem_of_getElem? (i := 108) rfl)) rfl), (List.forall_mem_cons.mpr ⟨(lwg (lwt_5 (List.mem_of_getElem? (i := 96) rfl)) rfl), (List.forall_mem_cons.mpr ⟨(lwg (lwt_5 (List.mem_of_getElem? (i := 123) rfl)) rfl), (List.forall_mem_cons.mpr ⟨(lwg (lwt_5 (List.mem_of_getElem? (i := 130) rfl)) rfl), (List.forall_mem_cons.mpr ⟨(lwg (lwt_5 (List.mem_of_getElem? (i := 134) rfl)) rfl), (List.forall_mem_cons.mpr ⟨(lwg (lwt_5 (List.mem_of_getElem? (i := 116) rfl)) rfl), (List.forall_mem_cons.mpr ⟨(lwg (lwt_5 (List.mem_of_getElem? (i := 119) rfl)) rfl), (List.forall_mem_cons.mpr ⟨(lwg (lwt_5 (List.mem_of_getElem? (i := 126) rfl)) rfl), (List.forall_mem_cons.mpr ⟨(lwg (lwt_5 (List.mem_of_getElem? (i := 92) rfl)) rfl), (List.forall_mem_cons.mpr ⟨(lwg (lwt_5 (List.mem_of_getElem? (i := 112) rfl)) rfl), (List.forall_mem_cons.mpr ⟨(lwg (lwt_5 (List.mem_of_getElem? (i := 88) rfl)) rfl), (List.forall_mem_cons.mpr ⟨(lwg (lwt_5 (List.mem_of_getElem? (i := 141) rfl)) rfl), (List.forall_mem_cons.mpr ⟨(lwg (lwt_5 (List.mem_of_getElem? (i := 144) rfl)) rfl), (List.forall_mem_cons.mpr ⟨(lwg (lwt_5 (List.mem_of_getElem? (i := 148) rfl)) rfl), (List.forall_mem_cons.mpr ⟨(lwg (lwt_5 (List.mem_of_getElem? (i := 156) rfl)) rfl), (List.forall_mem_cons.mpr ⟨(lwg (lwt_5 (List.mem_of_getElem? (i := 164) rfl)) rfl), (List.forall_mem_cons.mpr ⟨(lwg (lwt_5 (List.mem_of_getElem? (i := 152) rfl)) rfl), (List.forall_mem_cons.mpr ⟨(lwg (lwt_5 (List.mem_of_getElem? (i := 160) rfl)) rfl), (List.forall_mem_cons.mpr ⟨(lwg (lwt_5 (List.mem_of_getElem? (i := 200) rfl)) rfl), (List.forall_mem_cons.mpr ⟨(lwg (lwt_5 (List.mem_of_getElem? (i := 239) rfl)) rfl), (List.forall_mem_cons.mpr ⟨(lwg (lwt_5 (List.mem_of_getElem? (i := 216) rfl)) rfl), (List.forall_mem_cons.mpr ⟨(lwg (lwt_6 (List.mem_of_getElem? (i := 3) rfl)) rfl), (List.forall_mem_cons.mpr ⟨(lwg (lwt_6 (List.mem_of_getElem? (i := 7) rfl)) rfl), (List.forall_mem_cons.mpr ⟨(lwg (lwt_6 (List.mem_of_getElem? (i := 11) rfl)) rfl), (List.forall_mem_cons.mpr ⟨(lwg (lwt_5 (List.mem_of_getElem? (i := 235) rfl)) rfl), (List.forall_mem_cons.mpr ⟨(lwg (lwt_6 (List.mem_of_getElem? (i := 15) rfl)) rfl), (List.forall_mem_cons.mpr ⟨(lwg (lwt_5 (List.mem_of_getElem? (i := 227) rfl)) rfl), (List.forall_mem_cons.mpr ⟨(lwg (lwt_5 (List.mem_of_getElem? (i := 231) rfl)) rfl), (List.forall_mem_cons.mpr ⟨(lwg (lwt_6 (List.mem_of_getElem? (i := 107) rfl)) rfl), (List.forall_mem_cons.mpr ⟨(lwg (lwt_6 (List.mem_of_getElem? (i := 111) rfl)) rfl), (List.forall_mem_cons.mpr ⟨(lwg (lwt_5 (List.mem_of_getElem? (i := 184) rfl)) rfl), (List.forall_mem_cons.mpr ⟨(lwg (lwt_5 (List.mem_of_getElem? (i := 176) rfl)) rfl), (List.forall_mem_cons.mpr ⟨(lwg (lwt_5 (List.mem_of_getElem? (i := 180) rfl)) rfl), (List.forall_mem_cons.mpr ⟨(lwg (lwt_5 (List.mem_of_getElem? (i := 223) rfl)) rfl), (List.forall_mem_cons.mpr ⟨(lwg (lwt_6 (List.mem_of_getElem? (i := 19) rfl)) rfl), (List.forall_mem_cons.mpr ⟨(lwg (lwt_5 (List.mem_of_getElem? (i := 204) rfl)) rfl), (List.forall_mem_cons.mpr ⟨(lwg (lwt_5 (List.mem_of_getElem? (i := 211) rfl)) rfl), (List.forall_mem_cons.mpr ⟨(lwg (lwt_5 (List.mem_of_getElem? (i := 219) rfl)) rfl), (List.forall_mem_cons.mpr ⟨(lwg (lwt_5 (List.mem_of_getElem? (i := 192) rfl)) rfl), (List.forall_mem_cons.mpr ⟨(lwg (lwt_5 (List.mem_of_getElem? (i := 196) rfl)) rfl), (List.forall_mem_cons.mpr ⟨(lwg (lwt_6 (List.mem_of_getElem? (i := 55) rfl)) rfl), (List.forall_mem_cons.mpr ⟨(lwg (lwt_6 (List.mem_of_getElem? (i := 59) rfl)) rfl), (List.forall_mem_cons.mpr ⟨(lwg (lwt_6 (List.mem_of_getElem? (i := 51) rfl)) rfl), (List.forall_mem_cons.mpr ⟨(lwg (lwt_6 (List.mem_of_getElem? (i := 71) rfl)) rfl), (List.forall_mem_cons.mpr ⟨(lwg (lwt_6 (List.mem_of_getElem? (i := 67) rfl)) rfl), (List.forall_mem_cons.mpr ⟨(lwg (lwt_6 (List.mem_of_getElem? (i := 47) rfl)) rfl), (List.forall_mem_cons.mpr ⟨(lwg (lwt_6 (List.mem_of_getElem? (i := 63) rfl)) rfl), (List.forall_mem_cons.mpr ⟨(lwg (lwt_6 (List.mem_of_getElem? (i := 43) rfl)) rfl), (List.forall_mem_cons.mpr ⟨(lwg (lwt_6 (List.mem_of_getElem? (i := 79) rfl)) rfl), (List.forall_mem_cons.mpr ⟨(lwg (lwt_6 (List.mem_of_getElem? (i := 39) rfl)) rfl), (List.forall_mem_cons.mpr ⟨(lwg (lwt_6 (List.mem_of_getElem? (i := 75) rfl)) rfl), (List.forall_mem_cons.mpr ⟨(lwg (lwt_6 (List.mem_of_getElem? (i := 35) rfl)) rfl), (List.forall_mem_cons.mpr ⟨(lwg (lwt_6 (List.mem_of_getElem? (i := 87) rfl)) rfl), (List.forall_mem_cons.mpr ⟨(lwg (lwt_6 (List.mem_of_getElem? (i := 91) rfl)) rfl), (List.forall_mem_cons.mpr ⟨(lwg (lwt_6 (List.mem_of_getElem? (i := 103) rfl)) rfl), (List.forall_mem_cons.mpr ⟨(lwg (lwt_6 (List.mem_of_getElem? (i := 115) rfl)) rfl), (List.forall_mem_cons.mpr ⟨(lwg (lwt_6 (List.mem_of_getElem? (i := 99) rfl)) rfl), (List.forall_mem_cons.mpr ⟨(lwg (lwt_6 (List.mem_of_getElem? (i := 123) rfl)) rfl), (List.forall_mem_cons.mpr ⟨(lwg (lwt_5 (List.mem_of_getElem? (i := 208) rfl)) rfl), (List.forall_mem_cons.mpr ⟨(lwg (lwt_6 (List.mem_of_getElem? (i := 147) rfl)) rfl), (List.forall_mem_cons.mpr ⟨(lwg (lwt_6 (List.mem_of_getElem? (i := 159) rfl)) rfl), (List.forall_mem_cons.mpr ⟨(lwg (lwt_6 (List.mem_of_getElem? (i := 162) rfl)) rfl), (List.forall_mem_cons.mpr ⟨(lwg (lwt_6 (List.mem_of_getElem? (i := 155) rfl)) rfl), (List.forall_mem_cons.mpr ⟨(lwg (lwt_6 (List.mem_of_getElem? (i := 143) rfl)) rfl), (List.forall_mem_cons.mpr ⟨(lwg (lwt_6 (List.mem_of_getElem? (i := 170) rfl)) rfl), (List.forall_mem_cons.mpr ⟨(lwg (lwt_6 (List.mem_of_getElem? (i := 202) rfl)) rfl), (List.forall_mem_cons.mpr ⟨(lwg (lwt_6 (List.mem_of_getElem? (i := 186) rfl)) rfl), (List.forall_mem_cons.mpr ⟨(lwg (lwt_6 (List.mem_of_getElem? (i := 190) rfl)) rfl), (List.forall_mem_cons.mpr ⟨(lwg (lwt_6 (List.mem_of_getElem? (i := 194) rfl)) rfl), (List.forall_mem_cons.mpr ⟨(lwg (lwt_6 (List.mem_of_getElem? (i := 198) rfl)) rfl), (List.forall_mem_cons.mpr ⟨(lwg (lwt_6 (List.mem_of_getElem? (i := 182) rfl)) rfl), (List.forall_mem_cons.mpr ⟨(lwg (lwt_6 (List.mem_of_getElem? (i := 211) rfl)) rfl), (List.forall_mem_cons.mpr ⟨(lwg (lwt_6 (List.mem_of_getElem? (i := 216) rfl)) rfl), (fun _ h => absurd h List.not_mem_nil)⟩)⟩)⟩)⟩)⟩)⟩)⟩)⟩)⟩)⟩)⟩)⟩)⟩)⟩)⟩)⟩)⟩)⟩)⟩)⟩)⟩)⟩)⟩)⟩)⟩)⟩)⟩)⟩)⟩)⟩)⟩)⟩)⟩)⟩)⟩)⟩)⟩)⟩)⟩)⟩)⟩)⟩)⟩)⟩)⟩)⟩)⟩)⟩)⟩)⟩)⟩)⟩)⟩)⟩)⟩)⟩)⟩)⟩)⟩)⟩)⟩)⟩)⟩)⟩)⟩)⟩)⟩)⟩)⟩)⟩)⟩)⟩)⟩)⟩)⟩)⟩)
set_option maxRecDepth 20000 in
theorem ml_10 : ∀ e ∈ mlT.getD 10 [], Cond.methodLink (cnm 10) e.1 (yK e.2) ∈ lwG := (List.forall_mem_cons.mpr ⟨(lwg (lwt_1 (List.mem_of_getElem? (i := 16) rfl)) rfl), (List.forall_mem_cons.mpr ⟨(lwg (lwt_4 (List.mem_of_getElem? (i := 118) rfl)) rfl), (List.forall_mem_cons.mpr ⟨(lwg (lwt_2 (List.mem_of_getElem? (i := 104) rfl)) rfl), (List.forall_mem_cons.mpr ⟨(lwg (lwt_5 (List.mem_of_getElem? (i := 73) rfl)) rfl), (List.forall_mem_cons.mpr ⟨(lwg (lwt_2 (List.mem_of_getElem? (i := 108) rfl)) rfl), (List.forall_mem_cons.mpr ⟨(lwg (lwt_5 (List.mem_of_getElem? (i := 80) rfl)) rfl), (List.forall_mem_cons.mpr ⟨(lwg (lwt_2 (List.mem_of_getElem? (i := 112) rfl)) rfl), (List.forall_mem_cons.mpr ⟨(lwg (lwt_5 (List.mem_of_getElem? (i := 84) rfl)) rfl), (List.forall_mem_cons.mpr ⟨(lwg (lwt_2 (List.mem_of_getElem? (i := 224) rfl)) rfl), (List.forall_mem_cons.mpr ⟨(lwg (lwt_5 (List.mem_of_getElem? (i := 137) rfl)) rfl), (List.forall_mem_cons.mpr ⟨(lwg (lwt_3 (List.mem_of_getElem? (i := 84) rfl)) rfl), (List.forall_mem_cons.mpr ⟨(lwg (lwt_5 (List.mem_of_getElem? (i := 168) rfl)) rfl), (List.forall_mem_cons.mpr ⟨(lwg (lwt_3 (List.mem_of_getElem? (i := 97) rfl)) rfl), (List.forall_mem_cons.mpr ⟨(lwg (lwt_5 (List.mem_of_getElem? (i := 172) rfl)) rfl), (List.forall_mem_cons.mpr ⟨(lwg (lwt_3 (List.mem_of_getElem? (i := 111) rfl)) rfl), (List.forall_mem_cons.mpr ⟨(lwg (lwt_5 (List.mem_of_getElem? (i := 188) rfl)) rfl), (List.forall_mem_cons.mpr ⟨(lwg (lwt_3 (List.mem_of_getElem? (i := 192) rfl)) rfl), (List.forall_mem_cons.mpr ⟨(lwg (lwt_6 (List.mem_of_getElem? (i := 23) rfl)) rfl), (List.forall_mem_cons.mpr ⟨(lwg (lwt_3 (List.mem_of_getElem? (i := 199) rfl)) rfl), (List.forall_mem_cons.mpr ⟨(lwg (lwt_6 (List.mem_of_getElem? (i := 27) rfl)) rfl), (List.forall_mem_cons.mpr ⟨(lwg (lwt_3 (List.mem_of_getElem? (i := 203) rfl)) rfl), (List.forall_mem_cons.mpr ⟨(lwg (lwt_6 (List.mem_of_getElem? (i := 31) rfl)) rfl), (List.forall_mem_cons.mpr ⟨(lwg (lwt_3 (List.mem_of_getElem? (i := 226) rfl)) rfl), (List.forall_mem_cons.mpr ⟨(lwg (lwt_6 (List.mem_of_getElem? (i := 83) rfl)) rfl), (List.forall_mem_cons.mpr ⟨(lwg (lwt_3 (List.mem_of_getElem? (i := 235) rfl)) rfl), (List.forall_mem_cons.mpr ⟨(lwg (lwt_6 (List.mem_of_getElem? (i := 95) rfl)) rfl), (List.forall_mem_cons.mpr ⟨(lwg (lwt_4 (List.mem_of_getElem? (i := 17) rfl)) rfl), (List.forall_mem_cons.mpr ⟨(lwg (lwt_6 (List.mem_of_getElem? (i := 119) rfl)) rfl), (List.forall_mem_cons.mpr ⟨(lwg (lwt_4 (List.mem_of_getElem? (i := 25) rfl)) rfl), (List.forall_mem_cons.mpr ⟨(lwg (lwt_6 (List.mem_of_getElem? (i := 127) rfl)) rfl), (List.forall_mem_cons.mpr ⟨(lwg (lwt_4 (List.mem_of_getElem? (i := 30) rfl)) rfl), (List.forall_mem_cons.mpr ⟨(lwg (lwt_6 (List.mem_of_getElem? (i := 131) rfl)) rfl), (List.forall_mem_cons.mpr ⟨(lwg (lwt_4 (List.mem_of_getElem? (i := 38) rfl)) rfl), (List.forall_mem_cons.mpr ⟨(lwg (lwt_6 (List.mem_of_getElem? (i := 135) rfl)) rfl), (List.forall_mem_cons.mpr ⟨(lwg (lwt_4 (List.mem_of_getElem? (i := 42) rfl)) rfl), (List.forall_mem_cons.mpr ⟨(lwg (lwt_6 (List.mem_of_getElem? (i := 139) rfl)) rfl), (List.forall_mem_cons.mpr ⟨(lwg (lwt_4 (List.mem_of_getElem? (i := 58) rfl)) rfl), (List.forall_mem_cons.mpr ⟨(lwg (lwt_6 (List.mem_of_getElem? (i := 166) rfl)) rfl), (List.forall_mem_cons.mpr ⟨(lwg (lwt_4 (List.mem_of_getElem? (i := 75) rfl)) rfl), (List.forall_mem_cons.mpr ⟨(lwg (lwt_6 (List.mem_of_getElem? (i := 174) rfl)) rfl), (List.forall_mem_cons.mpr ⟨(lwg (lwt_4 (List.mem_of_getElem? (i := 79) rfl)) rfl), (List.forall_mem_cons.mpr ⟨(lwg (lwt_6 (List.mem_of_getElem? (i := 178) rfl)) rfl), (List.forall_mem_cons.mpr ⟨(lwg (lwt_4 (List.mem_of_getElem? (i := 103) rfl)) rfl), (List.forall_mem_cons.mpr ⟨(lwg (lwt_6 (List.mem_of_getElem? (i := 206) rfl)) rfl), (fun _ h => absurd h List.not_mem_nil)⟩)⟩)⟩)⟩)⟩)⟩)⟩)⟩)⟩)⟩)⟩)⟩)⟩)⟩)⟩)⟩)⟩)⟩)⟩)⟩)⟩)⟩)⟩)⟩)⟩)⟩)⟩)⟩)⟩)⟩)⟩)⟩)⟩)⟩)⟩)⟩)⟩)⟩)⟩)⟩)⟩)⟩)⟩)⟩)
set_option maxRecDepth 20000 in
theorem ml_11 : ∀ e ∈ mlT.getD 11 [], Cond.methodLink (cnm 11) e.1 (yK e.2) ∈ lwG := (fun _ h => absurd h List.not_mem_nil)
set_option maxRecDepth 20000 in
theorem ml_12 : ∀ e ∈ mlT.getD 12 [], Cond.methodLink (cnm 12) e.1 (yK e.2) ∈ lwG := (fun _ h => absurd h List.not_mem_nil)
set_option maxRecDepth 20000 in
theorem ml_13 : ∀ e ∈ mlT.getD 13 [], Cond.methodLink (cnm 13) e.1 (yK e.2) ∈ lwG := (fun _ h => absurd h List.not_mem_nil)
theorem ml_ok : ∀ o, ∀ e ∈ mlT.getD o [], Cond.methodLink (cnm o) e.1 (yK e.2) ∈ lwG := by
  intro o
  match o with
  | 0 => exact ml_0
  | 1 => exact ml_1
  | 2 => exact ml_2
  | 3 => exact ml_3
  | 4 => exact ml_4
  | 5 => exact ml_5
  | 6 => exact ml_6
  | 7 => exact ml_7
  | 8 => exact ml_8
  | 9 => exact ml_9
  | 10 => exact ml_10
  | 11 => exact ml_11
  | 12 => exact ml_12
  | 13 => exact ml_13
  | o + 14 => intro e h; rw [show mlT.getD (o + 14) [] = [] from rfl] at h; exact absurd h List.not_mem_nil
set_option maxRecDepth 20000 in
theorem nl_0 : ∀ e ∈ nlT.getD 0 [], Cond.methodLinkNest (cnm 0) e.1 (yK e.2) "DictProof" ∈ lw_tbl := (List.forall_mem_cons.mpr ⟨(lwt_1 (List.mem_of_getElem? (i := 31) rfl)), (List.forall_mem_cons.mpr ⟨(lwt_3 (List.mem_of_getElem? (i := 29) rfl)), (fun _ h => absurd h List.not_mem_nil)⟩)⟩)
set_option maxRecDepth 20000 in
theorem nl_1 : ∀ e ∈ nlT.getD 1 [], Cond.methodLinkNest (cnm 1) e.1 (yK e.2) "DictProof" ∈ lw_tbl := (List.forall_mem_cons.mpr ⟨(lwt_1 (List.mem_of_getElem? (i := 212) rfl)), (List.forall_mem_cons.mpr ⟨(lwt_4 (List.mem_of_getElem? (i := 74) rfl)), (fun _ h => absurd h List.not_mem_nil)⟩)⟩)
set_option maxRecDepth 20000 in
theorem nl_2 : ∀ e ∈ nlT.getD 2 [], Cond.methodLinkNest (cnm 2) e.1 (yK e.2) "DictProof" ∈ lw_tbl := (List.forall_mem_cons.mpr ⟨(lwt_2 (List.mem_of_getElem? (i := 3) rfl)), (fun _ h => absurd h List.not_mem_nil)⟩)
set_option maxRecDepth 20000 in
theorem nl_3 : ∀ e ∈ nlT.getD 3 [], Cond.methodLinkNest (cnm 3) e.1 (yK e.2) "DictProof" ∈ lw_tbl := (List.forall_mem_cons.mpr ⟨(lwt_3 (List.mem_of_getElem? (i := 161) rfl)), (fun _ h => absurd h List.not_mem_nil)⟩)
set_option maxRecDepth 20000 in
theorem nl_4 : ∀ e ∈ nlT.getD 4 [], Cond.methodLinkNest (cnm 4) e.1 (yK e.2) "DictProof" ∈ lw_tbl := (fun _ h => absurd h List.not_mem_nil)
set_option maxRecDepth 20000 in
theorem nl_5 : ∀ e ∈ nlT.getD 5 [], Cond.methodLinkNest (cnm 5) e.1 (yK e.2) "DictProof" ∈ lw_tbl := (fun _ h => absurd h List.not_mem_nil)
set_option maxRecDepth 20000 in
theorem nl_6 : ∀ e ∈ nlT.getD 6 [], Cond.methodLinkNest (cnm 6) e.1 (yK e.2) "DictProof" ∈ lw_tbl := (List.forall_mem_cons.mpr ⟨(lwt_1 (List.mem_of_getElem? (i := 37) rfl)), (fun _ h => absurd h List.not_mem_nil)⟩)
set_option maxRecDepth 20000 in
theorem nl_7 : ∀ e ∈ nlT.getD 7 [], Cond.methodLinkNest (cnm 7) e.1 (yK e.2) "DictProof" ∈ lw_tbl := (fun _ h => absurd h List.not_mem_nil)
set_option maxRecDepth 20000 in
theorem nl_8 : ∀ e ∈ nlT.getD 8 [], Cond.methodLinkNest (cnm 8) e.1 (yK e.2) "DictProof" ∈ lw_tbl := (List.forall_mem_cons.mpr ⟨(lwt_1 (List.mem_of_getElem? (i := 152) rfl)), (List.forall_mem_cons.mpr ⟨(lwt_1 (List.mem_of_getElem? (i := 174) rfl)), (List.forall_mem_cons.mpr ⟨(lwt_2 (List.mem_of_getElem? (i := 60) rfl)), (fun _ h => absurd h List.not_mem_nil)⟩)⟩)⟩)
set_option maxRecDepth 20000 in
theorem nl_9 : ∀ e ∈ nlT.getD 9 [], Cond.methodLinkNest (cnm 9) e.1 (yK e.2) "DictProof" ∈ lw_tbl := (fun _ h => absurd h List.not_mem_nil)
set_option maxRecDepth 20000 in
theorem nl_10 : ∀ e ∈ nlT.getD 10 [], Cond.methodLinkNest (cnm 10) e.1 (yK e.2) "DictProof" ∈ lw_tbl := (fun _ h => absurd h List.not_mem_nil)
set_option maxRecDepth 20000 in
theorem nl_11 : ∀ e ∈ nlT.getD 11 [], Cond.methodLinkNest (cnm 11) e.1 (yK e.2) "DictProof" ∈ lw_tbl := (fun _ h => absurd h List.not_mem_nil)
set_option maxRecDepth 20000 in
theorem nl_12 : ∀ e ∈ nlT.getD 12 [], Cond.methodLinkNest (cnm 12) e.1 (yK e.2) "DictProof" ∈ lw_tbl := (fun _ h => absurd h List.not_mem_nil)
set_option maxRecDepth 20000 in
theorem nl_13 : ∀ e ∈ nlT.getD 13 [], Cond.methodLinkNest (cnm 13) e.1 (yK e.2) "DictProof" ∈ lw_tbl := (fun _ h => absurd h List.not_mem_nil)
theorem nl_ok : ∀ o, ∀ e ∈ nlT.getD o [], Cond.methodLinkNest (cnm o) e.1 (yK e.2) "DictProof" ∈ lw_tbl := by
  intro o
  match o with
  | 0 => exact nl_0
  | 1 => exact nl_1
  | 2 => exact nl_2
  | 3 => exact nl_3
  | 4 => exact nl_4
  | 5 => exact nl_5
  | 6 => exact nl_6
  | 7 => exact nl_7
  | 8 => exact nl_8
  | 9 => exact nl_9
  | 10 => exact nl_10
  | 11 => exact nl_11
  | 12 => exact nl_12
  | 13 => exact nl_13
  | o + 14 => intro e h; rw [show nlT.getD (o + 14) [] = [] from rfl] at h; exact absurd h List.not_mem_nil
set_option maxRecDepth 20000 in
theorem cl_0 : ∀ e ∈ clT.getD 0 [], Cond.classLink (cnm 0) e.1 (cnm e.2) ∈ lwG := (List.forall_mem_cons.mpr ⟨(lwg (lwt_1 (List.mem_of_getElem? (i := 28) rfl)) rfl), (fun _ h => absurd h List.not_mem_nil)⟩)
set_option maxRecDepth 20000 in
theorem cl_1 : ∀ e ∈ clT.getD 1 [], Cond.classLink (cnm 1) e.1 (cnm e.2) ∈ lwG := (List.forall_mem_cons.mpr ⟨(lwg (lwt_1 (List.mem_of_getElem? (i := 210) rfl)) rfl), (fun _ h => absurd h List.not_mem_nil)⟩)
set_option maxRecDepth 20000 in
theorem cl_2 : ∀ e ∈ clT.getD 2 [], Cond.classLink (cnm 2) e.1 (cnm e.2) ∈ lwG := (List.forall_mem_cons.mpr ⟨(lwg (lwt_1 (List.mem_of_getElem? (i := 238) rfl)) rfl), (fun _ h => absurd h List.not_mem_nil)⟩)
set_option maxRecDepth 20000 in
theorem cl_3 : ∀ e ∈ clT.getD 3 [], Cond.classLink (cnm 3) e.1 (cnm e.2) ∈ lwG := (List.forall_mem_cons.mpr ⟨(lwg (lwt_2 (List.mem_of_getElem? (i := 7) rfl)) rfl), (fun _ h => absurd h List.not_mem_nil)⟩)
set_option maxRecDepth 20000 in
theorem cl_4 : ∀ e ∈ clT.getD 4 [], Cond.classLink (cnm 4) e.1 (cnm e.2) ∈ lwG := (fun _ h => absurd h List.not_mem_nil)
set_option maxRecDepth 20000 in
theorem cl_5 : ∀ e ∈ clT.getD 5 [], Cond.classLink (cnm 5) e.1 (cnm e.2) ∈ lwG := (fun _ h => absurd h List.not_mem_nil)
set_option maxRecDepth 20000 in
theorem cl_6 : ∀ e ∈ clT.getD 6 [], Cond.classLink (cnm 6) e.1 (cnm e.2) ∈ lwG := (List.forall_mem_cons.mpr ⟨(lwg (lwt_1 (List.mem_of_getElem? (i := 35) rfl)) rfl), (fun _ h => absurd h List.not_mem_nil)⟩)
set_option maxRecDepth 20000 in
theorem cl_7 : ∀ e ∈ clT.getD 7 [], Cond.classLink (cnm 7) e.1 (cnm e.2) ∈ lwG := (fun _ h => absurd h List.not_mem_nil)
set_option maxRecDepth 20000 in
theorem cl_8 : ∀ e ∈ clT.getD 8 [], Cond.classLink (cnm 8) e.1 (cnm e.2) ∈ lwG := (List.forall_mem_cons.mpr ⟨(lwg (lwt_1 (List.mem_of_getElem? (i := 22) rfl)) rfl), (List.forall_mem_cons.mpr ⟨(lwg (lwt_1 (List.mem_of_getElem? (i := 150) rfl)) rfl), (List.forall_mem_cons.mpr ⟨(lwg (lwt_1 (List.mem_of_getElem? (i := 172) rfl)) rfl), (List.forall_mem_cons.mpr ⟨(lwg (lwt_1 (List.mem_of_getElem? (i := 204) rfl)) rfl), (List.forall_mem_cons.mpr ⟨(lwg (lwt_1 (List.mem_of_getElem? (i := 232) rfl)) rfl), (List.forall_mem_cons.mpr ⟨(lwg (lwt_2 (List.mem_of_getElem? (i := 59) rfl)) rfl), (fun _ h => absurd h List.not_mem_nil)⟩)⟩)⟩)⟩)⟩)⟩)
set_option maxRecDepth 20000 in
theorem cl_9 : ∀ e ∈ clT.getD 9 [], Cond.classLink (cnm 9) e.1 (cnm e.2) ∈ lwG := (fun _ h => absurd h List.not_mem_nil)
set_option maxRecDepth 20000 in
theorem cl_10 : ∀ e ∈ clT.getD 10 [], Cond.classLink (cnm 10) e.1 (cnm e.2) ∈ lwG := (List.forall_mem_cons.mpr ⟨(lwg (lwt_1 (List.mem_of_getElem? (i := 14) rfl)) rfl), (List.forall_mem_cons.mpr ⟨(lwg (lwt_4 (List.mem_of_getElem? (i := 116) rfl)) rfl), (fun _ h => absurd h List.not_mem_nil)⟩)⟩)
set_option maxRecDepth 20000 in
theorem cl_11 : ∀ e ∈ clT.getD 11 [], Cond.classLink (cnm 11) e.1 (cnm e.2) ∈ lwG := (fun _ h => absurd h List.not_mem_nil)
set_option maxRecDepth 20000 in
theorem cl_12 : ∀ e ∈ clT.getD 12 [], Cond.classLink (cnm 12) e.1 (cnm e.2) ∈ lwG := (fun _ h => absurd h List.not_mem_nil)
set_option maxRecDepth 20000 in
theorem cl_13 : ∀ e ∈ clT.getD 13 [], Cond.classLink (cnm 13) e.1 (cnm e.2) ∈ lwG := (fun _ h => absurd h List.not_mem_nil)
theorem cl_ok : ∀ o, ∀ e ∈ clT.getD o [], Cond.classLink (cnm o) e.1 (cnm e.2) ∈ lwG := by
  intro o
  match o with
  | 0 => exact cl_0
  | 1 => exact cl_1
  | 2 => exact cl_2
  | 3 => exact cl_3
  | 4 => exact cl_4
  | 5 => exact cl_5
  | 6 => exact cl_6
  | 7 => exact cl_7
  | 8 => exact cl_8
  | 9 => exact cl_9
  | 10 => exact cl_10
  | 11 => exact cl_11
  | 12 => exact cl_12
  | 13 => exact cl_13
  | o + 14 => intro e h; rw [show clT.getD (o + 14) [] = [] from rfl] at h; exact absurd h List.not_mem_nil
set_option maxRecDepth 20000 in
theorem ki_0 : ∀ e ∈ kiT.getD 0 [], Cond.constant (cnm 0) e.1 (Int32.ofInt e.2) ∈ lwG := (fun _ h => absurd h List.not_mem_nil)
set_option maxRecDepth 20000 in
theorem ki_1 : ∀ e ∈ kiT.getD 1 [], Cond.constant (cnm 1) e.1 (Int32.ofInt e.2) ∈ lwG := (fun _ h => absurd h List.not_mem_nil)
set_option maxRecDepth 20000 in
theorem ki_2 : ∀ e ∈ kiT.getD 2 [], Cond.constant (cnm 2) e.1 (Int32.ofInt e.2) ∈ lwG := (fun _ h => absurd h List.not_mem_nil)
set_option maxRecDepth 20000 in
theorem ki_3 : ∀ e ∈ kiT.getD 3 [], Cond.constant (cnm 3) e.1 (Int32.ofInt e.2) ∈ lwG := (fun _ h => absurd h List.not_mem_nil)
set_option maxRecDepth 20000 in
theorem ki_4 : ∀ e ∈ kiT.getD 4 [], Cond.constant (cnm 4) e.1 (Int32.ofInt e.2) ∈ lwG := (fun _ h => absurd h List.not_mem_nil)
set_option maxRecDepth 20000 in
theorem ki_5 : ∀ e ∈ kiT.getD 5 [], Cond.constant (cnm 5) e.1 (Int32.ofInt e.2) ∈ lwG := (fun _ h => absurd h List.not_mem_nil)
set_option maxRecDepth 20000 in
theorem ki_6 : ∀ e ∈ kiT.getD 6 [], Cond.constant (cnm 6) e.1 (Int32.ofInt e.2) ∈ lwG := (fun _ h => absurd h List.not_mem_nil)
set_option maxRecDepth 20000 in
theorem ki_7 : ∀ e ∈ kiT.getD 7 [], Cond.constant (cnm 7) e.1 (Int32.ofInt e.2) ∈ lwG := (fun _ h => absurd h List.not_mem_nil)
set_option maxRecDepth 20000 in
theorem ki_8 : ∀ e ∈ kiT.getD 8 [], Cond.constant (cnm 8) e.1 (Int32.ofInt e.2) ∈ lwG := (fun _ h => absurd h List.not_mem_nil)
set_option maxRecDepth 20000 in
theorem ki_9 : ∀ e ∈ kiT.getD 9 [], Cond.constant (cnm 9) e.1 (Int32.ofInt e.2) ∈ lwG := (List.forall_mem_cons.mpr ⟨(lwg (lwt_5 (List.mem_of_getElem? (i := 215) rfl)) rfl), (fun _ h => absurd h List.not_mem_nil)⟩)
set_option maxRecDepth 20000 in
theorem ki_10 : ∀ e ∈ kiT.getD 10 [], Cond.constant (cnm 10) e.1 (Int32.ofInt e.2) ∈ lwG := (fun _ h => absurd h List.not_mem_nil)
set_option maxRecDepth 20000 in
theorem ki_11 : ∀ e ∈ kiT.getD 11 [], Cond.constant (cnm 11) e.1 (Int32.ofInt e.2) ∈ lwG := (List.forall_mem_cons.mpr ⟨(lwg (lwt_3 (List.mem_of_getElem? (i := 108) rfl)) rfl), (List.forall_mem_cons.mpr ⟨(lwg (lwt_3 (List.mem_of_getElem? (i := 109) rfl)) rfl), (List.forall_mem_cons.mpr ⟨(lwg (lwt_3 (List.mem_of_getElem? (i := 110) rfl)) rfl), (fun _ h => absurd h List.not_mem_nil)⟩)⟩)⟩)
set_option maxRecDepth 20000 in
theorem ki_12 : ∀ e ∈ kiT.getD 12 [], Cond.constant (cnm 12) e.1 (Int32.ofInt e.2) ∈ lwG := (fun _ h => absurd h List.not_mem_nil)
set_option maxRecDepth 20000 in
theorem ki_13 : ∀ e ∈ kiT.getD 13 [], Cond.constant (cnm 13) e.1 (Int32.ofInt e.2) ∈ lwG := (fun _ h => absurd h List.not_mem_nil)
theorem ki_ok : ∀ o, ∀ e ∈ kiT.getD o [], Cond.constant (cnm o) e.1 (Int32.ofInt e.2) ∈ lwG := by
  intro o
  match o with
  | 0 => exact ki_0
  | 1 => exact ki_1
  | 2 => exact ki_2
  | 3 => exact ki_3
  | 4 => exact ki_4
  | 5 => exact ki_5
  | 6 => exact ki_6
  | 7 => exact ki_7
  | 8 => exact ki_8
  | 9 => exact ki_9
  | 10 => exact ki_10
  | 11 => exact ki_11
  | 12 => exact ki_12
  | 13 => exact ki_13
  | o + 14 => intro e h; rw [show kiT.getD (o + 14) [] = [] from rfl] at h; exact absurd h List.not_mem_nil
set_option maxRecDepth 20000 in
theorem kl_0 : ∀ e ∈ klT.getD 0 [], Cond.constantLong (cnm 0) e.1 (Int64.ofInt e.2) ∈ lwG := (fun _ h => absurd h List.not_mem_nil)
set_option maxRecDepth 20000 in
theorem kl_1 : ∀ e ∈ klT.getD 1 [], Cond.constantLong (cnm 1) e.1 (Int64.ofInt e.2) ∈ lwG := (fun _ h => absurd h List.not_mem_nil)
set_option maxRecDepth 20000 in
theorem kl_2 : ∀ e ∈ klT.getD 2 [], Cond.constantLong (cnm 2) e.1 (Int64.ofInt e.2) ∈ lwG := (fun _ h => absurd h List.not_mem_nil)
set_option maxRecDepth 20000 in
theorem kl_3 : ∀ e ∈ klT.getD 3 [], Cond.constantLong (cnm 3) e.1 (Int64.ofInt e.2) ∈ lwG := (fun _ h => absurd h List.not_mem_nil)
set_option maxRecDepth 20000 in
theorem kl_4 : ∀ e ∈ klT.getD 4 [], Cond.constantLong (cnm 4) e.1 (Int64.ofInt e.2) ∈ lwG := (fun _ h => absurd h List.not_mem_nil)
set_option maxRecDepth 20000 in
theorem kl_5 : ∀ e ∈ klT.getD 5 [], Cond.constantLong (cnm 5) e.1 (Int64.ofInt e.2) ∈ lwG := (fun _ h => absurd h List.not_mem_nil)
set_option maxRecDepth 20000 in
theorem kl_6 : ∀ e ∈ klT.getD 6 [], Cond.constantLong (cnm 6) e.1 (Int64.ofInt e.2) ∈ lwG := (fun _ h => absurd h List.not_mem_nil)
set_option maxRecDepth 20000 in
theorem kl_7 : ∀ e ∈ klT.getD 7 [], Cond.constantLong (cnm 7) e.1 (Int64.ofInt e.2) ∈ lwG := (fun _ h => absurd h List.not_mem_nil)
set_option maxRecDepth 20000 in
theorem kl_8 : ∀ e ∈ klT.getD 8 [], Cond.constantLong (cnm 8) e.1 (Int64.ofInt e.2) ∈ lwG := (List.forall_mem_cons.mpr ⟨(lwg (lwt_4 (List.mem_of_getElem? (i := 50) rfl)) rfl), (List.forall_mem_cons.mpr ⟨(lwg (lwt_4 (List.mem_of_getElem? (i := 51) rfl)) rfl), (List.forall_mem_cons.mpr ⟨(lwg (lwt_4 (List.mem_of_getElem? (i := 52) rfl)) rfl), (List.forall_mem_cons.mpr ⟨(lwg (lwt_4 (List.mem_of_getElem? (i := 53) rfl)) rfl), (List.forall_mem_cons.mpr ⟨(lwg (lwt_4 (List.mem_of_getElem? (i := 107) rfl)) rfl), (List.forall_mem_cons.mpr ⟨(lwg (lwt_4 (List.mem_of_getElem? (i := 108) rfl)) rfl), (fun _ h => absurd h List.not_mem_nil)⟩)⟩)⟩)⟩)⟩)⟩)
set_option maxRecDepth 20000 in
theorem kl_9 : ∀ e ∈ klT.getD 9 [], Cond.constantLong (cnm 9) e.1 (Int64.ofInt e.2) ∈ lwG := (List.forall_mem_cons.mpr ⟨(lwg (lwt_6 (List.mem_of_getElem? (i := 151) rfl)) rfl), (List.forall_mem_cons.mpr ⟨(lwg (lwt_6 (List.mem_of_getElem? (i := 152) rfl)) rfl), (List.forall_mem_cons.mpr ⟨(lwg (lwt_6 (List.mem_of_getElem? (i := 153) rfl)) rfl), (List.forall_mem_cons.mpr ⟨(lwg (lwt_6 (List.mem_of_getElem? (i := 154) rfl)) rfl), (List.forall_mem_cons.mpr ⟨(lwg (lwt_6 (List.mem_of_getElem? (i := 215) rfl)) rfl), (List.forall_mem_cons.mpr ⟨(lwg (lwt_6 (List.mem_of_getElem? (i := 210) rfl)) rfl), (fun _ h => absurd h List.not_mem_nil)⟩)⟩)⟩)⟩)⟩)⟩)
set_option maxRecDepth 20000 in
theorem kl_10 : ∀ e ∈ klT.getD 10 [], Cond.constantLong (cnm 10) e.1 (Int64.ofInt e.2) ∈ lwG := (fun _ h => absurd h List.not_mem_nil)
set_option maxRecDepth 20000 in
theorem kl_11 : ∀ e ∈ klT.getD 11 [], Cond.constantLong (cnm 11) e.1 (Int64.ofInt e.2) ∈ lwG := (fun _ h => absurd h List.not_mem_nil)
set_option maxRecDepth 20000 in
theorem kl_12 : ∀ e ∈ klT.getD 12 [], Cond.constantLong (cnm 12) e.1 (Int64.ofInt e.2) ∈ lwG := (List.forall_mem_cons.mpr ⟨(lwg (lwt_4 (List.mem_of_getElem? (i := 10) rfl)) rfl), (List.forall_mem_cons.mpr ⟨(lwg (lwt_4 (List.mem_of_getElem? (i := 11) rfl)) rfl), (List.forall_mem_cons.mpr ⟨(lwg (lwt_4 (List.mem_of_getElem? (i := 12) rfl)) rfl), (fun _ h => absurd h List.not_mem_nil)⟩)⟩)⟩)
set_option maxRecDepth 20000 in
theorem kl_13 : ∀ e ∈ klT.getD 13 [], Cond.constantLong (cnm 13) e.1 (Int64.ofInt e.2) ∈ lwG := (fun _ h => absurd h List.not_mem_nil)
theorem kl_ok : ∀ o, ∀ e ∈ klT.getD o [], Cond.constantLong (cnm o) e.1 (Int64.ofInt e.2) ∈ lwG := by
  intro o
  match o with
  | 0 => exact kl_0
  | 1 => exact kl_1
  | 2 => exact kl_2
  | 3 => exact kl_3
  | 4 => exact kl_4
  | 5 => exact kl_5
  | 6 => exact kl_6
  | 7 => exact kl_7
  | 8 => exact kl_8
  | 9 => exact kl_9
  | 10 => exact kl_10
  | 11 => exact kl_11
  | 12 => exact kl_12
  | 13 => exact kl_13
  | o + 14 => intro e h; rw [show klT.getD (o + 14) [] = [] from rfl] at h; exact absurd h List.not_mem_nil
set_option maxRecDepth 20000 in
theorem oi_0 : ∀ e ∈ oiT.getD 0 [], Cond.methodLink (cnm 0) e objectInit ∈ lwG := (List.forall_mem_cons.mpr ⟨(lwg (lwt_1 (List.mem_of_getElem? (i := 27) rfl)) rfl), (fun _ h => absurd h List.not_mem_nil)⟩)
set_option maxRecDepth 20000 in
theorem oi_1 : ∀ e ∈ oiT.getD 1 [], Cond.methodLink (cnm 1) e objectInit ∈ lwG := (List.forall_mem_cons.mpr ⟨(lwg (lwt_1 (List.mem_of_getElem? (i := 209) rfl)) rfl), (fun _ h => absurd h List.not_mem_nil)⟩)
set_option maxRecDepth 20000 in
theorem oi_2 : ∀ e ∈ oiT.getD 2 [], Cond.methodLink (cnm 2) e objectInit ∈ lwG := (List.forall_mem_cons.mpr ⟨(lwg (lwt_1 (List.mem_of_getElem? (i := 237) rfl)) rfl), (fun _ h => absurd h List.not_mem_nil)⟩)
set_option maxRecDepth 20000 in
theorem oi_3 : ∀ e ∈ oiT.getD 3 [], Cond.methodLink (cnm 3) e objectInit ∈ lwG := (List.forall_mem_cons.mpr ⟨(lwg (lwt_2 (List.mem_of_getElem? (i := 6) rfl)) rfl), (fun _ h => absurd h List.not_mem_nil)⟩)
set_option maxRecDepth 20000 in
theorem oi_4 : ∀ e ∈ oiT.getD 4 [], Cond.methodLink (cnm 4) e objectInit ∈ lwG := (List.forall_mem_cons.mpr ⟨(lwg (lwt_1 (List.mem_of_getElem? (i := 177) rfl)) rfl), (fun _ h => absurd h List.not_mem_nil)⟩)
set_option maxRecDepth 20000 in
theorem oi_5 : ∀ e ∈ oiT.getD 5 [], Cond.methodLink (cnm 5) e objectInit ∈ lwG := (List.forall_mem_cons.mpr ⟨(lwg (lwt_1 (List.mem_of_getElem? (i := 155) rfl)) rfl), (fun _ h => absurd h List.not_mem_nil)⟩)
set_option maxRecDepth 20000 in
theorem oi_6 : ∀ e ∈ oiT.getD 6 [], Cond.methodLink (cnm 6) e objectInit ∈ lwG := (List.forall_mem_cons.mpr ⟨(lwg (lwt_1 (List.mem_of_getElem? (i := 34) rfl)) rfl), (fun _ h => absurd h List.not_mem_nil)⟩)
set_option maxRecDepth 20000 in
theorem oi_7 : ∀ e ∈ oiT.getD 7 [], Cond.methodLink (cnm 7) e objectInit ∈ lwG := (List.forall_mem_cons.mpr ⟨(lwg (lwt_1 (List.mem_of_getElem? (i := 40) rfl)) rfl), (fun _ h => absurd h List.not_mem_nil)⟩)
set_option maxRecDepth 20000 in
theorem oi_8 : ∀ e ∈ oiT.getD 8 [], Cond.methodLink (cnm 8) e objectInit ∈ lwG := (List.forall_mem_cons.mpr ⟨(lwg (lwt_1 (List.mem_of_getElem? (i := 19) rfl)) rfl), (fun _ h => absurd h List.not_mem_nil)⟩)
set_option maxRecDepth 20000 in
theorem oi_9 : ∀ e ∈ oiT.getD 9 [], Cond.methodLink (cnm 9) e objectInit ∈ lwG := (List.forall_mem_cons.mpr ⟨(lwg (lwt_4 (List.mem_of_getElem? (i := 121) rfl)) rfl), (fun _ h => absurd h List.not_mem_nil)⟩)
set_option maxRecDepth 20000 in
theorem oi_10 : ∀ e ∈ oiT.getD 10 [], Cond.methodLink (cnm 10) e objectInit ∈ lwG := (fun _ h => absurd h List.not_mem_nil)
set_option maxRecDepth 20000 in
theorem oi_11 : ∀ e ∈ oiT.getD 11 [], Cond.methodLink (cnm 11) e objectInit ∈ lwG := (fun _ h => absurd h List.not_mem_nil)
set_option maxRecDepth 20000 in
theorem oi_12 : ∀ e ∈ oiT.getD 12 [], Cond.methodLink (cnm 12) e objectInit ∈ lwG := (fun _ h => absurd h List.not_mem_nil)
set_option maxRecDepth 20000 in
theorem oi_13 : ∀ e ∈ oiT.getD 13 [], Cond.methodLink (cnm 13) e objectInit ∈ lwG := (fun _ h => absurd h List.not_mem_nil)
theorem oi_ok : ∀ o, ∀ e ∈ oiT.getD o [], Cond.methodLink (cnm o) e objectInit ∈ lwG := by
  intro o
  match o with
  | 0 => exact oi_0
  | 1 => exact oi_1
  | 2 => exact oi_2
  | 3 => exact oi_3
  | 4 => exact oi_4
  | 5 => exact oi_5
  | 6 => exact oi_6
  | 7 => exact oi_7
  | 8 => exact oi_8
  | 9 => exact oi_9
  | 10 => exact oi_10
  | 11 => exact oi_11
  | 12 => exact oi_12
  | 13 => exact oi_13
  | o + 14 => intro e h; rw [show oiT.getD (o + 14) [] = [] from rfl] at h; exact absurd h List.not_mem_nil
def stNm (n : Nat) : String × String := if n = 1 then ("DictProof", "SO_OF_KINDS") else ("DictProof$Shape", "PARTS")
set_option maxRecDepth 20000 in
theorem st_0 : ∀ e ∈ stT.getD 0 [], Cond.fieldLink (cnm 0) e.1 (stNm e.2).1 (stNm e.2).2 "[I" ∈ lwG := (fun _ h => absurd h List.not_mem_nil)
set_option maxRecDepth 20000 in
theorem st_1 : ∀ e ∈ stT.getD 1 [], Cond.fieldLink (cnm 1) e.1 (stNm e.2).1 (stNm e.2).2 "[I" ∈ lwG := (fun _ h => absurd h List.not_mem_nil)
set_option maxRecDepth 20000 in
theorem st_2 : ∀ e ∈ stT.getD 2 [], Cond.fieldLink (cnm 2) e.1 (stNm e.2).1 (stNm e.2).2 "[I" ∈ lwG := (fun _ h => absurd h List.not_mem_nil)
set_option maxRecDepth 20000 in
theorem st_3 : ∀ e ∈ stT.getD 3 [], Cond.fieldLink (cnm 3) e.1 (stNm e.2).1 (stNm e.2).2 "[I" ∈ lwG := (fun _ h => absurd h List.not_mem_nil)
set_option maxRecDepth 20000 in
theorem st_4 : ∀ e ∈ stT.getD 4 [], Cond.fieldLink (cnm 4) e.1 (stNm e.2).1 (stNm e.2).2 "[I" ∈ lwG := (fun _ h => absurd h List.not_mem_nil)
set_option maxRecDepth 20000 in
theorem st_5 : ∀ e ∈ stT.getD 5 [], Cond.fieldLink (cnm 5) e.1 (stNm e.2).1 (stNm e.2).2 "[I" ∈ lwG := (fun _ h => absurd h List.not_mem_nil)
set_option maxRecDepth 20000 in
theorem st_6 : ∀ e ∈ stT.getD 6 [], Cond.fieldLink (cnm 6) e.1 (stNm e.2).1 (stNm e.2).2 "[I" ∈ lwG := (fun _ h => absurd h List.not_mem_nil)
set_option maxRecDepth 20000 in
theorem st_7 : ∀ e ∈ stT.getD 7 [], Cond.fieldLink (cnm 7) e.1 (stNm e.2).1 (stNm e.2).2 "[I" ∈ lwG := (List.forall_mem_cons.mpr ⟨(lwg (lwt_2 (List.mem_of_getElem? (i := 189) rfl)) rfl), (fun _ h => absurd h List.not_mem_nil)⟩)
set_option maxRecDepth 20000 in
theorem st_8 : ∀ e ∈ stT.getD 8 [], Cond.fieldLink (cnm 8) e.1 (stNm e.2).1 (stNm e.2).2 "[I" ∈ lwG := (List.forall_mem_cons.mpr ⟨(lwg (lwt_3 (List.mem_of_getElem? (i := 126) rfl)) rfl), (fun _ h => absurd h List.not_mem_nil)⟩)
set_option maxRecDepth 20000 in
theorem st_9 : ∀ e ∈ stT.getD 9 [], Cond.fieldLink (cnm 9) e.1 (stNm e.2).1 (stNm e.2).2 "[I" ∈ lwG := (fun _ h => absurd h List.not_mem_nil)
set_option maxRecDepth 20000 in
theorem st_10 : ∀ e ∈ stT.getD 10 [], Cond.fieldLink (cnm 10) e.1 (stNm e.2).1 (stNm e.2).2 "[I" ∈ lwG := (fun _ h => absurd h List.not_mem_nil)
set_option maxRecDepth 20000 in
theorem st_11 : ∀ e ∈ stT.getD 11 [], Cond.fieldLink (cnm 11) e.1 (stNm e.2).1 (stNm e.2).2 "[I" ∈ lwG := (fun _ h => absurd h List.not_mem_nil)
set_option maxRecDepth 20000 in
theorem st_12 : ∀ e ∈ stT.getD 12 [], Cond.fieldLink (cnm 12) e.1 (stNm e.2).1 (stNm e.2).2 "[I" ∈ lwG := (fun _ h => absurd h List.not_mem_nil)
set_option maxRecDepth 20000 in
theorem st_13 : ∀ e ∈ stT.getD 13 [], Cond.fieldLink (cnm 13) e.1 (stNm e.2).1 (stNm e.2).2 "[I" ∈ lwG := (fun _ h => absurd h List.not_mem_nil)
theorem st_ok : ∀ o, ∀ e ∈ stT.getD o [], Cond.fieldLink (cnm o) e.1 (stNm e.2).1 (stNm e.2).2 "[I" ∈ lwG := by
  intro o
  match o with
  | 0 => exact st_0
  | 1 => exact st_1
  | 2 => exact st_2
  | 3 => exact st_3
  | 4 => exact st_4
  | 5 => exact st_5
  | 6 => exact st_6
  | 7 => exact st_7
  | 8 => exact st_8
  | 9 => exact st_9
  | 10 => exact st_10
  | 11 => exact st_11
  | 12 => exact st_12
  | 13 => exact st_13
  | o + 14 => intro e h; rw [show stT.getD (o + 14) [] = [] from rfl] at h; exact absurd h List.not_mem_nil
theorem ma_ok : Cond.classLink (cnm 2) 21 "[[I" ∈ lwG := (lwg (lwt_2 (List.mem_of_getElem? (i := 0) rfl)) rfl)
theorem oi_inst : Cond.instanceMethod objectInit ∈ lwG := (lwg (lwt_1 (List.mem_of_getElem? (i := 20) rfl)) rfl)
theorem oi_code : Cond.code objectInit ⟨#[0xb1]⟩ 1 none ∈ lwG := (lwg (lwt_1 (List.mem_of_getElem? (i := 21) rfl)) rfl)
theorem ac_int : Cond.arrayClass .int ∈ lwG := (lwg (lwt_1 (List.mem_of_getElem? (i := 62) rfl)) rfl)
theorem ac_byte : Cond.arrayClass .byte ∈ lwG := (lwg (lwt_5 (List.mem_of_getElem? (i := 72) rfl)) rfl)
theorem ac_boolean : Cond.arrayClass .boolean ∈ lwG := (lwg (lwt_1 (List.mem_of_getElem? (i := 203) rfl)) rfl)
theorem ao_Rule : Cond.arrayOver (.object "DictProof$Rule") ∈ lw_tbl := (lwt_1 (List.mem_of_getElem? (i := 29) rfl))
theorem ao_Shape : Cond.arrayOver (.object "DictProof$Shape") ∈ lw_tbl := (lwt_1 (List.mem_of_getElem? (i := 211) rfl))
theorem ao_Goal : Cond.arrayOver (.object "DictProof$Goal") ∈ lw_tbl := (lwt_1 (List.mem_of_getElem? (i := 239) rfl))
theorem ao_int : Cond.arrayOver (.array .int) ∈ lw_tbl := (lwt_2 (List.mem_of_getElem? (i := 1) rfl))
theorem ls_1 : Cond.laysStatic "DictProof" "SO_OF_KINDS" "[I" ∈ lw_tbl := (lwt_3 (List.mem_of_getElem? (i := 127) rfl))
theorem ls_2 : Cond.laysStatic "DictProof$Shape" "PARTS" "[I" ∈ lw_tbl := (lwt_2 (List.mem_of_getElem? (i := 190) rfl))
set_option maxRecDepth 20000 in
theorem lay_0 : ∀ w ∈ u_ws (cnm 0) (cT 0) (cN 0), w ∈ lwG := (List.forall_mem_cons.mpr ⟨(lwg (lwt_1 (List.mem_of_getElem? (i := 129) rfl)) rfl), (List.forall_mem_cons.mpr ⟨(lwg (lwt_1 (List.mem_of_getElem? (i := 131) rfl)) rfl), (List.forall_mem_cons.mpr ⟨(lwg (lwt_1 (List.mem_of_getElem? (i := 133) rfl)) rfl), (List.forall_mem_cons.mpr ⟨(lwg (lwt_1 (List.mem_of_getElem? (i := 135) rfl)) rfl), (List.forall_mem_cons.mpr ⟨(lwg (lwt_1 (List.mem_of_getElem? (i := 137) rfl)) rfl), (List.forall_mem_cons.mpr ⟨(lwg (lwt_1 (List.mem_of_getElem? (i := 139) rfl)) rfl), (List.forall_mem_cons.mpr ⟨(lwg (lwt_1 (List.mem_of_getElem? (i := 141) rfl)) rfl), (List.forall_mem_cons.mpr ⟨(lwg (lwt_1 (List.mem_of_getElem? (i := 143) rfl)) rfl), (List.forall_mem_cons.mpr ⟨(lwg (lwt_1 (List.mem_of_getElem? (i := 145) rfl)) rfl), (List.forall_mem_cons.mpr ⟨(lwg (lwt_1 (List.mem_of_getElem? (i := 147) rfl)) rfl), (fun _ h => absurd h List.not_mem_nil)⟩)⟩)⟩)⟩)⟩)⟩)⟩)⟩)⟩)⟩)
theorem ins_0 : Cond.instantiable (cnm 0) (cN 0) ∈ lwG := (lwg (lwt_1 (List.mem_of_getElem? (i := 23) rfl)) rfl)
set_option maxRecDepth 20000 in
theorem lay_1 : ∀ w ∈ u_ws (cnm 1) (cT 1) (cN 1), w ∈ lwG := (List.forall_mem_cons.mpr ⟨(lwg (lwt_1 (List.mem_of_getElem? (i := 221) rfl)) rfl), (List.forall_mem_cons.mpr ⟨(lwg (lwt_1 (List.mem_of_getElem? (i := 223) rfl)) rfl), (List.forall_mem_cons.mpr ⟨(lwg (lwt_1 (List.mem_of_getElem? (i := 225) rfl)) rfl), (List.forall_mem_cons.mpr ⟨(lwg (lwt_1 (List.mem_of_getElem? (i := 227) rfl)) rfl), (List.forall_mem_cons.mpr ⟨(lwg (lwt_1 (List.mem_of_getElem? (i := 229) rfl)) rfl), (fun _ h => absurd h List.not_mem_nil)⟩)⟩)⟩)⟩)⟩)
theorem ins_1 : Cond.instantiable (cnm 1) (cN 1) ∈ lwG := (lwg (lwt_1 (List.mem_of_getElem? (i := 205) rfl)) rfl)
set_option maxRecDepth 20000 in
theorem lay_2 : ∀ w ∈ u_ws (cnm 2) (cT 2) (cN 2), w ∈ lwG := (List.forall_mem_cons.mpr ⟨(lwg (lwt_2 (List.mem_of_getElem? (i := 48) rfl)) rfl), (List.forall_mem_cons.mpr ⟨(lwg (lwt_2 (List.mem_of_getElem? (i := 50) rfl)) rfl), (List.forall_mem_cons.mpr ⟨(lwg (lwt_2 (List.mem_of_getElem? (i := 52) rfl)) rfl), (List.forall_mem_cons.mpr ⟨(lwg (lwt_2 (List.mem_of_getElem? (i := 54) rfl)) rfl), (List.forall_mem_cons.mpr ⟨(lwg (lwt_2 (List.mem_of_getElem? (i := 56) rfl)) rfl), (fun _ h => absurd h List.not_mem_nil)⟩)⟩)⟩)⟩)⟩)
theorem ins_2 : Cond.instantiable (cnm 2) (cN 2) ∈ lwG := (lwg (lwt_1 (List.mem_of_getElem? (i := 233) rfl)) rfl)
set_option maxRecDepth 20000 in
theorem lay_3 : ∀ w ∈ u_ws (cnm 3) (cT 3) (cN 3), w ∈ lwG := (List.forall_mem_cons.mpr ⟨(lwg (lwt_2 (List.mem_of_getElem? (i := 24) rfl)) rfl), (List.forall_mem_cons.mpr ⟨(lwg (lwt_2 (List.mem_of_getElem? (i := 26) rfl)) rfl), (List.forall_mem_cons.mpr ⟨(lwg (lwt_2 (List.mem_of_getElem? (i := 28) rfl)) rfl), (List.forall_mem_cons.mpr ⟨(lwg (lwt_2 (List.mem_of_getElem? (i := 30) rfl)) rfl), (List.forall_mem_cons.mpr ⟨(lwg (lwt_2 (List.mem_of_getElem? (i := 32) rfl)) rfl), (List.forall_mem_cons.mpr ⟨(lwg (lwt_2 (List.mem_of_getElem? (i := 34) rfl)) rfl), (List.forall_mem_cons.mpr ⟨(lwg (lwt_2 (List.mem_of_getElem? (i := 36) rfl)) rfl), (List.forall_mem_cons.mpr ⟨(lwg (lwt_2 (List.mem_of_getElem? (i := 38) rfl)) rfl), (List.forall_mem_cons.mpr ⟨(lwg (lwt_2 (List.mem_of_getElem? (i := 40) rfl)) rfl), (fun _ h => absurd h List.not_mem_nil)⟩)⟩)⟩)⟩)⟩)⟩)⟩)⟩)⟩)
theorem ins_3 : Cond.instantiable (cnm 3) (cN 3) ∈ lwG := (lwg (lwt_2 (List.mem_of_getElem? (i := 2) rfl)) rfl)
set_option maxRecDepth 20000 in
theorem lay_4 : ∀ w ∈ u_ws (cnm 4) (cT 4) (cN 4), w ∈ lwG := (List.forall_mem_cons.mpr ⟨(lwg (lwt_1 (List.mem_of_getElem? (i := 186) rfl)) rfl), (List.forall_mem_cons.mpr ⟨(lwg (lwt_1 (List.mem_of_getElem? (i := 188) rfl)) rfl), (List.forall_mem_cons.mpr ⟨(lwg (lwt_1 (List.mem_of_getElem? (i := 190) rfl)) rfl), (List.forall_mem_cons.mpr ⟨(lwg (lwt_1 (List.mem_of_getElem? (i := 192) rfl)) rfl), (List.forall_mem_cons.mpr ⟨(lwg (lwt_1 (List.mem_of_getElem? (i := 194) rfl)) rfl), (List.forall_mem_cons.mpr ⟨(lwg (lwt_1 (List.mem_of_getElem? (i := 196) rfl)) rfl), (List.forall_mem_cons.mpr ⟨(lwg (lwt_1 (List.mem_of_getElem? (i := 198) rfl)) rfl), (List.forall_mem_cons.mpr ⟨(lwg (lwt_1 (List.mem_of_getElem? (i := 200) rfl)) rfl), (fun _ h => absurd h List.not_mem_nil)⟩)⟩)⟩)⟩)⟩)⟩)⟩)⟩)
theorem ins_4 : Cond.instantiable (cnm 4) (cN 4) ∈ lwG := (lwg (lwt_1 (List.mem_of_getElem? (i := 173) rfl)) rfl)
set_option maxRecDepth 20000 in
theorem lay_5 : ∀ w ∈ u_ws (cnm 5) (cT 5) (cN 5), w ∈ lwG := (List.forall_mem_cons.mpr ⟨(lwg (lwt_1 (List.mem_of_getElem? (i := 161) rfl)) rfl), (List.forall_mem_cons.mpr ⟨(lwg (lwt_1 (List.mem_of_getElem? (i := 163) rfl)) rfl), (List.forall_mem_cons.mpr ⟨(lwg (lwt_1 (List.mem_of_getElem? (i := 165) rfl)) rfl), (List.forall_mem_cons.mpr ⟨(lwg (lwt_1 (List.mem_of_getElem? (i := 167) rfl)) rfl), (List.forall_mem_cons.mpr ⟨(lwg (lwt_1 (List.mem_of_getElem? (i := 169) rfl)) rfl), (fun _ h => absurd h List.not_mem_nil)⟩)⟩)⟩)⟩)⟩)
theorem ins_5 : Cond.instantiable (cnm 5) (cN 5) ∈ lwG := (lwg (lwt_1 (List.mem_of_getElem? (i := 151) rfl)) rfl)
set_option maxRecDepth 20000 in
theorem lay_6 : ∀ w ∈ u_ws (cnm 6) (cT 6) (cN 6), w ∈ lwG := (List.forall_mem_cons.mpr ⟨(lwg (lwt_1 (List.mem_of_getElem? (i := 87) rfl)) rfl), (List.forall_mem_cons.mpr ⟨(lwg (lwt_1 (List.mem_of_getElem? (i := 89) rfl)) rfl), (List.forall_mem_cons.mpr ⟨(lwg (lwt_1 (List.mem_of_getElem? (i := 91) rfl)) rfl), (List.forall_mem_cons.mpr ⟨(lwg (lwt_1 (List.mem_of_getElem? (i := 93) rfl)) rfl), (List.forall_mem_cons.mpr ⟨(lwg (lwt_1 (List.mem_of_getElem? (i := 95) rfl)) rfl), (List.forall_mem_cons.mpr ⟨(lwg (lwt_1 (List.mem_of_getElem? (i := 97) rfl)) rfl), (List.forall_mem_cons.mpr ⟨(lwg (lwt_1 (List.mem_of_getElem? (i := 99) rfl)) rfl), (fun _ h => absurd h List.not_mem_nil)⟩)⟩)⟩)⟩)⟩)⟩)⟩)
theorem ins_6 : Cond.instantiable (cnm 6) (cN 6) ∈ lwG := (lwg (lwt_1 (List.mem_of_getElem? (i := 30) rfl)) rfl)
set_option maxRecDepth 20000 in
theorem lay_7 : ∀ w ∈ u_ws (cnm 7) (cT 7) (cN 7), w ∈ lwG := (List.forall_mem_cons.mpr ⟨(lwg (lwt_1 (List.mem_of_getElem? (i := 53) rfl)) rfl), (List.forall_mem_cons.mpr ⟨(lwg (lwt_1 (List.mem_of_getElem? (i := 55) rfl)) rfl), (List.forall_mem_cons.mpr ⟨(lwg (lwt_1 (List.mem_of_getElem? (i := 57) rfl)) rfl), (List.forall_mem_cons.mpr ⟨(lwg (lwt_1 (List.mem_of_getElem? (i := 59) rfl)) rfl), (fun _ h => absurd h List.not_mem_nil)⟩)⟩)⟩)⟩)
theorem ins_7 : Cond.instantiable (cnm 7) (cN 7) ∈ lwG := (lwg (lwt_1 (List.mem_of_getElem? (i := 36) rfl)) rfl)
set_option maxRecDepth 20000 in
theorem lay_8 : ∀ w ∈ u_ws (cnm 8) (cT 8) (cN 8), w ∈ lwG := (List.forall_mem_cons.mpr ⟨(lwg (lwt_2 (List.mem_of_getElem? (i := 75) rfl)) rfl), (List.forall_mem_cons.mpr ⟨(lwg (lwt_2 (List.mem_of_getElem? (i := 77) rfl)) rfl), (List.forall_mem_cons.mpr ⟨(lwg (lwt_2 (List.mem_of_getElem? (i := 79) rfl)) rfl), (List.forall_mem_cons.mpr ⟨(lwg (lwt_2 (List.mem_of_getElem? (i := 81) rfl)) rfl), (List.forall_mem_cons.mpr ⟨(lwg (lwt_2 (List.mem_of_getElem? (i := 83) rfl)) rfl), (List.forall_mem_cons.mpr ⟨(lwg (lwt_2 (List.mem_of_getElem? (i := 85) rfl)) rfl), (List.forall_mem_cons.mpr ⟨(lwg (lwt_2 (List.mem_of_getElem? (i := 87) rfl)) rfl), (List.forall_mem_cons.mpr ⟨(lwg (lwt_2 (List.mem_of_getElem? (i := 89) rfl)) rfl), (List.forall_mem_cons.mpr ⟨(lwg (lwt_2 (List.mem_of_getElem? (i := 91) rfl)) rfl), (List.forall_mem_cons.mpr ⟨(lwg (lwt_2 (List.mem_of_getElem? (i := 93) rfl)) rfl), (List.forall_mem_cons.mpr ⟨(lwg (lwt_2 (List.mem_of_getElem? (i := 95) rfl)) rfl), (List.forall_mem_cons.mpr ⟨(lwg (lwt_2 (List.mem_of_getElem? (i := 97) rfl)) rfl), (List.forall_mem_cons.mpr ⟨(lwg (lwt_2 (List.mem_of_getElem? (i := 99) rfl)) rfl), (List.forall_mem_cons.mpr ⟨(lwg (lwt_2 (List.mem_of_getElem? (i := 101) rfl)) rfl), (fun _ h => absurd h List.not_mem_nil)⟩)⟩)⟩)⟩)⟩)⟩)⟩)⟩)⟩)⟩)⟩)⟩)⟩)⟩)
theorem ins_8 : Cond.instantiable (cnm 8) (cN 8) ∈ lwG := (lwg (lwt_1 (List.mem_of_getElem? (i := 15) rfl)) rfl)
set_option maxRecDepth 20000 in
theorem lay_9 : ∀ w ∈ u_ws (cnm 9) (cT 9) (cN 9), w ∈ lwG := (List.forall_mem_cons.mpr ⟨(lwg (lwt_4 (List.mem_of_getElem? (i := 185) rfl)) rfl), (List.forall_mem_cons.mpr ⟨(lwg (lwt_4 (List.mem_of_getElem? (i := 187) rfl)) rfl), (List.forall_mem_cons.mpr ⟨(lwg (lwt_4 (List.mem_of_getElem? (i := 189) rfl)) rfl), (List.forall_mem_cons.mpr ⟨(lwg (lwt_4 (List.mem_of_getElem? (i := 191) rfl)) rfl), (List.forall_mem_cons.mpr ⟨(lwg (lwt_4 (List.mem_of_getElem? (i := 193) rfl)) rfl), (List.forall_mem_cons.mpr ⟨(lwg (lwt_4 (List.mem_of_getElem? (i := 195) rfl)) rfl), (List.forall_mem_cons.mpr ⟨(lwg (lwt_4 (List.mem_of_getElem? (i := 197) rfl)) rfl), (List.forall_mem_cons.mpr ⟨(lwg (lwt_4 (List.mem_of_getElem? (i := 199) rfl)) rfl), (List.forall_mem_cons.mpr ⟨(lwg (lwt_4 (List.mem_of_getElem? (i := 201) rfl)) rfl), (List.forall_mem_cons.mpr ⟨(lwg (lwt_4 (List.mem_of_getElem? (i := 203) rfl)) rfl), (List.forall_mem_cons.mpr ⟨(lwg (lwt_4 (List.mem_of_getElem? (i := 205) rfl)) rfl), (List.forall_mem_cons.mpr ⟨(lwg (lwt_4 (List.mem_of_getElem? (i := 207) rfl)) rfl), (List.forall_mem_cons.mpr ⟨(lwg (lwt_4 (List.mem_of_getElem? (i := 209) rfl)) rfl), (List.forall_mem_cons.mpr ⟨(lwg (lwt_4 (List.mem_of_getElem? (i := 211) rfl)) rfl), (List.forall_mem_cons.mpr ⟨(lwg (lwt_4 (List.mem_of_getElem? (i := 213) rfl)) rfl), (List.forall_mem_cons.mpr ⟨(lwg (lwt_4 (List.mem_of_getElem? (i := 215) rfl)) rfl), (List.forall_mem_cons.mpr ⟨(lwg (lwt_4 (List.mem_of_getElem? (i := 217) rfl)) rfl), (List.forall_mem_cons.mpr ⟨(lwg (lwt_4 (List.mem_of_getElem? (i := 219) rfl)) rfl), (List.forall_mem_cons.mpr ⟨(lwg (lwt_4 (List.mem_of_getElem? (i := 221) rfl)) rfl), (List.forall_mem_cons.mpr ⟨(lwg (lwt_4 (List.mem_of_getElem? (i := 223) rfl)) rfl), (List.forall_mem_cons.mpr ⟨(lwg (lwt_4 (List.mem_of_getElem? (i := 225) rfl)) rfl), (List.forall_mem_cons.mpr ⟨(lwg (lwt_4 (List.mem_of_getElem? (i := 227) rfl)) rfl), (List.forall_mem_cons.mpr ⟨(lwg (lwt_4 (List.mem_of_getElem? (i := 229) rfl)) rfl), (List.forall_mem_cons.mpr ⟨(lwg (lwt_4 (List.mem_of_getElem? (i := 231) rfl)) rfl), (List.forall_mem_cons.mpr ⟨(lwg (lwt_4 (List.mem_of_getElem? (i := 233) rfl)) rfl), (List.forall_mem_cons.mpr ⟨(lwg (lwt_4 (List.mem_of_getElem? (i := 235) rfl)) rfl), (List.forall_mem_cons.mpr ⟨(lwg (lwt_4 (List.mem_of_getElem? (i := 237) rfl)) rfl), (List.forall_mem_cons.mpr ⟨(lwg (lwt_4 (List.mem_of_getElem? (i := 239) rfl)) rfl), (List.forall_mem_cons.mpr ⟨(lwg (lwt_5 (List.mem_of_getElem? (i := 1) rfl)) rfl), (List.forall_mem_cons.mpr ⟨(lwg (lwt_5 (List.mem_of_getElem? (i := 3) rfl)) rfl), (List.forall_mem_cons.mpr ⟨(lwg (lwt_5 (List.mem_of_getElem? (i := 5) rfl)) rfl), (List.forall_mem_cons.mpr ⟨(lwg (lwt_5 (List.mem_of_getElem? (i := 7) rfl)) rfl), (List.forall_mem_cons.mpr ⟨(lwg (lwt_5 (List.mem_of_getElem? (i := 9) rfl)) rfl), (List.forall_mem_cons.mpr ⟨(lwg (lwt_5 (List.mem_of_getElem? (i := 11) rfl)) rfl), (List.forall_mem_cons.mpr ⟨(lwg (lwt_5 (List.mem_of_getElem? (i := 13) rfl)) rfl), (List.forall_mem_cons.mpr ⟨(lwg (lwt_5 (List.mem_of_getElem? (i := 15) rfl)) rfl), (List.forall_mem_cons.mpr ⟨(lwg (lwt_5 (List.mem_of_getElem? (i := 17) rfl)) rfl), (List.forall_mem_cons.mpr ⟨(lwg (lwt_5 (List.mem_of_getElem? (i := 19) rfl)) rfl), (List.forall_mem_cons.mpr ⟨(lwg (lwt_5 (List.mem_of_getElem? (i := 21) rfl)) rfl), (List.forall_mem_cons.mpr ⟨(lwg (lwt_5 (List.mem_of_getElem? (i := 23) rfl)) rfl), (List.forall_mem_cons.mpr ⟨(lwg (lwt_5 (List.mem_of_getElem? (i := 25) rfl)) rfl), (List.forall_mem_cons.mpr ⟨(lwg (lwt_5 (List.mem_of_getElem? (i := 27) rfl)) rfl), (List.forall_mem_cons.mpr ⟨(lwg (lwt_5 (List.mem_of_getElem? (i := 29) rfl)) rfl), (List.forall_mem_cons.mpr ⟨(lwg (lwt_5 (List.mem_of_getElem? (i := 31) rfl)) rfl), (List.forall_mem_cons.mpr ⟨(lwg (lwt_5 (List.mem_of_getElem? (i := 33) rfl)) rfl), (List.forall_mem_cons.mpr ⟨(lwg (lwt_5 (List.mem_of_getElem? (i := 35) rfl)) rfl), (List.forall_mem_cons.mpr ⟨(lwg (lwt_5 (List.mem_of_getElem? (i := 37) rfl)) rfl), (List.forall_mem_cons.mpr ⟨(lwg (lwt_5 (List.mem_of_getElem? (i := 39) rfl)) rfl), (List.forall_mem_cons.mpr ⟨(lwg (lwt_5 (List.mem_of_getElem? (i := 41) rfl)) rfl), (List.forall_mem_cons.mpr ⟨(lwg (lwt_5 (List.mem_of_getElem? (i := 43) rfl)) rfl), (List.forall_mem_cons.mpr ⟨(lwg (lwt_5 (List.mem_of_getElem? (i := 45) rfl)) rfl), (List.forall_mem_cons.mpr ⟨(lwg (lwt_5 (List.mem_of_getElem? (i := 47) rfl)) rfl), (List.forall_mem_cons.mpr ⟨(lwg (lwt_5 (List.mem_of_getElem? (i := 49) rfl)) rfl), (List.forall_mem_cons.mpr ⟨(lwg (lwt_5 (List.mem_of_getElem? (i := 51) rfl)) rfl), (List.forall_mem_cons.mpr ⟨(lwg (lwt_5 (List.mem_of_getElem? (i := 53) rfl)) rfl), (List.forall_mem_cons.mpr ⟨(lwg (lwt_5 (List.mem_of_getElem? (i := 55) rfl)) rfl), (List.forall_mem_cons.mpr ⟨(lwg (lwt_5 (List.mem_of_getElem? (i := 57) rfl)) rfl), (List.forall_mem_cons.mpr ⟨(lwg (lwt_5 (List.mem_of_getElem? (i := 59) rfl)) rfl), (List.forall_mem_cons.mpr ⟨(lwg (lwt_5 (List.mem_of_getElem? (i := 61) rfl)) rfl), (List.forall_mem_cons.mpr ⟨(lwg (lwt_5 (List.mem_of_getElem? (i := 63) rfl)) rfl), (List.forall_mem_cons.mpr ⟨(lwg (lwt_5 (List.mem_of_getElem? (i := 65) rfl)) rfl), (List.forall_mem_cons.mpr ⟨(lwg (lwt_5 (List.mem_of_getElem? (i := 67) rfl)) rfl), (List.forall_mem_cons.mpr ⟨(lwg (lwt_5 (List.mem_of_getElem? (i := 69) rfl)) rfl), (fun _ h => absurd h List.not_mem_nil)⟩)⟩)⟩)⟩)⟩)⟩)⟩)⟩)⟩)⟩)⟩)⟩)⟩)⟩)⟩)⟩)⟩)⟩)⟩)⟩)⟩)⟩)⟩)⟩)⟩)⟩)⟩)⟩)⟩)⟩)⟩)⟩)⟩)⟩)⟩)⟩)⟩)⟩)⟩)⟩)⟩)⟩)⟩)⟩)⟩)⟩)⟩)⟩)⟩)⟩)⟩)⟩)⟩)⟩)⟩)⟩)⟩)⟩)⟩)⟩)⟩)⟩)⟩)
theorem ins_9 : Cond.instantiable (cnm 9) (cN 9) ∈ lwG := (lwg (lwt_4 (List.mem_of_getElem? (i := 117) rfl)) rfl)
theorem lay_ok : ∀ c, c < 10 → ∀ w ∈ u_ws (cnm c) (cT c) (cN c), w ∈ lwG := by
  intro c hc
  match c, hc with
  | 0, _ => exact lay_0
  | 1, _ => exact lay_1
  | 2, _ => exact lay_2
  | 3, _ => exact lay_3
  | 4, _ => exact lay_4
  | 5, _ => exact lay_5
  | 6, _ => exact lay_6
  | 7, _ => exact lay_7
  | 8, _ => exact lay_8
  | 9, _ => exact lay_9
  | c + 10, hc => omega
theorem ins_ok : ∀ c, c < 10 → Cond.instantiable (cnm c) (cN c) ∈ lwG := by
  intro c hc
  match c, hc with
  | 0, _ => exact ins_0
  | 1, _ => exact ins_1
  | 2, _ => exact ins_2
  | 3, _ => exact ins_3
  | 4, _ => exact ins_4
  | 5, _ => exact ins_5
  | 6, _ => exact ins_6
  | 7, _ => exact ins_7
  | 8, _ => exact ins_8
  | 9, _ => exact ins_9
  | c + 10, hc => omega
theorem ini_0 : Cond.initialized (cnm 0) ∈ lwG := (lwg (lwt_1 (List.mem_of_getElem? (i := 2) rfl)) rfl)
theorem ini_1 : Cond.initialized (cnm 1) ∈ lwG := (lwg (lwt_1 (List.mem_of_getElem? (i := 7) rfl)) rfl)
theorem ini_2 : Cond.initialized (cnm 2) ∈ lwG := (lwg (lwt_1 (List.mem_of_getElem? (i := 8) rfl)) rfl)
theorem ini_3 : Cond.initialized (cnm 3) ∈ lwG := (lwg (lwt_1 (List.mem_of_getElem? (i := 9) rfl)) rfl)
theorem ini_4 : Cond.initialized (cnm 4) ∈ lwG := (lwg (lwt_1 (List.mem_of_getElem? (i := 6) rfl)) rfl)
theorem ini_5 : Cond.initialized (cnm 5) ∈ lwG := (lwg (lwt_1 (List.mem_of_getElem? (i := 5) rfl)) rfl)
theorem ini_6 : Cond.initialized (cnm 6) ∈ lwG := (lwg (lwt_1 (List.mem_of_getElem? (i := 3) rfl)) rfl)
theorem ini_7 : Cond.initialized (cnm 7) ∈ lwG := (lwg (lwt_1 (List.mem_of_getElem? (i := 4) rfl)) rfl)
theorem ini_8 : Cond.initialized (cnm 8) ∈ lwG := (lwg (lwt_1 (List.mem_of_getElem? (i := 1) rfl)) rfl)
theorem ini_9 : Cond.initialized (cnm 9) ∈ lwG := (lwg (lwt_1 (List.mem_of_getElem? (i := 10) rfl)) rfl)
theorem ini_10 : Cond.initialized (cnm 10) ∈ lwG := (lwg (lwt_1 (List.mem_of_getElem? (i := 0) rfl)) rfl)
theorem ini_11 : Cond.initialized (cnm 11) ∈ lwG := (lwg (lwt_1 (List.mem_of_getElem? (i := 11) rfl)) rfl)
theorem ini_12 : Cond.initialized (cnm 12) ∈ lwG := (lwg (lwt_1 (List.mem_of_getElem? (i := 13) rfl)) rfl)
theorem ini_13 : Cond.initialized (cnm 13) ∈ lwG := (lwg (lwt_1 (List.mem_of_getElem? (i := 12) rfl)) rfl)
theorem ini_ok : ∀ c, c < 14 → Cond.initialized (cnm c) ∈ lwG := by
  intro c hc
  match c, hc with
  | 0, _ => exact ini_0
  | 1, _ => exact ini_1
  | 2, _ => exact ini_2
  | 3, _ => exact ini_3
  | 4, _ => exact ini_4
  | 5, _ => exact ini_5
  | 6, _ => exact ini_6
  | 7, _ => exact ini_7
  | 8, _ => exact ini_8
  | 9, _ => exact ini_9
  | 10, _ => exact ini_10
  | 11, _ => exact ini_11
  | 12, _ => exact ini_12
  | 13, _ => exact ini_13
  | c + 14, hc => omega
end
section
-- ===== what the tables say of the methods =====
/-- a method that is called: its code, which way it is called -/
def mOK (k : Nat) : Prop := Cond.code (yK k) (cK k) (mxK k) (rtK k) ∈ lwG ∧ (if stK k = true then Cond.static (yK k) ∈ lwG else Cond.instanceMethod (yK k) ∈ lwG ∧ ((yK k).name = "<init>" ∨ Cond.selects (yK k).cls (yK k) (yK k) ∈ lwG))
set_option maxRecDepth 20000 in
theorem mok_1 : mOK 1 := ⟨(lwg (lwt_1 (List.mem_of_getElem? (i := 18) rfl)) rfl), (lwg (lwt_1 (List.mem_of_getElem? (i := 17) rfl)) rfl), Or.inl rfl⟩
set_option maxRecDepth 20000 in
theorem mok_2 : mOK 2 := ⟨(lwg (lwt_2 (List.mem_of_getElem? (i := 107) rfl)) rfl), (lwg (lwt_2 (List.mem_of_getElem? (i := 105) rfl)) rfl), Or.inr (lwg (lwt_2 (List.mem_of_getElem? (i := 106) rfl)) rfl)⟩
set_option maxRecDepth 20000 in
theorem mok_3 : mOK 3 := ⟨(lwg (lwt_2 (List.mem_of_getElem? (i := 111) rfl)) rfl), (lwg (lwt_2 (List.mem_of_getElem? (i := 109) rfl)) rfl), Or.inr (lwg (lwt_2 (List.mem_of_getElem? (i := 110) rfl)) rfl)⟩
set_option maxRecDepth 20000 in
theorem mok_4 : mOK 4 := ⟨(lwg (lwt_2 (List.mem_of_getElem? (i := 115) rfl)) rfl), (lwg (lwt_2 (List.mem_of_getElem? (i := 113) rfl)) rfl), Or.inr (lwg (lwt_2 (List.mem_of_getElem? (i := 114) rfl)) rfl)⟩
set_option maxRecDepth 20000 in
theorem mok_5 : mOK 5 := ⟨(lwg (lwt_2 (List.mem_of_getElem? (i := 227) rfl)) rfl), (lwg (lwt_2 (List.mem_of_getElem? (i := 225) rfl)) rfl), Or.inr (lwg (lwt_2 (List.mem_of_getElem? (i := 226) rfl)) rfl)⟩
set_option maxRecDepth 20000 in
theorem mok_6 : mOK 6 := ⟨(lwg (lwt_3 (List.mem_of_getElem? (i := 87) rfl)) rfl), (lwg (lwt_3 (List.mem_of_getElem? (i := 85) rfl)) rfl), Or.inr (lwg (lwt_3 (List.mem_of_getElem? (i := 86) rfl)) rfl)⟩
set_option maxRecDepth 20000 in
theorem mok_7 : mOK 7 := ⟨(lwg (lwt_2 (List.mem_of_getElem? (i := 119) rfl)) rfl), (lwg (lwt_2 (List.mem_of_getElem? (i := 118) rfl)) rfl), Or.inr (lwg (lwt_0 (List.mem_of_getElem? (i := 0) rfl)) rfl)⟩
set_option maxRecDepth 20000 in
theorem mok_8 : mOK 8 := ⟨(lwg (lwt_3 (List.mem_of_getElem? (i := 91) rfl)) rfl), (lwg (lwt_3 (List.mem_of_getElem? (i := 90) rfl)) rfl), Or.inr (lwg (lwt_0 (List.mem_of_getElem? (i := 24) rfl)) rfl)⟩
set_option maxRecDepth 20000 in
theorem mok_9 : mOK 9 := ⟨(lwg (lwt_3 (List.mem_of_getElem? (i := 100) rfl)) rfl), (lwg (lwt_3 (List.mem_of_getElem? (i := 98) rfl)) rfl), Or.inr (lwg (lwt_3 (List.mem_of_getElem? (i := 99) rfl)) rfl)⟩
set_option maxRecDepth 20000 in
theorem mok_10 : mOK 10 := ⟨(lwg (lwt_3 (List.mem_of_getElem? (i := 114) rfl)) rfl), (lwg (lwt_3 (List.mem_of_getElem? (i := 112) rfl)) rfl), Or.inr (lwg (lwt_3 (List.mem_of_getElem? (i := 113) rfl)) rfl)⟩
set_option maxRecDepth 20000 in
theorem mok_11 : mOK 11 := ⟨(lwg (lwt_3 (List.mem_of_getElem? (i := 195) rfl)) rfl), (lwg (lwt_3 (List.mem_of_getElem? (i := 193) rfl)) rfl), Or.inr (lwg (lwt_3 (List.mem_of_getElem? (i := 194) rfl)) rfl)⟩
set_option maxRecDepth 20000 in
theorem mok_12 : mOK 12 := ⟨(lwg (lwt_3 (List.mem_of_getElem? (i := 202) rfl)) rfl), (lwg (lwt_3 (List.mem_of_getElem? (i := 200) rfl)) rfl), Or.inr (lwg (lwt_3 (List.mem_of_getElem? (i := 201) rfl)) rfl)⟩
set_option maxRecDepth 20000 in
theorem mok_13 : mOK 13 := ⟨(lwg (lwt_3 (List.mem_of_getElem? (i := 206) rfl)) rfl), (lwg (lwt_3 (List.mem_of_getElem? (i := 204) rfl)) rfl), Or.inr (lwg (lwt_3 (List.mem_of_getElem? (i := 205) rfl)) rfl)⟩
set_option maxRecDepth 20000 in
theorem mok_14 : mOK 14 := ⟨(lwg (lwt_3 (List.mem_of_getElem? (i := 229) rfl)) rfl), (lwg (lwt_3 (List.mem_of_getElem? (i := 227) rfl)) rfl), Or.inr (lwg (lwt_3 (List.mem_of_getElem? (i := 228) rfl)) rfl)⟩
set_option maxRecDepth 20000 in
theorem mok_15 : mOK 15 := ⟨(lwg (lwt_3 (List.mem_of_getElem? (i := 104) rfl)) rfl), (lwg (lwt_3 (List.mem_of_getElem? (i := 103) rfl)) rfl), Or.inr (lwg (lwt_0 (List.mem_of_getElem? (i := 25) rfl)) rfl)⟩
set_option maxRecDepth 20000 in
theorem mok_16 : mOK 16 := ⟨(lwg (lwt_3 (List.mem_of_getElem? (i := 118) rfl)) rfl), (lwg (lwt_3 (List.mem_of_getElem? (i := 117) rfl)) rfl), Or.inr (lwg (lwt_0 (List.mem_of_getElem? (i := 26) rfl)) rfl)⟩
set_option maxRecDepth 20000 in
theorem mok_17 : mOK 17 := ⟨(lwg (lwt_3 (List.mem_of_getElem? (i := 233) rfl)) rfl), (lwg (lwt_3 (List.mem_of_getElem? (i := 232) rfl)) rfl), Or.inr (lwg (lwt_0 (List.mem_of_getElem? (i := 36) rfl)) rfl)⟩
set_option maxRecDepth 20000 in
theorem mok_18 : mOK 18 := ⟨(lwg (lwt_3 (List.mem_of_getElem? (i := 198) rfl)) rfl), (lwg (lwt_3 (List.mem_of_getElem? (i := 197) rfl)) rfl)⟩
set_option maxRecDepth 20000 in
theorem mok_19 : mOK 19 := ⟨(lwg (lwt_3 (List.mem_of_getElem? (i := 217) rfl)) rfl), (lwg (lwt_3 (List.mem_of_getElem? (i := 216) rfl)) rfl)⟩
set_option maxRecDepth 20000 in
theorem mok_20 : mOK 20 := ⟨(lwg (lwt_3 (List.mem_of_getElem? (i := 210) rfl)) rfl), (lwg (lwt_3 (List.mem_of_getElem? (i := 209) rfl)) rfl), Or.inr (lwg (lwt_0 (List.mem_of_getElem? (i := 34) rfl)) rfl)⟩
set_option maxRecDepth 20000 in
theorem mok_21 : mOK 21 := ⟨(lwg (lwt_3 (List.mem_of_getElem? (i := 221) rfl)) rfl), (lwg (lwt_3 (List.mem_of_getElem? (i := 220) rfl)) rfl), Or.inr (lwg (lwt_0 (List.mem_of_getElem? (i := 35) rfl)) rfl)⟩
set_option maxRecDepth 20000 in
theorem mok_22 : mOK 22 := ⟨(lwg (lwt_3 (List.mem_of_getElem? (i := 125) rfl)) rfl), (lwg (lwt_3 (List.mem_of_getElem? (i := 124) rfl)) rfl)⟩
set_option maxRecDepth 20000 in
theorem mok_23 : mOK 23 := ⟨(lwg (lwt_3 (List.mem_of_getElem? (i := 187) rfl)) rfl), (lwg (lwt_3 (List.mem_of_getElem? (i := 186) rfl)) rfl), Or.inr (lwg (lwt_0 (List.mem_of_getElem? (i := 33) rfl)) rfl)⟩
set_option maxRecDepth 20000 in
theorem mok_24 : mOK 24 := ⟨(lwg (lwt_3 (List.mem_of_getElem? (i := 238) rfl)) rfl), (lwg (lwt_3 (List.mem_of_getElem? (i := 236) rfl)) rfl), Or.inr (lwg (lwt_3 (List.mem_of_getElem? (i := 237) rfl)) rfl)⟩
set_option maxRecDepth 20000 in
theorem mok_25 : mOK 25 := ⟨(lwg (lwt_4 (List.mem_of_getElem? (i := 20) rfl)) rfl), (lwg (lwt_4 (List.mem_of_getElem? (i := 18) rfl)) rfl), Or.inr (lwg (lwt_4 (List.mem_of_getElem? (i := 19) rfl)) rfl)⟩
set_option maxRecDepth 20000 in
theorem mok_26 : mOK 26 := ⟨(lwg (lwt_4 (List.mem_of_getElem? (i := 28) rfl)) rfl), (lwg (lwt_4 (List.mem_of_getElem? (i := 26) rfl)) rfl), Or.inr (lwg (lwt_4 (List.mem_of_getElem? (i := 27) rfl)) rfl)⟩
set_option maxRecDepth 20000 in
theorem mok_27 : mOK 27 := ⟨(lwg (lwt_4 (List.mem_of_getElem? (i := 2) rfl)) rfl), (lwg (lwt_4 (List.mem_of_getElem? (i := 1) rfl)) rfl), Or.inr (lwg (lwt_0 (List.mem_of_getElem? (i := 37) rfl)) rfl)⟩
set_option maxRecDepth 20000 in
theorem mok_28 : mOK 28 := ⟨(lwg (lwt_4 (List.mem_of_getElem? (i := 6) rfl)) rfl), (lwg (lwt_4 (List.mem_of_getElem? (i := 5) rfl)) rfl), Or.inr (lwg (lwt_0 (List.mem_of_getElem? (i := 38) rfl)) rfl)⟩
set_option maxRecDepth 20000 in
theorem mok_29 : mOK 29 := ⟨(lwg (lwt_3 (List.mem_of_getElem? (i := 31) rfl)) rfl), (lwg (lwt_3 (List.mem_of_getElem? (i := 30) rfl)) rfl)⟩
set_option maxRecDepth 20000 in
theorem mok_30 : mOK 30 := ⟨(lwg (lwt_4 (List.mem_of_getElem? (i := 33) rfl)) rfl), (lwg (lwt_4 (List.mem_of_getElem? (i := 31) rfl)) rfl), Or.inr (lwg (lwt_4 (List.mem_of_getElem? (i := 32) rfl)) rfl)⟩
set_option maxRecDepth 20000 in
theorem mok_31 : mOK 31 := ⟨(lwg (lwt_4 (List.mem_of_getElem? (i := 41) rfl)) rfl), (lwg (lwt_4 (List.mem_of_getElem? (i := 39) rfl)) rfl), Or.inr (lwg (lwt_4 (List.mem_of_getElem? (i := 40) rfl)) rfl)⟩
set_option maxRecDepth 20000 in
theorem mok_32 : mOK 32 := ⟨(lwg (lwt_4 (List.mem_of_getElem? (i := 45) rfl)) rfl), (lwg (lwt_4 (List.mem_of_getElem? (i := 43) rfl)) rfl), Or.inr (lwg (lwt_4 (List.mem_of_getElem? (i := 44) rfl)) rfl)⟩
set_option maxRecDepth 20000 in
theorem mok_33 : mOK 33 := ⟨(lwg (lwt_4 (List.mem_of_getElem? (i := 49) rfl)) rfl), (lwg (lwt_4 (List.mem_of_getElem? (i := 48) rfl)) rfl), Or.inr (lwg (lwt_0 (List.mem_of_getElem? (i := 39) rfl)) rfl)⟩
set_option maxRecDepth 20000 in
theorem mok_34 : mOK 34 := ⟨(lwg (lwt_4 (List.mem_of_getElem? (i := 57) rfl)) rfl), (lwg (lwt_4 (List.mem_of_getElem? (i := 56) rfl)) rfl), Or.inr (lwg (lwt_0 (List.mem_of_getElem? (i := 40) rfl)) rfl)⟩
set_option maxRecDepth 20000 in
theorem mok_35 : mOK 35 := ⟨(lwg (lwt_4 (List.mem_of_getElem? (i := 61) rfl)) rfl), (lwg (lwt_4 (List.mem_of_getElem? (i := 59) rfl)) rfl), Or.inr (lwg (lwt_4 (List.mem_of_getElem? (i := 60) rfl)) rfl)⟩
set_option maxRecDepth 20000 in
theorem mok_36 : mOK 36 := ⟨(lwg (lwt_4 (List.mem_of_getElem? (i := 78) rfl)) rfl), (lwg (lwt_4 (List.mem_of_getElem? (i := 76) rfl)) rfl), Or.inr (lwg (lwt_4 (List.mem_of_getElem? (i := 77) rfl)) rfl)⟩
set_option maxRecDepth 20000 in
theorem mok_37 : mOK 37 := ⟨(lwg (lwt_4 (List.mem_of_getElem? (i := 82) rfl)) rfl), (lwg (lwt_4 (List.mem_of_getElem? (i := 80) rfl)) rfl), Or.inr (lwg (lwt_4 (List.mem_of_getElem? (i := 81) rfl)) rfl)⟩
set_option maxRecDepth 20000 in
theorem mok_38 : mOK 38 := ⟨(lwg (lwt_4 (List.mem_of_getElem? (i := 106) rfl)) rfl), (lwg (lwt_4 (List.mem_of_getElem? (i := 104) rfl)) rfl), Or.inr (lwg (lwt_4 (List.mem_of_getElem? (i := 105) rfl)) rfl)⟩
set_option maxRecDepth 20000 in
theorem mok_39 : mOK 39 := ⟨(lwg (lwt_4 (List.mem_of_getElem? (i := 114) rfl)) rfl), (lwg (lwt_4 (List.mem_of_getElem? (i := 113) rfl)) rfl), Or.inr (lwg (lwt_0 (List.mem_of_getElem? (i := 44) rfl)) rfl)⟩
set_option maxRecDepth 20000 in
theorem mok_40 : mOK 40 := ⟨(lwg (lwt_4 (List.mem_of_getElem? (i := 86) rfl)) rfl), (lwg (lwt_4 (List.mem_of_getElem? (i := 85) rfl)) rfl), Or.inr (lwg (lwt_0 (List.mem_of_getElem? (i := 41) rfl)) rfl)⟩
set_option maxRecDepth 20000 in
theorem mok_41 : mOK 41 := ⟨(lwg (lwt_4 (List.mem_of_getElem? (i := 90) rfl)) rfl), (lwg (lwt_4 (List.mem_of_getElem? (i := 89) rfl)) rfl), Or.inr (lwg (lwt_0 (List.mem_of_getElem? (i := 42) rfl)) rfl)⟩
set_option maxRecDepth 20000 in
theorem mok_42 : mOK 42 := ⟨(lwg (lwt_4 (List.mem_of_getElem? (i := 120) rfl)) rfl), (lwg (lwt_4 (List.mem_of_getElem? (i := 119) rfl)) rfl), Or.inl rfl⟩
set_option maxRecDepth 20000 in
theorem mok_43 : mOK 43 := ⟨(lwg (lwt_5 (List.mem_of_getElem? (i := 79) rfl)) rfl), (lwg (lwt_5 (List.mem_of_getElem? (i := 78) rfl)) rfl)⟩
set_option maxRecDepth 20000 in
theorem mok_44 : mOK 44 := ⟨(lwg (lwt_5 (List.mem_of_getElem? (i := 143) rfl)) rfl), (lwg (lwt_5 (List.mem_of_getElem? (i := 142) rfl)) rfl)⟩
set_option maxRecDepth 20000 in
theorem mok_45 : mOK 45 := ⟨(lwg (lwt_5 (List.mem_of_getElem? (i := 218) rfl)) rfl), (lwg (lwt_5 (List.mem_of_getElem? (i := 217) rfl)) rfl)⟩
set_option maxRecDepth 20000 in
theorem mok_46 : mOK 46 := ⟨(lwg (lwt_5 (List.mem_of_getElem? (i := 136) rfl)) rfl), (lwg (lwt_5 (List.mem_of_getElem? (i := 135) rfl)) rfl)⟩
set_option maxRecDepth 20000 in
theorem mok_47 : mOK 47 := ⟨(lwg (lwt_5 (List.mem_of_getElem? (i := 125) rfl)) rfl), (lwg (lwt_5 (List.mem_of_getElem? (i := 124) rfl)) rfl)⟩
set_option maxRecDepth 20000 in
theorem mok_48 : mOK 48 := ⟨(lwg (lwt_5 (List.mem_of_getElem? (i := 76) rfl)) rfl), (lwg (lwt_5 (List.mem_of_getElem? (i := 74) rfl)) rfl), Or.inr (lwg (lwt_5 (List.mem_of_getElem? (i := 75) rfl)) rfl)⟩
set_option maxRecDepth 20000 in
theorem mok_49 : mOK 49 := ⟨(lwg (lwt_5 (List.mem_of_getElem? (i := 83) rfl)) rfl), (lwg (lwt_5 (List.mem_of_getElem? (i := 81) rfl)) rfl), Or.inr (lwg (lwt_5 (List.mem_of_getElem? (i := 82) rfl)) rfl)⟩
set_option maxRecDepth 20000 in
theorem mok_50 : mOK 50 := ⟨(lwg (lwt_5 (List.mem_of_getElem? (i := 118) rfl)) rfl), (lwg (lwt_5 (List.mem_of_getElem? (i := 117) rfl)) rfl)⟩
set_option maxRecDepth 20000 in
theorem mok_51 : mOK 51 := ⟨(lwg (lwt_5 (List.mem_of_getElem? (i := 103) rfl)) rfl), (lwg (lwt_5 (List.mem_of_getElem? (i := 102) rfl)) rfl), Or.inr (lwg (lwt_0 (List.mem_of_getElem? (i := 48) rfl)) rfl)⟩
set_option maxRecDepth 20000 in
theorem mok_52 : mOK 52 := ⟨(lwg (lwt_5 (List.mem_of_getElem? (i := 107) rfl)) rfl), (lwg (lwt_5 (List.mem_of_getElem? (i := 106) rfl)) rfl), Or.inr (lwg (lwt_0 (List.mem_of_getElem? (i := 49) rfl)) rfl)⟩
set_option maxRecDepth 20000 in
theorem mok_53 : mOK 53 := ⟨(lwg (lwt_5 (List.mem_of_getElem? (i := 111) rfl)) rfl), (lwg (lwt_5 (List.mem_of_getElem? (i := 110) rfl)) rfl), Or.inr (lwg (lwt_0 (List.mem_of_getElem? (i := 50) rfl)) rfl)⟩
set_option maxRecDepth 20000 in
theorem mok_54 : mOK 54 := ⟨(lwg (lwt_5 (List.mem_of_getElem? (i := 99) rfl)) rfl), (lwg (lwt_5 (List.mem_of_getElem? (i := 98) rfl)) rfl), Or.inr (lwg (lwt_0 (List.mem_of_getElem? (i := 47) rfl)) rfl)⟩
set_option maxRecDepth 20000 in
theorem mok_55 : mOK 55 := ⟨(lwg (lwt_5 (List.mem_of_getElem? (i := 95) rfl)) rfl), (lwg (lwt_5 (List.mem_of_getElem? (i := 94) rfl)) rfl), Or.inr (lwg (lwt_0 (List.mem_of_getElem? (i := 46) rfl)) rfl)⟩
set_option maxRecDepth 20000 in
theorem mok_56 : mOK 56 := ⟨(lwg (lwt_5 (List.mem_of_getElem? (i := 122) rfl)) rfl), (lwg (lwt_5 (List.mem_of_getElem? (i := 121) rfl)) rfl), Or.inr (lwg (lwt_0 (List.mem_of_getElem? (i := 52) rfl)) rfl)⟩
set_option maxRecDepth 20000 in
theorem mok_57 : mOK 57 := ⟨(lwg (lwt_5 (List.mem_of_getElem? (i := 133) rfl)) rfl), (lwg (lwt_5 (List.mem_of_getElem? (i := 132) rfl)) rfl), Or.inr (lwg (lwt_0 (List.mem_of_getElem? (i := 54) rfl)) rfl)⟩
set_option maxRecDepth 20000 in
theorem mok_58 : mOK 58 := ⟨(lwg (lwt_5 (List.mem_of_getElem? (i := 129) rfl)) rfl), (lwg (lwt_5 (List.mem_of_getElem? (i := 128) rfl)) rfl), Or.inr (lwg (lwt_0 (List.mem_of_getElem? (i := 53) rfl)) rfl)⟩
set_option maxRecDepth 20000 in
theorem mok_59 : mOK 59 := ⟨(lwg (lwt_5 (List.mem_of_getElem? (i := 115) rfl)) rfl), (lwg (lwt_5 (List.mem_of_getElem? (i := 114) rfl)) rfl), Or.inr (lwg (lwt_0 (List.mem_of_getElem? (i := 51) rfl)) rfl)⟩
set_option maxRecDepth 20000 in
theorem mok_60 : mOK 60 := ⟨(lwg (lwt_5 (List.mem_of_getElem? (i := 91) rfl)) rfl), (lwg (lwt_5 (List.mem_of_getElem? (i := 90) rfl)) rfl), Or.inr (lwg (lwt_0 (List.mem_of_getElem? (i := 45) rfl)) rfl)⟩
set_option maxRecDepth 20000 in
theorem mok_61 : mOK 61 := ⟨(lwg (lwt_5 (List.mem_of_getElem? (i := 87) rfl)) rfl), (lwg (lwt_5 (List.mem_of_getElem? (i := 85) rfl)) rfl), Or.inr (lwg (lwt_5 (List.mem_of_getElem? (i := 86) rfl)) rfl)⟩
set_option maxRecDepth 20000 in
theorem mok_62 : mOK 62 := ⟨(lwg (lwt_5 (List.mem_of_getElem? (i := 140) rfl)) rfl), (lwg (lwt_5 (List.mem_of_getElem? (i := 138) rfl)) rfl), Or.inr (lwg (lwt_5 (List.mem_of_getElem? (i := 139) rfl)) rfl)⟩
set_option maxRecDepth 20000 in
theorem mok_63 : mOK 63 := ⟨(lwg (lwt_5 (List.mem_of_getElem? (i := 147) rfl)) rfl), (lwg (lwt_5 (List.mem_of_getElem? (i := 146) rfl)) rfl), Or.inr (lwg (lwt_0 (List.mem_of_getElem? (i := 55) rfl)) rfl)⟩
set_option maxRecDepth 20000 in
theorem mok_64 : mOK 64 := ⟨(lwg (lwt_5 (List.mem_of_getElem? (i := 159) rfl)) rfl), (lwg (lwt_5 (List.mem_of_getElem? (i := 158) rfl)) rfl), Or.inr (lwg (lwt_0 (List.mem_of_getElem? (i := 58) rfl)) rfl)⟩
set_option maxRecDepth 20000 in
theorem mok_65 : mOK 65 := ⟨(lwg (lwt_5 (List.mem_of_getElem? (i := 155) rfl)) rfl), (lwg (lwt_5 (List.mem_of_getElem? (i := 154) rfl)) rfl), Or.inr (lwg (lwt_0 (List.mem_of_getElem? (i := 57) rfl)) rfl)⟩
set_option maxRecDepth 20000 in
theorem mok_66 : mOK 66 := ⟨(lwg (lwt_6 (List.mem_of_getElem? (i := 94) rfl)) rfl), (lwg (lwt_6 (List.mem_of_getElem? (i := 93) rfl)) rfl), Or.inr (lwg (lwt_0 (List.mem_of_getElem? (i := 93) rfl)) rfl)⟩
set_option maxRecDepth 20000 in
theorem mok_67 : mOK 67 := ⟨(lwg (lwt_5 (List.mem_of_getElem? (i := 167) rfl)) rfl), (lwg (lwt_5 (List.mem_of_getElem? (i := 166) rfl)) rfl), Or.inr (lwg (lwt_0 (List.mem_of_getElem? (i := 60) rfl)) rfl)⟩
set_option maxRecDepth 20000 in
theorem mok_68 : mOK 68 := ⟨(lwg (lwt_5 (List.mem_of_getElem? (i := 163) rfl)) rfl), (lwg (lwt_5 (List.mem_of_getElem? (i := 162) rfl)) rfl), Or.inr (lwg (lwt_0 (List.mem_of_getElem? (i := 59) rfl)) rfl)⟩
set_option maxRecDepth 20000 in
theorem mok_69 : mOK 69 := ⟨(lwg (lwt_5 (List.mem_of_getElem? (i := 151) rfl)) rfl), (lwg (lwt_5 (List.mem_of_getElem? (i := 150) rfl)) rfl), Or.inr (lwg (lwt_0 (List.mem_of_getElem? (i := 56) rfl)) rfl)⟩
set_option maxRecDepth 20000 in
theorem mok_70 : mOK 70 := ⟨(lwg (lwt_5 (List.mem_of_getElem? (i := 203) rfl)) rfl), (lwg (lwt_5 (List.mem_of_getElem? (i := 202) rfl)) rfl), Or.inr (lwg (lwt_0 (List.mem_of_getElem? (i := 66) rfl)) rfl)⟩
set_option maxRecDepth 20000 in
theorem mok_71 : mOK 71 := ⟨(lwg (lwt_6 (List.mem_of_getElem? (i := 2) rfl)) rfl), (lwg (lwt_6 (List.mem_of_getElem? (i := 1) rfl)) rfl), Or.inr (lwg (lwt_0 (List.mem_of_getElem? (i := 74) rfl)) rfl)⟩
set_option maxRecDepth 20000 in
theorem mok_72 : mOK 72 := ⟨(lwg (lwt_6 (List.mem_of_getElem? (i := 10) rfl)) rfl), (lwg (lwt_6 (List.mem_of_getElem? (i := 9) rfl)) rfl), Or.inr (lwg (lwt_0 (List.mem_of_getElem? (i := 76) rfl)) rfl)⟩
set_option maxRecDepth 20000 in
theorem mok_73 : mOK 73 := ⟨(lwg (lwt_6 (List.mem_of_getElem? (i := 6) rfl)) rfl), (lwg (lwt_6 (List.mem_of_getElem? (i := 5) rfl)) rfl), Or.inr (lwg (lwt_0 (List.mem_of_getElem? (i := 75) rfl)) rfl)⟩
set_option maxRecDepth 20000 in
theorem mok_74 : mOK 74 := ⟨(lwg (lwt_6 (List.mem_of_getElem? (i := 14) rfl)) rfl), (lwg (lwt_6 (List.mem_of_getElem? (i := 13) rfl)) rfl), Or.inr (lwg (lwt_0 (List.mem_of_getElem? (i := 77) rfl)) rfl)⟩
set_option maxRecDepth 20000 in
theorem mok_75 : mOK 75 := ⟨(lwg (lwt_5 (List.mem_of_getElem? (i := 238) rfl)) rfl), (lwg (lwt_5 (List.mem_of_getElem? (i := 237) rfl)) rfl), Or.inr (lwg (lwt_0 (List.mem_of_getElem? (i := 73) rfl)) rfl)⟩
set_option maxRecDepth 20000 in
theorem mok_76 : mOK 76 := ⟨(lwg (lwt_5 (List.mem_of_getElem? (i := 230) rfl)) rfl), (lwg (lwt_5 (List.mem_of_getElem? (i := 229) rfl)) rfl), Or.inr (lwg (lwt_0 (List.mem_of_getElem? (i := 71) rfl)) rfl)⟩
set_option maxRecDepth 20000 in
theorem mok_77 : mOK 77 := ⟨(lwg (lwt_6 (List.mem_of_getElem? (i := 18) rfl)) rfl), (lwg (lwt_6 (List.mem_of_getElem? (i := 17) rfl)) rfl), Or.inr (lwg (lwt_0 (List.mem_of_getElem? (i := 78) rfl)) rfl)⟩
set_option maxRecDepth 20000 in
theorem mok_78 : mOK 78 := ⟨(lwg (lwt_5 (List.mem_of_getElem? (i := 234) rfl)) rfl), (lwg (lwt_5 (List.mem_of_getElem? (i := 233) rfl)) rfl), Or.inr (lwg (lwt_0 (List.mem_of_getElem? (i := 72) rfl)) rfl)⟩
set_option maxRecDepth 20000 in
theorem mok_79 : mOK 79 := ⟨(lwg (lwt_5 (List.mem_of_getElem? (i := 226) rfl)) rfl), (lwg (lwt_5 (List.mem_of_getElem? (i := 225) rfl)) rfl), Or.inr (lwg (lwt_0 (List.mem_of_getElem? (i := 70) rfl)) rfl)⟩
set_option maxRecDepth 20000 in
theorem mok_80 : mOK 80 := ⟨(lwg (lwt_6 (List.mem_of_getElem? (i := 110) rfl)) rfl), (lwg (lwt_6 (List.mem_of_getElem? (i := 109) rfl)) rfl), Or.inr (lwg (lwt_0 (List.mem_of_getElem? (i := 96) rfl)) rfl)⟩
set_option maxRecDepth 20000 in
theorem mok_81 : mOK 81 := ⟨(lwg (lwt_6 (List.mem_of_getElem? (i := 106) rfl)) rfl), (lwg (lwt_6 (List.mem_of_getElem? (i := 105) rfl)) rfl), Or.inr (lwg (lwt_0 (List.mem_of_getElem? (i := 95) rfl)) rfl)⟩
set_option maxRecDepth 20000 in
theorem mok_82 : mOK 82 := ⟨(lwg (lwt_6 (List.mem_of_getElem? (i := 114) rfl)) rfl), (lwg (lwt_6 (List.mem_of_getElem? (i := 113) rfl)) rfl), Or.inr (lwg (lwt_0 (List.mem_of_getElem? (i := 97) rfl)) rfl)⟩
set_option maxRecDepth 20000 in
theorem mok_83 : mOK 83 := ⟨(lwg (lwt_6 (List.mem_of_getElem? (i := 118) rfl)) rfl), (lwg (lwt_6 (List.mem_of_getElem? (i := 117) rfl)) rfl), Or.inr (lwg (lwt_0 (List.mem_of_getElem? (i := 98) rfl)) rfl)⟩
set_option maxRecDepth 20000 in
theorem mok_84 : mOK 84 := ⟨(lwg (lwt_6 (List.mem_of_getElem? (i := 126) rfl)) rfl), (lwg (lwt_6 (List.mem_of_getElem? (i := 125) rfl)) rfl), Or.inr (lwg (lwt_0 (List.mem_of_getElem? (i := 99) rfl)) rfl)⟩
set_option maxRecDepth 20000 in
theorem mok_85 : mOK 85 := ⟨(lwg (lwt_5 (List.mem_of_getElem? (i := 179) rfl)) rfl), (lwg (lwt_5 (List.mem_of_getElem? (i := 178) rfl)) rfl), Or.inr (lwg (lwt_0 (List.mem_of_getElem? (i := 61) rfl)) rfl)⟩
set_option maxRecDepth 20000 in
theorem mok_86 : mOK 86 := ⟨(lwg (lwt_5 (List.mem_of_getElem? (i := 195) rfl)) rfl), (lwg (lwt_5 (List.mem_of_getElem? (i := 194) rfl)) rfl), Or.inr (lwg (lwt_0 (List.mem_of_getElem? (i := 64) rfl)) rfl)⟩
set_option maxRecDepth 20000 in
theorem mok_87 : mOK 87 := ⟨(lwg (lwt_6 (List.mem_of_getElem? (i := 90) rfl)) rfl), (lwg (lwt_6 (List.mem_of_getElem? (i := 89) rfl)) rfl), Or.inr (lwg (lwt_0 (List.mem_of_getElem? (i := 92) rfl)) rfl)⟩
set_option maxRecDepth 20000 in
theorem mok_88 : mOK 88 := ⟨(lwg (lwt_5 (List.mem_of_getElem? (i := 171) rfl)) rfl), (lwg (lwt_5 (List.mem_of_getElem? (i := 169) rfl)) rfl), Or.inr (lwg (lwt_5 (List.mem_of_getElem? (i := 170) rfl)) rfl)⟩
set_option maxRecDepth 20000 in
theorem mok_89 : mOK 89 := ⟨(lwg (lwt_5 (List.mem_of_getElem? (i := 187) rfl)) rfl), (lwg (lwt_5 (List.mem_of_getElem? (i := 186) rfl)) rfl), Or.inr (lwg (lwt_0 (List.mem_of_getElem? (i := 63) rfl)) rfl)⟩
set_option maxRecDepth 20000 in
theorem mok_90 : mOK 90 := ⟨(lwg (lwt_5 (List.mem_of_getElem? (i := 183) rfl)) rfl), (lwg (lwt_5 (List.mem_of_getElem? (i := 182) rfl)) rfl), Or.inr (lwg (lwt_0 (List.mem_of_getElem? (i := 62) rfl)) rfl)⟩
set_option maxRecDepth 20000 in
theorem mok_91 : mOK 91 := ⟨(lwg (lwt_5 (List.mem_of_getElem? (i := 175) rfl)) rfl), (lwg (lwt_5 (List.mem_of_getElem? (i := 173) rfl)) rfl), Or.inr (lwg (lwt_5 (List.mem_of_getElem? (i := 174) rfl)) rfl)⟩
set_option maxRecDepth 20000 in
theorem mok_92 : mOK 92 := ⟨(lwg (lwt_6 (List.mem_of_getElem? (i := 22) rfl)) rfl), (lwg (lwt_6 (List.mem_of_getElem? (i := 21) rfl)) rfl), Or.inr (lwg (lwt_0 (List.mem_of_getElem? (i := 79) rfl)) rfl)⟩
set_option maxRecDepth 20000 in
theorem mok_93 : mOK 93 := ⟨(lwg (lwt_5 (List.mem_of_getElem? (i := 222) rfl)) rfl), (lwg (lwt_5 (List.mem_of_getElem? (i := 221) rfl)) rfl), Or.inr (lwg (lwt_0 (List.mem_of_getElem? (i := 69) rfl)) rfl)⟩
set_option maxRecDepth 20000 in
theorem mok_94 : mOK 94 := ⟨(lwg (lwt_5 (List.mem_of_getElem? (i := 199) rfl)) rfl), (lwg (lwt_5 (List.mem_of_getElem? (i := 198) rfl)) rfl), Or.inr (lwg (lwt_0 (List.mem_of_getElem? (i := 65) rfl)) rfl)⟩
set_option maxRecDepth 20000 in
theorem mok_95 : mOK 95 := ⟨(lwg (lwt_5 (List.mem_of_getElem? (i := 191) rfl)) rfl), (lwg (lwt_5 (List.mem_of_getElem? (i := 189) rfl)) rfl), Or.inr (lwg (lwt_5 (List.mem_of_getElem? (i := 190) rfl)) rfl)⟩
set_option maxRecDepth 20000 in
theorem mok_96 : mOK 96 := ⟨(lwg (lwt_6 (List.mem_of_getElem? (i := 26) rfl)) rfl), (lwg (lwt_6 (List.mem_of_getElem? (i := 24) rfl)) rfl), Or.inr (lwg (lwt_6 (List.mem_of_getElem? (i := 25) rfl)) rfl)⟩
set_option maxRecDepth 20000 in
theorem mok_97 : mOK 97 := ⟨(lwg (lwt_6 (List.mem_of_getElem? (i := 30) rfl)) rfl), (lwg (lwt_6 (List.mem_of_getElem? (i := 28) rfl)) rfl), Or.inr (lwg (lwt_6 (List.mem_of_getElem? (i := 29) rfl)) rfl)⟩
set_option maxRecDepth 20000 in
theorem mok_98 : mOK 98 := ⟨(lwg (lwt_6 (List.mem_of_getElem? (i := 58) rfl)) rfl), (lwg (lwt_6 (List.mem_of_getElem? (i := 57) rfl)) rfl), Or.inr (lwg (lwt_0 (List.mem_of_getElem? (i := 85) rfl)) rfl)⟩
set_option maxRecDepth 20000 in
theorem mok_99 : mOK 99 := ⟨(lwg (lwt_6 (List.mem_of_getElem? (i := 62) rfl)) rfl), (lwg (lwt_6 (List.mem_of_getElem? (i := 61) rfl)) rfl), Or.inr (lwg (lwt_0 (List.mem_of_getElem? (i := 86) rfl)) rfl)⟩
set_option maxRecDepth 20000 in
theorem mok_100 : mOK 100 := ⟨(lwg (lwt_6 (List.mem_of_getElem? (i := 54) rfl)) rfl), (lwg (lwt_6 (List.mem_of_getElem? (i := 53) rfl)) rfl), Or.inr (lwg (lwt_0 (List.mem_of_getElem? (i := 84) rfl)) rfl)⟩
set_option maxRecDepth 20000 in
theorem mok_101 : mOK 101 := ⟨(lwg (lwt_6 (List.mem_of_getElem? (i := 74) rfl)) rfl), (lwg (lwt_6 (List.mem_of_getElem? (i := 73) rfl)) rfl), Or.inr (lwg (lwt_0 (List.mem_of_getElem? (i := 89) rfl)) rfl)⟩
set_option maxRecDepth 20000 in
theorem mok_102 : mOK 102 := ⟨(lwg (lwt_6 (List.mem_of_getElem? (i := 70) rfl)) rfl), (lwg (lwt_6 (List.mem_of_getElem? (i := 69) rfl)) rfl), Or.inr (lwg (lwt_0 (List.mem_of_getElem? (i := 88) rfl)) rfl)⟩
set_option maxRecDepth 20000 in
theorem mok_103 : mOK 103 := ⟨(lwg (lwt_6 (List.mem_of_getElem? (i := 50) rfl)) rfl), (lwg (lwt_6 (List.mem_of_getElem? (i := 49) rfl)) rfl), Or.inr (lwg (lwt_0 (List.mem_of_getElem? (i := 83) rfl)) rfl)⟩
set_option maxRecDepth 20000 in
theorem mok_104 : mOK 104 := ⟨(lwg (lwt_6 (List.mem_of_getElem? (i := 66) rfl)) rfl), (lwg (lwt_6 (List.mem_of_getElem? (i := 65) rfl)) rfl), Or.inr (lwg (lwt_0 (List.mem_of_getElem? (i := 87) rfl)) rfl)⟩
set_option maxRecDepth 20000 in
theorem mok_105 : mOK 105 := ⟨(lwg (lwt_6 (List.mem_of_getElem? (i := 46) rfl)) rfl), (lwg (lwt_6 (List.mem_of_getElem? (i := 45) rfl)) rfl), Or.inr (lwg (lwt_0 (List.mem_of_getElem? (i := 82) rfl)) rfl)⟩
set_option maxRecDepth 20000 in
theorem mok_106 : mOK 106 := ⟨(lwg (lwt_6 (List.mem_of_getElem? (i := 42) rfl)) rfl), (lwg (lwt_6 (List.mem_of_getElem? (i := 41) rfl)) rfl), Or.inr (lwg (lwt_0 (List.mem_of_getElem? (i := 81) rfl)) rfl)⟩
set_option maxRecDepth 20000 in
theorem mok_107 : mOK 107 := ⟨(lwg (lwt_6 (List.mem_of_getElem? (i := 82) rfl)) rfl), (lwg (lwt_6 (List.mem_of_getElem? (i := 81) rfl)) rfl), Or.inr (lwg (lwt_0 (List.mem_of_getElem? (i := 91) rfl)) rfl)⟩
set_option maxRecDepth 20000 in
theorem mok_108 : mOK 108 := ⟨(lwg (lwt_6 (List.mem_of_getElem? (i := 78) rfl)) rfl), (lwg (lwt_6 (List.mem_of_getElem? (i := 77) rfl)) rfl), Or.inr (lwg (lwt_0 (List.mem_of_getElem? (i := 90) rfl)) rfl)⟩
set_option maxRecDepth 20000 in
theorem mok_109 : mOK 109 := ⟨(lwg (lwt_6 (List.mem_of_getElem? (i := 38) rfl)) rfl), (lwg (lwt_6 (List.mem_of_getElem? (i := 37) rfl)) rfl), Or.inr (lwg (lwt_0 (List.mem_of_getElem? (i := 80) rfl)) rfl)⟩
set_option maxRecDepth 20000 in
theorem mok_110 : mOK 110 := ⟨(lwg (lwt_6 (List.mem_of_getElem? (i := 34) rfl)) rfl), (lwg (lwt_6 (List.mem_of_getElem? (i := 32) rfl)) rfl), Or.inr (lwg (lwt_6 (List.mem_of_getElem? (i := 33) rfl)) rfl)⟩
set_option maxRecDepth 20000 in
theorem mok_111 : mOK 111 := ⟨(lwg (lwt_6 (List.mem_of_getElem? (i := 86) rfl)) rfl), (lwg (lwt_6 (List.mem_of_getElem? (i := 84) rfl)) rfl), Or.inr (lwg (lwt_6 (List.mem_of_getElem? (i := 85) rfl)) rfl)⟩
set_option maxRecDepth 20000 in
theorem mok_112 : mOK 112 := ⟨(lwg (lwt_6 (List.mem_of_getElem? (i := 102) rfl)) rfl), (lwg (lwt_6 (List.mem_of_getElem? (i := 101) rfl)) rfl), Or.inr (lwg (lwt_0 (List.mem_of_getElem? (i := 94) rfl)) rfl)⟩
set_option maxRecDepth 20000 in
theorem mok_113 : mOK 113 := ⟨(lwg (lwt_6 (List.mem_of_getElem? (i := 98) rfl)) rfl), (lwg (lwt_6 (List.mem_of_getElem? (i := 96) rfl)) rfl), Or.inr (lwg (lwt_6 (List.mem_of_getElem? (i := 97) rfl)) rfl)⟩
set_option maxRecDepth 20000 in
theorem mok_114 : mOK 114 := ⟨(lwg (lwt_6 (List.mem_of_getElem? (i := 122) rfl)) rfl), (lwg (lwt_6 (List.mem_of_getElem? (i := 120) rfl)) rfl), Or.inr (lwg (lwt_6 (List.mem_of_getElem? (i := 121) rfl)) rfl)⟩
set_option maxRecDepth 20000 in
theorem mok_115 : mOK 115 := ⟨(lwg (lwt_6 (List.mem_of_getElem? (i := 130) rfl)) rfl), (lwg (lwt_6 (List.mem_of_getElem? (i := 128) rfl)) rfl), Or.inr (lwg (lwt_6 (List.mem_of_getElem? (i := 129) rfl)) rfl)⟩
set_option maxRecDepth 20000 in
theorem mok_116 : mOK 116 := ⟨(lwg (lwt_5 (List.mem_of_getElem? (i := 210) rfl)) rfl), (lwg (lwt_5 (List.mem_of_getElem? (i := 209) rfl)) rfl)⟩
set_option maxRecDepth 20000 in
theorem mok_117 : mOK 117 := ⟨(lwg (lwt_6 (List.mem_of_getElem? (i := 134) rfl)) rfl), (lwg (lwt_6 (List.mem_of_getElem? (i := 132) rfl)) rfl), Or.inr (lwg (lwt_6 (List.mem_of_getElem? (i := 133) rfl)) rfl)⟩
set_option maxRecDepth 20000 in
theorem mok_118 : mOK 118 := ⟨(lwg (lwt_6 (List.mem_of_getElem? (i := 138) rfl)) rfl), (lwg (lwt_6 (List.mem_of_getElem? (i := 136) rfl)) rfl), Or.inr (lwg (lwt_6 (List.mem_of_getElem? (i := 137) rfl)) rfl)⟩
set_option maxRecDepth 20000 in
theorem mok_119 : mOK 119 := ⟨(lwg (lwt_5 (List.mem_of_getElem? (i := 207) rfl)) rfl), (lwg (lwt_5 (List.mem_of_getElem? (i := 206) rfl)) rfl), Or.inr (lwg (lwt_0 (List.mem_of_getElem? (i := 67) rfl)) rfl)⟩
set_option maxRecDepth 20000 in
theorem mok_120 : mOK 120 := ⟨(lwg (lwt_5 (List.mem_of_getElem? (i := 214) rfl)) rfl), (lwg (lwt_5 (List.mem_of_getElem? (i := 213) rfl)) rfl), Or.inr (lwg (lwt_0 (List.mem_of_getElem? (i := 68) rfl)) rfl)⟩
set_option maxRecDepth 20000 in
theorem mok_121 : mOK 121 := ⟨(lwg (lwt_6 (List.mem_of_getElem? (i := 150) rfl)) rfl), (lwg (lwt_6 (List.mem_of_getElem? (i := 149) rfl)) rfl), Or.inr (lwg (lwt_0 (List.mem_of_getElem? (i := 101) rfl)) rfl)⟩
set_option maxRecDepth 20000 in
theorem mok_122 : mOK 122 := ⟨(lwg (lwt_6 (List.mem_of_getElem? (i := 161) rfl)) rfl), (lwg (lwt_6 (List.mem_of_getElem? (i := 160) rfl)) rfl)⟩
set_option maxRecDepth 20000 in
theorem mok_123 : mOK 123 := ⟨(lwg (lwt_6 (List.mem_of_getElem? (i := 165) rfl)) rfl), (lwg (lwt_6 (List.mem_of_getElem? (i := 164) rfl)) rfl), Or.inr (lwg (lwt_0 (List.mem_of_getElem? (i := 103) rfl)) rfl)⟩
set_option maxRecDepth 20000 in
theorem mok_124 : mOK 124 := ⟨(lwg (lwt_6 (List.mem_of_getElem? (i := 158) rfl)) rfl), (lwg (lwt_6 (List.mem_of_getElem? (i := 157) rfl)) rfl), Or.inr (lwg (lwt_0 (List.mem_of_getElem? (i := 102) rfl)) rfl)⟩
set_option maxRecDepth 20000 in
theorem mok_125 : mOK 125 := ⟨(lwg (lwt_6 (List.mem_of_getElem? (i := 146) rfl)) rfl), (lwg (lwt_6 (List.mem_of_getElem? (i := 145) rfl)) rfl), Or.inr (lwg (lwt_0 (List.mem_of_getElem? (i := 100) rfl)) rfl)⟩
set_option maxRecDepth 20000 in
theorem mok_126 : mOK 126 := ⟨(lwg (lwt_6 (List.mem_of_getElem? (i := 142) rfl)) rfl), (lwg (lwt_6 (List.mem_of_getElem? (i := 140) rfl)) rfl), Or.inr (lwg (lwt_6 (List.mem_of_getElem? (i := 141) rfl)) rfl)⟩
set_option maxRecDepth 20000 in
theorem mok_127 : mOK 127 := ⟨(lwg (lwt_6 (List.mem_of_getElem? (i := 173) rfl)) rfl), (lwg (lwt_6 (List.mem_of_getElem? (i := 172) rfl)) rfl), Or.inr (lwg (lwt_0 (List.mem_of_getElem? (i := 104) rfl)) rfl)⟩
set_option maxRecDepth 20000 in
theorem mok_128 : mOK 128 := ⟨(lwg (lwt_6 (List.mem_of_getElem? (i := 169) rfl)) rfl), (lwg (lwt_6 (List.mem_of_getElem? (i := 167) rfl)) rfl), Or.inr (lwg (lwt_6 (List.mem_of_getElem? (i := 168) rfl)) rfl)⟩
set_option maxRecDepth 20000 in
theorem mok_129 : mOK 129 := ⟨(lwg (lwt_6 (List.mem_of_getElem? (i := 177) rfl)) rfl), (lwg (lwt_6 (List.mem_of_getElem? (i := 175) rfl)) rfl), Or.inr (lwg (lwt_6 (List.mem_of_getElem? (i := 176) rfl)) rfl)⟩
set_option maxRecDepth 20000 in
theorem mok_130 : mOK 130 := ⟨(lwg (lwt_6 (List.mem_of_getElem? (i := 189) rfl)) rfl), (lwg (lwt_6 (List.mem_of_getElem? (i := 188) rfl)) rfl), Or.inr (lwg (lwt_0 (List.mem_of_getElem? (i := 106) rfl)) rfl)⟩
set_option maxRecDepth 20000 in
theorem mok_131 : mOK 131 := ⟨(lwg (lwt_6 (List.mem_of_getElem? (i := 193) rfl)) rfl), (lwg (lwt_6 (List.mem_of_getElem? (i := 192) rfl)) rfl), Or.inr (lwg (lwt_0 (List.mem_of_getElem? (i := 107) rfl)) rfl)⟩
set_option maxRecDepth 20000 in
theorem mok_132 : mOK 132 := ⟨(lwg (lwt_6 (List.mem_of_getElem? (i := 197) rfl)) rfl), (lwg (lwt_6 (List.mem_of_getElem? (i := 196) rfl)) rfl), Or.inr (lwg (lwt_0 (List.mem_of_getElem? (i := 108) rfl)) rfl)⟩
set_option maxRecDepth 20000 in
theorem mok_133 : mOK 133 := ⟨(lwg (lwt_6 (List.mem_of_getElem? (i := 205) rfl)) rfl), (lwg (lwt_6 (List.mem_of_getElem? (i := 204) rfl)) rfl), Or.inr (lwg (lwt_0 (List.mem_of_getElem? (i := 110) rfl)) rfl)⟩
set_option maxRecDepth 20000 in
theorem mok_134 : mOK 134 := ⟨(lwg (lwt_6 (List.mem_of_getElem? (i := 201) rfl)) rfl), (lwg (lwt_6 (List.mem_of_getElem? (i := 200) rfl)) rfl), Or.inr (lwg (lwt_0 (List.mem_of_getElem? (i := 109) rfl)) rfl)⟩
set_option maxRecDepth 20000 in
theorem mok_135 : mOK 135 := ⟨(lwg (lwt_6 (List.mem_of_getElem? (i := 185) rfl)) rfl), (lwg (lwt_6 (List.mem_of_getElem? (i := 184) rfl)) rfl), Or.inr (lwg (lwt_0 (List.mem_of_getElem? (i := 105) rfl)) rfl)⟩
set_option maxRecDepth 20000 in
theorem mok_136 : mOK 136 := ⟨(lwg (lwt_6 (List.mem_of_getElem? (i := 181) rfl)) rfl), (lwg (lwt_6 (List.mem_of_getElem? (i := 179) rfl)) rfl), Or.inr (lwg (lwt_6 (List.mem_of_getElem? (i := 180) rfl)) rfl)⟩
set_option maxRecDepth 20000 in
theorem mok_137 : mOK 137 := ⟨(lwg (lwt_6 (List.mem_of_getElem? (i := 214) rfl)) rfl), (lwg (lwt_6 (List.mem_of_getElem? (i := 213) rfl)) rfl), Or.inr (lwg (lwt_0 (List.mem_of_getElem? (i := 111) rfl)) rfl)⟩
set_option maxRecDepth 20000 in
theorem mok_138 : mOK 138 := ⟨(lwg (lwt_6 (List.mem_of_getElem? (i := 219) rfl)) rfl), (lwg (lwt_6 (List.mem_of_getElem? (i := 218) rfl)) rfl), Or.inr (lwg (lwt_0 (List.mem_of_getElem? (i := 112) rfl)) rfl)⟩
set_option maxRecDepth 20000 in
theorem mok_139 : mOK 139 := ⟨(lwg (lwt_6 (List.mem_of_getElem? (i := 209) rfl)) rfl), (lwg (lwt_6 (List.mem_of_getElem? (i := 207) rfl)) rfl), Or.inr (lwg (lwt_6 (List.mem_of_getElem? (i := 208) rfl)) rfl)⟩
set_option maxRecDepth 20000 in
theorem mok_140 : mOK 140 := ⟨(lwg (lwt_1 (List.mem_of_getElem? (i := 26) rfl)) rfl), (lwg (lwt_1 (List.mem_of_getElem? (i := 25) rfl)) rfl), Or.inl rfl⟩
set_option maxRecDepth 20000 in
theorem mok_141 : mOK 141 := ⟨(lwg (lwt_2 (List.mem_of_getElem? (i := 127) rfl)) rfl), (lwg (lwt_2 (List.mem_of_getElem? (i := 125) rfl)) rfl), Or.inr (lwg (lwt_2 (List.mem_of_getElem? (i := 126) rfl)) rfl)⟩
set_option maxRecDepth 20000 in
theorem mok_142 : mOK 142 := ⟨(lwg (lwt_2 (List.mem_of_getElem? (i := 139) rfl)) rfl), (lwg (lwt_2 (List.mem_of_getElem? (i := 137) rfl)) rfl), Or.inr (lwg (lwt_2 (List.mem_of_getElem? (i := 138) rfl)) rfl)⟩
set_option maxRecDepth 20000 in
theorem mok_143 : mOK 143 := ⟨(lwg (lwt_2 (List.mem_of_getElem? (i := 143) rfl)) rfl), (lwg (lwt_2 (List.mem_of_getElem? (i := 141) rfl)) rfl), Or.inr (lwg (lwt_2 (List.mem_of_getElem? (i := 142) rfl)) rfl)⟩
set_option maxRecDepth 20000 in
theorem mok_144 : mOK 144 := ⟨(lwg (lwt_2 (List.mem_of_getElem? (i := 162) rfl)) rfl), (lwg (lwt_2 (List.mem_of_getElem? (i := 160) rfl)) rfl), Or.inr (lwg (lwt_2 (List.mem_of_getElem? (i := 161) rfl)) rfl)⟩
set_option maxRecDepth 20000 in
theorem mok_145 : mOK 145 := ⟨(lwg (lwt_2 (List.mem_of_getElem? (i := 235) rfl)) rfl), (lwg (lwt_2 (List.mem_of_getElem? (i := 233) rfl)) rfl), Or.inr (lwg (lwt_2 (List.mem_of_getElem? (i := 234) rfl)) rfl)⟩
set_option maxRecDepth 20000 in
theorem mok_146 : mOK 146 := ⟨(lwg (lwt_2 (List.mem_of_getElem? (i := 239) rfl)) rfl), (lwg (lwt_2 (List.mem_of_getElem? (i := 238) rfl)) rfl), Or.inr (lwg (lwt_0 (List.mem_of_getElem? (i := 11) rfl)) rfl)⟩
set_option maxRecDepth 20000 in
theorem mok_147 : mOK 147 := ⟨(lwg (lwt_3 (List.mem_of_getElem? (i := 3) rfl)) rfl), (lwg (lwt_3 (List.mem_of_getElem? (i := 2) rfl)) rfl), Or.inr (lwg (lwt_0 (List.mem_of_getElem? (i := 12) rfl)) rfl)⟩
set_option maxRecDepth 20000 in
theorem mok_148 : mOK 148 := ⟨(lwg (lwt_3 (List.mem_of_getElem? (i := 39) rfl)) rfl), (lwg (lwt_3 (List.mem_of_getElem? (i := 38) rfl)) rfl), Or.inr (lwg (lwt_0 (List.mem_of_getElem? (i := 16) rfl)) rfl)⟩
set_option maxRecDepth 20000 in
theorem mok_149 : mOK 149 := ⟨(lwg (lwt_3 (List.mem_of_getElem? (i := 225) rfl)) rfl), (lwg (lwt_3 (List.mem_of_getElem? (i := 223) rfl)) rfl), Or.inr (lwg (lwt_3 (List.mem_of_getElem? (i := 224) rfl)) rfl)⟩
set_option maxRecDepth 20000 in
theorem mok_150 : mOK 150 := ⟨(lwg (lwt_3 (List.mem_of_getElem? (i := 214) rfl)) rfl), (lwg (lwt_3 (List.mem_of_getElem? (i := 212) rfl)) rfl), Or.inr (lwg (lwt_3 (List.mem_of_getElem? (i := 213) rfl)) rfl)⟩
set_option maxRecDepth 20000 in
theorem mok_151 : mOK 151 := ⟨(lwg (lwt_3 (List.mem_of_getElem? (i := 170) rfl)) rfl), (lwg (lwt_3 (List.mem_of_getElem? (i := 168) rfl)) rfl), Or.inr (lwg (lwt_3 (List.mem_of_getElem? (i := 169) rfl)) rfl)⟩
set_option maxRecDepth 20000 in
theorem mok_152 : mOK 152 := ⟨(lwg (lwt_4 (List.mem_of_getElem? (i := 16) rfl)) rfl), (lwg (lwt_4 (List.mem_of_getElem? (i := 14) rfl)) rfl), Or.inr (lwg (lwt_4 (List.mem_of_getElem? (i := 15) rfl)) rfl)⟩
set_option maxRecDepth 20000 in
theorem mok_153 : mOK 153 := ⟨(lwg (lwt_3 (List.mem_of_getElem? (i := 35) rfl)) rfl), (lwg (lwt_3 (List.mem_of_getElem? (i := 34) rfl)) rfl), Or.inr (lwg (lwt_0 (List.mem_of_getElem? (i := 15) rfl)) rfl)⟩
set_option maxRecDepth 20000 in
theorem mok_154 : mOK 154 := ⟨(lwg (lwt_1 (List.mem_of_getElem? (i := 208) rfl)) rfl), (lwg (lwt_1 (List.mem_of_getElem? (i := 207) rfl)) rfl), Or.inl rfl⟩
set_option maxRecDepth 20000 in
theorem mok_155 : mOK 155 := ⟨(lwg (lwt_3 (List.mem_of_getElem? (i := 82) rfl)) rfl), (lwg (lwt_3 (List.mem_of_getElem? (i := 80) rfl)) rfl), Or.inr (lwg (lwt_3 (List.mem_of_getElem? (i := 81) rfl)) rfl)⟩
set_option maxRecDepth 20000 in
theorem mok_156 : mOK 156 := ⟨(lwg (lwt_4 (List.mem_of_getElem? (i := 65) rfl)) rfl), (lwg (lwt_4 (List.mem_of_getElem? (i := 63) rfl)) rfl), Or.inr (lwg (lwt_4 (List.mem_of_getElem? (i := 64) rfl)) rfl)⟩
set_option maxRecDepth 20000 in
theorem mok_157 : mOK 157 := ⟨(lwg (lwt_4 (List.mem_of_getElem? (i := 37) rfl)) rfl), (lwg (lwt_4 (List.mem_of_getElem? (i := 35) rfl)) rfl), Or.inr (lwg (lwt_4 (List.mem_of_getElem? (i := 36) rfl)) rfl)⟩
set_option maxRecDepth 20000 in
theorem mok_158 : mOK 158 := ⟨(lwg (lwt_3 (List.mem_of_getElem? (i := 122) rfl)) rfl), (lwg (lwt_3 (List.mem_of_getElem? (i := 120) rfl)) rfl), Or.inr (lwg (lwt_3 (List.mem_of_getElem? (i := 121) rfl)) rfl)⟩
set_option maxRecDepth 20000 in
theorem mok_159 : mOK 159 := ⟨(lwg (lwt_4 (List.mem_of_getElem? (i := 73) rfl)) rfl), (lwg (lwt_4 (List.mem_of_getElem? (i := 71) rfl)) rfl), Or.inr (lwg (lwt_4 (List.mem_of_getElem? (i := 72) rfl)) rfl)⟩
set_option maxRecDepth 20000 in
theorem mok_160 : mOK 160 := ⟨(lwg (lwt_4 (List.mem_of_getElem? (i := 94) rfl)) rfl), (lwg (lwt_4 (List.mem_of_getElem? (i := 92) rfl)) rfl), Or.inr (lwg (lwt_4 (List.mem_of_getElem? (i := 93) rfl)) rfl)⟩
set_option maxRecDepth 20000 in
theorem mok_161 : mOK 161 := ⟨(lwg (lwt_4 (List.mem_of_getElem? (i := 98) rfl)) rfl), (lwg (lwt_4 (List.mem_of_getElem? (i := 97) rfl)) rfl), Or.inr (lwg (lwt_0 (List.mem_of_getElem? (i := 43) rfl)) rfl)⟩
set_option maxRecDepth 20000 in
theorem mok_162 : mOK 162 := ⟨(lwg (lwt_1 (List.mem_of_getElem? (i := 236) rfl)) rfl), (lwg (lwt_1 (List.mem_of_getElem? (i := 235) rfl)) rfl), Or.inl rfl⟩
set_option maxRecDepth 20000 in
theorem mok_163 : mOK 163 := ⟨(lwg (lwt_3 (List.mem_of_getElem? (i := 134) rfl)) rfl), (lwg (lwt_3 (List.mem_of_getElem? (i := 132) rfl)) rfl), Or.inr (lwg (lwt_3 (List.mem_of_getElem? (i := 133) rfl)) rfl)⟩
set_option maxRecDepth 20000 in
theorem mok_164 : mOK 164 := ⟨(lwg (lwt_3 (List.mem_of_getElem? (i := 191) rfl)) rfl), (lwg (lwt_3 (List.mem_of_getElem? (i := 189) rfl)) rfl), Or.inr (lwg (lwt_3 (List.mem_of_getElem? (i := 190) rfl)) rfl)⟩
set_option maxRecDepth 20000 in
theorem mok_165 : mOK 165 := ⟨(lwg (lwt_3 (List.mem_of_getElem? (i := 151) rfl)) rfl), (lwg (lwt_3 (List.mem_of_getElem? (i := 150) rfl)) rfl), Or.inr (lwg (lwt_0 (List.mem_of_getElem? (i := 30) rfl)) rfl)⟩
set_option maxRecDepth 20000 in
theorem mok_166 : mOK 166 := ⟨(lwg (lwt_3 (List.mem_of_getElem? (i := 138) rfl)) rfl), (lwg (lwt_3 (List.mem_of_getElem? (i := 137) rfl)) rfl), Or.inr (lwg (lwt_0 (List.mem_of_getElem? (i := 27) rfl)) rfl)⟩
set_option maxRecDepth 20000 in
theorem mok_167 : mOK 167 := ⟨(lwg (lwt_3 (List.mem_of_getElem? (i := 142) rfl)) rfl), (lwg (lwt_3 (List.mem_of_getElem? (i := 141) rfl)) rfl), Or.inr (lwg (lwt_0 (List.mem_of_getElem? (i := 28) rfl)) rfl)⟩
set_option maxRecDepth 20000 in
theorem mok_168 : mOK 168 := ⟨(lwg (lwt_3 (List.mem_of_getElem? (i := 147) rfl)) rfl), (lwg (lwt_3 (List.mem_of_getElem? (i := 146) rfl)) rfl), Or.inr (lwg (lwt_0 (List.mem_of_getElem? (i := 29) rfl)) rfl)⟩
set_option maxRecDepth 20000 in
theorem mok_169 : mOK 169 := ⟨(lwg (lwt_3 (List.mem_of_getElem? (i := 165) rfl)) rfl), (lwg (lwt_3 (List.mem_of_getElem? (i := 164) rfl)) rfl), Or.inr (lwg (lwt_0 (List.mem_of_getElem? (i := 31) rfl)) rfl)⟩
set_option maxRecDepth 20000 in
theorem mok_170 : mOK 170 := ⟨(lwg (lwt_3 (List.mem_of_getElem? (i := 179) rfl)) rfl), (lwg (lwt_3 (List.mem_of_getElem? (i := 178) rfl)) rfl), Or.inr (lwg (lwt_0 (List.mem_of_getElem? (i := 32) rfl)) rfl)⟩
set_option maxRecDepth 20000 in
theorem mok_171 : mOK 171 := ⟨(lwg (lwt_2 (List.mem_of_getElem? (i := 5) rfl)) rfl), (lwg (lwt_2 (List.mem_of_getElem? (i := 4) rfl)) rfl), Or.inl rfl⟩
set_option maxRecDepth 20000 in
theorem mok_172 : mOK 172 := ⟨(lwg (lwt_3 (List.mem_of_getElem? (i := 174) rfl)) rfl), (lwg (lwt_3 (List.mem_of_getElem? (i := 172) rfl)) rfl), Or.inr (lwg (lwt_3 (List.mem_of_getElem? (i := 173) rfl)) rfl)⟩
set_option maxRecDepth 20000 in
theorem mok_173 : mOK 173 := ⟨(lwg (lwt_3 (List.mem_of_getElem? (i := 156) rfl)) rfl), (lwg (lwt_3 (List.mem_of_getElem? (i := 154) rfl)) rfl), Or.inr (lwg (lwt_3 (List.mem_of_getElem? (i := 155) rfl)) rfl)⟩
set_option maxRecDepth 20000 in
theorem mok_174 : mOK 174 := ⟨(lwg (lwt_3 (List.mem_of_getElem? (i := 160) rfl)) rfl), (lwg (lwt_3 (List.mem_of_getElem? (i := 158) rfl)) rfl), Or.inr (lwg (lwt_3 (List.mem_of_getElem? (i := 159) rfl)) rfl)⟩
set_option maxRecDepth 20000 in
theorem mok_175 : mOK 175 := ⟨(lwg (lwt_3 (List.mem_of_getElem? (i := 183) rfl)) rfl), (lwg (lwt_3 (List.mem_of_getElem? (i := 181) rfl)) rfl), Or.inr (lwg (lwt_3 (List.mem_of_getElem? (i := 182) rfl)) rfl)⟩
set_option maxRecDepth 20000 in
theorem mok_176 : mOK 176 := ⟨(lwg (lwt_4 (List.mem_of_getElem? (i := 24) rfl)) rfl), (lwg (lwt_4 (List.mem_of_getElem? (i := 22) rfl)) rfl), Or.inr (lwg (lwt_4 (List.mem_of_getElem? (i := 23) rfl)) rfl)⟩
set_option maxRecDepth 20000 in
theorem mok_177 : mOK 177 := ⟨(lwg (lwt_1 (List.mem_of_getElem? (i := 176) rfl)) rfl), (lwg (lwt_1 (List.mem_of_getElem? (i := 175) rfl)) rfl), Or.inl rfl⟩
set_option maxRecDepth 20000 in
theorem mok_178 : mOK 178 := ⟨(lwg (lwt_3 (List.mem_of_getElem? (i := 47) rfl)) rfl), (lwg (lwt_3 (List.mem_of_getElem? (i := 45) rfl)) rfl), Or.inr (lwg (lwt_3 (List.mem_of_getElem? (i := 46) rfl)) rfl)⟩
set_option maxRecDepth 20000 in
theorem mok_179 : mOK 179 := ⟨(lwg (lwt_3 (List.mem_of_getElem? (i := 51) rfl)) rfl), (lwg (lwt_3 (List.mem_of_getElem? (i := 50) rfl)) rfl), Or.inr (lwg (lwt_0 (List.mem_of_getElem? (i := 17) rfl)) rfl)⟩
set_option maxRecDepth 20000 in
theorem mok_180 : mOK 180 := ⟨(lwg (lwt_3 (List.mem_of_getElem? (i := 57) rfl)) rfl), (lwg (lwt_3 (List.mem_of_getElem? (i := 56) rfl)) rfl), Or.inr (lwg (lwt_0 (List.mem_of_getElem? (i := 18) rfl)) rfl)⟩
set_option maxRecDepth 20000 in
theorem mok_181 : mOK 181 := ⟨(lwg (lwt_3 (List.mem_of_getElem? (i := 61) rfl)) rfl), (lwg (lwt_3 (List.mem_of_getElem? (i := 60) rfl)) rfl), Or.inr (lwg (lwt_0 (List.mem_of_getElem? (i := 19) rfl)) rfl)⟩
set_option maxRecDepth 20000 in
theorem mok_182 : mOK 182 := ⟨(lwg (lwt_3 (List.mem_of_getElem? (i := 65) rfl)) rfl), (lwg (lwt_3 (List.mem_of_getElem? (i := 64) rfl)) rfl), Or.inr (lwg (lwt_0 (List.mem_of_getElem? (i := 20) rfl)) rfl)⟩
set_option maxRecDepth 20000 in
theorem mok_183 : mOK 183 := ⟨(lwg (lwt_3 (List.mem_of_getElem? (i := 69) rfl)) rfl), (lwg (lwt_3 (List.mem_of_getElem? (i := 68) rfl)) rfl), Or.inr (lwg (lwt_0 (List.mem_of_getElem? (i := 21) rfl)) rfl)⟩
set_option maxRecDepth 20000 in
theorem mok_184 : mOK 184 := ⟨(lwg (lwt_3 (List.mem_of_getElem? (i := 74) rfl)) rfl), (lwg (lwt_3 (List.mem_of_getElem? (i := 73) rfl)) rfl), Or.inr (lwg (lwt_0 (List.mem_of_getElem? (i := 22) rfl)) rfl)⟩
set_option maxRecDepth 20000 in
theorem mok_185 : mOK 185 := ⟨(lwg (lwt_3 (List.mem_of_getElem? (i := 78) rfl)) rfl), (lwg (lwt_3 (List.mem_of_getElem? (i := 77) rfl)) rfl), Or.inr (lwg (lwt_0 (List.mem_of_getElem? (i := 23) rfl)) rfl)⟩
set_option maxRecDepth 20000 in
theorem mok_186 : mOK 186 := ⟨(lwg (lwt_1 (List.mem_of_getElem? (i := 154) rfl)) rfl), (lwg (lwt_1 (List.mem_of_getElem? (i := 153) rfl)) rfl), Or.inl rfl⟩
set_option maxRecDepth 20000 in
theorem mok_187 : mOK 187 := ⟨(lwg (lwt_2 (List.mem_of_getElem? (i := 123) rfl)) rfl), (lwg (lwt_2 (List.mem_of_getElem? (i := 121) rfl)) rfl), Or.inr (lwg (lwt_2 (List.mem_of_getElem? (i := 122) rfl)) rfl)⟩
set_option maxRecDepth 20000 in
theorem mok_188 : mOK 188 := ⟨(lwg (lwt_2 (List.mem_of_getElem? (i := 231) rfl)) rfl), (lwg (lwt_2 (List.mem_of_getElem? (i := 229) rfl)) rfl), Or.inr (lwg (lwt_2 (List.mem_of_getElem? (i := 230) rfl)) rfl)⟩
set_option maxRecDepth 20000 in
theorem mok_189 : mOK 189 := ⟨(lwg (lwt_2 (List.mem_of_getElem? (i := 131) rfl)) rfl), (lwg (lwt_2 (List.mem_of_getElem? (i := 129) rfl)) rfl), Or.inr (lwg (lwt_2 (List.mem_of_getElem? (i := 130) rfl)) rfl)⟩
set_option maxRecDepth 20000 in
theorem mok_190 : mOK 190 := ⟨(lwg (lwt_2 (List.mem_of_getElem? (i := 135) rfl)) rfl), (lwg (lwt_2 (List.mem_of_getElem? (i := 134) rfl)) rfl), Or.inr (lwg (lwt_0 (List.mem_of_getElem? (i := 1) rfl)) rfl)⟩
set_option maxRecDepth 20000 in
theorem mok_191 : mOK 191 := ⟨(lwg (lwt_2 (List.mem_of_getElem? (i := 147) rfl)) rfl), (lwg (lwt_2 (List.mem_of_getElem? (i := 146) rfl)) rfl), Or.inr (lwg (lwt_0 (List.mem_of_getElem? (i := 2) rfl)) rfl)⟩
set_option maxRecDepth 20000 in
theorem mok_192 : mOK 192 := ⟨(lwg (lwt_2 (List.mem_of_getElem? (i := 151) rfl)) rfl), (lwg (lwt_2 (List.mem_of_getElem? (i := 150) rfl)) rfl), Or.inr (lwg (lwt_0 (List.mem_of_getElem? (i := 3) rfl)) rfl)⟩
set_option maxRecDepth 20000 in
theorem mok_193 : mOK 193 := ⟨(lwg (lwt_2 (List.mem_of_getElem? (i := 155) rfl)) rfl), (lwg (lwt_2 (List.mem_of_getElem? (i := 154) rfl)) rfl), Or.inr (lwg (lwt_0 (List.mem_of_getElem? (i := 4) rfl)) rfl)⟩
set_option maxRecDepth 20000 in
theorem mok_194 : mOK 194 := ⟨(lwg (lwt_2 (List.mem_of_getElem? (i := 158) rfl)) rfl), (lwg (lwt_2 (List.mem_of_getElem? (i := 157) rfl)) rfl)⟩
set_option maxRecDepth 20000 in
theorem mok_195 : mOK 195 := ⟨(lwg (lwt_2 (List.mem_of_getElem? (i := 178) rfl)) rfl), (lwg (lwt_2 (List.mem_of_getElem? (i := 177) rfl)) rfl), Or.inr (lwg (lwt_0 (List.mem_of_getElem? (i := 6) rfl)) rfl)⟩
set_option maxRecDepth 20000 in
theorem mok_196 : mOK 196 := ⟨(lwg (lwt_2 (List.mem_of_getElem? (i := 174) rfl)) rfl), (lwg (lwt_2 (List.mem_of_getElem? (i := 173) rfl)) rfl), Or.inr (lwg (lwt_0 (List.mem_of_getElem? (i := 5) rfl)) rfl)⟩
set_option maxRecDepth 20000 in
theorem mok_197 : mOK 197 := ⟨(lwg (lwt_2 (List.mem_of_getElem? (i := 182) rfl)) rfl), (lwg (lwt_2 (List.mem_of_getElem? (i := 181) rfl)) rfl), Or.inr (lwg (lwt_0 (List.mem_of_getElem? (i := 7) rfl)) rfl)⟩
set_option maxRecDepth 20000 in
theorem mok_198 : mOK 198 := ⟨(lwg (lwt_2 (List.mem_of_getElem? (i := 198) rfl)) rfl), (lwg (lwt_2 (List.mem_of_getElem? (i := 197) rfl)) rfl), Or.inr (lwg (lwt_0 (List.mem_of_getElem? (i := 8) rfl)) rfl)⟩
set_option maxRecDepth 20000 in
theorem mok_199 : mOK 199 := ⟨(lwg (lwt_2 (List.mem_of_getElem? (i := 217) rfl)) rfl), (lwg (lwt_2 (List.mem_of_getElem? (i := 216) rfl)) rfl), Or.inr (lwg (lwt_0 (List.mem_of_getElem? (i := 10) rfl)) rfl)⟩
set_option maxRecDepth 20000 in
theorem mok_200 : mOK 200 := ⟨(lwg (lwt_2 (List.mem_of_getElem? (i := 213) rfl)) rfl), (lwg (lwt_2 (List.mem_of_getElem? (i := 212) rfl)) rfl), Or.inr (lwg (lwt_0 (List.mem_of_getElem? (i := 9) rfl)) rfl)⟩
set_option maxRecDepth 20000 in
theorem mok_201 : mOK 201 := ⟨(lwg (lwt_1 (List.mem_of_getElem? (i := 33) rfl)) rfl), (lwg (lwt_1 (List.mem_of_getElem? (i := 32) rfl)) rfl), Or.inl rfl⟩
set_option maxRecDepth 20000 in
theorem mok_202 : mOK 202 := ⟨(lwg (lwt_2 (List.mem_of_getElem? (i := 166) rfl)) rfl), (lwg (lwt_2 (List.mem_of_getElem? (i := 164) rfl)) rfl), Or.inr (lwg (lwt_2 (List.mem_of_getElem? (i := 165) rfl)) rfl)⟩
set_option maxRecDepth 20000 in
theorem mok_203 : mOK 203 := ⟨(lwg (lwt_3 (List.mem_of_getElem? (i := 24) rfl)) rfl), (lwg (lwt_3 (List.mem_of_getElem? (i := 22) rfl)) rfl), Or.inr (lwg (lwt_3 (List.mem_of_getElem? (i := 23) rfl)) rfl)⟩
set_option maxRecDepth 20000 in
theorem mok_204 : mOK 204 := ⟨(lwg (lwt_2 (List.mem_of_getElem? (i := 202) rfl)) rfl), (lwg (lwt_2 (List.mem_of_getElem? (i := 200) rfl)) rfl), Or.inr (lwg (lwt_2 (List.mem_of_getElem? (i := 201) rfl)) rfl)⟩
set_option maxRecDepth 20000 in
theorem mok_205 : mOK 205 := ⟨(lwg (lwt_2 (List.mem_of_getElem? (i := 223) rfl)) rfl), (lwg (lwt_2 (List.mem_of_getElem? (i := 221) rfl)) rfl), Or.inr (lwg (lwt_2 (List.mem_of_getElem? (i := 222) rfl)) rfl)⟩
set_option maxRecDepth 20000 in
theorem mok_206 : mOK 206 := ⟨(lwg (lwt_1 (List.mem_of_getElem? (i := 39) rfl)) rfl), (lwg (lwt_1 (List.mem_of_getElem? (i := 38) rfl)) rfl), Or.inl rfl⟩
set_option maxRecDepth 20000 in
theorem mok_207 : mOK 207 := ⟨(lwg (lwt_2 (List.mem_of_getElem? (i := 185) rfl)) rfl), (lwg (lwt_2 (List.mem_of_getElem? (i := 184) rfl)) rfl)⟩
set_option maxRecDepth 20000 in
theorem mok_208 : mOK 208 := ⟨(lwg (lwt_2 (List.mem_of_getElem? (i := 188) rfl)) rfl), (lwg (lwt_2 (List.mem_of_getElem? (i := 187) rfl)) rfl)⟩
set_option maxRecDepth 20000 in
theorem mok_209 : mOK 209 := ⟨(lwg (lwt_2 (List.mem_of_getElem? (i := 209) rfl)) rfl), (lwg (lwt_2 (List.mem_of_getElem? (i := 208) rfl)) rfl)⟩
set_option maxRecDepth 20000 in
theorem mok_210 : mOK 210 := ⟨(lwg (lwt_2 (List.mem_of_getElem? (i := 170) rfl)) rfl), (lwg (lwt_2 (List.mem_of_getElem? (i := 168) rfl)) rfl), Or.inr (lwg (lwt_2 (List.mem_of_getElem? (i := 169) rfl)) rfl)⟩
set_option maxRecDepth 20000 in
theorem mok_211 : mOK 211 := ⟨(lwg (lwt_2 (List.mem_of_getElem? (i := 194) rfl)) rfl), (lwg (lwt_2 (List.mem_of_getElem? (i := 192) rfl)) rfl), Or.inr (lwg (lwt_2 (List.mem_of_getElem? (i := 193) rfl)) rfl)⟩
set_option maxRecDepth 20000 in
theorem mok_212 : mOK 212 := ⟨(lwg (lwt_3 (List.mem_of_getElem? (i := 7) rfl)) rfl), (lwg (lwt_3 (List.mem_of_getElem? (i := 5) rfl)) rfl), Or.inr (lwg (lwt_3 (List.mem_of_getElem? (i := 6) rfl)) rfl)⟩
set_option maxRecDepth 20000 in
theorem mok_213 : mOK 213 := ⟨(lwg (lwt_3 (List.mem_of_getElem? (i := 12) rfl)) rfl), (lwg (lwt_3 (List.mem_of_getElem? (i := 10) rfl)) rfl), Or.inr (lwg (lwt_3 (List.mem_of_getElem? (i := 11) rfl)) rfl)⟩
set_option maxRecDepth 20000 in
theorem mok_214 : mOK 214 := ⟨(lwg (lwt_3 (List.mem_of_getElem? (i := 16) rfl)) rfl), (lwg (lwt_3 (List.mem_of_getElem? (i := 15) rfl)) rfl), Or.inr (lwg (lwt_0 (List.mem_of_getElem? (i := 13) rfl)) rfl)⟩
set_option maxRecDepth 20000 in
theorem mok_215 : mOK 215 := ⟨(lwg (lwt_3 (List.mem_of_getElem? (i := 20) rfl)) rfl), (lwg (lwt_3 (List.mem_of_getElem? (i := 19) rfl)) rfl), Or.inr (lwg (lwt_0 (List.mem_of_getElem? (i := 14) rfl)) rfl)⟩
set_option maxRecDepth 20000 in
theorem mok_216 : mOK 216 := ⟨(lwg (lwt_3 (List.mem_of_getElem? (i := 28) rfl)) rfl), (lwg (lwt_3 (List.mem_of_getElem? (i := 26) rfl)) rfl), Or.inr (lwg (lwt_3 (List.mem_of_getElem? (i := 27) rfl)) rfl)⟩
set_option maxRecDepth 20000 in
theorem mok_217 : mOK 217 := ⟨(lwg (lwt_2 (List.mem_of_getElem? (i := 206) rfl)) rfl), (lwg (lwt_2 (List.mem_of_getElem? (i := 204) rfl)) rfl), Or.inr (lwg (lwt_2 (List.mem_of_getElem? (i := 205) rfl)) rfl)⟩
set_option maxRecDepth 20000 in
theorem mok_218 : mOK 218 := ⟨(lwg (lwt_3 (List.mem_of_getElem? (i := 43) rfl)) rfl), (lwg (lwt_3 (List.mem_of_getElem? (i := 41) rfl)) rfl), Or.inr (lwg (lwt_3 (List.mem_of_getElem? (i := 42) rfl)) rfl)⟩
set_option maxRecDepth 20000 in
theorem mok_219 : mOK 219 := ⟨(lwg (lwt_4 (List.mem_of_getElem? (i := 102) rfl)) rfl), (lwg (lwt_4 (List.mem_of_getElem? (i := 100) rfl)) rfl), Or.inr (lwg (lwt_4 (List.mem_of_getElem? (i := 101) rfl)) rfl)⟩
set_option maxRecDepth 20000 in
theorem mok_220 : mOK 220 := ⟨(lwg (lwt_4 (List.mem_of_getElem? (i := 69) rfl)) rfl), (lwg (lwt_4 (List.mem_of_getElem? (i := 67) rfl)) rfl), Or.inr (lwg (lwt_4 (List.mem_of_getElem? (i := 68) rfl)) rfl)⟩
set_option maxRecDepth 20000 in
theorem mok_221 : mOK 221 := ⟨(lwg (lwt_3 (List.mem_of_getElem? (i := 107) rfl)) rfl), (lwg (lwt_3 (List.mem_of_getElem? (i := 106) rfl)) rfl)⟩
set_option maxRecDepth 20000 in
theorem mok_222 : mOK 222 := ⟨(lwg (lwt_4 (List.mem_of_getElem? (i := 9) rfl)) rfl), (lwg (lwt_4 (List.mem_of_getElem? (i := 8) rfl)) rfl)⟩
set_option maxRecDepth 20000 in
theorem mok_223 : mOK 223 := ⟨(lwg (lwt_3 (List.mem_of_getElem? (i := 130) rfl)) rfl), (lwg (lwt_3 (List.mem_of_getElem? (i := 129) rfl)) rfl)⟩
theorem mok_all : ∀ k, 0 < k → k < 224 → mOK k := by
  intro k h0 hk
  match k, h0, hk with
  | 0, h0, _ => omega
  | 1, _, _ => exact mok_1
  | 2, _, _ => exact mok_2
  | 3, _, _ => exact mok_3
  | 4, _, _ => exact mok_4
  | 5, _, _ => exact mok_5
  | 6, _, _ => exact mok_6
  | 7, _, _ => exact mok_7
  | 8, _, _ => exact mok_8
  | 9, _, _ => exact mok_9
  | 10, _, _ => exact mok_10
  | 11, _, _ => exact mok_11
  | 12, _, _ => exact mok_12
  | 13, _, _ => exact mok_13
  | 14, _, _ => exact mok_14
  | 15, _, _ => exact mok_15
  | 16, _, _ => exact mok_16
  | 17, _, _ => exact mok_17
  | 18, _, _ => exact mok_18
  | 19, _, _ => exact mok_19
  | 20, _, _ => exact mok_20
  | 21, _, _ => exact mok_21
  | 22, _, _ => exact mok_22
  | 23, _, _ => exact mok_23
  | 24, _, _ => exact mok_24
  | 25, _, _ => exact mok_25
  | 26, _, _ => exact mok_26
  | 27, _, _ => exact mok_27
  | 28, _, _ => exact mok_28
  | 29, _, _ => exact mok_29
  | 30, _, _ => exact mok_30
  | 31, _, _ => exact mok_31
  | 32, _, _ => exact mok_32
  | 33, _, _ => exact mok_33
  | 34, _, _ => exact mok_34
  | 35, _, _ => exact mok_35
  | 36, _, _ => exact mok_36
  | 37, _, _ => exact mok_37
  | 38, _, _ => exact mok_38
  | 39, _, _ => exact mok_39
  | 40, _, _ => exact mok_40
  | 41, _, _ => exact mok_41
  | 42, _, _ => exact mok_42
  | 43, _, _ => exact mok_43
  | 44, _, _ => exact mok_44
  | 45, _, _ => exact mok_45
  | 46, _, _ => exact mok_46
  | 47, _, _ => exact mok_47
  | 48, _, _ => exact mok_48
  | 49, _, _ => exact mok_49
  | 50, _, _ => exact mok_50
  | 51, _, _ => exact mok_51
  | 52, _, _ => exact mok_52
  | 53, _, _ => exact mok_53
  | 54, _, _ => exact mok_54
  | 55, _, _ => exact mok_55
  | 56, _, _ => exact mok_56
  | 57, _, _ => exact mok_57
  | 58, _, _ => exact mok_58
  | 59, _, _ => exact mok_59
  | 60, _, _ => exact mok_60
  | 61, _, _ => exact mok_61
  | 62, _, _ => exact mok_62
  | 63, _, _ => exact mok_63
  | 64, _, _ => exact mok_64
  | 65, _, _ => exact mok_65
  | 66, _, _ => exact mok_66
  | 67, _, _ => exact mok_67
  | 68, _, _ => exact mok_68
  | 69, _, _ => exact mok_69
  | 70, _, _ => exact mok_70
  | 71, _, _ => exact mok_71
  | 72, _, _ => exact mok_72
  | 73, _, _ => exact mok_73
  | 74, _, _ => exact mok_74
  | 75, _, _ => exact mok_75
  | 76, _, _ => exact mok_76
  | 77, _, _ => exact mok_77
  | 78, _, _ => exact mok_78
  | 79, _, _ => exact mok_79
  | 80, _, _ => exact mok_80
  | 81, _, _ => exact mok_81
  | 82, _, _ => exact mok_82
  | 83, _, _ => exact mok_83
  | 84, _, _ => exact mok_84
  | 85, _, _ => exact mok_85
  | 86, _, _ => exact mok_86
  | 87, _, _ => exact mok_87
  | 88, _, _ => exact mok_88
  | 89, _, _ => exact mok_89
  | 90, _, _ => exact mok_90
  | 91, _, _ => exact mok_91
  | 92, _, _ => exact mok_92
  | 93, _, _ => exact mok_93
  | 94, _, _ => exact mok_94
  | 95, _, _ => exact mok_95
  | 96, _, _ => exact mok_96
  | 97, _, _ => exact mok_97
  | 98, _, _ => exact mok_98
  | 99, _, _ => exact mok_99
  | 100, _, _ => exact mok_100
  | 101, _, _ => exact mok_101
  | 102, _, _ => exact mok_102
  | 103, _, _ => exact mok_103
  | 104, _, _ => exact mok_104
  | 105, _, _ => exact mok_105
  | 106, _, _ => exact mok_106
  | 107, _, _ => exact mok_107
  | 108, _, _ => exact mok_108
  | 109, _, _ => exact mok_109
  | 110, _, _ => exact mok_110
  | 111, _, _ => exact mok_111
  | 112, _, _ => exact mok_112
  | 113, _, _ => exact mok_113
  | 114, _, _ => exact mok_114
  | 115, _, _ => exact mok_115
  | 116, _, _ => exact mok_116
  | 117, _, _ => exact mok_117
  | 118, _, _ => exact mok_118
  | 119, _, _ => exact mok_119
  | 120, _, _ => exact mok_120
  | 121, _, _ => exact mok_121
  | 122, _, _ => exact mok_122
  | 123, _, _ => exact mok_123
  | 124, _, _ => exact mok_124
  | 125, _, _ => exact mok_125
  | 126, _, _ => exact mok_126
  | 127, _, _ => exact mok_127
  | 128, _, _ => exact mok_128
  | 129, _, _ => exact mok_129
  | 130, _, _ => exact mok_130
  | 131, _, _ => exact mok_131
  | 132, _, _ => exact mok_132
  | 133, _, _ => exact mok_133
  | 134, _, _ => exact mok_134
  | 135, _, _ => exact mok_135
  | 136, _, _ => exact mok_136
  | 137, _, _ => exact mok_137
  | 138, _, _ => exact mok_138
  | 139, _, _ => exact mok_139
  | 140, _, _ => exact mok_140
  | 141, _, _ => exact mok_141
  | 142, _, _ => exact mok_142
  | 143, _, _ => exact mok_143
  | 144, _, _ => exact mok_144
  | 145, _, _ => exact mok_145
  | 146, _, _ => exact mok_146
  | 147, _, _ => exact mok_147
  | 148, _, _ => exact mok_148
  | 149, _, _ => exact mok_149
  | 150, _, _ => exact mok_150
  | 151, _, _ => exact mok_151
  | 152, _, _ => exact mok_152
  | 153, _, _ => exact mok_153
  | 154, _, _ => exact mok_154
  | 155, _, _ => exact mok_155
  | 156, _, _ => exact mok_156
  | 157, _, _ => exact mok_157
  | 158, _, _ => exact mok_158
  | 159, _, _ => exact mok_159
  | 160, _, _ => exact mok_160
  | 161, _, _ => exact mok_161
  | 162, _, _ => exact mok_162
  | 163, _, _ => exact mok_163
  | 164, _, _ => exact mok_164
  | 165, _, _ => exact mok_165
  | 166, _, _ => exact mok_166
  | 167, _, _ => exact mok_167
  | 168, _, _ => exact mok_168
  | 169, _, _ => exact mok_169
  | 170, _, _ => exact mok_170
  | 171, _, _ => exact mok_171
  | 172, _, _ => exact mok_172
  | 173, _, _ => exact mok_173
  | 174, _, _ => exact mok_174
  | 175, _, _ => exact mok_175
  | 176, _, _ => exact mok_176
  | 177, _, _ => exact mok_177
  | 178, _, _ => exact mok_178
  | 179, _, _ => exact mok_179
  | 180, _, _ => exact mok_180
  | 181, _, _ => exact mok_181
  | 182, _, _ => exact mok_182
  | 183, _, _ => exact mok_183
  | 184, _, _ => exact mok_184
  | 185, _, _ => exact mok_185
  | 186, _, _ => exact mok_186
  | 187, _, _ => exact mok_187
  | 188, _, _ => exact mok_188
  | 189, _, _ => exact mok_189
  | 190, _, _ => exact mok_190
  | 191, _, _ => exact mok_191
  | 192, _, _ => exact mok_192
  | 193, _, _ => exact mok_193
  | 194, _, _ => exact mok_194
  | 195, _, _ => exact mok_195
  | 196, _, _ => exact mok_196
  | 197, _, _ => exact mok_197
  | 198, _, _ => exact mok_198
  | 199, _, _ => exact mok_199
  | 200, _, _ => exact mok_200
  | 201, _, _ => exact mok_201
  | 202, _, _ => exact mok_202
  | 203, _, _ => exact mok_203
  | 204, _, _ => exact mok_204
  | 205, _, _ => exact mok_205
  | 206, _, _ => exact mok_206
  | 207, _, _ => exact mok_207
  | 208, _, _ => exact mok_208
  | 209, _, _ => exact mok_209
  | 210, _, _ => exact mok_210
  | 211, _, _ => exact mok_211
  | 212, _, _ => exact mok_212
  | 213, _, _ => exact mok_213
  | 214, _, _ => exact mok_214
  | 215, _, _ => exact mok_215
  | 216, _, _ => exact mok_216
  | 217, _, _ => exact mok_217
  | 218, _, _ => exact mok_218
  | 219, _, _ => exact mok_219
  | 220, _, _ => exact mok_220
  | 221, _, _ => exact mok_221
  | 222, _, _ => exact mok_222
  | 223, _, _ => exact mok_223
  | k + 224, _, hk => omega
def mPl (k : Nat) : Bool := plainFor (yK k) && decide ((yK k).cls ≠ "java/lang/invoke/MethodHandle") && decide ((yK k).cls ≠ "java/lang/invoke/VarHandle") && decide ((parseMethodDescriptor (yK k).desc).map (fun d => d.parameters.length) = some (naK k)) && decide ((yK k).cls = cnm (owK k)) && decide (owK k < 14)
theorem mpl_0 : (List.range 32).all (fun i => mPl (0 + i)) = true := by decide +kernel
theorem mpl_32 : (List.range 32).all (fun i => mPl (32 + i)) = true := by decide +kernel
theorem mpl_64 : (List.range 32).all (fun i => mPl (64 + i)) = true := by decide +kernel
theorem mpl_96 : (List.range 32).all (fun i => mPl (96 + i)) = true := by decide +kernel
theorem mpl_128 : (List.range 32).all (fun i => mPl (128 + i)) = true := by decide +kernel
theorem mpl_160 : (List.range 32).all (fun i => mPl (160 + i)) = true := by decide +kernel
theorem mpl_192 : (List.range 32).all (fun i => mPl (192 + i)) = true := by decide +kernel
theorem mpl_all : ∀ k, k < 224 → mPl k = true := by
  intro k hk
  by_cases h0 : k < 32
  · have h := List.all_eq_true.mp mpl_0 (k - 0) (List.mem_range.mpr (by omega)); rwa [show 0 + (k - 0) = k by omega] at h
  by_cases h32 : k < 64
  · have h := List.all_eq_true.mp mpl_32 (k - 32) (List.mem_range.mpr (by omega)); rwa [show 32 + (k - 32) = k by omega] at h
  by_cases h64 : k < 96
  · have h := List.all_eq_true.mp mpl_64 (k - 64) (List.mem_range.mpr (by omega)); rwa [show 64 + (k - 64) = k by omega] at h
  by_cases h96 : k < 128
  · have h := List.all_eq_true.mp mpl_96 (k - 96) (List.mem_range.mpr (by omega)); rwa [show 96 + (k - 96) = k by omega] at h
  by_cases h128 : k < 160
  · have h := List.all_eq_true.mp mpl_128 (k - 128) (List.mem_range.mpr (by omega)); rwa [show 128 + (k - 128) = k by omega] at h
  by_cases h160 : k < 192
  · have h := List.all_eq_true.mp mpl_160 (k - 160) (List.mem_range.mpr (by omega)); rwa [show 160 + (k - 160) = k by omega] at h
  by_cases h192 : k < 224
  · have h := List.all_eq_true.mp mpl_192 (k - 192) (List.mem_range.mpr (by omega)); rwa [show 192 + (k - 192) = k by omega] at h
  omega
end
section
-- ===== the tables are looked through: each instruction is the one in the code, its links are there =====
def inRb (z : Int) : Bool := decide (-2147483648 ≤ z) && decide (z ≤ 2147483647)
def fl1 (i : Instr) : Nat := match i with
  | .bipush _ | .iload _ | .lload _ | .aload _ | .istore _ | .lstore _ | .astore _ | .newarray _ => 2
  | .sipush _ | .ldc_w _ | .ldc2_w _ | .iinc _ _ | .ifCond _ _ | .if_icmp _ _ | .goto _ | .ifnull _ | .ifnonnull _ | .getfield _ | .putfield _ | .getstatic _ | .new _ | .anewarray _ | .invokevirtual _ | .invokestatic _ | .invokespecial _ => 3
  | .multianewarray _ _ => 4
  | _ => 1
/-- a field's kind: int, boolean, long, a reference, a reference that is final -/
def fkind (c k : Nat) : Nat := match cTy c k with
  | .int => 0
  | .boolean => 1
  | .long => 2
  | .object _ => if (cT c k).2.2.2 = true then 4 else 3
  | .array _ => if (cT c k).2.2.2 = true then 4 else 3
  | _ => 9
def isMet : Nat := 224
def okInv (k : Nat) (o : Op) (idx : Nat) : Bool := decide (0 < n0 o) && decide (n0 o < isMet) && (if n5 o = 1 then (nlT.getD (owK k) []).contains (idx, n0 o) else (mlT.getD (owK k) []).contains (idx, n0 o)) && decide ((n3 o, n4 o) = buK (n0 o)) && decide (dpK (n0 o) + 1 ≤ dpK k) && decide (n6 o = mxK (n0 o))
def okI (k j : Nat) (o : Op) (pc : Nat) : Bool :=
  let fall : Bool := decide (o.2.1.2 = fl1 o.1) && decide (pcK k (j + 1) = pc + o.2.1.2)
  match o.1 with
  | .aconst_null | .iadd | .isub | .imul | .iand | .ior | .ixor | .ishl | .ishr | .iushr | .idiv | .irem | .ladd | .lsub | .lmul | .land | .lor | .ldiv | .lrem | .lcmp | .lushr | .lshl | .i2l | .l2i | .i2b | .dup | .dup2 | .pop | .arraylength | .iaload | .baload | .aaload | .iastore | .bastore | .aastore => fall
  | .iload_n _ | .lload_n _ | .aload_n _ | .iload _ | .lload _ | .aload _ | .lconst _ => fall
  | .iconst n => fall && inRb n
  | .bipush n => fall && inRb n && decide ((Int8.ofInt n).toInt32 = Int32.ofInt n)
  | .sipush n => fall && inRb n && decide ((Int16.ofInt n).toInt32 = Int32.ofInt n)
  | .ldc_w idx => fall && inRb o.2.2.2.1 && (kiT.getD (owK k) []).contains (idx, o.2.2.2.1)
  | .ldc2_w idx => fall && (klT.getD (owK k) []).contains (idx, o.2.2.2.1)
  | .istore_n i => fall && decide (i.val < mxK k)
  | .astore_n i => fall && decide (i.val < mxK k)
  | .istore i => fall && decide (i < mxK k)
  | .astore i => fall && decide (i < mxK k)
  | .lstore_n i => fall && decide (i.val + 1 < mxK k)
  | .lstore i => fall && decide (i + 1 < mxK k)
  | .iinc i _ => fall && decide (i < mxK k)
  | .ifCond _ off => fall && decide ((pc : Int) + off = (pcK k (n0 o) : Int))
  | .if_icmp _ off => fall && decide ((pc : Int) + off = (pcK k (n0 o) : Int))
  | .ifnull off => fall && decide ((pc : Int) + off = (pcK k (n0 o) : Int))
  | .ifnonnull off => fall && decide ((pc : Int) + off = (pcK k (n0 o) : Int))
  | .goto off => decide (o.2.1.2 = 3) && decide ((pc : Int) + off = (pcK k (n0 o) : Int))
  | .tableswitch d lo hi offs => decide ((pc : Int) + d = (pcK k (n0 o) : Int)) && decide (hi = lo + offs.size - 1) && decide (o.2.2.2.2.map (fun e => e.1) = (List.range offs.size).map (fun (i : Nat) => lo + (i : Int))) && decide (o.2.2.2.2.map (fun e => (pcK k e.2 : Int)) = offs.toList.map (fun e => (pc : Int) + e))
  | .lookupswitch d ps => decide ((pc : Int) + d = (pcK k (n0 o) : Int)) && decide (o.2.2.2.2.map (fun e => e.1) = ps.toList.map (fun e => e.1)) && decide (o.2.2.2.2.map (fun e => (pcK k e.2 : Int)) = ps.toList.map (fun e => (pc : Int) + e.2)) && (ps.toList.zip (ps.toList.drop 1)).all (fun (a, next) => a.1 < next.1)
  | .getfield idx => fall && (flT.getD (owK k) []).contains (idx, n0 o, n1 o) && decide (n0 o < 10) && decide (n1 o < cN (n0 o)) && decide (n2 o = fkind (n0 o) (n1 o)) && decide (n2 o ≤ 4)
  | .putfield idx => fall && (flT.getD (owK k) []).contains (idx, n0 o, n1 o) && decide (n0 o < 10) && decide (n1 o < cN (n0 o)) && decide (n2 o = fkind (n0 o) (n1 o)) && decide (n2 o ≤ 4) && (if n2 o = 4 then decide ((yK k).name = "<init>") && decide ((cT (n0 o) (n1 o)).1 = cnm (owK k)) else !(cT (n0 o) (n1 o)).2.2.2)
  | .getstatic idx => fall && (stT.getD (owK k) []).contains (idx, n0 o) && (decide (n0 o = 1) || decide (n0 o = 2))
  | .newarray t => fall && ((decide (t = .int) && decide (n0 o = 20)) || (decide (t = .byte) && decide (n0 o = 21)) || (decide (t = .boolean) && decide (n0 o = 22)))
  | .anewarray idx => fall && decide (23 ≤ n0 o) && decide (n0 o ≤ 26) && (clT.getD (owK k) []).contains (idx, elK (n0 o))
  | .new idx => fall && (clT.getD (owK k) []).contains (idx, n0 o) && decide (n0 o < 10) && decide (n1 o = cN (n0 o))
  | .multianewarray idx d => fall && decide (idx = 21) && decide (d = 2) && decide (owK k = 2)
  | .invokevirtual idx => fall && okInv k o idx && !stK (n0 o) && decide (n1 o = naK (n0 o) + 1) && decide (n2 o = owK (n0 o)) && decide (n2 o < 10) && decide ((yK (n0 o)).name ≠ "<init>")
  | .invokestatic idx => fall && okInv k o idx && stK (n0 o) && decide (n1 o = naK (n0 o))
  | .invokespecial idx => fall && (if n5 o = 9 then (oiT.getD (owK k) []).contains idx && decide (1 ≤ dpK k) else okInv k o idx && !stK (n0 o) && decide (n1 o = naK (n0 o) + 1) && decide ((yK (n0 o)).name = "<init>") && decide (rtK (n0 o) = none))
  | .ireturn => decide (o.2.1.2 = 1) && ((decide (rtK k = some .int) && decide (n0 o = 0)) || (decide (rtK k = some .boolean) && decide (n0 o = 1)))
  | .lreturn => decide (o.2.1.2 = 1) && decide (rtK k = some .long)
  | .areturn => decide (o.2.1.2 = 1) && (match rtK k with
    | some (.object _) => true
    | some (.array _) => true
    | _ => false)
  | .return_ => decide (o.2.1.2 = 1) && decide (rtK k = none)
  | _ => false
def okOp (k j : Nat) : Bool := let o := opAt k j
  if o.1 = .nop then decide (pcK k (j + 1) = o.2.1.1) else decide (decode (cK k) o.2.1.1 = .ok (o.1, o.2.1.2)) && okI k j o o.2.1.1
def okM (k : Nat) : Bool := (List.range (prog.getD k []).length).all (fun j => okOp k j)
-- ===== what the mini-machine comes to: by fuel; then 'some fuel' =====
def entL (k : Nat) (as : List MV) : List MV := flL as ++ List.replicate (mxK k - (flL as).length) vU
def wpf : Nat → Nat → Nat → List MV → List MV → Nat × Nat → MM → (Option MV → MM → Prop) → Prop
  | 0, _, _, _, _, _, _, _ => False
  | n + 1, k, j, ls, st, b, M, Q => match mstep (opAt k j) j ls st b M with
    | none => False
    | some (Sum.inl (j', ls', st', b', M')) => wpf n k j' ls' st' b' M' Q
    | some (Sum.inr (Sum.inl (k', as, (j', ls', st', b', M')))) => wpf n k' 0 (entL k' as) [] (buK k') M' (fun v M2 => wpf n k j' ls' (v.toList ++ st') b' M2 Q)
    | some (Sum.inr (Sum.inr v)) => Q v M
def wpc (k j : Nat) (ls st : List MV) (b : Nat × Nat) (M : MM) (Q : Option MV → MM → Prop) : Prop := ∃ n, wpf n k j ls st b M Q
/-- a call, from its entry -/
def wpC (k : Nat) (as : List MV) (M : MM) (Q : Option MV → MM → Prop) : Prop := wpc k 0 (entL k as) [] (buK k) M Q
theorem wpf_mono : ∀ (n : Nat) {k j : Nat} {ls st : List MV} {b : Nat × Nat} {M : MM} {Q Q' : Option MV → MM → Prop}, (∀ v M, Q v M → Q' v M) → wpf n k j ls st b M Q → wpf n k j ls st b M Q' := by
  intro n
  induction n with
  | zero => intro k j ls st b M Q Q' hq h; exact h
  | succ n ih =>
    intro k j ls st b M Q Q' hq h
    unfold wpf at h ⊢
    split at h
    · exact h
    · exact ih hq h
    · exact ih (fun v M2 h2 => ih hq h2) h
    · exact hq _ _ h
theorem wpf_succ : ∀ (n : Nat) {k j : Nat} {ls st : List MV} {b : Nat × Nat} {M : MM} {Q : Option MV → MM → Prop}, wpf n k j ls st b M Q → wpf (n + 1) k j ls st b M Q := by
  intro n
  induction n with
  | zero => intro k j ls st b M Q h; exact False.elim h
  | succ n ih =>
    intro k j ls st b M Q h
    rw [wpf] at h ⊢
    split at h
    · exact h
    · exact ih h
    · exact ih (wpf_mono _ (fun v M2 h2 => ih h2) h)
    · exact h
theorem wpf_le {n m : Nat} (hm : n ≤ m) {k j : Nat} {ls st : List MV} {b : Nat × Nat} {M : MM} {Q : Option MV → MM → Prop} (h : wpf n k j ls st b M Q) : wpf m k j ls st b M Q := by
  induction hm with
  | refl => exact h
  | step _ ih => exact wpf_succ _ ih
/-- one run only: what holds of its end by fuel of any height holds by one -/
theorem wpf_cont : ∀ (n : Nat) {k j : Nat} {ls st : List MV} {b : Nat × Nat} {M : MM} {P : Nat → Option MV → MM → Prop}, (∀ i v M, P i v M → P (i + 1) v M) → wpf n k j ls st b M (fun v M2 => ∃ i, P i v M2) → ∃ i, wpf n k j ls st b M (P i) := by
  intro n
  induction n with
  | zero => intro k j ls st b M P hp h; exact False.elim h
  | succ n ih =>
    intro k j ls st b M P hp h
    rw [wpf] at h
    simp only [wpf]
    split at h
    · exact False.elim h
    · exact ih hp h
    · rename_i k' as j' ls' st' b' M' hs
      have h2 : wpf n k' 0 (entL k' as) [] (buK k') M' (fun v M2 => ∃ i, wpf n k j' ls' (v.toList ++ st') b' M2 (P i)) := wpf_mono _ (fun v M2 h3 => ih hp h3) h
      exact ih (fun i v M2 h3 => wpf_mono _ (hp i) h3) h2
    · exact h
theorem wpc_nx {k j j' : Nat} {ls st ls' st' : List MV} {b b' : Nat × Nat} {M M' : MM} {Q : Option MV → MM → Prop} (h : mstep (opAt k j) j ls st b M = some (Sum.inl (j', ls', st', b', M'))) : wpc k j ls st b M Q ↔ wpc k j' ls' st' b' M' Q := by
  constructor
  · rintro ⟨n, hn⟩
    cases n with
    | zero => exact False.elim hn
    | succ n => rw [wpf, h] at hn; exact ⟨n, hn⟩
  · rintro ⟨n, hn⟩
    exact ⟨n + 1, by rw [wpf, h]; exact hn⟩
theorem wpc_no {k j : Nat} {ls st : List MV} {b : Nat × Nat} {M : MM} {Q : Option MV → MM → Prop} (h : mstep (opAt k j) j ls st b M = none) : wpc k j ls st b M Q ↔ False := by
  constructor
  · rintro ⟨n, hn⟩
    cases n with
    | zero => exact hn
    | succ n => rw [wpf, h] at hn; exact hn
  · exact False.elim
theorem wpc_ret {k j : Nat} {ls st : List MV} {b : Nat × Nat} {M : MM} {v : Option MV} {Q : Option MV → MM → Prop} (h : mstep (opAt k j) j ls st b M = some (Sum.inr (Sum.inr v))) : wpc k j ls st b M Q ↔ Q v M := by
  constructor
  · rintro ⟨n, hn⟩
    cases n with
    | zero => exact False.elim hn
    | succ n => rw [wpf, h] at hn; exact hn
  · intro hq
    exact ⟨1, by rw [wpf, h]; exact hq⟩
theorem wpc_call {k j k' j' : Nat} {ls st as ls' st' : List MV} {b b' : Nat × Nat} {M M' : MM} {Q : Option MV → MM → Prop} (h : mstep (opAt k j) j ls st b M = some (Sum.inr (Sum.inl (k', as, (j', ls', st', b', M'))))) : wpc k j ls st b M Q ↔ wpC k' as M' (fun v M2 => wpc k j' ls' (v.toList ++ st') b' M2 Q) := by
  constructor
  · rintro ⟨n, hn⟩
    cases n with
    | zero => exact False.elim hn
    | succ n => rw [wpf, h] at hn; exact ⟨n, wpf_mono _ (fun v M2 h2 => ⟨n, h2⟩) hn⟩
  · rintro ⟨n, hn⟩
    obtain ⟨i, hi⟩ := wpf_cont n (P := fun i v M2 => wpf i k j' ls' (v.toList ++ st') b' M2 Q) (fun i v M2 h2 => wpf_succ _ h2) hn
    refine ⟨(max n i) + 1, ?_⟩
    rw [wpf, h]
    exact wpf_le (Nat.le_max_left n i) (wpf_mono _ (fun v M2 h2 => wpf_le (Nat.le_max_right n i) h2) hi)
theorem wpc_mono {k j : Nat} {ls st : List MV} {b : Nat × Nat} {M : MM} {Q Q' : Option MV → MM → Prop} (hq : ∀ v M, Q v M → Q' v M) (h : wpc k j ls st b M Q) : wpc k j ls st b M Q' := by
  obtain ⟨n, hn⟩ := h
  exact ⟨n, wpf_mono _ hq hn⟩
theorem wpC_mono {k : Nat} {as : List MV} {M : MM} {Q Q' : Option MV → MM → Prop} (hq : ∀ v M, Q v M → Q' v M) (h : wpC k as M Q) : wpC k as M Q' := wpc_mono hq h
end
section
theorem ok_of {k j : Nat} (h : opAt k j ≠ opBad) : k < 224 ∧ okOp k j = true := sorry
end
section
-- ===== how the mini-machine's values and memory stand for the JVM's =====
def inR (z : Int) : Prop := -2147483648 ≤ z ∧ z ≤ 2147483647
def vOK (v : MV) : Prop := match v with
  | Sum.inl z => inR z
  | Sum.inr (Sum.inl _) => True
  | Sum.inr (Sum.inr (Sum.inl _)) => True
  | Sum.inr (Sum.inr (Sum.inr _)) => False
theorem oi_t (t : Int32) : Int32.ofInt t.toInt = t := Int32.ofInt_toInt t
theorem inR_t (t : Int32) : inR t.toInt := ⟨by have := Int32.le_toInt t; simpa using this, by have := Int32.toInt_lt t; omega⟩
theorem toI_of {z : Int} (h : inR z) : (Int32.ofInt z).toInt = z := Int32.toInt_ofInt_of_le (by have := h.1; simpa using this) (by have := h.2; omega)
theorem w32_eq {z : Int} (h1 : -2147483648 ≤ z) (h2 : z ≤ 2147483647) : w32 z = z := toI_of ⟨h1, h2⟩
theorem oi_w32 (z : Int) : Int32.ofInt (w32 z) = Int32.ofInt z := oi_t _
theorem oi_inj {x y : Int} (hx : inR x) (hy : inR y) : Int32.ofInt x = Int32.ofInt y ↔ x = y := by
  constructor
  · intro h
    rw [← toI_of hx, ← toI_of hy, h]
  · intro h; rw [h]
theorem oi_lt {x y : Int} (hx : inR x) (hy : inR y) : Int32.ofInt x < Int32.ofInt y ↔ x < y := by rw [Int32.lt_iff_toInt_lt, toI_of hx, toI_of hy]
theorem oi_le {x y : Int} (hx : inR x) (hy : inR y) : Int32.ofInt x ≤ Int32.ofInt y ↔ x ≤ y := by rw [Int32.le_iff_toInt_le, toI_of hx, toI_of hy]
theorem ofi_0 : Int32.ofInt 0 = 0 := by decide
theorem inR_0 : inR 0 := by unfold inR; omega
/-- where the cells are: the script, the two static arrays, then from a base on -/
abbrev GA : Type := Nat × Nat × Nat × Nat
def gB (g : GA) : Nat := g.2.2.2
def adr (g : GA) (a : Nat) : Nat := if a = 0 then g.1 else if a = 1 then g.2.1 else if a = 2 then g.2.2.1 else g.2.2.2 + (a - 3)
def cv (g : GA) (v : MV) : Value := match v with
  | Sum.inl z => .int (Int32.ofInt z)
  | Sum.inr (Sum.inl x) => .long x
  | Sum.inr (Sum.inr (Sum.inl r)) => va_rf (r.map (adr g))
  | Sum.inr (Sum.inr (Sum.inr _)) => .null
def toL (g : GA) : Nat → List MV → List (Nat × Value)
  | _, [] => []
  | i, Sum.inr (Sum.inr (Sum.inr _)) :: r => toL g (i + 1) r
  | i, v :: r => (i, cv g v) :: toL g (i + 1) r
theorem toL_mem (g : GA) : ∀ (ls : List MV) (i q : Nat) (w : Value), (q, w) ∈ toL g i ls ↔ ∃ (n : Nat) (v : MV), q = i + n ∧ ls[n]? = some v ∧ v ≠ vU ∧ w = cv g v := by
  intro ls
  induction ls with
  | nil => intro i q w; simp [toL]
  | cons v r ih =>
    intro i q w
    have key : (∃ (n : Nat) (v1 : MV), q = i + n ∧ (v :: r)[n]? = some v1 ∧ v1 ≠ vU ∧ w = cv g v1) ↔ (q = i ∧ v ≠ vU ∧ w = cv g v) ∨ ∃ (n : Nat) (v1 : MV), q = (i + 1) + n ∧ r[n]? = some v1 ∧ v1 ≠ vU ∧ w = cv g v1 := by
      constructor
      · rintro ⟨n, v1, h1, h2, h3, h4⟩
        cases n with
        | zero => simp at h2; subst h2; exact Or.inl ⟨by omega, h3, h4⟩
        | succ n => simp at h2; exact Or.inr ⟨n, v1, by omega, h2, h3, h4⟩
      · rintro (⟨h1, h2, h3⟩ | ⟨n, v1, h1, h2, h3, h4⟩)
        · exact ⟨0, v, by omega, by simp, h2, h3⟩
        · exact ⟨n + 1, v1, by omega, by simpa using h2, h3, h4⟩
    rw [key, ← ih]
    match v with
    | Sum.inl z => simp [toL]
    | Sum.inr (Sum.inl x) => simp [toL]
    | Sum.inr (Sum.inr (Sum.inl x)) => simp [toL]
    | Sum.inr (Sum.inr (Sum.inr ())) => simp [toL]
/-- the places of a frame -/
def LR (g : GA) (nL : Nat) (ls : List MV) (la : Array Slot) : Prop := ls.length = nL ∧ (∀ v ∈ ls, v = vU ∨ vOK v) ∧ lv_has la nL (toL g 0 ls)
theorem LR.at {g : GA} {nL : Nat} {ls : List MV} {la : Array Slot} (h : LR g nL ls la) {i : Nat} {v : MV} (hv : ls[i]? = some v) (hn : v ≠ vU) : la[i]? = some (.val (cv g v)) :=
  h.2.2.2.2 (i, cv g v) ((toL_mem g ls 0 i _).mpr ⟨i, v, by omega, hv, hn, rfl⟩)
theorem LR.ok {g : GA} {nL : Nat} {ls : List MV} {la : Array Slot} (h : LR g nL ls la) {i : Nat} {v : MV} (hv : ls[i]? = some v) (hn : v ≠ vU) : vOK v := (h.2.1 v (List.mem_of_getElem? hv)).resolve_left hn
theorem stL_len (ls : List MV) (i : Nat) (v : MV) : (stL ls i v).length = ls.length := by
  unfold stL
  split
  · simp
  · split <;> simp
theorem stL_at (ls : List MV) (i : Nat) (v : MV) {n : Nat} {w : MV} (h : (stL ls i v)[n]? = some w) : (n = i ∧ w = v) ∨ (n ≠ i ∧ (w = vU ∨ (ls[n]? = some w ∧ ¬ (n + 1 = i ∧ ∃ x, w = vL x)))) := by
  unfold stL at h
  split at h
  · rw [List.getElem?_set] at h
    split at h
    · rename_i h1; split at h <;> simp_all
    · rename_i h1; exact Or.inr ⟨fun e => h1 e.symm, Or.inr ⟨h, by omega⟩⟩
  · rename_i i'
    split at h
    · rename_i x hx
      rw [List.getElem?_set] at h
      split at h
      · rename_i h1; split at h <;> simp_all
      · rename_i h1
        rw [List.getElem?_set] at h
        split at h
        · rename_i h2; split at h
          · exact Or.inr ⟨fun e => h1 e.symm, Or.inl (Option.some.inj h).symm⟩
          · cases h
        · rename_i h2; exact Or.inr ⟨fun e => h1 e.symm, Or.inr ⟨h, by omega⟩⟩
    · rename_i hx
      rw [List.getElem?_set] at h
      split at h
      · rename_i h1; split at h <;> simp_all
      · rename_i h1
        refine Or.inr ⟨fun e => h1 e.symm, Or.inr ⟨h, ?_⟩⟩
        rintro ⟨h2, x, rfl⟩
        have : n = i' := by omega
        subst this
        exact hx x h
theorem cv_cat {g : GA} {v : MV} (h : (cv g v).category = 2) : ∃ x, v = vL x := by
  match v with
  | Sum.inl z => simp [cv, Value.category] at h
  | Sum.inr (Sum.inl x) => exact ⟨x, rfl⟩
  | Sum.inr (Sum.inr (Sum.inl r)) => cases r <;> simp [cv, va_rf, Value.category] at h
  | Sum.inr (Sum.inr (Sum.inr _)) => simp [cv, Value.category] at h
/-- a value of one place is stored -/
theorem LR.st {g : GA} {nL : Nat} {ls : List MV} {la : Array Slot} (h : LR g nL ls la) {i : Nat} {v : MV} (hv : vOK v) {la' : Array Slot} (hl : lv_has la' nL ((i, cv g v) :: (toL g 0 ls).filter (fun q => !(q.1 == i) && !(q.1 + 1 == i && q.2.category == 2)))) : LR g nL (stL ls i v) la' := by
  refine ⟨by rw [stL_len]; exact h.1, fun w hw => ?_, hl.1, hl.2.1, fun q hq => ?_⟩
  · obtain ⟨n, hn⟩ := List.getElem?_of_mem hw
    rcases stL_at ls i v hn with ⟨-, rfl⟩ | ⟨-, h1 | ⟨h1, -⟩⟩
    · exact Or.inr hv
    · exact Or.inl h1
    · exact h.2.1 w (List.mem_of_getElem? h1)
  · obtain ⟨q1, q2⟩ := q
    obtain ⟨n, w, e1, e2, e3, e4⟩ := (toL_mem g _ 0 q1 q2).mp hq
    rw [Nat.zero_add] at e1
    subst e1; subst e4
    rcases stL_at ls i v e2 with ⟨rfl, rfl⟩ | ⟨h0, h1 | ⟨h1, h2⟩⟩
    · exact hl.2.2 _ List.mem_cons_self
    · exact absurd h1 e3
    · refine hl.2.2 _ (List.mem_cons_of_mem _ (List.mem_filter.mpr ⟨(toL_mem g ls 0 q1 _).mpr ⟨q1, w, by omega, h1, e3, rfl⟩, ?_⟩))
      simp only [Bool.and_eq_true, Bool.not_eq_true', beq_eq_false_iff_ne, Bool.and_eq_false_iff, ne_eq]
      refine ⟨h0, ?_⟩
      by_cases hc : (cv g w).category = 2
      · exact Or.inl fun e => h2 ⟨e, cv_cat hc⟩
      · exact Or.inr hc
theorem LR.stl {g : GA} {nL : Nat} {ls : List MV} {la : Array Slot} (h : LR g nL ls la) {i : Nat} {x : Int64} {la' : Array Slot} (hl : lv_has la' nL ((i, Value.long x) :: (toL g 0 ls).filter (fun q => !(q.1 == i) && (!(q.1 == i + 1) && !(q.1 + 1 == i && q.2.category == 2))))) : LR g nL ((stL ls i (vL x)).set (i + 1) vU) la' := by
  refine ⟨by rw [List.length_set, stL_len]; exact h.1, fun w hw => ?_, hl.1, hl.2.1, fun q hq => ?_⟩
  · rcases List.mem_or_eq_of_mem_set hw with hw | rfl
    · obtain ⟨n, hn⟩ := List.getElem?_of_mem hw
      rcases stL_at ls i _ hn with ⟨-, rfl⟩ | ⟨-, h1 | ⟨h1, -⟩⟩
      · exact Or.inr trivial
      · exact Or.inl h1
      · exact h.2.1 w (List.mem_of_getElem? h1)
    · exact Or.inl rfl
  · obtain ⟨q1, q2⟩ := q
    obtain ⟨n, w, e1, e2, e3, e4⟩ := (toL_mem g _ 0 q1 q2).mp hq
    rw [Nat.zero_add] at e1
    subst e1; subst e4
    rw [List.getElem?_set] at e2
    split at e2
    · split at e2
      · exact absurd (Option.some.inj e2).symm e3
      · cases e2
    · rename_i h9
      rcases stL_at ls i _ e2 with ⟨rfl, rfl⟩ | ⟨h0, h1 | ⟨h1, h2⟩⟩
      · exact hl.2.2 _ List.mem_cons_self
      · exact absurd h1 e3
      · refine hl.2.2 _ (List.mem_cons_of_mem _ (List.mem_filter.mpr ⟨(toL_mem g ls 0 q1 _).mpr ⟨q1, w, by omega, h1, e3, rfl⟩, ?_⟩))
        simp only [Bool.and_eq_true, Bool.not_eq_true', beq_eq_false_iff_ne, Bool.and_eq_false_iff, ne_eq]
        refine ⟨h0, fun e => h9 e.symm, ?_⟩
        by_cases hc : (cv g w).category = 2
        · exact Or.inl fun e => h2 ⟨e, cv_cat hc⟩
        · exact Or.inr hc
theorem LR.kill1 {g : GA} {nL : Nat} {ls : List MV} {la : Array Slot} (h : LR g nL ls la) (i : Nat) : LR g nL (ls.set i vU) la := by
  refine ⟨by rw [List.length_set]; exact h.1, fun w hw => ?_, h.2.2.1, h.2.2.2.1, fun q hq => ?_⟩
  · rcases List.mem_or_eq_of_mem_set hw with hw | rfl
    · exact h.2.1 w hw
    · exact Or.inl rfl
  · obtain ⟨q1, q2⟩ := q
    obtain ⟨n, w, e1, e2, e3, e4⟩ := (toL_mem g _ 0 q1 q2).mp hq
    rw [Nat.zero_add] at e1
    subst e1; subst e4
    rw [List.getElem?_set] at e2
    split at e2
    · split at e2
      · exact absurd (Option.some.inj e2).symm e3
      · cases e2
    · exact h.2.2.2.2 _ ((toL_mem g ls 0 q1 _).mpr ⟨q1, w, by omega, e2, e3, rfl⟩)
theorem LR.kill {g : GA} {nL : Nat} {la : Array Slot} : ∀ (ns : List Nat) {ls : List MV}, LR g nL ls la → LR g nL (killL ls ns) la
  | [], _, h => h
  | i :: r, _, h => LR.kill r (h.kill1 i)
/-- at a method's entry -/
theorem lvargs_fl (g : GA) : ∀ (as : List MV) (i q : Nat) (w : Value) (n : Nat) (v : MV), q = i + n → (flL as)[n]? = some v → v ≠ vU → w = cv g v → (q, w) ∈ lv_args i (as.map (cv g)) := by
  intro as
  induction as with
  | nil => intro i q w n v h1 h2; simp [flL] at h2
  | cons a r ih =>
    intro i q w n v h1 h2 h3 h4
    match a with
    | Sum.inr (Sum.inl x) =>
      cases n with
      | zero => simp [flL] at h2; subst h2; subst h4; subst h1; simp [lv_args]
      | succ n => cases n with
        | zero => simp [flL] at h2; exact absurd h2.symm h3
        | succ n =>
          have h2' : (flL r)[n]? = some v := by simpa [flL] using h2
          have := ih (i + 2) q w n v (by omega) h2' h3 h4
          simp [lv_args, cv, Value.category]
          exact Or.inr this
    | Sum.inl z =>
      cases n with
      | zero => simp [flL] at h2; subst h2; subst h4; subst h1; simp [lv_args]
      | succ n =>
        have h2' : (flL r)[n]? = some v := by simpa [flL] using h2
        have := ih (i + 1) q w n v (by omega) h2' h3 h4
        simp [lv_args, cv, Value.category]
        exact Or.inr this
    | Sum.inr (Sum.inr (Sum.inl z)) =>
      cases n with
      | zero => simp [flL] at h2; subst h2; subst h4; subst h1; simp [lv_args]
      | succ n =>
        have h2' : (flL r)[n]? = some v := by simpa [flL] using h2
        have := ih (i + 1) q w n v (by omega) h2' h3 h4
        cases z <;> (simp [lv_args, cv, va_rf, Value.category]; exact Or.inr this)
    | Sum.inr (Sum.inr (Sum.inr ())) =>
      cases n with
      | zero => simp [flL] at h2; exact absurd h2.symm h3
      | succ n =>
        have h2' : (flL r)[n]? = some v := by simpa [flL] using h2
        have := ih (i + 1) q w n v (by omega) h2' h3 h4
        simp [lv_args, cv, Value.category]
        exact Or.inr this
end
section
-- ===== the memory =====
abbrev clRule : String := "DictProof$Rule"
abbrev clShape : String := "DictProof$Shape"
abbrev clGoal : String := "DictProof$Goal"
def aty (k : Nat) : FieldType := match k with
  | 21 => .byte
  | 22 => .boolean
  | 23 => .object clRule
  | 24 => .object clShape
  | 25 => .object clGoal
  | 26 => .object clGoal
  | 27 => .array .int
  | _ => .int
def fvl (g : GA) (M : MM) (a c k : Nat) : Value := match fkind c k with
  | 0 => .int (Int32.ofInt (M.2.2.1 a k))
  | 1 => .int (Int32.ofInt (M.2.2.1 a k))
  | 2 => .long (M.2.2.2 a k)
  | 3 => va_rf ((M.2.1 a k).map (adr g))
  | _ => va_rf ((fz M.1 a k).map (adr g))
def elv (g : GA) (M : MM) (a kind i : Nat) : Value := if kind ≤ 22 then .int (Int32.ofInt (M.2.2.1 a i)) else if frK kind = true then va_rf ((fz M.1 a i).map (adr g)) else va_rf ((M.2.1 a i).map (adr g))
def arrOK (U : State) (H : Heap) (q : Nat) (ty : FieldType) (n : Nat) (f : Nat → Value) : Prop := ∃ cell : Cell, H[q]? = some cell ∧ U.isArrayOf cell ty ∧ cell.vm ≠ .unknown ∧ (n ≤ cell.slots.size ∧ cell.slots.size.toInt32 = Int32.ofNat n) ∧ (∀ j, j < n → cell.slots[j]? = some (f j)) ∧ (match ty with
  | .object C => va_RA U cell.cls (.object C)
  | _ => True)
def celOK (g : GA) (D : va_G) (U : State) (M : MM) (H : Heap) (a : Nat) (e : Nat × Nat × List (Option Nat)) : Prop :=
  (e.1 < 10 → t_OB (adr g a) (D.1 e.1) (cN e.1) (D.2 e.1) H (fun k => fvl g M a e.1 k)) ∧ (¬ e.1 < 10 → (19 ≤ e.1 ∧ e.1 ≤ 27) ∧ arrOK U H (adr g a) (aty e.1) e.2.1 (fun i => elv g M a e.1 i)) ∧ e.2.1 ≤ 100000
def gA (g : GA) : Nat → Prop := fun q => gB g ≤ q
def Rep (g : GA) (D : va_G) (U : State) (M : MM) (H : Heap) : Prop :=
  (∀ (a : Nat) (e : Nat × Nat × List (Option Nat)), M.1[a]? = some e → celOK g D U M H a e) ∧ (∀ a, a < 3 → kd M.1 a = 19) ∧ 3 ≤ M.1.length ∧ H.size = gB g + (M.1.length - 3) ∧ (∀ (a : Nat) (i : Int), inR (M.2.2.1 a i)) ∧ (g.1 < gB g ∧ g.2.1 < gB g ∧ g.2.2.1 < gB g) ∧
  va_Z "DictProof" "SO_OF_KINDS" "[I" (.ref g.2.1) (gA g) U H ∧ va_Z "DictProof$Shape" "PARTS" "[I" (.ref g.2.2.1) (gA g) U H
def aoI (U : State) : Prop := (Cond.arrayOver (.array .int)).before #[] U = true
def Kn (D : va_G) (U : State) : Prop := va_K D vwCl [] U ∧ (∀ o, ∀ e ∈ nlT.getD o [], va_Nw (.methodLinkNest (cnm o) e.1 (yK e.2) "DictProof") U) ∧ va_AO clRule U ∧ va_AO clShape U ∧ va_AO clGoal U ∧ aoI U
theorem arrOK.moved {u U : State} (hvm : u.vm.Alike U.vm) {H : Heap} {q : Nat} {ty : FieldType} {n : Nat} {f : Nat → Value} (h : arrOK u H q ty n f) : arrOK U H q ty n f := by
  obtain ⟨cell, h1, h2, h3, h4, h5, h6⟩ := h
  refine ⟨cell, h1, State.isArrayOf_alike hvm h2, h3, h4, h5, ?_⟩
  split
  · exact va_RA.moved hvm h6
  · trivial
theorem arrOK.kept {U : State} {H H1 : Heap} {q : Nat} {ty : FieldType} {n : Nat} {f : Nat → Value} (h : arrOK U H q ty n f) (hq : H1[q]? = H[q]?) : arrOK U H1 q ty n f := by
  obtain ⟨cell, h1, h2⟩ := h
  exact ⟨cell, by rw [hq]; exact h1, h2⟩
theorem arrOK.to {U : State} {H : Heap} {q : Nat} {ty : FieldType} {n : Nat} {f f' : Nat → Value} (h : arrOK U H q ty n f) (hf : ∀ j, j < n → f j = f' j) : arrOK U H q ty n f' := by
  obtain ⟨cell, h1, h2, h3, h4, h5, h6⟩ := h
  exact ⟨cell, h1, h2, h3, h4, fun j hj => by rw [← hf j hj]; exact h5 j hj, h6⟩
theorem celOK.moved {u U : State} (hvm : u.vm.Alike U.vm) {g : GA} {D : va_G} {M : MM} {H : Heap} {a : Nat} {e : Nat × Nat × List (Option Nat)} (h : celOK g D u M H a e) : celOK g D U M H a e := ⟨h.1, fun h2 => ⟨(h.2.1 h2).1, (h.2.1 h2).2.moved hvm⟩, h.2.2⟩
theorem Rep.moved {u U : State} (hvm : u.vm.Alike U.vm) {g : GA} {D : va_G} {M : MM} {H : Heap} (h : Rep g D u M H) : Rep g D U M H := by
  obtain ⟨h1, h2, h3, h4, h5, h6, h7, h8⟩ := h
  exact ⟨fun a e he => (h1 a e he).moved hvm, h2, h3, h4, h5, h6, h7.moved hvm, h8.moved hvm⟩
theorem aoI.moved {u U : State} (hvm : u.vm.Alike U.vm) (h : aoI u) : aoI U := by
  have h2 := Cond.arrayOver_setVmC (args := #[]) (s := u) hvm (.array .int)
  have h3 : (Cond.arrayOver (.array .int)).before #[] (u.setVm U.vm) = true := h2.trans h
  exact h3
theorem Kn.moved {D : va_G} {u U : State} (hW : u.WarmedH U.vm) (h : Kn D u) : Kn D U := by
  obtain ⟨h1, h2, h3, h4, h5, h6⟩ := h
  exact ⟨h1.moved hW.alike, fun o e he => va_Nw.warmM hW (h2 o e he), h3.moved hW.alike, h4.moved hW.alike, h5.moved hW.alike, h6.moved hW.alike⟩
theorem adr_hi {g : GA} {a : Nat} (h : 3 ≤ a) : adr g a = gB g + (a - 3) := by
  unfold adr gB
  rw [if_neg (by omega), if_neg (by omega), if_neg (by omega)]
theorem adr_lo {g : GA} {a : Nat} (hg : g.1 < gB g ∧ g.2.1 < gB g ∧ g.2.2.1 < gB g) (h : a < 3) : adr g a < gB g := by
  unfold adr
  split
  · exact hg.1
  · split
    · exact hg.2.1
    · split
      · exact hg.2.2
      · omega
theorem adr_ne {g : GA} {a b : Nat} (hg : g.1 < gB g ∧ g.2.1 < gB g ∧ g.2.2.1 < gB g) (ha : 3 ≤ a) (h : b ≠ a) : adr g b ≠ adr g a := by
  rw [adr_hi ha]
  by_cases hb : b < 3
  · have := adr_lo hg hb; omega
  · rw [adr_hi (by omega)]; omega
theorem kd_at {S : MS} {a : Nat} {e : Nat × Nat × List (Option Nat)} (h : S[a]? = some e) : kd S a = e.1 := by unfold kd; rw [h]
theorem ln_at {S : MS} {a : Nat} {e : Nat × Nat × List (Option Nat)} (h : S[a]? = some e) : ln S a = e.2.1 := by unfold ln; rw [h]
theorem fz_at {S : MS} {a : Nat} {e : Nat × Nat × List (Option Nat)} (h : S[a]? = some e) (k : Nat) : fz S a k = e.2.2.getD k none := by unfold fz; rw [h]
theorem kd_ex {S : MS} {a k : Nat} (h : kd S a = k) (hk : k < 999) : ∃ e, S[a]? = some e ∧ e.1 = k := by
  unfold kd at h
  split at h
  · rename_i e he; exact ⟨e, he, h⟩
  · omega
theorem Rep.hi {g : GA} {D : va_G} {U : State} {M : MM} {H : Heap} (h : Rep g D U M H) {a k : Nat} (hk : kd M.1 a = k) (h9 : k ≠ 19) : 3 ≤ a := by
  apply Nat.le_of_not_lt
  intro ha
  exact h9 (by rw [← hk]; exact h.2.1 a ha)
/-- the heap changes at one cell of ours alone, and the memory there alone -/
theorem Rep.put {g : GA} {D : va_G} {U : State} {M M' : MM} {H H1 : Heap} (h : Rep g D U M H) {a : Nat} (ha : 3 ≤ a) (hz : H1.size = H.size) (hq : ∀ q, q ≠ adr g a → H1[q]? = H[q]?) (hlen : M'.1.length = M.1.length) (hS : ∀ b, b ≠ a → M'.1[b]? = M.1[b]?) (hR : ∀ b, b ≠ a → M'.2.1 b = M.2.1 b) (hI : ∀ b, b ≠ a → M'.2.2.1 b = M.2.2.1 b) (hJ : ∀ b, b ≠ a → M'.2.2.2 b = M.2.2.2 b)
    (hrng : ∀ i, inR (M'.2.2.1 a i)) (hc : ∀ e, M'.1[a]? = some e → celOK g D U M' H1 a e) : Rep g D U M' H1 := by
  obtain ⟨h1, h2, h3, h4, h5, h6, h7, h8⟩ := h
  have hk : ∀ q : Nat, q < H.size → ¬ gA g q → H1[q]? = H[q]? := fun q _ hn => hq q (fun e => hn (by unfold gA; rw [e, adr_hi ha]; omega))
  refine ⟨fun b e he => ?_, fun b hb => ?_, by omega, by rw [hz, h4, hlen], fun b i => ?_, h6, h7.kept hk, h8.kept hk⟩
  · by_cases hb : b = a
    · subst hb; exact hc e he
    · rw [hS b hb] at he
      have hcell := h1 b e he
      have hqb := hq (adr g b) (adr_ne h6 ha hb)
      have hfz : ∀ k, fz M'.1 b k = fz M.1 b k := fun k => by unfold fz; rw [hS b hb]
      refine ⟨fun h9 => ?_, fun h9 => ⟨(hcell.2.1 h9).1, ?_⟩, hcell.2.2⟩
      · refine ((hcell.1 h9).kept hqb).to (fun k _ => ?_)
        show fvl g M b e.1 k = fvl g M' b e.1 k
        unfold fvl
        rw [hfz, hR b hb, hI b hb, hJ b hb]
      · refine ((hcell.2.1 h9).2.kept hqb).to (fun k _ => ?_)
        show elv g M b e.1 k = elv g M' b e.1 k
        unfold elv
        rw [hfz, hR b hb, hI b hb]
  · rw [show kd M'.1 b = kd M.1 b by unfold kd; rw [hS b (by omega)]]; exact h2 b hb
  · by_cases hb : b = a
    · subst hb; exact hrng i
    · rw [hI b hb]; exact h5 b i
theorem upM_ne {α : Type} {I : Nat → Int → α} {a b : Nat} {i : Int} {z : α} (h : b ≠ a) : upM I a i z b = I b := by unfold upM; rw [if_neg h]
theorem upM_eq {α : Type} {I : Nat → Int → α} {a : Nat} {i : Int} {z : α} : upM I a i z a = upr (I a) i z := by unfold upM; rw [if_pos rfl]
theorem upr_eq {α : Type} {f : Int → α} {i : Int} {z : α} : upr f i z i = z := by unfold upr; rw [if_pos rfl]
theorem upr_ne {α : Type} {f : Int → α} {i k : Int} {z : α} (h : k ≠ i) : upr f i z k = f k := by unfold upr; rw [if_neg h]
/-- a cell of an array, one place changed -/
theorem arrOK.set {U : State} {H H1 : Heap} {q : Nat} {ty : FieldType} {n : Nat} {f f' : Nat → Value} (h : arrOK U H q ty n f) {i : Nat} {v : Value} (hc : ∀ cell, H[q]? = some cell → H1[q]? = some (cell.setSlot i v)) (hi : i < n) (hv : f' i = v) (hf : ∀ j, j < n → j ≠ i → f' j = f j) : arrOK U H1 q ty n f' := by
  obtain ⟨cell, h1, h2, h3, h4, h5, h6⟩ := h
  refine ⟨cell.setSlot i v, hc cell h1, ?_, h3, ?_, fun j hj => ?_, h6⟩
  · obtain ⟨g1, k, g2, comp, g3⟩ := h2
    exact ⟨g1, k, g2, comp, g3⟩
  · simp only [Cell.setSlot, Array.size_setIfInBounds]; exact h4
  · by_cases e : j = i
    · subst e
      have h9 : j < cell.slots.size := Nat.lt_of_lt_of_le hj h4.1
      simp [Cell.setSlot, h9, hv]
    · rw [hf j hj e, ← h5 j hj]
      simp [Cell.setSlot, Array.getElem?_setIfInBounds, Ne.symm e]
theorem adr_len {g : GA} {D : va_G} {U : State} {M : MM} {H : Heap} (h : Rep g D U M H) (i : Nat) : adr g (M.1.length + i) = H.size + i := by
  have h3 := h.2.2.1
  rw [adr_hi (by omega), h.2.2.2.1]
  omega
theorem adr_in {g : GA} {D : va_G} {U : State} {M : MM} {H : Heap} (h : Rep g D U M H) {a : Nat} (ha : a < M.1.length) : adr g a < H.size := by
  have h3 := h.2.2.1
  rw [h.2.2.2.1]
  by_cases hb : a < 3
  · have := adr_lo h.2.2.2.2.2.1 hb; omega
  · rw [adr_hi (by omega)]; omega
def newM (M : MM) (es : MS) : MM := (M.1 ++ es, zrN M.2.1 M.1.length es.length none, zrN M.2.2.1 M.1.length es.length 0, zrN M.2.2.2 M.1.length es.length 0)
theorem zrN_lo {α : Type} {I : Nat → Int → α} {a n b : Nat} {d : α} (h : b < a) : zrN I a n d b = I b := by unfold zrN; rw [if_neg (by omega)]
theorem zrN_in {α : Type} {I : Nat → Int → α} {a n b : Nat} {d : α} (h : a ≤ b) (h2 : b < a + n) : zrN I a n d b = fun _ => d := by unfold zrN; rw [if_pos ⟨h, h2⟩]
/-- new cells come -/
theorem Rep.new {g : GA} {D : va_G} {U : State} {M : MM} {H H1 : Heap} (h : Rep g D U M H) (es : MS) (hz : H1.size = H.size + es.length) (ho : ∀ q, q < H.size → H1[q]? = H[q]?) (hn : ∀ (i : Nat) (e : Nat × Nat × List (Option Nat)), es[i]? = some e → celOK g D U (newM M es) H1 (M.1.length + i) e) : Rep g D U (newM M es) H1 := by
  have hh := h
  obtain ⟨h1, h2, h3, h4, h5, h6, h7, h8⟩ := h
  have hk : ∀ q : Nat, q < H.size → ¬ gA g q → H1[q]? = H[q]? := fun q hq _ => ho q hq
  refine ⟨fun b e he => ?_, fun b hb => ?_, ?_, ?_, fun b i => ?_, h6, h7.kept hk, h8.kept hk⟩
  · by_cases hb : b < M.1.length
    · have he2 : M.1[b]? = some e := by
        have : (M.1 ++ es)[b]? = some e := he
        rwa [List.getElem?_append_left hb] at this
      have hcell := h1 b e he2
      have hqb := ho (adr g b) (adr_in hh hb)
      have hfz : ∀ k, fz (newM M es).1 b k = fz M.1 b k := fun k => by
        show fz (M.1 ++ es) b k = _
        unfold fz; rw [List.getElem?_append_left hb]
      have hR : (newM M es).2.1 b = M.2.1 b := zrN_lo hb
      have hI : (newM M es).2.2.1 b = M.2.2.1 b := zrN_lo hb
      have hJ : (newM M es).2.2.2 b = M.2.2.2 b := zrN_lo hb
      refine ⟨fun h9 => ?_, fun h9 => ⟨(hcell.2.1 h9).1, ?_⟩, hcell.2.2⟩
      · refine ((hcell.1 h9).kept hqb).to (fun k _ => ?_)
        show fvl g M b e.1 k = fvl g (newM M es) b e.1 k
        unfold fvl
        rw [hfz, hR, hI, hJ]
      · refine ((hcell.2.1 h9).2.kept hqb).to (fun k _ => ?_)
        show elv g M b e.1 k = elv g (newM M es) b e.1 k
        unfold elv
        rw [hfz, hR, hI]
    · have : (M.1 ++ es)[b]? = some e := he
      rw [List.getElem?_append_right (by omega)] at this
      have := hn _ _ this
      rwa [show M.1.length + (b - M.1.length) = b by omega] at this
  · rw [show kd (newM M es).1 b = kd M.1 b by show kd (M.1 ++ es) b = _; unfold kd; rw [List.getElem?_append_left (by omega)]]; exact h2 b hb
  · show 3 ≤ (M.1 ++ es).length
    rw [List.length_append]; omega
  · show H1.size = gB g + ((M.1 ++ es).length - 3)
    rw [List.length_append, hz, h4]; omega
  · show inR (zrN M.2.2.1 M.1.length es.length 0 b i)
    unfold zrN
    split
    · exact inR_0
    · exact h5 b i
end
section
-- ===== new int[6][2] (vr_outer: out of claim/NAMES.whole.lean.txt) =====
theorem vr_outer (c : ClassId) (N h0 : Nat) : ∀ i : Nat, Jvm.Free.Multi.outerC c N h0 i = arrV c N (fun j => va_rf (if j < i then some (h0 + 1 + j) else none))
  | 0 => by
    show ({ cls := c, slots := Array.replicate N .null, vm := .none } : Cell) = _
    rw [arrV_new]
    refine congrArg (arrV c N) (funext fun j => ?_)
    simp [va_rf]
  | i + 1 => by
    show (Jvm.Free.Multi.outerC c N h0 i).setSlot i (.ref (h0 + 1 + i)) = _
    rw [vr_outer c N h0 i, arrV_store]
    refine congrArg (arrV c N) (funext fun j => ?_)
    by_cases e : j = i
    · subst e
      simp [updV, va_rf]
    · by_cases h : j < i
      · simp [updV, e, h, Nat.lt_succ_of_lt h]
      · simp [updV, e, h, show ¬ j < i + 1 by omega]
theorem ra_outer (c : ClassId) (h0 : Nat) : Jvm.Free.Multi.outerC c 6 h0 6 = arrV c 6 (fun j => if j < 6 then .ref (h0 + 1 + j) else .null) := by
  rw [vr_outer]
  refine congrArg (arrV c 6) (funext fun j => ?_)
  by_cases h : j < 6
  · simp [h, va_rf]
  · simp [h, va_rf]
theorem ra_inner (c : ClassId) (K : Nat) : Jvm.Free.Multi.innerC c K (.int 0) = arrV c K (fun _ => .int 0) := by
  show ({ cls := c, slots := Array.replicate K (.int 0), vm := .none } : Cell) = _
  rw [arrV_new]
section MNA
variable {p : Program} {l : Launch} {e : Env} {R : Room} {s : State} {m : MethodId} {args : Array Value} {below : List Frame} {meth : Method} {c : Code} {H : Heap} {locs : List Loc} {cells slots : Nat} {Q : State → Prop} {cc : ByteArray} {pc : Nat} {ls : Array Slot} {rest : List Value}
theorem W_mna (hexec : p.tables.exec = Jvm.exec) (hb : c.code = cc) {own : String} {index : Nat} (hown : s.vm.findClass own = some m.cls) (hclink : (Cond.classLink own index "[[I").before args s = true) (hover : (Cond.arrayOver (.array .int)).before args s = true) (harr : (Cond.arrayClass .int).before args s = true) (hcells : cells + 7 ≤ R.cells) (hslots : slots + 18 ≤ R.slots) (hdg : decode cc pc = .ok (.multianewarray index 2, 4))
    (kk : ∀ H1 : Heap, H1.size = H.size + 7 → (∀ q, q < H.size → H1[q]? = H[q]?) → arrOK s H1 H.size (.array .int) 6 (fun j => .ref (H.size + 1 + j)) → (∀ i, i < 6 → arrOK s H1 (H.size + 1 + i) .int 2 (fun _ => .int 0)) → W p l e R s m args below meth c H1 locs (cells + 7) (slots + 18) Q (F0 m (pc + 4) ls (.ref H.size :: rest))) : W p l e R s m args below meth c H locs cells slots Q (F0 m pc ls (.int 2 :: .int 6 :: rest)) := by
  intro T hT Xs
  have e6 : (6 : Int32).toNatClampNeg = 6 := by decide
  have e2 : (2 : Int32).toNatClampNeg = 2 := by decide
  obtain ⟨vm1, cA, comp, -, fA, fC, hO, hI, X', step⟩ := Xs.multianewarray2F hexec hown hclink hover harr (g := F0 m pc ls (.int 2 :: .int 6 :: rest)) rfl (by rw [hb]; exact hdg) rfl (by decide) (by decide) (by rw [e6]; decide) (by rw [e2]; decide) (by rw [e2]; decide) rfl rfl (by rw [e6]; omega) (by rw [e6, e2]; omega)
  rw [e6, e2] at X' step
  generalize hF : Jvm.Free.Multi.fill (T.setVm vm1) cA comp 6 2 (defaultValue .int) 6 = F at X' step
  have hTh : (T.setVm vm1).heap = H := hT
  obtain ⟨f1, f2, -, -⟩ := Jvm.Free.Multi.fill_facts (T.setVm vm1) cA comp 6 2 (defaultValue .int) 6
  rw [hF, hTh] at f1 f2
  have hold : ∀ x : Nat, x < H.size → F.heap[x]? = H[x]? := fun x hx => by
    have := Jvm.Free.Multi.fill_old (T.setVm vm1) cA comp 6 2 (defaultValue .int) (a := x) (by rw [hTh]; exact hx) 6
    rw [hF, hTh] at this
    exact this
  have hrow : ∀ i : Nat, i < 6 → F.heap[H.size + 1 + i]? = some (arrV comp 2 (fun _ => .int 0)) := fun i hi => by
    have := Jvm.Free.Multi.fill_inner (T.setVm vm1) cA comp 6 2 (defaultValue .int) 6 i hi
    rw [hF, hTh, show defaultValue .int = .int 0 from rfl, ra_inner] at this
    exact this
  rw [ra_outer] at f2
  have hO1 := hO 6 H.size 6
  rw [ra_outer] at hO1
  have hI1 := hI 2 (.int 0)
  rw [ra_inner] at hI1
  obtain ⟨t, a1, b1⟩ := kk F.heap (by rw [f1]) hold ⟨_, f2, hO1.1, hO1.2, ⟨Nat.le_of_eq (arrV_size _ _ _).symm, by rw [arrV_size] <;> rfl⟩, fun i hi => by rw [arrV_read _ _ hi, if_pos hi], trivial⟩ (fun i hi => ⟨_, hrow i hi, hI1.1, hI1.2, ⟨Nat.le_of_eq (arrV_size _ _ _).symm, by rw [arrV_size] <;> rfl⟩, fun q hq => by rw [arrV_read _ _ hq], trivial⟩) F rfl X'
  refine ⟨t, step t ?_, b1⟩
  have e : T.heap.size = H.size := by rw [hT]
  rw [e]
  exact a1
end MNA
end
section
-- ===== each instruction of the mini-machine is the JVM's =====
def Cx (D : va_G) (p : Program) (R : Room) (s : State) (m : MethodId) (args : Array Value) (meth : Method) (c : Code) (k : Nat) : Prop := p.tables.exec = Jvm.exec ∧ c.code = cK k ∧ c.maxLocals = mxK k ∧ s.vm.findClass (cnm (owK k)) = some m.cls ∧ (∀ w ∈ lwG, w.before args s = true) ∧ Kn D s ∧ ((yK k).name = "<init>" → meth.name = "<init>") ∧ dpK k ≤ R.frames ∧ 28 * dpK k ≤ R.locals
def Sim (g : GA) (D : va_G) (l : Launch) (p : Program) (e : Env) (R : Room) (s : State) (m : MethodId) (args : Array Value) (below : List Frame) (meth : Method) (c : Code) (PQ : State → Prop) (k j : Nat) (ls st : List MV) (b : Nat × Nat) (M : MM) : Prop :=
  ∀ (H : Heap) (locs : List Loc) (cells slots : Nat) (la : Array Slot), Rep g D s M H → LR g (mxK k) ls la → (∀ v ∈ st, vOK v) → (∀ q ∈ locs, gB g ≤ q.base) → cells + b.1 ≤ R.cells → slots + b.2 ≤ R.slots → W p l e R s m args below meth c H locs cells slots PQ (F0 m (pcK k j) la (st.map (cv g)))
theorem gtI_inv {ls : List MV} {i : Nat} {f : Int → Option MO} {o : MO} (h : gtI ls i f = some o) : ∃ z, ls[i]? = some (vI z) ∧ f z = some o := by
  unfold gtI at h
  split at h
  · rename_i z hz; exact ⟨z, hz, h⟩
  · cases h
theorem gtL_inv {ls : List MV} {i : Nat} {f : Int64 → Option MO} {o : MO} (h : gtL ls i f = some o) : ∃ z, ls[i]? = some (vL z) ∧ f z = some o := by
  unfold gtL at h
  split at h
  · rename_i z hz; exact ⟨z, hz, h⟩
  · cases h
theorem gtR_inv {ls : List MV} {i : Nat} {f : Option Nat → Option MO} {o : MO} (h : gtR ls i f = some o) : ∃ z, ls[i]? = some (vR z) ∧ f z = some o := by
  unfold gtR at h
  split at h
  · rename_i z hz; exact ⟨z, hz, h⟩
  · cases h
theorem gd_inv {c : Bool} {o : Option MO} {x : MO} (h : gd c o = some x) : c = true ∧ o = some x := by
  unfold gd at h
  split at h
  · rename_i hc; exact ⟨hc, h⟩
  · cases h
theorem pI_inv {st : List MV} {f : Int → List MV → Option MO} {o : MO} (h : pI st f = some o) : ∃ x r, st = vI x :: r ∧ f x r = some o := by
  unfold pI at h
  split at h
  · exact ⟨_, _, rfl, h⟩
  · cases h
theorem pI2_inv {st : List MV} {f : Int → Int → List MV → Option MO} {o : MO} (h : pI2 st f = some o) : ∃ x y r, st = vI y :: vI x :: r ∧ f x y r = some o := by
  unfold pI2 at h
  split at h
  · exact ⟨_, _, _, rfl, h⟩
  · cases h
theorem pL_inv {st : List MV} {f : Int64 → List MV → Option MO} {o : MO} (h : pL st f = some o) : ∃ x r, st = vL x :: r ∧ f x r = some o := by
  unfold pL at h
  split at h
  · exact ⟨_, _, rfl, h⟩
  · cases h
theorem pL2_inv {st : List MV} {f : Int64 → Int64 → List MV → Option MO} {o : MO} (h : pL2 st f = some o) : ∃ x y r, st = vL y :: vL x :: r ∧ f x y r = some o := by
  unfold pL2 at h
  split at h
  · exact ⟨_, _, _, rfl, h⟩
  · cases h
theorem pIL_inv {st : List MV} {f : Int64 → Int → List MV → Option MO} {o : MO} (h : pIL st f = some o) : ∃ x y r, st = vI y :: vL x :: r ∧ f x y r = some o := by
  unfold pIL at h
  split at h
  · exact ⟨_, _, _, rfl, h⟩
  · cases h
theorem pQ_inv {st : List MV} {f : Option Nat → List MV → Option MO} {o : MO} (h : pQ st f = some o) : ∃ q r, st = vR q :: r ∧ f q r = some o := by
  unfold pQ at h
  split at h
  · exact ⟨_, _, rfl, h⟩
  · cases h
theorem pR_inv {st : List MV} {f : Nat → List MV → Option MO} {o : MO} (h : pR st f = some o) : ∃ a r, st = vR (some a) :: r ∧ f a r = some o := by
  unfold pR at h
  split at h
  · exact ⟨_, _, rfl, h⟩
  · cases h
theorem pIR_inv {st : List MV} {f : Nat → Int → List MV → Option MO} {o : MO} (h : pIR st f = some o) : ∃ a i r, st = vI i :: vR (some a) :: r ∧ f a i r = some o := by
  unfold pIR at h
  split at h
  · exact ⟨_, _, _, rfl, h⟩
  · cases h
theorem pIIR_inv {st : List MV} {f : Nat → Int → Int → List MV → Option MO} {o : MO} (h : pIIR st f = some o) : ∃ a i z r, st = vI z :: vI i :: vR (some a) :: r ∧ f a i z r = some o := by
  unfold pIIR at h
  split at h
  · exact ⟨_, _, _, _, rfl, h⟩
  · cases h
theorem pRIR_inv {st : List MV} {f : Nat → Int → Nat → List MV → Option MO} {o : MO} (h : pRIR st f = some o) : ∃ a i v r, st = vR (some v) :: vI i :: vR (some a) :: r ∧ f a i v r = some o := by
  unfold pRIR at h
  split at h
  · exact ⟨_, _, _, _, rfl, h⟩
  · cases h
theorem pLR_inv {st : List MV} {f : Nat → Int64 → List MV → Option MO} {o : MO} (h : pLR st f = some o) : ∃ a x r, st = vL x :: vR (some a) :: r ∧ f a x r = some o := by
  unfold pLR at h
  split at h
  · exact ⟨_, _, _, rfl, h⟩
  · cases h
theorem pQR_inv {st : List MV} {f : Nat → Option Nat → List MV → Option MO} {o : MO} (h : pQR st f = some o) : ∃ a q r, st = vR q :: vR (some a) :: r ∧ f a q r = some o := by
  unfold pQR at h
  split at h
  · exact ⟨_, _, _, rfl, h⟩
  · cases h
theorem ok1 {k j : Nat} {i : Instr} (hok : okOp k j = true) (hi : (opAt k j).1 = i) (hn : i ≠ .nop) : decode (cK k) (pcK k j) = .ok (i, (opAt k j).2.1.2) ∧ okI k j (opAt k j) (pcK k j) = true := by
  unfold okOp at hok
  simp only [hi] at hok
  rw [if_neg hn] at hok
  simp only [Bool.and_eq_true, decide_eq_true_eq] at hok
  exact hok
theorem vok_i (t : Int32) : vOK (vI t.toInt) := inR_t t
theorem vok_w (z : Int) : vOK (vI (w32 z)) := inR_t _
theorem vok_cons {v : MV} {r : List MV} (hv : vOK v) (hr : ∀ w ∈ r, vOK w) : ∀ w ∈ v :: r, vOK w := List.forall_mem_cons.mpr ⟨hv, hr⟩
section SIM
variable {g : GA} {D : va_G} {l : Launch} {p : Program} {e : Env} {R : Room} {s : State} {m : MethodId} {args : Array Value} {below : List Frame} {meth : Method} {c : Code} {PQ : State → Prop} {k j j' : Nat} {ls st ls' st' : List MV} {b b' : Nat × Nat} {M M' : MM}
theorem si_iadd (hC : Cx D p R s m args meth c k) (hok : okOp k j = true) (hi : (opAt k j).1 = .iadd) (hs : (pI2 st fun x y r => nx (j + 1) ls (vI (w32 (x + y)) :: r) b M) = some (Sum.inl (j', ls', st', b', M'))) (IH : Sim g D l p e R s m args below meth c PQ k j' ls' st' b' M') : Sim g D l p e R s m args below meth c PQ k j ls st b M := by
  obtain ⟨hd, h2⟩ := ok1 hok hi (fun h => by cases h)
  unfold okI at h2
  simp only [hi, Bool.and_eq_true, decide_eq_true_eq, fl1] at h2
  obtain ⟨hlen, hpc⟩ := h2
  rw [hlen] at hd hpc
  obtain ⟨x, y, r, rfl, hs⟩ := pI2_inv hs
  cases hs
  intro H locs cells slots la hRep hLR hst hlocs hcl hsl
  obtain ⟨hx, hb, hml, hown, hts, hK, hnm, hf1, hf2⟩ := hC
  have h3 := IH H locs cells slots la hRep hLR (vok_cons (inR_t _) (fun w hw => hst w (List.mem_cons_of_mem _ (List.mem_cons_of_mem _ hw)))) hlocs hcl hsl
  rw [hpc] at h3
  have e1 : Int32.ofInt (w32 (x + y)) = Int32.ofInt x + Int32.ofInt y := by rw [oi_w32, Int32.ofInt_add]
  refine lv_iadd hx hb hd ?_
  rw [← e1]
  exact h3
theorem si_isub (hC : Cx D p R s m args meth c k) (hok : okOp k j = true) (hi : (opAt k j).1 = .isub) (hs : (pI2 st fun x y r => nx (j + 1) ls (vI (w32 (x - y)) :: r) b M) = some (Sum.inl (j', ls', st', b', M'))) (IH : Sim g D l p e R s m args below meth c PQ k j' ls' st' b' M') : Sim g D l p e R s m args below meth c PQ k j ls st b M := by
  obtain ⟨hd, h2⟩ := ok1 hok hi (fun h => by cases h)
  unfold okI at h2
  simp only [hi, Bool.and_eq_true, decide_eq_true_eq, fl1] at h2
  obtain ⟨hlen, hpc⟩ := h2
  rw [hlen] at hd hpc
  obtain ⟨x, y, r, rfl, hs⟩ := pI2_inv hs
  cases hs
  intro H locs cells slots la hRep hLR hst hlocs hcl hsl
  obtain ⟨hx, hb, hml, hown, hts, hK, hnm, hf1, hf2⟩ := hC
  have h3 := IH H locs cells slots la hRep hLR (vok_cons (inR_t _) (fun w hw => hst w (List.mem_cons_of_mem _ (List.mem_cons_of_mem _ hw)))) hlocs hcl hsl
  rw [hpc] at h3
  have e1 : Int32.ofInt (w32 (x - y)) = Int32.ofInt x - Int32.ofInt y := by rw [oi_w32, Int32.ofInt_sub]
  refine lv_isub hx hb hd ?_
  rw [← e1]
  exact h3
theorem si_imul (hC : Cx D p R s m args meth c k) (hok : okOp k j = true) (hi : (opAt k j).1 = .imul) (hs : (pI2 st fun x y r => nx (j + 1) ls (vI (w32 (x * y)) :: r) b M) = some (Sum.inl (j', ls', st', b', M'))) (IH : Sim g D l p e R s m args below meth c PQ k j' ls' st' b' M') : Sim g D l p e R s m args below meth c PQ k j ls st b M := by
  obtain ⟨hd, h2⟩ := ok1 hok hi (fun h => by cases h)
  unfold okI at h2
  simp only [hi, Bool.and_eq_true, decide_eq_true_eq, fl1] at h2
  obtain ⟨hlen, hpc⟩ := h2
  rw [hlen] at hd hpc
  obtain ⟨x, y, r, rfl, hs⟩ := pI2_inv hs
  cases hs
  intro H locs cells slots la hRep hLR hst hlocs hcl hsl
  obtain ⟨hx, hb, hml, hown, hts, hK, hnm, hf1, hf2⟩ := hC
  have h3 := IH H locs cells slots la hRep hLR (vok_cons (inR_t _) (fun w hw => hst w (List.mem_cons_of_mem _ (List.mem_cons_of_mem _ hw)))) hlocs hcl hsl
  rw [hpc] at h3
  have e1 : Int32.ofInt (w32 (x * y)) = Int32.ofInt x * Int32.ofInt y := by rw [oi_w32, Int32.ofInt_mul]
  refine lv_imul hx hb hd ?_
  rw [← e1]
  exact h3
theorem si_iand (hC : Cx D p R s m args meth c k) (hok : okOp k j = true) (hi : (opAt k j).1 = .iand) (hs : (pI2 st fun x y r => nx (j + 1) ls (vI (iand x y) :: r) b M) = some (Sum.inl (j', ls', st', b', M'))) (IH : Sim g D l p e R s m args below meth c PQ k j' ls' st' b' M') : Sim g D l p e R s m args below meth c PQ k j ls st b M := by
  obtain ⟨hd, h2⟩ := ok1 hok hi (fun h => by cases h)
  unfold okI at h2
  simp only [hi, Bool.and_eq_true, decide_eq_true_eq, fl1] at h2
  obtain ⟨hlen, hpc⟩ := h2
  rw [hlen] at hd hpc
  obtain ⟨x, y, r, rfl, hs⟩ := pI2_inv hs
  cases hs
  intro H locs cells slots la hRep hLR hst hlocs hcl hsl
  obtain ⟨hx, hb, hml, hown, hts, hK, hnm, hf1, hf2⟩ := hC
  have h3 := IH H locs cells slots la hRep hLR (vok_cons (inR_t _) (fun w hw => hst w (List.mem_cons_of_mem _ (List.mem_cons_of_mem _ hw)))) hlocs hcl hsl
  rw [hpc] at h3
  have e1 : Int32.ofInt (iand x y) = Int32.ofInt x &&& Int32.ofInt y := oi_t _
  refine lv_iand hx hb hd ?_
  rw [← e1]
  exact h3
theorem si_ior (hC : Cx D p R s m args meth c k) (hok : okOp k j = true) (hi : (opAt k j).1 = .ior) (hs : (pI2 st fun x y r => nx (j + 1) ls (vI (ior x y) :: r) b M) = some (Sum.inl (j', ls', st', b', M'))) (IH : Sim g D l p e R s m args below meth c PQ k j' ls' st' b' M') : Sim g D l p e R s m args below meth c PQ k j ls st b M := by
  obtain ⟨hd, h2⟩ := ok1 hok hi (fun h => by cases h)
  unfold okI at h2
  simp only [hi, Bool.and_eq_true, decide_eq_true_eq, fl1] at h2
  obtain ⟨hlen, hpc⟩ := h2
  rw [hlen] at hd hpc
  obtain ⟨x, y, r, rfl, hs⟩ := pI2_inv hs
  cases hs
  intro H locs cells slots la hRep hLR hst hlocs hcl hsl
  obtain ⟨hx, hb, hml, hown, hts, hK, hnm, hf1, hf2⟩ := hC
  have h3 := IH H locs cells slots la hRep hLR (vok_cons (inR_t _) (fun w hw => hst w (List.mem_cons_of_mem _ (List.mem_cons_of_mem _ hw)))) hlocs hcl hsl
  rw [hpc] at h3
  have e1 : Int32.ofInt (ior x y) = Int32.ofInt x ||| Int32.ofInt y := oi_t _
  refine lv_ior hx hb hd ?_
  rw [← e1]
  exact h3
theorem si_ixor (hC : Cx D p R s m args meth c k) (hok : okOp k j = true) (hi : (opAt k j).1 = .ixor) (hs : (pI2 st fun x y r => nx (j + 1) ls (vI (ixor x y) :: r) b M) = some (Sum.inl (j', ls', st', b', M'))) (IH : Sim g D l p e R s m args below meth c PQ k j' ls' st' b' M') : Sim g D l p e R s m args below meth c PQ k j ls st b M := by
  obtain ⟨hd, h2⟩ := ok1 hok hi (fun h => by cases h)
  unfold okI at h2
  simp only [hi, Bool.and_eq_true, decide_eq_true_eq, fl1] at h2
  obtain ⟨hlen, hpc⟩ := h2
  rw [hlen] at hd hpc
  obtain ⟨x, y, r, rfl, hs⟩ := pI2_inv hs
  cases hs
  intro H locs cells slots la hRep hLR hst hlocs hcl hsl
  obtain ⟨hx, hb, hml, hown, hts, hK, hnm, hf1, hf2⟩ := hC
  have h3 := IH H locs cells slots la hRep hLR (vok_cons (inR_t _) (fun w hw => hst w (List.mem_cons_of_mem _ (List.mem_cons_of_mem _ hw)))) hlocs hcl hsl
  rw [hpc] at h3
  have e1 : Int32.ofInt (ixor x y) = Int32.ofInt x ^^^ Int32.ofInt y := oi_t _
  refine lv_ixor hx hb hd ?_
  rw [← e1]
  exact h3
theorem si_ishl (hC : Cx D p R s m args meth c k) (hok : okOp k j = true) (hi : (opAt k j).1 = .ishl) (hs : (pI2 st fun x y r => nx (j + 1) ls (vI (ishl x y) :: r) b M) = some (Sum.inl (j', ls', st', b', M'))) (IH : Sim g D l p e R s m args below meth c PQ k j' ls' st' b' M') : Sim g D l p e R s m args below meth c PQ k j ls st b M := by
  obtain ⟨hd, h2⟩ := ok1 hok hi (fun h => by cases h)
  unfold okI at h2
  simp only [hi, Bool.and_eq_true, decide_eq_true_eq, fl1] at h2
  obtain ⟨hlen, hpc⟩ := h2
  rw [hlen] at hd hpc
  obtain ⟨x, y, r, rfl, hs⟩ := pI2_inv hs
  cases hs
  intro H locs cells slots la hRep hLR hst hlocs hcl hsl
  obtain ⟨hx, hb, hml, hown, hts, hK, hnm, hf1, hf2⟩ := hC
  have h3 := IH H locs cells slots la hRep hLR (vok_cons (inR_t _) (fun w hw => hst w (List.mem_cons_of_mem _ (List.mem_cons_of_mem _ hw)))) hlocs hcl hsl
  rw [hpc] at h3
  have e1 : Int32.ofInt (ishl x y) = Int32.ofInt x <<< (Int32.ofInt y &&& 31) := oi_t _
  refine lv_ishl hx hb hd ?_
  rw [← e1]
  exact h3
theorem si_ishr (hC : Cx D p R s m args meth c k) (hok : okOp k j = true) (hi : (opAt k j).1 = .ishr) (hs : (pI2 st fun x y r => nx (j + 1) ls (vI (ishr x y) :: r) b M) = some (Sum.inl (j', ls', st', b', M'))) (IH : Sim g D l p e R s m args below meth c PQ k j' ls' st' b' M') : Sim g D l p e R s m args below meth c PQ k j ls st b M := by
  obtain ⟨hd, h2⟩ := ok1 hok hi (fun h => by cases h)
  unfold okI at h2
  simp only [hi, Bool.and_eq_true, decide_eq_true_eq, fl1] at h2
  obtain ⟨hlen, hpc⟩ := h2
  rw [hlen] at hd hpc
  obtain ⟨x, y, r, rfl, hs⟩ := pI2_inv hs
  cases hs
  intro H locs cells slots la hRep hLR hst hlocs hcl hsl
  obtain ⟨hx, hb, hml, hown, hts, hK, hnm, hf1, hf2⟩ := hC
  have h3 := IH H locs cells slots la hRep hLR (vok_cons (inR_t _) (fun w hw => hst w (List.mem_cons_of_mem _ (List.mem_cons_of_mem _ hw)))) hlocs hcl hsl
  rw [hpc] at h3
  have e1 : Int32.ofInt (ishr x y) = Int32.ofInt x >>> (Int32.ofInt y &&& 31) := oi_t _
  refine lv_ishr hx hb hd ?_
  rw [← e1]
  exact h3
theorem si_iushr (hC : Cx D p R s m args meth c k) (hok : okOp k j = true) (hi : (opAt k j).1 = .iushr) (hs : (pI2 st fun x y r => nx (j + 1) ls (vI (iushr x y) :: r) b M) = some (Sum.inl (j', ls', st', b', M'))) (IH : Sim g D l p e R s m args below meth c PQ k j' ls' st' b' M') : Sim g D l p e R s m args below meth c PQ k j ls st b M := by
  obtain ⟨hd, h2⟩ := ok1 hok hi (fun h => by cases h)
  unfold okI at h2
  simp only [hi, Bool.and_eq_true, decide_eq_true_eq, fl1] at h2
  obtain ⟨hlen, hpc⟩ := h2
  rw [hlen] at hd hpc
  obtain ⟨x, y, r, rfl, hs⟩ := pI2_inv hs
  cases hs
  intro H locs cells slots la hRep hLR hst hlocs hcl hsl
  obtain ⟨hx, hb, hml, hown, hts, hK, hnm, hf1, hf2⟩ := hC
  have h3 := IH H locs cells slots la hRep hLR (vok_cons (inR_t _) (fun w hw => hst w (List.mem_cons_of_mem _ (List.mem_cons_of_mem _ hw)))) hlocs hcl hsl
  rw [hpc] at h3
  have e1 : Int32.ofInt (iushr x y) = ((Int32.ofInt x).toUInt32 >>> ((Int32.ofInt y).toUInt32 &&& Int32.toUInt32 31)).toInt32 := oi_t _
  exact lv_iushr hx hb hd e1.symm h3
theorem si_idiv (hC : Cx D p R s m args meth c k) (hok : okOp k j = true) (hi : (opAt k j).1 = .idiv) (hs : (pI2 st fun x y r => gd (decide (¬ y = 0)) (nx (j + 1) ls (vI (w32 (x.tdiv y)) :: r) b M)) = some (Sum.inl (j', ls', st', b', M'))) (IH : Sim g D l p e R s m args below meth c PQ k j' ls' st' b' M') : Sim g D l p e R s m args below meth c PQ k j ls st b M := by
  obtain ⟨hd, h2⟩ := ok1 hok hi (fun h => by cases h)
  unfold okI at h2
  simp only [hi, Bool.and_eq_true, decide_eq_true_eq, fl1] at h2
  obtain ⟨hlen, hpc⟩ := h2
  rw [hlen] at hd hpc
  obtain ⟨x, y, r, rfl, hs⟩ := pI2_inv hs
  obtain ⟨hy, hs⟩ := gd_inv hs
  cases hs
  intro H locs cells slots la hRep hLR hst hlocs hcl hsl
  obtain ⟨hx, hb, hml, hown, hts, hK, hnm, hf1, hf2⟩ := hC
  have hy0 : ¬ y = 0 := of_decide_eq_true hy
  have hyr : inR y := hst (vI y) List.mem_cons_self
  have hxr : inR x := hst (vI x) (List.mem_cons_of_mem _ List.mem_cons_self)
  have hne : ¬ Int32.ofInt y = 0 := fun h => hy0 ((oi_inj hyr inR_0).mp (by rw [h, ofi_0]))
  have e0 : (Int32.ofInt x / Int32.ofInt y).toInt = w32 (x.tdiv y) := by rw [Int32.toInt_div, toI_of hxr, toI_of hyr]; unfold w32; rw [Int32.toInt_ofInt]
  have e1 : Int32.ofInt (w32 (x.tdiv y)) = Int32.ofInt x / Int32.ofInt y := by rw [← e0]; exact oi_t _
  have h3 := IH H locs cells slots la hRep hLR (vok_cons (by rw [← e0]; exact inR_t _) (fun w hw => hst w (List.mem_cons_of_mem _ (List.mem_cons_of_mem _ hw)))) hlocs hcl hsl
  rw [hpc] at h3
  refine lv_idiv hx hb hd hne ?_
  rw [← e1]
  exact h3
theorem si_irem (hC : Cx D p R s m args meth c k) (hok : okOp k j = true) (hi : (opAt k j).1 = .irem) (hs : (pI2 st fun x y r => gd (decide (¬ y = 0)) (nx (j + 1) ls (vI (x.tmod y) :: r) b M)) = some (Sum.inl (j', ls', st', b', M'))) (IH : Sim g D l p e R s m args below meth c PQ k j' ls' st' b' M') : Sim g D l p e R s m args below meth c PQ k j ls st b M := by
  obtain ⟨hd, h2⟩ := ok1 hok hi (fun h => by cases h)
  unfold okI at h2
  simp only [hi, Bool.and_eq_true, decide_eq_true_eq, fl1] at h2
  obtain ⟨hlen, hpc⟩ := h2
  rw [hlen] at hd hpc
  obtain ⟨x, y, r, rfl, hs⟩ := pI2_inv hs
  obtain ⟨hy, hs⟩ := gd_inv hs
  cases hs
  intro H locs cells slots la hRep hLR hst hlocs hcl hsl
  obtain ⟨hx, hb, hml, hown, hts, hK, hnm, hf1, hf2⟩ := hC
  have hy0 : ¬ y = 0 := of_decide_eq_true hy
  have hyr : inR y := hst (vI y) List.mem_cons_self
  have hxr : inR x := hst (vI x) (List.mem_cons_of_mem _ List.mem_cons_self)
  have hne : ¬ Int32.ofInt y = 0 := fun h => hy0 ((oi_inj hyr inR_0).mp (by rw [h, ofi_0]))
  have e0 : (Int32.ofInt x - Int32.ofInt x / Int32.ofInt y * Int32.ofInt y).toInt = x.tmod y := by rw [rem_toInt, toI_of hxr, toI_of hyr]
  have e1 : Int32.ofInt (x.tmod y) = Int32.ofInt x - Int32.ofInt x / Int32.ofInt y * Int32.ofInt y := by rw [← e0]; exact oi_t _
  have h3 := IH H locs cells slots la hRep hLR (vok_cons (by rw [← e0]; exact inR_t _) (fun w hw => hst w (List.mem_cons_of_mem _ (List.mem_cons_of_mem _ hw)))) hlocs hcl hsl
  rw [hpc] at h3
  refine lv_irem hx hb hd hne ?_
  rw [← e1]
  exact h3
theorem si_ladd (hC : Cx D p R s m args meth c k) (hok : okOp k j = true) (hi : (opAt k j).1 = .ladd) (hs : (pL2 st fun x y r => nx (j + 1) ls (vL (x + y) :: r) b M) = some (Sum.inl (j', ls', st', b', M'))) (IH : Sim g D l p e R s m args below meth c PQ k j' ls' st' b' M') : Sim g D l p e R s m args below meth c PQ k j ls st b M := by
  obtain ⟨hd, h2⟩ := ok1 hok hi (fun h => by cases h)
  unfold okI at h2
  simp only [hi, Bool.and_eq_true, decide_eq_true_eq, fl1] at h2
  obtain ⟨hlen, hpc⟩ := h2
  rw [hlen] at hd hpc
  obtain ⟨x, y, r, rfl, hs⟩ := pL2_inv hs
  cases hs
  intro H locs cells slots la hRep hLR hst hlocs hcl hsl
  obtain ⟨hx, hb, hml, hown, hts, hK, hnm, hf1, hf2⟩ := hC
  have h3 := IH H locs cells slots la hRep hLR (vok_cons trivial (fun w hw => hst w (List.mem_cons_of_mem _ (List.mem_cons_of_mem _ hw)))) hlocs hcl hsl
  rw [hpc] at h3
  exact lv_ladd hx hb hd h3
theorem si_lsub (hC : Cx D p R s m args meth c k) (hok : okOp k j = true) (hi : (opAt k j).1 = .lsub) (hs : (pL2 st fun x y r => nx (j + 1) ls (vL (x - y) :: r) b M) = some (Sum.inl (j', ls', st', b', M'))) (IH : Sim g D l p e R s m args below meth c PQ k j' ls' st' b' M') : Sim g D l p e R s m args below meth c PQ k j ls st b M := by
  obtain ⟨hd, h2⟩ := ok1 hok hi (fun h => by cases h)
  unfold okI at h2
  simp only [hi, Bool.and_eq_true, decide_eq_true_eq, fl1] at h2
  obtain ⟨hlen, hpc⟩ := h2
  rw [hlen] at hd hpc
  obtain ⟨x, y, r, rfl, hs⟩ := pL2_inv hs
  cases hs
  intro H locs cells slots la hRep hLR hst hlocs hcl hsl
  obtain ⟨hx, hb, hml, hown, hts, hK, hnm, hf1, hf2⟩ := hC
  have h3 := IH H locs cells slots la hRep hLR (vok_cons trivial (fun w hw => hst w (List.mem_cons_of_mem _ (List.mem_cons_of_mem _ hw)))) hlocs hcl hsl
  rw [hpc] at h3
  exact lv_lsub hx hb hd h3
theorem si_lmul (hC : Cx D p R s m args meth c k) (hok : okOp k j = true) (hi : (opAt k j).1 = .lmul) (hs : (pL2 st fun x y r => nx (j + 1) ls (vL (x * y) :: r) b M) = some (Sum.inl (j', ls', st', b', M'))) (IH : Sim g D l p e R s m args below meth c PQ k j' ls' st' b' M') : Sim g D l p e R s m args below meth c PQ k j ls st b M := by
  obtain ⟨hd, h2⟩ := ok1 hok hi (fun h => by cases h)
  unfold okI at h2
  simp only [hi, Bool.and_eq_true, decide_eq_true_eq, fl1] at h2
  obtain ⟨hlen, hpc⟩ := h2
  rw [hlen] at hd hpc
  obtain ⟨x, y, r, rfl, hs⟩ := pL2_inv hs
  cases hs
  intro H locs cells slots la hRep hLR hst hlocs hcl hsl
  obtain ⟨hx, hb, hml, hown, hts, hK, hnm, hf1, hf2⟩ := hC
  have h3 := IH H locs cells slots la hRep hLR (vok_cons trivial (fun w hw => hst w (List.mem_cons_of_mem _ (List.mem_cons_of_mem _ hw)))) hlocs hcl hsl
  rw [hpc] at h3
  exact lv_lmul hx hb hd h3
theorem si_land (hC : Cx D p R s m args meth c k) (hok : okOp k j = true) (hi : (opAt k j).1 = .land) (hs : (pL2 st fun x y r => nx (j + 1) ls (vL (x &&& y) :: r) b M) = some (Sum.inl (j', ls', st', b', M'))) (IH : Sim g D l p e R s m args below meth c PQ k j' ls' st' b' M') : Sim g D l p e R s m args below meth c PQ k j ls st b M := by
  obtain ⟨hd, h2⟩ := ok1 hok hi (fun h => by cases h)
  unfold okI at h2
  simp only [hi, Bool.and_eq_true, decide_eq_true_eq, fl1] at h2
  obtain ⟨hlen, hpc⟩ := h2
  rw [hlen] at hd hpc
  obtain ⟨x, y, r, rfl, hs⟩ := pL2_inv hs
  cases hs
  intro H locs cells slots la hRep hLR hst hlocs hcl hsl
  obtain ⟨hx, hb, hml, hown, hts, hK, hnm, hf1, hf2⟩ := hC
  have h3 := IH H locs cells slots la hRep hLR (vok_cons trivial (fun w hw => hst w (List.mem_cons_of_mem _ (List.mem_cons_of_mem _ hw)))) hlocs hcl hsl
  rw [hpc] at h3
  exact lv_land hx hb hd h3
theorem si_lor (hC : Cx D p R s m args meth c k) (hok : okOp k j = true) (hi : (opAt k j).1 = .lor) (hs : (pL2 st fun x y r => nx (j + 1) ls (vL (x ||| y) :: r) b M) = some (Sum.inl (j', ls', st', b', M'))) (IH : Sim g D l p e R s m args below meth c PQ k j' ls' st' b' M') : Sim g D l p e R s m args below meth c PQ k j ls st b M := by
  obtain ⟨hd, h2⟩ := ok1 hok hi (fun h => by cases h)
  unfold okI at h2
  simp only [hi, Bool.and_eq_true, decide_eq_true_eq, fl1] at h2
  obtain ⟨hlen, hpc⟩ := h2
  rw [hlen] at hd hpc
  obtain ⟨x, y, r, rfl, hs⟩ := pL2_inv hs
  cases hs
  intro H locs cells slots la hRep hLR hst hlocs hcl hsl
  obtain ⟨hx, hb, hml, hown, hts, hK, hnm, hf1, hf2⟩ := hC
  have h3 := IH H locs cells slots la hRep hLR (vok_cons trivial (fun w hw => hst w (List.mem_cons_of_mem _ (List.mem_cons_of_mem _ hw)))) hlocs hcl hsl
  rw [hpc] at h3
  exact lv_lor hx hb hd h3
theorem si_ldiv (hC : Cx D p R s m args meth c k) (hok : okOp k j = true) (hi : (opAt k j).1 = .ldiv) (hs : (pL2 st fun x y r => gd (decide (¬ y = 0)) (nx (j + 1) ls (vL (x / y) :: r) b M)) = some (Sum.inl (j', ls', st', b', M'))) (IH : Sim g D l p e R s m args below meth c PQ k j' ls' st' b' M') : Sim g D l p e R s m args below meth c PQ k j ls st b M := by
  obtain ⟨hd, h2⟩ := ok1 hok hi (fun h => by cases h)
  unfold okI at h2
  simp only [hi, Bool.and_eq_true, decide_eq_true_eq, fl1] at h2
  obtain ⟨hlen, hpc⟩ := h2
  rw [hlen] at hd hpc
  obtain ⟨x, y, r, rfl, hs⟩ := pL2_inv hs
  obtain ⟨hy, hs⟩ := gd_inv hs
  cases hs
  intro H locs cells slots la hRep hLR hst hlocs hcl hsl
  obtain ⟨hx, hb, hml, hown, hts, hK, hnm, hf1, hf2⟩ := hC
  have h3 := IH H locs cells slots la hRep hLR (vok_cons trivial (fun w hw => hst w (List.mem_cons_of_mem _ (List.mem_cons_of_mem _ hw)))) hlocs hcl hsl
  rw [hpc] at h3
  exact lv_ldiv hx hb hd (of_decide_eq_true hy) h3
theorem si_lrem (hC : Cx D p R s m args meth c k) (hok : okOp k j = true) (hi : (opAt k j).1 = .lrem) (hs : (pL2 st fun x y r => gd (decide (¬ y = 0)) (nx (j + 1) ls (vL (x - x / y * y) :: r) b M)) = some (Sum.inl (j', ls', st', b', M'))) (IH : Sim g D l p e R s m args below meth c PQ k j' ls' st' b' M') : Sim g D l p e R s m args below meth c PQ k j ls st b M := by
  obtain ⟨hd, h2⟩ := ok1 hok hi (fun h => by cases h)
  unfold okI at h2
  simp only [hi, Bool.and_eq_true, decide_eq_true_eq, fl1] at h2
  obtain ⟨hlen, hpc⟩ := h2
  rw [hlen] at hd hpc
  obtain ⟨x, y, r, rfl, hs⟩ := pL2_inv hs
  obtain ⟨hy, hs⟩ := gd_inv hs
  cases hs
  intro H locs cells slots la hRep hLR hst hlocs hcl hsl
  obtain ⟨hx, hb, hml, hown, hts, hK, hnm, hf1, hf2⟩ := hC
  have h3 := IH H locs cells slots la hRep hLR (vok_cons trivial (fun w hw => hst w (List.mem_cons_of_mem _ (List.mem_cons_of_mem _ hw)))) hlocs hcl hsl
  rw [hpc] at h3
  exact lv_lrem hx hb hd (of_decide_eq_true hy) h3
theorem si_lcmp (hC : Cx D p R s m args meth c k) (hok : okOp k j = true) (hi : (opAt k j).1 = .lcmp) (hs : (pL2 st fun x y r => nx (j + 1) ls (vI (lcmpI x y) :: r) b M) = some (Sum.inl (j', ls', st', b', M'))) (IH : Sim g D l p e R s m args below meth c PQ k j' ls' st' b' M') : Sim g D l p e R s m args below meth c PQ k j ls st b M := by
  obtain ⟨hd, h2⟩ := ok1 hok hi (fun h => by cases h)
  unfold okI at h2
  simp only [hi, Bool.and_eq_true, decide_eq_true_eq, fl1] at h2
  obtain ⟨hlen, hpc⟩ := h2
  rw [hlen] at hd hpc
  obtain ⟨x, y, r, rfl, hs⟩ := pL2_inv hs
  cases hs
  intro H locs cells slots la hRep hLR hst hlocs hcl hsl
  obtain ⟨hx, hb, hml, hown, hts, hK, hnm, hf1, hf2⟩ := hC
  have h3 := IH H locs cells slots la hRep hLR (vok_cons (inR_t _) (fun w hw => hst w (List.mem_cons_of_mem _ (List.mem_cons_of_mem _ hw)))) hlocs hcl hsl
  rw [hpc] at h3
  refine W.lcmp hx hb hd ?_
  rw [← oi_t (lg_cmp x y)]
  exact h3
theorem si_lushr (hC : Cx D p R s m args meth c k) (hok : okOp k j = true) (hi : (opAt k j).1 = .lushr) (hs : (pIL st fun x y r => nx (j + 1) ls (vL (lushr x y) :: r) b M) = some (Sum.inl (j', ls', st', b', M'))) (IH : Sim g D l p e R s m args below meth c PQ k j' ls' st' b' M') : Sim g D l p e R s m args below meth c PQ k j ls st b M := by
  obtain ⟨hd, h2⟩ := ok1 hok hi (fun h => by cases h)
  unfold okI at h2
  simp only [hi, Bool.and_eq_true, decide_eq_true_eq, fl1] at h2
  obtain ⟨hlen, hpc⟩ := h2
  rw [hlen] at hd hpc
  obtain ⟨x, y, r, rfl, hs⟩ := pIL_inv hs
  cases hs
  intro H locs cells slots la hRep hLR hst hlocs hcl hsl
  obtain ⟨hx, hb, hml, hown, hts, hK, hnm, hf1, hf2⟩ := hC
  have h3 := IH H locs cells slots la hRep hLR (vok_cons trivial (fun w hw => hst w (List.mem_cons_of_mem _ (List.mem_cons_of_mem _ hw)))) hlocs hcl hsl
  rw [hpc] at h3
  exact lv_lushr hx hb hd rfl h3
theorem si_lshl (hC : Cx D p R s m args meth c k) (hok : okOp k j = true) (hi : (opAt k j).1 = .lshl) (hs : (pIL st fun x y r => nx (j + 1) ls (vL (lshl x y) :: r) b M) = some (Sum.inl (j', ls', st', b', M'))) (IH : Sim g D l p e R s m args below meth c PQ k j' ls' st' b' M') : Sim g D l p e R s m args below meth c PQ k j ls st b M := by
  obtain ⟨hd, h2⟩ := ok1 hok hi (fun h => by cases h)
  unfold okI at h2
  simp only [hi, Bool.and_eq_true, decide_eq_true_eq, fl1] at h2
  obtain ⟨hlen, hpc⟩ := h2
  rw [hlen] at hd hpc
  obtain ⟨x, y, r, rfl, hs⟩ := pIL_inv hs
  cases hs
  intro H locs cells slots la hRep hLR hst hlocs hcl hsl
  obtain ⟨hx, hb, hml, hown, hts, hK, hnm, hf1, hf2⟩ := hC
  have h3 := IH H locs cells slots la hRep hLR (vok_cons trivial (fun w hw => hst w (List.mem_cons_of_mem _ (List.mem_cons_of_mem _ hw)))) hlocs hcl hsl
  rw [hpc] at h3
  exact lv_lshl hx hb hd rfl h3
theorem si_i2l (hC : Cx D p R s m args meth c k) (hok : okOp k j = true) (hi : (opAt k j).1 = .i2l) (hs : (pI st fun x r => nx (j + 1) ls (vL (Int64.ofInt x) :: r) b M) = some (Sum.inl (j', ls', st', b', M'))) (IH : Sim g D l p e R s m args below meth c PQ k j' ls' st' b' M') : Sim g D l p e R s m args below meth c PQ k j ls st b M := by
  obtain ⟨hd, h2⟩ := ok1 hok hi (fun h => by cases h)
  unfold okI at h2
  simp only [hi, Bool.and_eq_true, decide_eq_true_eq, fl1] at h2
  obtain ⟨hlen, hpc⟩ := h2
  rw [hlen] at hd hpc
  obtain ⟨x, r, rfl, hs⟩ := pI_inv hs
  cases hs
  intro H locs cells slots la hRep hLR hst hlocs hcl hsl
  obtain ⟨hx, hb, hml, hown, hts, hK, hnm, hf1, hf2⟩ := hC
  have h3 := IH H locs cells slots la hRep hLR (vok_cons trivial (fun w hw => hst w (List.mem_cons_of_mem _ hw))) hlocs hcl hsl
  rw [hpc] at h3
  have hxr : inR x := hst (vI x) List.mem_cons_self
  have e1 : (Int32.ofInt x).toInt64 = Int64.ofInt x := by
    rw [← Int64.ofInt_toInt (Int32.ofInt x).toInt64, Int32.toInt_toInt64, toI_of hxr]
  exact lv_i2l hx hb hd e1 h3
theorem si_l2i (hC : Cx D p R s m args meth c k) (hok : okOp k j = true) (hi : (opAt k j).1 = .l2i) (hs : (pL st fun x r => nx (j + 1) ls (vI x.toInt32.toInt :: r) b M) = some (Sum.inl (j', ls', st', b', M'))) (IH : Sim g D l p e R s m args below meth c PQ k j' ls' st' b' M') : Sim g D l p e R s m args below meth c PQ k j ls st b M := by
  obtain ⟨hd, h2⟩ := ok1 hok hi (fun h => by cases h)
  unfold okI at h2
  simp only [hi, Bool.and_eq_true, decide_eq_true_eq, fl1] at h2
  obtain ⟨hlen, hpc⟩ := h2
  rw [hlen] at hd hpc
  obtain ⟨x, r, rfl, hs⟩ := pL_inv hs
  cases hs
  intro H locs cells slots la hRep hLR hst hlocs hcl hsl
  obtain ⟨hx, hb, hml, hown, hts, hK, hnm, hf1, hf2⟩ := hC
  have h3 := IH H locs cells slots la hRep hLR (vok_cons (inR_t _) (fun w hw => hst w (List.mem_cons_of_mem _ hw))) hlocs hcl hsl
  rw [hpc] at h3
  exact lv_l2i hx hb hd (oi_t _).symm h3
theorem si_i2b (hC : Cx D p R s m args meth c k) (hok : okOp k j = true) (hi : (opAt k j).1 = .i2b) (hs : (pI st fun x r => nx (j + 1) ls (vI (ib8 x) :: r) b M) = some (Sum.inl (j', ls', st', b', M'))) (IH : Sim g D l p e R s m args below meth c PQ k j' ls' st' b' M') : Sim g D l p e R s m args below meth c PQ k j ls st b M := by
  obtain ⟨hd, h2⟩ := ok1 hok hi (fun h => by cases h)
  unfold okI at h2
  simp only [hi, Bool.and_eq_true, decide_eq_true_eq, fl1] at h2
  obtain ⟨hlen, hpc⟩ := h2
  rw [hlen] at hd hpc
  obtain ⟨x, r, rfl, hs⟩ := pI_inv hs
  cases hs
  intro H locs cells slots la hRep hLR hst hlocs hcl hsl
  obtain ⟨hx, hb, hml, hown, hts, hK, hnm, hf1, hf2⟩ := hC
  have h3 := IH H locs cells slots la hRep hLR (vok_cons (inR_t _) (fun w hw => hst w (List.mem_cons_of_mem _ hw))) hlocs hcl hsl
  rw [hpc] at h3
  exact lv_i2b hx hb hd (oi_t _).symm h3
theorem inRb_of {z : Int} (h : inRb z = true) : inR z := by unfold inRb at h; simp only [Bool.and_eq_true, decide_eq_true_eq] at h; exact h
theorem si_iconst {n : Int} (hC : Cx D p R s m args meth c k) (hok : okOp k j = true) (hi : (opAt k j).1 = .iconst n) (hs : nx (j + 1) ls (vI n :: st) b M = some (Sum.inl (j', ls', st', b', M'))) (IH : Sim g D l p e R s m args below meth c PQ k j' ls' st' b' M') : Sim g D l p e R s m args below meth c PQ k j ls st b M := by
  obtain ⟨hd, h2⟩ := ok1 hok hi (fun h => by cases h)
  unfold okI at h2
  simp only [hi, Bool.and_eq_true, decide_eq_true_eq, fl1] at h2
  obtain ⟨⟨hlen, hpc⟩, hr⟩ := h2
  rw [hlen] at hd hpc
  cases hs
  intro H locs cells slots la hRep hLR hst hlocs hcl hsl
  obtain ⟨hx, hb, hml, hown, hts, hK, hnm, hf1, hf2⟩ := hC
  have h3 := IH H locs cells slots la hRep hLR (vok_cons (inRb_of hr) hst) hlocs hcl hsl
  rw [hpc] at h3
  exact lv_iconst hx hb hd rfl h3
theorem si_bipush {n : Int} (hC : Cx D p R s m args meth c k) (hok : okOp k j = true) (hi : (opAt k j).1 = .bipush n) (hs : nx (j + 1) ls (vI n :: st) b M = some (Sum.inl (j', ls', st', b', M'))) (IH : Sim g D l p e R s m args below meth c PQ k j' ls' st' b' M') : Sim g D l p e R s m args below meth c PQ k j ls st b M := by
  obtain ⟨hd, h2⟩ := ok1 hok hi (fun h => by cases h)
  unfold okI at h2
  simp only [hi, Bool.and_eq_true, decide_eq_true_eq, fl1] at h2
  obtain ⟨⟨⟨hlen, hpc⟩, hr⟩, h2⟩ := h2
  rw [hlen] at hd hpc
  cases hs
  intro H locs cells slots la hRep hLR hst hlocs hcl hsl
  obtain ⟨hx, hb, hml, hown, hts, hK, hnm, hf1, hf2⟩ := hC
  have h3 := IH H locs cells slots la hRep hLR (vok_cons (inRb_of hr) hst) hlocs hcl hsl
  rw [hpc] at h3
  exact lv_bipush hx hb hd h2 h3
theorem si_sipush {n : Int} (hC : Cx D p R s m args meth c k) (hok : okOp k j = true) (hi : (opAt k j).1 = .sipush n) (hs : nx (j + 1) ls (vI n :: st) b M = some (Sum.inl (j', ls', st', b', M'))) (IH : Sim g D l p e R s m args below meth c PQ k j' ls' st' b' M') : Sim g D l p e R s m args below meth c PQ k j ls st b M := by
  obtain ⟨hd, h2⟩ := ok1 hok hi (fun h => by cases h)
  unfold okI at h2
  simp only [hi, Bool.and_eq_true, decide_eq_true_eq, fl1] at h2
  obtain ⟨⟨⟨hlen, hpc⟩, hr⟩, h2⟩ := h2
  rw [hlen] at hd hpc
  cases hs
  intro H locs cells slots la hRep hLR hst hlocs hcl hsl
  obtain ⟨hx, hb, hml, hown, hts, hK, hnm, hf1, hf2⟩ := hC
  have h3 := IH H locs cells slots la hRep hLR (vok_cons (inRb_of hr) hst) hlocs hcl hsl
  rw [hpc] at h3
  exact lv_sipush hx hb hd h2 h3
theorem si_aconst_null (hC : Cx D p R s m args meth c k) (hok : okOp k j = true) (hi : (opAt k j).1 = .aconst_null) (hs : nx (j + 1) ls (vR none :: st) b M = some (Sum.inl (j', ls', st', b', M'))) (IH : Sim g D l p e R s m args below meth c PQ k j' ls' st' b' M') : Sim g D l p e R s m args below meth c PQ k j ls st b M := by
  obtain ⟨hd, h2⟩ := ok1 hok hi (fun h => by cases h)
  unfold okI at h2
  simp only [hi, Bool.and_eq_true, decide_eq_true_eq, fl1] at h2
  obtain ⟨hlen, hpc⟩ := h2
  rw [hlen] at hd hpc
  cases hs
  intro H locs cells slots la hRep hLR hst hlocs hcl hsl
  obtain ⟨hx, hb, hml, hown, hts, hK, hnm, hf1, hf2⟩ := hC
  have h3 := IH H locs cells slots la hRep hLR (vok_cons trivial hst) hlocs hcl hsl
  rw [hpc] at h3
  exact lv_null hx hb hd h3
theorem si_lconst {n : Fin 2} (hC : Cx D p R s m args meth c k) (hok : okOp k j = true) (hi : (opAt k j).1 = .lconst n) (hs : nx (j + 1) ls (vL (Int64.ofInt n.val) :: st) b M = some (Sum.inl (j', ls', st', b', M'))) (IH : Sim g D l p e R s m args below meth c PQ k j' ls' st' b' M') : Sim g D l p e R s m args below meth c PQ k j ls st b M := by
  obtain ⟨hd, h2⟩ := ok1 hok hi (fun h => by cases h)
  unfold okI at h2
  simp only [hi, Bool.and_eq_true, decide_eq_true_eq, fl1] at h2
  obtain ⟨hlen, hpc⟩ := h2
  rw [hlen] at hd hpc
  cases hs
  intro H locs cells slots la hRep hLR hst hlocs hcl hsl
  obtain ⟨hx, hb, hml, hown, hts, hK, hnm, hf1, hf2⟩ := hC
  have h3 := IH H locs cells slots la hRep hLR (vok_cons trivial hst) hlocs hcl hsl
  rw [hpc] at h3
  exact lv_lconst hx hb hd (by first | rfl | (match n with | 0 => rfl | 1 => rfl)) h3
theorem si_ldc_w {idx : Nat} (hC : Cx D p R s m args meth c k) (hok : okOp k j = true) (hi : (opAt k j).1 = .ldc_w idx) (hs : nx (j + 1) ls (vI (opAt k j).2.2.2.1 :: st) b M = some (Sum.inl (j', ls', st', b', M'))) (IH : Sim g D l p e R s m args below meth c PQ k j' ls' st' b' M') : Sim g D l p e R s m args below meth c PQ k j ls st b M := by
  obtain ⟨hd, h2⟩ := ok1 hok hi (fun h => by cases h)
  unfold okI at h2
  simp only [hi, Bool.and_eq_true, decide_eq_true_eq, fl1] at h2
  obtain ⟨⟨⟨hlen, hpc⟩, hr⟩, h2⟩ := h2
  rw [hlen] at hd hpc
  cases hs
  intro H locs cells slots la hRep hLR hst hlocs hcl hsl
  obtain ⟨hx, hb, hml, hown, hts, hK, hnm, hf1, hf2⟩ := hC
  have h3 := IH H locs cells slots la hRep hLR (vok_cons (inRb_of hr) hst) hlocs hcl hsl
  rw [hpc] at h3
  exact lv_ldcw hx hb hown (hts _ (ki_ok (owK k) _ (List.contains_iff_mem.mp h2))) hd h3
theorem si_ldc2_w {idx : Nat} (hC : Cx D p R s m args meth c k) (hok : okOp k j = true) (hi : (opAt k j).1 = .ldc2_w idx) (hs : nx (j + 1) ls (vL (Int64.ofInt (opAt k j).2.2.2.1) :: st) b M = some (Sum.inl (j', ls', st', b', M'))) (IH : Sim g D l p e R s m args below meth c PQ k j' ls' st' b' M') : Sim g D l p e R s m args below meth c PQ k j ls st b M := by
  obtain ⟨hd, h2⟩ := ok1 hok hi (fun h => by cases h)
  unfold okI at h2
  simp only [hi, Bool.and_eq_true, decide_eq_true_eq, fl1] at h2
  obtain ⟨⟨hlen, hpc⟩, h2⟩ := h2
  rw [hlen] at hd hpc
  cases hs
  intro H locs cells slots la hRep hLR hst hlocs hcl hsl
  obtain ⟨hx, hb, hml, hown, hts, hK, hnm, hf1, hf2⟩ := hC
  have h3 := IH H locs cells slots la hRep hLR (vok_cons trivial hst) hlocs hcl hsl
  rw [hpc] at h3
  exact lv_ldc2 hx hb hown (hts _ (kl_ok (owK k) _ (List.contains_iff_mem.mp h2))) hd h3
theorem si_iload_n {i : Fin 4} (hC : Cx D p R s m args meth c k) (hok : okOp k j = true) (hi : (opAt k j).1 = .iload_n i) (hs : (gtI ls i.val fun z => nx (j + 1) ls (vI z :: st) b M) = some (Sum.inl (j', ls', st', b', M'))) (IH : Sim g D l p e R s m args below meth c PQ k j' ls' st' b' M') : Sim g D l p e R s m args below meth c PQ k j ls st b M := by
  obtain ⟨hd, h2⟩ := ok1 hok hi (fun h => by cases h)
  unfold okI at h2
  simp only [hi, Bool.and_eq_true, decide_eq_true_eq, fl1] at h2
  obtain ⟨hlen, hpc⟩ := h2
  rw [hlen] at hd hpc
  obtain ⟨z, hz, hs⟩ := gtI_inv hs
  cases hs
  intro H locs cells slots la hRep hLR hst hlocs hcl hsl
  obtain ⟨hx, hb, hml, hown, hts, hK, hnm, hf1, hf2⟩ := hC
  have hn : vI z ≠ vU := fun h => by cases h
  have h3 := IH H locs cells slots la hRep hLR (vok_cons (hLR.ok hz hn) hst) hlocs hcl hsl
  rw [hpc] at h3
  exact lv_iload_n hx hb hd rfl (hLR.at hz hn) h3
theorem si_iload {i : Nat} (hC : Cx D p R s m args meth c k) (hok : okOp k j = true) (hi : (opAt k j).1 = .iload i) (hs : (gtI ls i fun z => nx (j + 1) ls (vI z :: st) b M) = some (Sum.inl (j', ls', st', b', M'))) (IH : Sim g D l p e R s m args below meth c PQ k j' ls' st' b' M') : Sim g D l p e R s m args below meth c PQ k j ls st b M := by
  obtain ⟨hd, h2⟩ := ok1 hok hi (fun h => by cases h)
  unfold okI at h2
  simp only [hi, Bool.and_eq_true, decide_eq_true_eq, fl1] at h2
  obtain ⟨hlen, hpc⟩ := h2
  rw [hlen] at hd hpc
  obtain ⟨z, hz, hs⟩ := gtI_inv hs
  cases hs
  intro H locs cells slots la hRep hLR hst hlocs hcl hsl
  obtain ⟨hx, hb, hml, hown, hts, hK, hnm, hf1, hf2⟩ := hC
  have hn : vI z ≠ vU := fun h => by cases h
  have h3 := IH H locs cells slots la hRep hLR (vok_cons (hLR.ok hz hn) hst) hlocs hcl hsl
  rw [hpc] at h3
  exact lv_iload hx hb hd (hLR.at hz hn) h3
theorem si_lload_n {i : Fin 4} (hC : Cx D p R s m args meth c k) (hok : okOp k j = true) (hi : (opAt k j).1 = .lload_n i) (hs : (gtL ls i.val fun z => nx (j + 1) ls (vL z :: st) b M) = some (Sum.inl (j', ls', st', b', M'))) (IH : Sim g D l p e R s m args below meth c PQ k j' ls' st' b' M') : Sim g D l p e R s m args below meth c PQ k j ls st b M := by
  obtain ⟨hd, h2⟩ := ok1 hok hi (fun h => by cases h)
  unfold okI at h2
  simp only [hi, Bool.and_eq_true, decide_eq_true_eq, fl1] at h2
  obtain ⟨hlen, hpc⟩ := h2
  rw [hlen] at hd hpc
  obtain ⟨z, hz, hs⟩ := gtL_inv hs
  cases hs
  intro H locs cells slots la hRep hLR hst hlocs hcl hsl
  obtain ⟨hx, hb, hml, hown, hts, hK, hnm, hf1, hf2⟩ := hC
  have hn : vL z ≠ vU := fun h => by cases h
  have h3 := IH H locs cells slots la hRep hLR (vok_cons (hLR.ok hz hn) hst) hlocs hcl hsl
  rw [hpc] at h3
  exact lv_lload_n hx hb hd rfl (hLR.at hz hn) h3
theorem si_lload {i : Nat} (hC : Cx D p R s m args meth c k) (hok : okOp k j = true) (hi : (opAt k j).1 = .lload i) (hs : (gtL ls i fun z => nx (j + 1) ls (vL z :: st) b M) = some (Sum.inl (j', ls', st', b', M'))) (IH : Sim g D l p e R s m args below meth c PQ k j' ls' st' b' M') : Sim g D l p e R s m args below meth c PQ k j ls st b M := by
  obtain ⟨hd, h2⟩ := ok1 hok hi (fun h => by cases h)
  unfold okI at h2
  simp only [hi, Bool.and_eq_true, decide_eq_true_eq, fl1] at h2
  obtain ⟨hlen, hpc⟩ := h2
  rw [hlen] at hd hpc
  obtain ⟨z, hz, hs⟩ := gtL_inv hs
  cases hs
  intro H locs cells slots la hRep hLR hst hlocs hcl hsl
  obtain ⟨hx, hb, hml, hown, hts, hK, hnm, hf1, hf2⟩ := hC
  have hn : vL z ≠ vU := fun h => by cases h
  have h3 := IH H locs cells slots la hRep hLR (vok_cons (hLR.ok hz hn) hst) hlocs hcl hsl
  rw [hpc] at h3
  exact lv_lload hx hb hd (hLR.at hz hn) h3
theorem si_aload_n {i : Fin 4} (hC : Cx D p R s m args meth c k) (hok : okOp k j = true) (hi : (opAt k j).1 = .aload_n i) (hs : (gtR ls i.val fun z => nx (j + 1) ls (vR z :: st) b M) = some (Sum.inl (j', ls', st', b', M'))) (IH : Sim g D l p e R s m args below meth c PQ k j' ls' st' b' M') : Sim g D l p e R s m args below meth c PQ k j ls st b M := by
  obtain ⟨hd, h2⟩ := ok1 hok hi (fun h => by cases h)
  unfold okI at h2
  simp only [hi, Bool.and_eq_true, decide_eq_true_eq, fl1] at h2
  obtain ⟨hlen, hpc⟩ := h2
  rw [hlen] at hd hpc
  obtain ⟨z, hz, hs⟩ := gtR_inv hs
  cases hs
  intro H locs cells slots la hRep hLR hst hlocs hcl hsl
  obtain ⟨hx, hb, hml, hown, hts, hK, hnm, hf1, hf2⟩ := hC
  have hn : vR z ≠ vU := fun h => by cases h
  have h3 := IH H locs cells slots la hRep hLR (vok_cons (hLR.ok hz hn) hst) hlocs hcl hsl
  rw [hpc] at h3
  have h4 := hLR.at hz hn
  cases z with
  | none => exact lv_aload_nN hx hb hd rfl h4 h3
  | some a => exact lv_aload_n hx hb hd rfl h4 h3
theorem si_aload {i : Nat} (hC : Cx D p R s m args meth c k) (hok : okOp k j = true) (hi : (opAt k j).1 = .aload i) (hs : (gtR ls i fun z => nx (j + 1) ls (vR z :: st) b M) = some (Sum.inl (j', ls', st', b', M'))) (IH : Sim g D l p e R s m args below meth c PQ k j' ls' st' b' M') : Sim g D l p e R s m args below meth c PQ k j ls st b M := by
  obtain ⟨hd, h2⟩ := ok1 hok hi (fun h => by cases h)
  unfold okI at h2
  simp only [hi, Bool.and_eq_true, decide_eq_true_eq, fl1] at h2
  obtain ⟨hlen, hpc⟩ := h2
  rw [hlen] at hd hpc
  obtain ⟨z, hz, hs⟩ := gtR_inv hs
  cases hs
  intro H locs cells slots la hRep hLR hst hlocs hcl hsl
  obtain ⟨hx, hb, hml, hown, hts, hK, hnm, hf1, hf2⟩ := hC
  have hn : vR z ≠ vU := fun h => by cases h
  have h3 := IH H locs cells slots la hRep hLR (vok_cons (hLR.ok hz hn) hst) hlocs hcl hsl
  rw [hpc] at h3
  have h4 := hLR.at hz hn
  cases z with
  | none => exact lv_aloadN hx hb hd h4 h3
  | some a => exact lv_aload hx hb hd h4 h3
theorem si_istore_n {i : Fin 4} (hC : Cx D p R s m args meth c k) (hok : okOp k j = true) (hi : (opAt k j).1 = .istore_n i) (hs : (pI st fun z r => nx (j + 1) (stL ls i.val (vI z)) r b M) = some (Sum.inl (j', ls', st', b', M'))) (IH : Sim g D l p e R s m args below meth c PQ k j' ls' st' b' M') : Sim g D l p e R s m args below meth c PQ k j ls st b M := by
  obtain ⟨hd, h2⟩ := ok1 hok hi (fun h => by cases h)
  unfold okI at h2
  simp only [hi, Bool.and_eq_true, decide_eq_true_eq, fl1] at h2
  obtain ⟨⟨hlen, hpc⟩, hn⟩ := h2
  rw [hlen] at hd hpc
  obtain ⟨z, r, rfl, hs⟩ := pI_inv hs
  cases hs
  intro H locs cells slots la hRep hLR hst hlocs hcl hsl
  obtain ⟨hx, hb, hml, hown, hts, hK, hnm, hf1, hf2⟩ := hC
  have hv : vOK (vI z) := hst (vI z) List.mem_cons_self
  have h3 : ∀ la2 : Array Slot, lv_has la2 (mxK k) ((i.val, cv g (vI z)) :: (toL g 0 ls).filter (fun q => !(q.1 == i.val) && !(q.1 + 1 == i.val && q.2.category == 2))) → W p l e R s m args below meth c H locs cells slots PQ (F0 m (pcK k j + 1) la2 (st'.map (cv g))) := fun la2 h4 => by
    have h5 := IH H locs cells slots la2 hRep (hLR.st hv h4) (fun w hw => hst w (List.mem_cons_of_mem _ hw)) hlocs hcl hsl
    rw [hpc] at h5
    exact h5
  exact lv_istore_n hx hb hd rfl hLR.2.2 hn rfl h3
theorem si_istore {i : Nat} (hC : Cx D p R s m args meth c k) (hok : okOp k j = true) (hi : (opAt k j).1 = .istore i) (hs : (pI st fun z r => nx (j + 1) (stL ls i (vI z)) r b M) = some (Sum.inl (j', ls', st', b', M'))) (IH : Sim g D l p e R s m args below meth c PQ k j' ls' st' b' M') : Sim g D l p e R s m args below meth c PQ k j ls st b M := by
  obtain ⟨hd, h2⟩ := ok1 hok hi (fun h => by cases h)
  unfold okI at h2
  simp only [hi, Bool.and_eq_true, decide_eq_true_eq, fl1] at h2
  obtain ⟨⟨hlen, hpc⟩, hn⟩ := h2
  rw [hlen] at hd hpc
  obtain ⟨z, r, rfl, hs⟩ := pI_inv hs
  cases hs
  intro H locs cells slots la hRep hLR hst hlocs hcl hsl
  obtain ⟨hx, hb, hml, hown, hts, hK, hnm, hf1, hf2⟩ := hC
  have hv : vOK (vI z) := hst (vI z) List.mem_cons_self
  have h3 : ∀ la2 : Array Slot, lv_has la2 (mxK k) ((i, cv g (vI z)) :: (toL g 0 ls).filter (fun q => !(q.1 == i) && !(q.1 + 1 == i && q.2.category == 2))) → W p l e R s m args below meth c H locs cells slots PQ (F0 m (pcK k j + 2) la2 (st'.map (cv g))) := fun la2 h4 => by
    have h5 := IH H locs cells slots la2 hRep (hLR.st hv h4) (fun w hw => hst w (List.mem_cons_of_mem _ hw)) hlocs hcl hsl
    rw [hpc] at h5
    exact h5
  exact lv_istore hx hb hd hLR.2.2 hn rfl h3
theorem si_astore_n {i : Fin 4} (hC : Cx D p R s m args meth c k) (hok : okOp k j = true) (hi : (opAt k j).1 = .astore_n i) (hs : (pQ st fun z r => nx (j + 1) (stL ls i.val (vR z)) r b M) = some (Sum.inl (j', ls', st', b', M'))) (IH : Sim g D l p e R s m args below meth c PQ k j' ls' st' b' M') : Sim g D l p e R s m args below meth c PQ k j ls st b M := by
  obtain ⟨hd, h2⟩ := ok1 hok hi (fun h => by cases h)
  unfold okI at h2
  simp only [hi, Bool.and_eq_true, decide_eq_true_eq, fl1] at h2
  obtain ⟨⟨hlen, hpc⟩, hn⟩ := h2
  rw [hlen] at hd hpc
  obtain ⟨z, r, rfl, hs⟩ := pQ_inv hs
  cases hs
  intro H locs cells slots la hRep hLR hst hlocs hcl hsl
  obtain ⟨hx, hb, hml, hown, hts, hK, hnm, hf1, hf2⟩ := hC
  have hv : vOK (vR z) := hst (vR z) List.mem_cons_self
  have h3 : ∀ la2 : Array Slot, lv_has la2 (mxK k) ((i.val, cv g (vR z)) :: (toL g 0 ls).filter (fun q => !(q.1 == i.val) && !(q.1 + 1 == i.val && q.2.category == 2))) → W p l e R s m args below meth c H locs cells slots PQ (F0 m (pcK k j + 1) la2 (st'.map (cv g))) := fun la2 h4 => by
    have h5 := IH H locs cells slots la2 hRep (hLR.st hv h4) (fun w hw => hst w (List.mem_cons_of_mem _ hw)) hlocs hcl hsl
    rw [hpc] at h5
    exact h5
  cases z with
  | none => exact lv_astore_nN hx hb hd rfl hLR.2.2 hn rfl h3
  | some a => exact lv_astore_n hx hb hd rfl hLR.2.2 hn rfl h3
theorem si_astore {i : Nat} (hC : Cx D p R s m args meth c k) (hok : okOp k j = true) (hi : (opAt k j).1 = .astore i) (hs : (pQ st fun z r => nx (j + 1) (stL ls i (vR z)) r b M) = some (Sum.inl (j', ls', st', b', M'))) (IH : Sim g D l p e R s m args below meth c PQ k j' ls' st' b' M') : Sim g D l p e R s m args below meth c PQ k j ls st b M := by
  obtain ⟨hd, h2⟩ := ok1 hok hi (fun h => by cases h)
  unfold okI at h2
  simp only [hi, Bool.and_eq_true, decide_eq_true_eq, fl1] at h2
  obtain ⟨⟨hlen, hpc⟩, hn⟩ := h2
  rw [hlen] at hd hpc
  obtain ⟨z, r, rfl, hs⟩ := pQ_inv hs
  cases hs
  intro H locs cells slots la hRep hLR hst hlocs hcl hsl
  obtain ⟨hx, hb, hml, hown, hts, hK, hnm, hf1, hf2⟩ := hC
  have hv : vOK (vR z) := hst (vR z) List.mem_cons_self
  have h3 : ∀ la2 : Array Slot, lv_has la2 (mxK k) ((i, cv g (vR z)) :: (toL g 0 ls).filter (fun q => !(q.1 == i) && !(q.1 + 1 == i && q.2.category == 2))) → W p l e R s m args below meth c H locs cells slots PQ (F0 m (pcK k j + 2) la2 (st'.map (cv g))) := fun la2 h4 => by
    have h5 := IH H locs cells slots la2 hRep (hLR.st hv h4) (fun w hw => hst w (List.mem_cons_of_mem _ hw)) hlocs hcl hsl
    rw [hpc] at h5
    exact h5
  cases z with
  | none => exact lv_astoreN hx hb hd hLR.2.2 hn rfl h3
  | some a => exact lv_astore hx hb hd hLR.2.2 hn rfl h3
theorem si_lstore_n {i : Fin 4} (hC : Cx D p R s m args meth c k) (hok : okOp k j = true) (hi : (opAt k j).1 = .lstore_n i) (hs : (pL st fun z r => nx (j + 1) ((stL ls i.val (vL z)).set (i.val + 1) vU) r b M) = some (Sum.inl (j', ls', st', b', M'))) (IH : Sim g D l p e R s m args below meth c PQ k j' ls' st' b' M') : Sim g D l p e R s m args below meth c PQ k j ls st b M := by
  obtain ⟨hd, h2⟩ := ok1 hok hi (fun h => by cases h)
  unfold okI at h2
  simp only [hi, Bool.and_eq_true, decide_eq_true_eq, fl1] at h2
  obtain ⟨⟨hlen, hpc⟩, hn⟩ := h2
  rw [hlen] at hd hpc
  obtain ⟨z, r, rfl, hs⟩ := pL_inv hs
  cases hs
  intro H locs cells slots la hRep hLR hst hlocs hcl hsl
  obtain ⟨hx, hb, hml, hown, hts, hK, hnm, hf1, hf2⟩ := hC
  refine lv_lstore_n hx hb hd rfl hLR.2.2 hn rfl (fun la2 h4 => ?_)
  have h5 := IH H locs cells slots la2 hRep (hLR.stl h4) (fun w hw => hst w (List.mem_cons_of_mem _ hw)) hlocs hcl hsl
  rw [hpc] at h5
  exact h5
theorem si_lstore {i : Nat} (hC : Cx D p R s m args meth c k) (hok : okOp k j = true) (hi : (opAt k j).1 = .lstore i) (hs : (pL st fun z r => nx (j + 1) ((stL ls i (vL z)).set (i + 1) vU) r b M) = some (Sum.inl (j', ls', st', b', M'))) (IH : Sim g D l p e R s m args below meth c PQ k j' ls' st' b' M') : Sim g D l p e R s m args below meth c PQ k j ls st b M := by
  obtain ⟨hd, h2⟩ := ok1 hok hi (fun h => by cases h)
  unfold okI at h2
  simp only [hi, Bool.and_eq_true, decide_eq_true_eq, fl1] at h2
  obtain ⟨⟨hlen, hpc⟩, hn⟩ := h2
  rw [hlen] at hd hpc
  obtain ⟨z, r, rfl, hs⟩ := pL_inv hs
  cases hs
  intro H locs cells slots la hRep hLR hst hlocs hcl hsl
  obtain ⟨hx, hb, hml, hown, hts, hK, hnm, hf1, hf2⟩ := hC
  refine lv_lstore hx hb hd hLR.2.2 hn rfl (fun la2 h4 => ?_)
  have h5 := IH H locs cells slots la2 hRep (hLR.stl h4) (fun w hw => hst w (List.mem_cons_of_mem _ hw)) hlocs hcl hsl
  rw [hpc] at h5
  exact h5
theorem si_iinc {i : Nat} {n : Int} (hC : Cx D p R s m args meth c k) (hok : okOp k j = true) (hi : (opAt k j).1 = .iinc i n) (hs : (gtI ls i fun z => nx (j + 1) (stL ls i (vI (w32 (z + n)))) st b M) = some (Sum.inl (j', ls', st', b', M'))) (IH : Sim g D l p e R s m args below meth c PQ k j' ls' st' b' M') : Sim g D l p e R s m args below meth c PQ k j ls st b M := by
  obtain ⟨hd, h2⟩ := ok1 hok hi (fun h => by cases h)
  unfold okI at h2
  simp only [hi, Bool.and_eq_true, decide_eq_true_eq, fl1] at h2
  obtain ⟨⟨hlen, hpc⟩, hn⟩ := h2
  rw [hlen] at hd hpc
  obtain ⟨z, hz, hs⟩ := gtI_inv hs
  cases hs
  intro H locs cells slots la hRep hLR hst hlocs hcl hsl
  obtain ⟨hx, hb, hml, hown, hts, hK, hnm, hf1, hf2⟩ := hC
  have hm : (i, cv g (vI z)) ∈ toL g 0 ls := (toL_mem g ls 0 i _).mpr ⟨i, vI z, by omega, hz, (fun h => by cases h), rfl⟩
  obtain ⟨q, hq⟩ := List.getElem?_of_mem hm
  have e1 : Int32.ofInt z + Int32.ofInt n = Int32.ofInt (w32 (z + n)) := by rw [oi_w32, Int32.ofInt_add]
  refine lv_iinc hx hb hd hLR.2.2 hq e1 hn rfl (fun la2 h4 => ?_)
  have h5 := IH H locs cells slots la2 hRep (hLR.st (v := vI (w32 (z + n))) (inR_t _) h4) hst hlocs hcl hsl
  rw [hpc] at h5
  exact h5
theorem si_dup (hC : Cx D p R s m args meth c k) (hok : okOp k j = true) (hi : (opAt k j).1 = .dup) (hs : (match st with
    | Sum.inl z :: r => nx (j + 1) ls (vI z :: vI z :: r) b M
    | Sum.inr (Sum.inr (Sum.inl q)) :: r => nx (j + 1) ls (vR q :: vR q :: r) b M
    | _ => none) = some (Sum.inl (j', ls', st', b', M'))) (IH : Sim g D l p e R s m args below meth c PQ k j' ls' st' b' M') : Sim g D l p e R s m args below meth c PQ k j ls st b M := by
  obtain ⟨hd, h2⟩ := ok1 hok hi (fun h => by cases h)
  unfold okI at h2
  simp only [hi, Bool.and_eq_true, decide_eq_true_eq, fl1] at h2
  obtain ⟨hlen, hpc⟩ := h2
  rw [hlen] at hd hpc
  intro H locs cells slots la hRep hLR hst hlocs hcl hsl
  obtain ⟨hx, hb, hml, hown, hts, hK, hnm, hf1, hf2⟩ := hC
  split at hs
  · cases hs
    have h3 := IH H locs cells slots la hRep hLR (vok_cons (hst _ List.mem_cons_self) hst) hlocs hcl hsl
    rw [hpc] at h3
    exact lv_dup hx hb hd rfl h3
  · cases hs
    have h3 := IH H locs cells slots la hRep hLR (vok_cons (hst _ List.mem_cons_self) hst) hlocs hcl hsl
    rw [hpc] at h3
    rename_i q r
    exact lv_dup hx hb hd (by cases q <;> rfl) h3
  · cases hs
theorem si_dup2 (hC : Cx D p R s m args meth c k) (hok : okOp k j = true) (hi : (opAt k j).1 = .dup2) (hs : (match st with
    | Sum.inl z :: Sum.inr (Sum.inr (Sum.inl q)) :: r => nx (j + 1) ls (vI z :: vR q :: vI z :: vR q :: r) b M
    | _ => none) = some (Sum.inl (j', ls', st', b', M'))) (IH : Sim g D l p e R s m args below meth c PQ k j' ls' st' b' M') : Sim g D l p e R s m args below meth c PQ k j ls st b M := by
  obtain ⟨hd, h2⟩ := ok1 hok hi (fun h => by cases h)
  unfold okI at h2
  simp only [hi, Bool.and_eq_true, decide_eq_true_eq, fl1] at h2
  obtain ⟨hlen, hpc⟩ := h2
  rw [hlen] at hd hpc
  intro H locs cells slots la hRep hLR hst hlocs hcl hsl
  obtain ⟨hx, hb, hml, hown, hts, hK, hnm, hf1, hf2⟩ := hC
  split at hs
  · cases hs
    rename_i z q r
    have h3 := IH H locs cells slots la hRep hLR (vok_cons (hst _ List.mem_cons_self) (vok_cons (v := vR q) trivial hst)) hlocs hcl hsl
    rw [hpc] at h3
    exact lv_dup2_11 hx hb hd rfl (by cases q <;> rfl) h3
  · cases hs
theorem si_pop (hC : Cx D p R s m args meth c k) (hok : okOp k j = true) (hi : (opAt k j).1 = .pop) (hs : (pI st fun _ r => nx (j + 1) ls r b M) = some (Sum.inl (j', ls', st', b', M'))) (IH : Sim g D l p e R s m args below meth c PQ k j' ls' st' b' M') : Sim g D l p e R s m args below meth c PQ k j ls st b M := by
  obtain ⟨hd, h2⟩ := ok1 hok hi (fun h => by cases h)
  unfold okI at h2
  simp only [hi, Bool.and_eq_true, decide_eq_true_eq, fl1] at h2
  obtain ⟨hlen, hpc⟩ := h2
  rw [hlen] at hd hpc
  obtain ⟨x, r, rfl, hs⟩ := pI_inv hs
  cases hs
  intro H locs cells slots la hRep hLR hst hlocs hcl hsl
  obtain ⟨hx, hb, hml, hown, hts, hK, hnm, hf1, hf2⟩ := hC
  have h3 := IH H locs cells slots la hRep hLR (fun w hw => hst w (List.mem_cons_of_mem _ hw)) hlocs hcl hsl
  rw [hpc] at h3
  exact lv_pop hx hb hd rfl h3
end SIM
end
section
-- ===== branches, fields, arrays of the mini-machine are the JVM's =====
theorem br_inv {cn : Bool} {j1 j2 : Nat} {ls st : List MV} {b : Nat × Nat} {M : MM} {j' : Nat} {ls' st' : List MV} {b' : Nat × Nat} {M' : MM} (h : br cn j1 j2 ls st b M = some (Sum.inl (j', ls', st', b', M'))) : j' = (if cn = true then j1 else j2) ∧ ls' = ls ∧ st' = st ∧ b' = b ∧ M' = M := by
  unfold br at h
  split at h <;> (rename_i hc; cases h; simp [hc])
section SIM2
variable {g : GA} {D : va_G} {l : Launch} {p : Program} {e : Env} {R : Room} {s : State} {m : MethodId} {args : Array Value} {below : List Frame} {meth : Method} {c : Code} {PQ : State → Prop} {k j j' : Nat} {ls st ls' st' : List MV} {b b' : Nat × Nat} {M M' : MM}
theorem si_if_icmp {cd : Jvm.ClassFile.Cond} {off : Int} (hC : Cx D p R s m args meth c k) (hok : okOp k j = true) (hi : (opAt k j).1 = .if_icmp cd off) (hs : (pI2 st fun x y r => cndI cd x y (tg (opAt k j)) (j + 1) ls r b M) = some (Sum.inl (j', ls', st', b', M'))) (IH : Sim g D l p e R s m args below meth c PQ k j' ls' st' b' M') : Sim g D l p e R s m args below meth c PQ k j ls st b M := by
  obtain ⟨hd, h2⟩ := ok1 hok hi (fun h => by cases h)
  unfold okI at h2
  simp only [hi, Bool.and_eq_true, decide_eq_true_eq, fl1] at h2
  obtain ⟨⟨hlen, hpc⟩, ht⟩ := h2
  rw [hlen] at hd hpc
  obtain ⟨x, y, r, rfl, hs⟩ := pI2_inv hs
  intro H locs cells slots la hRep hLR hst hlocs hcl hsl
  obtain ⟨hx, hb, hml, hown, hts, hK, hnm, hf1, hf2⟩ := hC
  have hyr : inR y := hst (vI y) List.mem_cons_self
  have hxr : inR x := hst (vI x) (List.mem_cons_of_mem _ List.mem_cons_self)
  have hst2 : ∀ w ∈ r, vOK w := fun w hw => hst w (List.mem_cons_of_mem _ (List.mem_cons_of_mem _ hw))
  unfold cndI at hs
  cases cd with
  | eq =>
    obtain ⟨e1, rfl, rfl, rfl, rfl⟩ := br_inv hs
    have h3 := IH H locs cells slots la hRep hLR hst2 hlocs hcl hsl
    have h0 : (0 : Int32) = Int32.ofInt 0 := ofi_0.symm
    refine lv_icmp_eq hx hb hd ht (fun q => ?_) (fun q => ?_)
    · have hc : (x = y) := by
        exact (oi_inj hxr hyr).mp q
      rw [show j' = tg (opAt k j) by rw [e1]; simp [hc]] at h3
      exact h3
    · have hc : ¬ (x = y) := by
        exact fun z => q ((oi_inj hxr hyr).mpr z)
      rw [show j' = j + 1 by rw [e1]; simp [hc]] at h3
      rw [hpc] at h3
      exact h3
  | ne =>
    obtain ⟨e1, rfl, rfl, rfl, rfl⟩ := br_inv hs
    have h3 := IH H locs cells slots la hRep hLR hst2 hlocs hcl hsl
    have h0 : (0 : Int32) = Int32.ofInt 0 := ofi_0.symm
    refine lv_icmp_ne hx hb hd ht (fun q => ?_) (fun q => ?_)
    · have hc : ¬ (x = y) := by
        exact fun z => q ((oi_inj hxr hyr).mpr z)
      rw [show j' = tg (opAt k j) by rw [e1]; simp [hc]] at h3
      exact h3
    · have hc : (x = y) := by
        exact (oi_inj hxr hyr).mp q
      rw [show j' = j + 1 by rw [e1]; simp [hc]] at h3
      rw [hpc] at h3
      exact h3
  | lt =>
    obtain ⟨e1, rfl, rfl, rfl, rfl⟩ := br_inv hs
    have h3 := IH H locs cells slots la hRep hLR hst2 hlocs hcl hsl
    have h0 : (0 : Int32) = Int32.ofInt 0 := ofi_0.symm
    refine lv_icmp_lt hx hb hd ht (fun q => ?_) (fun q => ?_)
    · have hc : (x < y) := by
        exact (oi_lt hxr hyr).mp q
      rw [show j' = tg (opAt k j) by rw [e1]; simp [hc]] at h3
      exact h3
    · have hc : ¬ (x < y) := by
        exact fun z => q ((oi_lt hxr hyr).mpr z)
      rw [show j' = j + 1 by rw [e1]; simp [hc]] at h3
      rw [hpc] at h3
      exact h3
  | ge =>
    obtain ⟨e1, rfl, rfl, rfl, rfl⟩ := br_inv hs
    have h3 := IH H locs cells slots la hRep hLR hst2 hlocs hcl hsl
    have h0 : (0 : Int32) = Int32.ofInt 0 := ofi_0.symm
    refine lv_icmp_ge hx hb hd ht (fun q => ?_) (fun q => ?_)
    · have hc : ¬ (x < y) := by
        exact Int.not_lt.mpr ((oi_le hyr hxr).mp q)
      rw [show j' = tg (opAt k j) by rw [e1]; simp [hc]] at h3
      exact h3
    · have hc : (x < y) := by
        exact Int.not_le.mp (fun z => q ((oi_le hyr hxr).mpr z))
      rw [show j' = j + 1 by rw [e1]; simp [hc]] at h3
      rw [hpc] at h3
      exact h3
  | gt =>
    obtain ⟨e1, rfl, rfl, rfl, rfl⟩ := br_inv hs
    have h3 := IH H locs cells slots la hRep hLR hst2 hlocs hcl hsl
    have h0 : (0 : Int32) = Int32.ofInt 0 := ofi_0.symm
    refine lv_icmp_gt hx hb hd ht (fun q => ?_) (fun q => ?_)
    · have hc : ¬ (x ≤ y) := by
        exact Int.not_le.mpr ((oi_lt hyr hxr).mp q)
      rw [show j' = tg (opAt k j) by rw [e1]; simp [hc]] at h3
      exact h3
    · have hc : (x ≤ y) := by
        exact Int.not_lt.mp (fun z => q ((oi_lt hyr hxr).mpr z))
      rw [show j' = j + 1 by rw [e1]; simp [hc]] at h3
      rw [hpc] at h3
      exact h3
  | le =>
    obtain ⟨e1, rfl, rfl, rfl, rfl⟩ := br_inv hs
    have h3 := IH H locs cells slots la hRep hLR hst2 hlocs hcl hsl
    have h0 : (0 : Int32) = Int32.ofInt 0 := ofi_0.symm
    refine lv_icmp_le hx hb hd ht (fun q => ?_) (fun q => ?_)
    · have hc : (x ≤ y) := by
        exact (oi_le hxr hyr).mp q
      rw [show j' = tg (opAt k j) by rw [e1]; simp [hc]] at h3
      exact h3
    · have hc : ¬ (x ≤ y) := by
        exact fun z => q ((oi_le hxr hyr).mpr z)
      rw [show j' = j + 1 by rw [e1]; simp [hc]] at h3
      rw [hpc] at h3
      exact h3
theorem si_ifCond {cd : Jvm.ClassFile.Cond} {off : Int} (hC : Cx D p R s m args meth c k) (hok : okOp k j = true) (hi : (opAt k j).1 = .ifCond cd off) (hs : (pI st fun x r => cndI cd x 0 (tg (opAt k j)) (j + 1) ls r b M) = some (Sum.inl (j', ls', st', b', M'))) (IH : Sim g D l p e R s m args below meth c PQ k j' ls' st' b' M') : Sim g D l p e R s m args below meth c PQ k j ls st b M := by
  obtain ⟨hd, h2⟩ := ok1 hok hi (fun h => by cases h)
  unfold okI at h2
  simp only [hi, Bool.and_eq_true, decide_eq_true_eq, fl1] at h2
  obtain ⟨⟨hlen, hpc⟩, ht⟩ := h2
  rw [hlen] at hd hpc
  obtain ⟨x, r, rfl, hs⟩ := pI_inv hs
  intro H locs cells slots la hRep hLR hst hlocs hcl hsl
  obtain ⟨hx, hb, hml, hown, hts, hK, hnm, hf1, hf2⟩ := hC
  have hxr : inR x := hst (vI x) List.mem_cons_self
  have hst2 : ∀ w ∈ r, vOK w := fun w hw => hst w (List.mem_cons_of_mem _ hw)
  unfold cndI at hs
  cases cd with
  | eq =>
    obtain ⟨e1, rfl, rfl, rfl, rfl⟩ := br_inv hs
    have h3 := IH H locs cells slots la hRep hLR hst2 hlocs hcl hsl
    have h0 : (0 : Int32) = Int32.ofInt 0 := ofi_0.symm
    refine lv_if_eq hx hb hd ht (fun q => ?_) (fun q => ?_)
    · have hc : (x = 0) := by
        rw [h0] at q
        exact (oi_inj hxr inR_0).mp q
      rw [show j' = tg (opAt k j) by rw [e1]; simp [hc]] at h3
      exact h3
    · have hc : ¬ (x = 0) := by
        rw [h0] at q
        exact fun z => q ((oi_inj hxr inR_0).mpr z)
      rw [show j' = j + 1 by rw [e1]; simp [hc]] at h3
      rw [hpc] at h3
      exact h3
  | ne =>
    obtain ⟨e1, rfl, rfl, rfl, rfl⟩ := br_inv hs
    have h3 := IH H locs cells slots la hRep hLR hst2 hlocs hcl hsl
    have h0 : (0 : Int32) = Int32.ofInt 0 := ofi_0.symm
    refine lv_if_ne hx hb hd ht (fun q => ?_) (fun q => ?_)
    · have hc : ¬ (x = 0) := by
        rw [h0] at q
        exact fun z => q ((oi_inj hxr inR_0).mpr z)
      rw [show j' = tg (opAt k j) by rw [e1]; simp [hc]] at h3
      exact h3
    · have hc : (x = 0) := by
        rw [h0] at q
        exact (oi_inj hxr inR_0).mp q
      rw [show j' = j + 1 by rw [e1]; simp [hc]] at h3
      rw [hpc] at h3
      exact h3
  | lt =>
    obtain ⟨e1, rfl, rfl, rfl, rfl⟩ := br_inv hs
    have h3 := IH H locs cells slots la hRep hLR hst2 hlocs hcl hsl
    have h0 : (0 : Int32) = Int32.ofInt 0 := ofi_0.symm
    refine lv_if_lt hx hb hd ht (fun q => ?_) (fun q => ?_)
    · have hc : (x < 0) := by
        rw [h0] at q
        exact (oi_lt hxr inR_0).mp q
      rw [show j' = tg (opAt k j) by rw [e1]; simp [hc]] at h3
      exact h3
    · have hc : ¬ (x < 0) := by
        rw [h0] at q
        exact fun z => q ((oi_lt hxr inR_0).mpr z)
      rw [show j' = j + 1 by rw [e1]; simp [hc]] at h3
      rw [hpc] at h3
      exact h3
  | ge =>
    obtain ⟨e1, rfl, rfl, rfl, rfl⟩ := br_inv hs
    have h3 := IH H locs cells slots la hRep hLR hst2 hlocs hcl hsl
    have h0 : (0 : Int32) = Int32.ofInt 0 := ofi_0.symm
    refine lv_if_ge hx hb hd ht (fun q => ?_) (fun q => ?_)
    · have hc : ¬ (x < 0) := by
        rw [h0] at q
        exact Int.not_lt.mpr ((oi_le inR_0 hxr).mp q)
      rw [show j' = tg (opAt k j) by rw [e1]; simp [hc]] at h3
      exact h3
    · have hc : (x < 0) := by
        rw [h0] at q
        exact Int.not_le.mp (fun z => q ((oi_le inR_0 hxr).mpr z))
      rw [show j' = j + 1 by rw [e1]; simp [hc]] at h3
      rw [hpc] at h3
      exact h3
  | gt =>
    obtain ⟨e1, rfl, rfl, rfl, rfl⟩ := br_inv hs
    have h3 := IH H locs cells slots la hRep hLR hst2 hlocs hcl hsl
    have h0 : (0 : Int32) = Int32.ofInt 0 := ofi_0.symm
    refine lv_if_gt hx hb hd ht (fun q => ?_) (fun q => ?_)
    · have hc : ¬ (x ≤ 0) := by
        rw [h0] at q
        exact Int.not_le.mpr ((oi_lt inR_0 hxr).mp q)
      rw [show j' = tg (opAt k j) by rw [e1]; simp [hc]] at h3
      exact h3
    · have hc : (x ≤ 0) := by
        rw [h0] at q
        exact Int.not_lt.mp (fun z => q ((oi_lt inR_0 hxr).mpr z))
      rw [show j' = j + 1 by rw [e1]; simp [hc]] at h3
      rw [hpc] at h3
      exact h3
  | le =>
    obtain ⟨e1, rfl, rfl, rfl, rfl⟩ := br_inv hs
    have h3 := IH H locs cells slots la hRep hLR hst2 hlocs hcl hsl
    have h0 : (0 : Int32) = Int32.ofInt 0 := ofi_0.symm
    refine lv_if_le hx hb hd ht (fun q => ?_) (fun q => ?_)
    · have hc : (x ≤ 0) := by
        rw [h0] at q
        exact (oi_le hxr inR_0).mp q
      rw [show j' = tg (opAt k j) by rw [e1]; simp [hc]] at h3
      exact h3
    · have hc : ¬ (x ≤ 0) := by
        rw [h0] at q
        exact fun z => q ((oi_le hxr inR_0).mpr z)
      rw [show j' = j + 1 by rw [e1]; simp [hc]] at h3
      rw [hpc] at h3
      exact h3
theorem si_goto {off : Int} (hC : Cx D p R s m args meth c k) (hok : okOp k j = true) (hi : (opAt k j).1 = .goto off) (hs : nx (tg (opAt k j)) ls st b M = some (Sum.inl (j', ls', st', b', M'))) (IH : Sim g D l p e R s m args below meth c PQ k j' ls' st' b' M') : Sim g D l p e R s m args below meth c PQ k j ls st b M := by
  obtain ⟨hd, h2⟩ := ok1 hok hi (fun h => by cases h)
  unfold okI at h2
  simp only [hi, Bool.and_eq_true, decide_eq_true_eq, fl1] at h2
  obtain ⟨hlen, ht⟩ := h2
  rw [hlen] at hd
  cases hs
  intro H locs cells slots la hRep hLR hst hlocs hcl hsl
  obtain ⟨hx, hb, hml, hown, hts, hK, hnm, hf1, hf2⟩ := hC
  have h3 := IH H locs cells slots la hRep hLR hst hlocs hcl hsl
  exact lv_goto hx hb hd ht h3
theorem si_ifnull {off : Int} (hC : Cx D p R s m args meth c k) (hok : okOp k j = true) (hi : (opAt k j).1 = .ifnull off) (hs : (pQ st fun q r => br q.isNone (tg (opAt k j)) (j + 1) ls r b M) = some (Sum.inl (j', ls', st', b', M'))) (IH : Sim g D l p e R s m args below meth c PQ k j' ls' st' b' M') : Sim g D l p e R s m args below meth c PQ k j ls st b M := by
  obtain ⟨hd, h2⟩ := ok1 hok hi (fun h => by cases h)
  unfold okI at h2
  simp only [hi, Bool.and_eq_true, decide_eq_true_eq, fl1] at h2
  obtain ⟨⟨hlen, hpc⟩, ht⟩ := h2
  rw [hlen] at hd hpc
  obtain ⟨q, r, rfl, hs⟩ := pQ_inv hs
  obtain ⟨e1, rfl, rfl, rfl, rfl⟩ := br_inv hs
  intro H locs cells slots la hRep hLR hst hlocs hcl hsl
  obtain ⟨hx, hb, hml, hown, hts, hK, hnm, hf1, hf2⟩ := hC
  have h3 := IH H locs cells slots la hRep hLR (fun w hw => hst w (List.mem_cons_of_mem _ hw)) hlocs hcl hsl
  cases q with
  | none =>
    rw [show j' = tg (opAt k j) by rw [e1]; rfl] at h3
    exact lv_ifnullN hx hb hd ht h3
  | some a =>
    rw [show j' = j + 1 by rw [e1]; rfl, hpc] at h3
    exact lv_ifnull hx hb hd h3
theorem si_ifnonnull {off : Int} (hC : Cx D p R s m args meth c k) (hok : okOp k j = true) (hi : (opAt k j).1 = .ifnonnull off) (hs : (pQ st fun q r => br q.isNone (j + 1) (tg (opAt k j)) ls r b M) = some (Sum.inl (j', ls', st', b', M'))) (IH : Sim g D l p e R s m args below meth c PQ k j' ls' st' b' M') : Sim g D l p e R s m args below meth c PQ k j ls st b M := by
  obtain ⟨hd, h2⟩ := ok1 hok hi (fun h => by cases h)
  unfold okI at h2
  simp only [hi, Bool.and_eq_true, decide_eq_true_eq, fl1] at h2
  obtain ⟨⟨hlen, hpc⟩, ht⟩ := h2
  rw [hlen] at hd hpc
  obtain ⟨q, r, rfl, hs⟩ := pQ_inv hs
  obtain ⟨e1, rfl, rfl, rfl, rfl⟩ := br_inv hs
  intro H locs cells slots la hRep hLR hst hlocs hcl hsl
  obtain ⟨hx, hb, hml, hown, hts, hK, hnm, hf1, hf2⟩ := hC
  have h3 := IH H locs cells slots la hRep hLR (fun w hw => hst w (List.mem_cons_of_mem _ hw)) hlocs hcl hsl
  cases q with
  | none =>
    rw [show j' = j + 1 by rw [e1]; rfl, hpc] at h3
    exact lv_ifnonnullN hx hb hd h3
  | some a =>
    rw [show j' = tg (opAt k j) by rw [e1]; rfl] at h3
    exact lv_ifnonnull hx hb hd ht h3
theorem swT_in (k pc : Nat) (x : Int) (d : Nat) : ∀ (sw : List (Int × Nat)) (lo : Int) (offs : List Int), sw.map (fun e => e.1) = (List.range offs.length).map (fun (i : Nat) => lo + (i : Int)) → sw.map (fun e => (pcK k e.2 : Int)) = offs.map (fun e => (pc : Int) + e) → lo ≤ x → x < lo + offs.length → ∃ off, offs[(x - lo).toNat]? = some off ∧ (pc : Int) + off = (pcK k (swT x d sw) : Int) := by
  intro sw
  induction sw with
  | nil =>
    intro lo offs h1 h2 h3 h4
    cases offs with
    | nil => simp at h4; omega
    | cons a r => simp at h2
  | cons c r ih =>
    intro lo offs h1 h2 h3 h4
    cases offs with
    | nil => simp at h2
    | cons a t =>
      obtain ⟨c1, c2⟩ := c
      simp only [List.map_cons, List.cons.injEq] at h2
      rw [List.length_cons, List.range_succ_eq_map, List.map_cons, List.map_cons] at h1
      simp only [List.cons.injEq] at h1
      unfold swT
      by_cases hx : x = c1
      · rw [if_pos hx]
        have e0 : (x - lo).toNat = 0 := by have := h1.1; simp at this; omega
        rw [e0]
        exact ⟨a, rfl, h2.1.symm⟩
      · rw [if_neg hx]
        have e0 : c1 = lo := by have := h1.1; simpa using this
        have h5 : r.map (fun e => e.1) = (List.range t.length).map (fun (i : Nat) => (lo + 1) + (i : Int)) := by
          rw [h1.2, List.map_map]
          apply List.map_congr_left
          intro i _
          simp only [Function.comp]
          omega
        obtain ⟨off, h6, h7⟩ := ih (lo + 1) t h5 h2.2 (by omega) (by simp only [List.length_cons] at h4; omega)
        refine ⟨off, ?_, h7⟩
        rw [show (x - lo).toNat = (x - (lo + 1)).toNat + 1 by omega]
        simpa using h6
theorem swT_out (x : Int) (d : Nat) : ∀ (sw : List (Int × Nat)), (∀ e ∈ sw, e.1 ≠ x) → swT x d sw = d := by
  intro sw
  induction sw with
  | nil => intro _; rfl
  | cons c r ih =>
    intro h
    unfold swT
    rw [if_neg (fun q => h c List.mem_cons_self q.symm)]
    exact ih (fun e he => h e (List.mem_cons_of_mem _ he))
theorem swT_look (k pc : Nat) (x d : Int) (dn : Nat) (hd : (pc : Int) + d = (pcK k dn : Int)) : ∀ (sw : List (Int × Nat)) (ps : List (Int × Int)), sw.map (fun e => e.1) = ps.map (fun e => e.1) → sw.map (fun e => (pcK k e.2 : Int)) = ps.map (fun e => (pc : Int) + e.2) → (pc : Int) + Op.lookupswitch.offset ps d x = (pcK k (swT x dn sw) : Int) := by
  intro sw
  induction sw with
  | nil =>
    intro ps h1 h2
    cases ps with
    | nil => exact hd
    | cons a r => simp at h1
  | cons c r ih =>
    intro ps h1 h2
    cases ps with
    | nil => simp at h1
    | cons a t =>
      obtain ⟨c1, c2⟩ := c
      obtain ⟨a1, a2⟩ := a
      simp only [List.map_cons, List.cons.injEq] at h1 h2
      rw [Op.lookupswitch.offset_cons]
      unfold swT
      by_cases hx : x = c1
      · rw [if_pos hx, if_pos (by rw [← h1.1]; exact hx.symm)]
        exact h2.1.symm
      · rw [if_neg hx, if_neg (by rw [← h1.1]; exact fun q => hx q.symm)]
        exact ih t h1.2 h2.2
theorem si_lookupswitch {d : Int} {ps : Array (Int × Int)} (hC : Cx D p R s m args meth c k) (hok : okOp k j = true) (hi : (opAt k j).1 = .lookupswitch d ps) (hs : (pI st fun x r => nx (swT x (tg (opAt k j)) (opAt k j).2.2.2.2) ls r b M) = some (Sum.inl (j', ls', st', b', M'))) (IH : Sim g D l p e R s m args below meth c PQ k j' ls' st' b' M') : Sim g D l p e R s m args below meth c PQ k j ls st b M := by
  obtain ⟨hd, h2⟩ := ok1 hok hi (fun h => by cases h)
  unfold okI at h2
  simp only [hi, Bool.and_eq_true, decide_eq_true_eq, fl1] at h2
  obtain ⟨⟨⟨h5, h6⟩, h7⟩, h8⟩ := h2
  obtain ⟨x, r, rfl, hs⟩ := pI_inv hs
  cases hs
  intro H locs cells slots la hRep hLR hst hlocs hcl hsl
  obtain ⟨hx, hb, hml, hown, hts, hK, hnm, hf1, hf2⟩ := hC
  have hxr : inR x := hst (vI x) List.mem_cons_self
  have h3 := IH H locs cells slots la hRep hLR (fun w hw => hst w (List.mem_cons_of_mem _ hw)) hlocs hcl hsl
  have h9 := swT_look k (pcK k j) x d (n0 (opAt k j)) h5 _ _ h6 h7
  exact lv_lookup hx hb hd h8 rfl (by rw [toI_of hxr]; exact h9) h3
theorem si_tableswitch {d lo hi2 : Int} {offs : Array Int} (hC : Cx D p R s m args meth c k) (hok : okOp k j = true) (hi : (opAt k j).1 = .tableswitch d lo hi2 offs) (hs : (pI st fun x r => nx (swT x (tg (opAt k j)) (opAt k j).2.2.2.2) ls r b M) = some (Sum.inl (j', ls', st', b', M'))) (IH : Sim g D l p e R s m args below meth c PQ k j' ls' st' b' M') : Sim g D l p e R s m args below meth c PQ k j ls st b M := by
  obtain ⟨hd, h2⟩ := ok1 hok hi (fun h => by cases h)
  unfold okI at h2
  simp only [hi, Bool.and_eq_true, decide_eq_true_eq, fl1] at h2
  obtain ⟨⟨⟨h5, h6⟩, h7⟩, h8⟩ := h2
  obtain ⟨x, r, rfl, hs⟩ := pI_inv hs
  cases hs
  intro H locs cells slots la hRep hLR hst hlocs hcl hsl
  obtain ⟨hx, hb, hml, hown, hts, hK, hnm, hf1, hf2⟩ := hC
  have hxr : inR x := hst (vI x) List.mem_cons_self
  have h3 := IH H locs cells slots la hRep hLR (fun w hw => hst w (List.mem_cons_of_mem _ hw)) hlocs hcl hsl
  have hsz : offs.size = offs.toList.length := by simp
  by_cases hr : lo ≤ x ∧ x ≤ hi2
  · obtain ⟨off, h9, h10⟩ := swT_in k (pcK k j) x (n0 (opAt k j)) (opAt k j).2.2.2.2 lo offs.toList (by rw [← hsz]; exact h7) h8 hr.1 (by rw [← hsz]; omega)
    exact lv_tableIn hx hb hd (by rw [toI_of hxr]; omega) (by rw [toI_of hxr]; omega) (by rw [toI_of hxr, ← Array.getElem?_toList]; exact h9) h10 h3
  · have h9 : swT x (n0 (opAt k j)) (opAt k j).2.2.2.2 = n0 (opAt k j) := by
      apply swT_out
      intro q hq hq2
      have hm : q.1 ∈ (opAt k j).2.2.2.2.map (fun e => e.1) := List.mem_map.mpr ⟨q, hq, rfl⟩
      rw [h7] at hm
      obtain ⟨i, hi3, hi4⟩ := List.mem_map.mp hm
      have := List.mem_range.mp hi3
      omega
    rw [show swT x (tg (opAt k j)) (opAt k j).2.2.2.2 = n0 (opAt k j) from h9] at h3
    exact lv_tableOut hx hb hd (by rw [toI_of hxr]; omega) h5 h3
theorem si_nop (hC : Cx D p R s m args meth c k) (hok : okOp k j = true) (hi : (opAt k j).1 = .nop) (hs : nx (j + 1) (killL ls (opAt k j).2.2.1) st b M = some (Sum.inl (j', ls', st', b', M'))) (IH : Sim g D l p e R s m args below meth c PQ k j' ls' st' b' M') : Sim g D l p e R s m args below meth c PQ k j ls st b M := by
  unfold okOp at hok
  simp only [hi] at hok
  rw [if_pos trivial] at hok
  simp only [decide_eq_true_eq] at hok
  cases hs
  intro H locs cells slots la hRep hLR hst hlocs hcl hsl
  have h3 := IH H locs cells slots la hRep (hLR.kill _) hst hlocs hcl hsl
  rw [hok] at h3
  exact h3
end SIM2
end
section
-- ===== fields and arrays =====
theorem vw_at {c : Nat} (h : c < 10) : vwCl[c]? = some (cnm c, cT c, cN c) := by
  match c, h with
  | 0, _ => rfl
  | 1, _ => rfl
  | 2, _ => rfl
  | 3, _ => rfl
  | 4, _ => rfl
  | 5, _ => rfl
  | 6, _ => rfl
  | 7, _ => rfl
  | 8, _ => rfl
  | 9, _ => rfl
  | c + 10, h => omega
theorem cT_own : ∀ c, c < 10 → ∀ k, k < cN c → (cT c k).1 = cnm c := by decide +kernel
theorem cT_nm {c : Nat} (h : c < 10) : ∀ a, a < cN c → ∀ b, b < cN c → a ≠ b → (cT c a).2.1 ≠ (cT c b).2.1 := by
  match c, h with
  | 0, _ => exact nmX0
  | 1, _ => exact nmX1
  | 2, _ => exact nmX2
  | 3, _ => exact nmX3
  | 4, _ => exact nmX4
  | 5, _ => exact nmX5
  | 6, _ => exact nmX6
  | 7, _ => exact nmX7
  | 8, _ => exact nmX8
  | 9, _ => exact nmX9
  | c + 10, h => omega
theorem cTy_ok {c : Nat} (h : c < 10) : ∀ k, k < cN c → parseFieldDescriptor (cT c k).2.2.1 = some (cTy c k) := by
  match c, h with
  | 0, _ => exact tyX0_ok
  | 1, _ => exact tyX1_ok
  | 2, _ => exact tyX2_ok
  | 3, _ => exact tyX3_ok
  | 4, _ => exact tyX4_ok
  | 5, _ => exact tyX5_ok
  | 6, _ => exact tyX6_ok
  | 7, _ => exact tyX7_ok
  | 8, _ => exact tyX8_ok
  | 9, _ => exact tyX9_ok
  | c + 10, h => omega
section SIM3
variable {g : GA} {D : va_G} {l : Launch} {p : Program} {e : Env} {R : Room} {s : State} {m : MethodId} {args : Array Value} {below : List Frame} {meth : Method} {c : Code} {PQ : State → Prop} {k j j' : Nat} {ls st ls' st' : List MV} {b b' : Nat × Nat} {M M' : MM} {H : Heap} {locs : List Loc} {cells slots : Nat} {la : Array Slot} {rest : List Value} {pc a ci fk idx : Nat}
theorem rd_field (hC : Cx D p R s m args meth c k) (hRep : Rep g D s M H) (hk : kd M.1 a = ci) (hci : ci < 10) (hfk : fk < cN ci) (hfl : (idx, ci, fk) ∈ flT.getD (owK k) []) (hd : decode (cK k) pc = .ok (.getfield idx, 3))
    (kk : W p l e R s m args below meth c H locs cells slots PQ (F0 m (pc + 3) la (fvl g M a ci fk :: rest))) : W p l e R s m args below meth c H locs cells slots PQ (F0 m pc la (.ref (adr g a) :: rest)) := by
  obtain ⟨hx, hb, hml, hown, hts, hK, hnm, hf1, hf2⟩ := hC
  obtain ⟨en, he, rfl⟩ := kd_ex hk (by omega)
  obtain ⟨cell, q1, q2, q3, q4⟩ := (hRep.1 a en he).1 hci
  obtain ⟨hS, hfc, kC, hkC, hkind⟩ := hK.1.1 en.1 _ (vw_at hci)
  obtain ⟨cf, kf, fi, f, hi, hsl⟩ := hS fk hfk
  have hlink := hts _ (fl_ok (owK k) _ hfl)
  have hi2 : s.fieldFound? (cnm en.1) (cT en.1 fk).2.1 (cT en.1 fk).2.2.1 = some (cf, kf, fi, f) := by rw [← cT_own en.1 hci fk hfk]; exact hi
  refine W.getf hx hb hown hlink hi2 (u_facts hfc hkC (u_lays hts (lay_ok en.1 hci) hfk) hi).1 q1 (by rw [q3]; exact fun h => by cases h) (v := fvl g M a en.1 fk) ?_ rfl rfl hd kk
  rw [hsl, q4 fk hfk]
theorem wr_field (hC : Cx D p R s m args meth c k) (hRep : Rep g D s M H) (hlocs : ∀ q ∈ locs, gB g ≤ q.base) (hk : kd M.1 a = ci) (hci : ci < 10) (hfk : fk < cN ci) (hfl : (idx, ci, fk) ∈ flT.getD (owK k) []) {v : Value} (hn : narrow (cTy ci fk) v = v) (hfit : fits (cTy ci fk) v = true) (hfin : (cT ci fk).2.2.2 = false ∨ (meth.name = "<init>" ∧ (cT ci fk).1 = cnm (owK k) ∧ (cT ci fk).2.2.2 = true)) (hd : decode (cK k) pc = .ok (.putfield idx, 3))
    (kk : ∀ (H1 : Heap) (locs1 : List Loc), H1.size = H.size → (∀ q, q ≠ adr g a → H1[q]? = H[q]?) → t_OB (adr g a) (D.1 ci) (cN ci) (D.2 ci) H1 (updV (fun z => fvl g M a ci z) fk v) → (∀ q ∈ locs1, gB g ≤ q.base) → W p l e R s m args below meth c H1 locs1 cells slots PQ (F0 m (pc + 3) la rest)) : W p l e R s m args below meth c H locs cells slots PQ (F0 m pc la (v :: .ref (adr g a) :: rest)) := by
  obtain ⟨hx, hb, hml, hown, hts, hK, hnm, hf1, hf2⟩ := hC
  have ha3 : 3 ≤ a := hRep.hi hk (by omega)
  obtain ⟨en, he, rfl⟩ := kd_ex hk (by omega)
  obtain ⟨cell, q1, q2, q3, q4⟩ := (hRep.1 a en he).1 hci
  have hap := va_apart (own := cnm en.1) hts (lay_ok en.1 hci) (cTy en.1) (cTy_ok hci) (cT_nm hci) hK.1 (vw_at hci)
  obtain ⟨hS, hfc, kC, hkC, hkind⟩ := hK.1.1 en.1 _ (vw_at hci)
  obtain ⟨cf, kf, fi, f, hi, hsl⟩ := hS fk hfk
  have hlink := hts _ (fl_ok (owK k) _ hfl)
  have hi2 : s.fieldFound? (cnm en.1) (cT en.1 fk).2.1 (cT en.1 fk).2.2.1 = some (cf, kf, fi, f) := by rw [← cT_own en.1 hci fk hfk]; exact hi
  have hst := (u_facts hfc hkC (u_lays hts (lay_ok en.1 hci) hfk) hi).1
  have hlay := hts _ (lay_ok en.1 hci _ (u_in_lay hfk))
  unfold u_lay at hlay
  have hloc2 : ∀ q ∈ locs ++ [⟨adr g a, D.2 en.1 fk⟩], gB g ≤ q.base := fun q hq => by
    rcases List.mem_append.mp hq with h | h
    · exact hlocs q h
    · rw [List.mem_singleton.mp h]
      show gB g ≤ adr g a
      rw [adr_hi ha3]; omega
  have fin : ∀ H' : Heap, H'[adr g a]? = some (cell.setSlot (D.2 en.1 fk) v) → H'.size = H.size → (∀ q, q ≠ adr g a → H'[q]? = H[q]?) → W p l e R s m args below meth c H' (locs ++ [⟨adr g a, D.2 en.1 fk⟩]) cells slots PQ (F0 m (pc + 3) la rest) := fun H' e1 e2 e3 => kk H' _ e2 e3 ⟨_, e1, q2, q3, t_set q4 hap hfk v⟩ hloc2
  rcases hfin with hfin | ⟨hin, hdecl, hfin⟩
  · rw [if_neg (by rw [hfin]; decide)] at hlay
    have h6 := u_store hfc hkC hkind hlay hi (cTy_ok hci fk hfk) hn hfit
    refine W.putK hx hb (f := f) ⟨hown, hlink, ⟨_, _, _, hi2⟩, hst⟩ (by rw [q2]; exact h6) q1 q3 (by rw [hsl]; exact k2_hasslot (q4 fk hfk)) rfl rfl hd fun H' e1 e2 e3 => ?_
    rw [hsl] at e1 ⊢
    exact fin H' e1 e2 e3
  · rw [if_pos hfin] at hlay
    have hcf : m.cls = cf := by
      obtain ⟨_, _, c', _, _, _, -, -, hf', -, -, -, hown2, -⟩ := Cond.laysFinal_spec hlay
      have e1 : c' = cf := by have := hi.symm.trans hf'; simp at this; exact this.1.symm
      rw [hdecl] at hown2
      rw [← e1]; exact Option.some.inj (hown.symm.trans hown2)
    have h6 := u_fits hfc hkC hkind (Or.inr hlay) hi (cTy_ok hci fk hfk) hn hfit
    refine W.putFinK hx hb hown hlink hi2 hst hcf hin (by rw [q2]; exact h6) q1 q3 (by rw [hsl]; exact k2_hasslot (q4 fk hfk)) rfl rfl hd fun H' e1 e2 e3 => ?_
    rw [hsl] at e1 ⊢
    exact fin H' e1 e2 e3
theorem vok_fI (hRep : Rep g D s M H) (i : Int) : vOK (vI (M.2.2.1 a i)) := hRep.2.2.2.2.1 a i
theorem si_getfield (hC : Cx D p R s m args meth c k) (hok : okOp k j = true) (hi : (opAt k j).1 = .getfield idx) (hs : mGet (opAt k j) j ls st b M = some (Sum.inl (j', ls', st', b', M'))) (IH : Sim g D l p e R s m args below meth c PQ k j' ls' st' b' M') : Sim g D l p e R s m args below meth c PQ k j ls st b M := by
  obtain ⟨hd, h2⟩ := ok1 hok hi (fun h => by cases h)
  unfold okI at h2
  simp only [hi, Bool.and_eq_true, decide_eq_true_eq, fl1] at h2
  obtain ⟨⟨⟨⟨⟨⟨hlen, hpc⟩, hfl⟩, hci⟩, hfk⟩, hft⟩, hle⟩ := h2
  rw [hlen] at hd hpc
  have hfl := List.contains_iff_mem.mp hfl
  unfold mGet at hs
  obtain ⟨a, r, rfl, hs⟩ := pR_inv hs
  obtain ⟨hk, hs⟩ := gd_inv hs
  have hk := of_decide_eq_true hk
  intro H locs cells slots la hRep hLR hst hlocs hcl hsl
  have hst2 : ∀ w ∈ r, vOK w := fun w hw => hst w (List.mem_cons_of_mem _ hw)
  refine rd_field hC hRep hk hci hfk hfl hd ?_
  have key : ∀ v : MV, vOK v → nx (j + 1) ls (v :: r) b M = some (Sum.inl (j', ls', st', b', M')) → fvl g M a (n0 (opAt k j)) (n1 (opAt k j)) = cv g v → W p l e R s m args below meth c H locs cells slots PQ (F0 m (pcK k j + 3) la (fvl g M a (n0 (opAt k j)) (n1 (opAt k j)) :: r.map (cv g))) := by
    intro v hv hq e1
    cases hq
    have h3 := IH H locs cells slots la hRep hLR (vok_cons hv hst2) hlocs hcl hsl
    rw [hpc] at h3
    rw [e1]
    exact h3
  split at hs
  · rename_i h0; exact key _ (vok_fI hRep _) hs (by unfold fvl; rw [← hft, h0]; rfl)
  · rename_i h0; exact key _ (vok_fI hRep _) hs (by unfold fvl; rw [← hft, h0]; rfl)
  · rename_i h0; exact key (vL (M.2.2.2 a (n1 (opAt k j)))) trivial hs (by unfold fvl; rw [← hft, h0]; rfl)
  · rename_i h0; exact key (vR (M.2.1 a (n1 (opAt k j)))) trivial hs (by unfold fvl; rw [← hft, h0]; rfl)
  · rename_i h0 h1 h3 h4
    have h0 : ¬ n2 (opAt k j) = 0 := h0
    have h1 : ¬ n2 (opAt k j) = 1 := h1
    have h3 : ¬ n2 (opAt k j) = 2 := h3
    have h4 : ¬ n2 (opAt k j) = 3 := h4
    have e4 : n2 (opAt k j) = 4 := by omega
    exact key (vR (fz M.1 a (n1 (opAt k j)))) trivial hs (by unfold fvl; rw [← hft, e4]; rfl)
theorem cTy_i {c k : Nat} (h : fkind c k = 0) : cTy c k = .int := by
  unfold fkind at h
  split at h <;> first | assumption | (split at h <;> omega) | omega
theorem cTy_z {c k : Nat} (h : fkind c k = 1) : cTy c k = .boolean := by
  unfold fkind at h
  split at h <;> first | assumption | (split at h <;> omega) | omega
theorem cTy_l {c k : Nat} (h : fkind c k = 2) : cTy c k = .long := by
  unfold fkind at h
  split at h <;> first | assumption | (split at h <;> omega) | omega
theorem cTy_q {c k : Nat} (h : fkind c k = 3 ∨ fkind c k = 4) : (∃ n, cTy c k = .object n) ∨ ∃ t, cTy c k = .array t := by
  unfold fkind at h
  split at h
  · omega
  · omega
  · omega
  · exact Or.inl ⟨_, by assumption⟩
  · exact Or.inr ⟨_, by assumption⟩
  · omega
theorem nar_q {ty : FieldType} (h : (∃ n, ty = .object n) ∨ ∃ t, ty = .array t) (r : Option Nat) : narrow ty (va_rf r) = va_rf r ∧ fits ty (va_rf r) = true := by
  rcases h with ⟨n, rfl⟩ | ⟨t, rfl⟩ <;> cases r <;> exact ⟨rfl, rfl⟩
theorem nar_z {z : Int} (h : z01 z = true) : narrow .boolean (.int (Int32.ofInt z)) = .int (Int32.ofInt z) ∧ fits .boolean (.int (Int32.ofInt z)) = true := by
  unfold z01 at h
  simp only [Bool.or_eq_true, decide_eq_true_eq] at h
  rcases h with rfl | rfl
  · exact ⟨by decide +kernel, by decide +kernel⟩
  · exact ⟨by decide +kernel, by decide +kernel⟩
theorem fz_set {S : MS} {a f : Nat} {q : Option Nat} {en : Nat × Nat × List (Option Nat)} (he : S[a]? = some en) (hf : f < en.2.2.length) (z : Nat) : fz (setFz S a f q) a z = if z = f then q else fz S a z := by
  have hl : a < S.length := (List.getElem?_eq_some_iff.mp he).1
  unfold setFz
  rw [he]
  unfold fz
  simp only [List.getElem?_set, hl, if_true, he]
  by_cases hz : z = f
  · subst hz
    simp [List.getD_eq_getElem?_getD, List.getElem?_set, hf]
  · rw [if_neg hz]
    simp [List.getD_eq_getElem?_getD, List.getElem?_set, Ne.symm hz]
theorem setFz_len (S : MS) (a f : Nat) (q : Option Nat) : (setFz S a f q).length = S.length := by
  unfold setFz; split <;> simp
theorem setFz_ne {S : MS} {a b f : Nat} {q : Option Nat} (h : b ≠ a) : (setFz S a f q)[b]? = S[b]? := by
  unfold setFz; split
  · rw [List.getElem?_set, if_neg (Ne.symm h)]
  · rfl
theorem setFz_at {S : MS} {a f : Nat} {q : Option Nat} {en : Nat × Nat × List (Option Nat)} (he : S[a]? = some en) : (setFz S a f q)[a]? = some (en.1, en.2.1, en.2.2.set f q) := by
  have hl : a < S.length := (List.getElem?_eq_some_iff.mp he).1
  unfold setFz; rw [he]
  simp [List.getElem?_set, hl]
theorem si_putfield (hC : Cx D p R s m args meth c k) (hok : okOp k j = true) (hi : (opAt k j).1 = .putfield idx) (hs : mPut (opAt k j) j ls st b M = some (Sum.inl (j', ls', st', b', M'))) (IH : Sim g D l p e R s m args below meth c PQ k j' ls' st' b' M') : Sim g D l p e R s m args below meth c PQ k j ls st b M := by
  obtain ⟨hd, h2⟩ := ok1 hok hi (fun h => by cases h)
  unfold okI at h2
  simp only [hi, Bool.and_eq_true, decide_eq_true_eq, fl1] at h2
  obtain ⟨⟨⟨⟨⟨⟨⟨hlen, hpc⟩, hfl⟩, hci⟩, hfk⟩, hft⟩, hle⟩, hfin⟩ := h2
  rw [hlen] at hd hpc
  have hfl := List.contains_iff_mem.mp hfl
  intro H locs cells slots la hRep hLR hst hlocs hcl hsl
  -- what the store comes to, once the memory behind it is known
  have key : ∀ (a : Nat) (v : Value) (r : List MV) (M2 : MM), (∀ w ∈ r, vOK w) → kd M.1 a = n0 (opAt k j) → narrow (cTy (n0 (opAt k j)) (n1 (opAt k j))) v = v → fits (cTy (n0 (opAt k j)) (n1 (opAt k j))) v = true → nx (j + 1) ls r b M2 = some (Sum.inl (j', ls', st', b', M')) →
      M2.1.length = M.1.length → (∀ b, b ≠ a → M2.1[b]? = M.1[b]?) → (∀ b, b ≠ a → M2.2.1 b = M.2.1 b) → (∀ b, b ≠ a → M2.2.2.1 b = M.2.2.1 b) → (∀ b, b ≠ a → M2.2.2.2 b = M.2.2.2 b) → (∀ i, inR (M2.2.2.1 a i)) → (∀ en, M.1[a]? = some en → ∃ en2, M2.1[a]? = some en2 ∧ en2.1 = en.1 ∧ en2.2.1 = en.2.1) →
      (∀ z, z < cN (n0 (opAt k j)) → updV (fun z => fvl g M a (n0 (opAt k j)) z) (n1 (opAt k j)) v z = fvl g M2 a (n0 (opAt k j)) z) →
      W p l e R s m args below meth c H locs cells slots PQ (F0 m (pcK k j) la (v :: .ref (adr g a) :: r.map (cv g))) := by
    intro a v r M2 hr hk hn hft2 hq hl2 hS2 hR2 hI2 hJ2 hrg hen hval
    cases hq
    have hC2 := hC
    obtain ⟨hx, hb, hml, hown, hts, hK, hnm, hf1, hf2⟩ := hC2
    have hf : (cT (n0 (opAt k j)) (n1 (opAt k j))).2.2.2 = false ∨ (meth.name = "<init>" ∧ (cT (n0 (opAt k j)) (n1 (opAt k j))).1 = cnm (owK k) ∧ (cT (n0 (opAt k j)) (n1 (opAt k j))).2.2.2 = true) := by
      by_cases h4 : n2 (opAt k j) = 4
      · rw [if_pos h4] at hfin
        simp only [Bool.and_eq_true, decide_eq_true_eq] at hfin
        refine Or.inr ⟨hnm hfin.1, hfin.2, ?_⟩
        have h5 : fkind (n0 (opAt k j)) (n1 (opAt k j)) = 4 := by rw [← hft]; exact h4
        unfold fkind at h5
        split at h5 <;> first | omega | (split at h5 <;> first | assumption | omega)
      · rw [if_neg h4] at hfin
        exact Or.inl (by simpa using hfin)
    refine wr_field hC hRep hlocs hk hci hfk hfl hn hft2 hf hd (fun H1 locs1 e2 e3 e4 e5 => ?_)
    have ha3 : 3 ≤ a := hRep.hi hk (by omega)
    have hRep2 : Rep g D s M' H1 := by
      refine hRep.put ha3 e2 e3 hl2 hS2 hR2 hI2 hJ2 hrg (fun en2 hen2 => ?_)
      obtain ⟨en, he, hen1⟩ := kd_ex hk (by omega)
      obtain ⟨en3, h7, h8, h9⟩ := hen en he
      cases hen2.symm.trans h7
      refine ⟨fun _ => ?_, fun h10 => absurd (by rw [h8, hen1]; exact hci) h10, by rw [h9]; exact (hRep.1 a en he).2.2⟩
      rw [h8, hen1]
      exact e4.to hval
    have h3 := IH H1 locs1 cells slots la hRep2 hLR hr e5 hcl hsl
    rw [hpc] at h3
    exact h3
  have hrng : ∀ (a : Nat) (z : Int), inR z → ∀ i, inR (upM M.2.2.1 a (n1 (opAt k j)) z a i) := fun a z hz i => by
    rw [upM_eq]; unfold upr; split
    · exact hz
    · exact hRep.2.2.2.2.1 a i
  have hiu : ∀ (a z : Nat) (x : Int), fkind (n0 (opAt k j)) (n1 (opAt k j)) ≤ 1 → updV (fun z => fvl g M a (n0 (opAt k j)) z) (n1 (opAt k j)) (.int (Int32.ofInt x)) z = fvl g (M.1, M.2.1, upM M.2.2.1 a (n1 (opAt k j)) x, M.2.2.2) a (n0 (opAt k j)) z := by
    intro a z x hle1
    unfold updV
    by_cases hz : z = n1 (opAt k j)
    · subst hz
      rw [if_pos rfl]
      unfold fvl
      have : fkind (n0 (opAt k j)) (n1 (opAt k j)) = 0 ∨ fkind (n0 (opAt k j)) (n1 (opAt k j)) = 1 := by omega
      rcases this with h | h <;> (rw [h]; simp only [upM_eq, upr_eq])
    · rw [if_neg hz]
      unfold fvl
      simp only [upM_eq]
      rw [upr_ne (by omega)]
  unfold mPut at hs
  split at hs
  · rename_i h0
    obtain ⟨a, z, r, rfl, hs⟩ := pIR_inv hs
    obtain ⟨hk, hs⟩ := gd_inv hs
    have hzr : inR z := hst (vI z) List.mem_cons_self
    have hf0 : fkind (n0 (opAt k j)) (n1 (opAt k j)) = 0 := by rw [← hft]; exact h0
    have hty := cTy_i hf0
    exact key a (.int (Int32.ofInt z)) r _ (fun w hw => hst w (List.mem_cons_of_mem _ (List.mem_cons_of_mem _ hw))) (of_decide_eq_true hk) (by rw [hty]; rfl) (by rw [hty]; rfl) hs rfl (fun _ _ => rfl) (fun _ _ => rfl) (fun b hb => upM_ne hb) (fun _ _ => rfl) (hrng a z hzr) (fun en he => ⟨en, he, rfl, rfl⟩) (fun q _ => hiu a q z (by omega))
  · rename_i h0
    obtain ⟨a, z, r, rfl, hs⟩ := pIR_inv hs
    obtain ⟨hk, hs⟩ := gd_inv hs
    simp only [Bool.and_eq_true, decide_eq_true_eq] at hk
    have hzr : inR z := hst (vI z) List.mem_cons_self
    have hf0 : fkind (n0 (opAt k j)) (n1 (opAt k j)) = 1 := by rw [← hft]; exact h0
    have hty := cTy_z hf0
    have hnz := nar_z hk.2
    exact key a (.int (Int32.ofInt z)) r _ (fun w hw => hst w (List.mem_cons_of_mem _ (List.mem_cons_of_mem _ hw))) hk.1 (by rw [hty]; exact hnz.1) (by rw [hty]; exact hnz.2) hs rfl (fun _ _ => rfl) (fun _ _ => rfl) (fun b hb => upM_ne hb) (fun _ _ => rfl) (hrng a z hzr) (fun en he => ⟨en, he, rfl, rfl⟩) (fun q _ => hiu a q z (by omega))
  · rename_i h0
    obtain ⟨a, z, r, rfl, hs⟩ := pLR_inv hs
    obtain ⟨hk, hs⟩ := gd_inv hs
    have hf0 : fkind (n0 (opAt k j)) (n1 (opAt k j)) = 2 := by rw [← hft]; exact h0
    have hty := cTy_l hf0
    refine key a (.long z) r _ (fun w hw => hst w (List.mem_cons_of_mem _ (List.mem_cons_of_mem _ hw))) (of_decide_eq_true hk) (by rw [hty]; rfl) (by rw [hty]; rfl) hs rfl (fun _ _ => rfl) (fun _ _ => rfl) (fun _ _ => rfl) (fun b hb => upM_ne hb) (fun i => hRep.2.2.2.2.1 a i) (fun en he => ⟨en, he, rfl, rfl⟩) (fun q _ => ?_)
    unfold updV
    by_cases hz : q = n1 (opAt k j)
    · subst hz
      rw [if_pos rfl]
      unfold fvl
      rw [hf0]
      simp only [upM_eq, upr_eq]
    · rw [if_neg hz]
      unfold fvl
      simp only [upM_eq]
      rw [upr_ne (by omega)]
  · rename_i h0
    obtain ⟨a, z, r, rfl, hs⟩ := pQR_inv hs
    obtain ⟨hk, hs⟩ := gd_inv hs
    have hf0 : fkind (n0 (opAt k j)) (n1 (opAt k j)) = 3 := by rw [← hft]; exact h0
    have hnq := nar_q (cTy_q (Or.inl hf0)) (z.map (adr g))
    refine key a (va_rf (z.map (adr g))) r _ (fun w hw => hst w (List.mem_cons_of_mem _ (List.mem_cons_of_mem _ hw))) (of_decide_eq_true hk) hnq.1 hnq.2 hs rfl (fun _ _ => rfl) (fun b hb => upM_ne hb) (fun _ _ => rfl) (fun _ _ => rfl) (fun i => hRep.2.2.2.2.1 a i) (fun en he => ⟨en, he, rfl, rfl⟩) (fun q _ => ?_)
    unfold updV
    by_cases hz : q = n1 (opAt k j)
    · subst hz
      rw [if_pos rfl]
      unfold fvl
      rw [hf0]
      simp only [upM_eq, upr_eq]
    · rw [if_neg hz]
      unfold fvl
      simp only [upM_eq]
      rw [upr_ne (by omega)]
  · rename_i h0 h1 h3 h4
    have h0 : ¬ n2 (opAt k j) = 0 := h0
    have h1 : ¬ n2 (opAt k j) = 1 := h1
    have h3 : ¬ n2 (opAt k j) = 2 := h3
    have h4 : ¬ n2 (opAt k j) = 3 := h4
    have e4 : n2 (opAt k j) = 4 := by omega
    obtain ⟨a, z, r, rfl, hs⟩ := pQR_inv hs
    obtain ⟨hk, hs⟩ := gd_inv hs
    simp only [Bool.and_eq_true, decide_eq_true_eq] at hk
    have hf0 : fkind (n0 (opAt k j)) (n1 (opAt k j)) = 4 := by rw [← hft]; exact e4
    have hnq := nar_q (cTy_q (Or.inr hf0)) (z.map (adr g))
    obtain ⟨en, he, hen1⟩ := kd_ex hk.1 (by omega)
    refine key a (va_rf (z.map (adr g))) r _ (fun w hw => hst w (List.mem_cons_of_mem _ (List.mem_cons_of_mem _ hw))) hk.1 hnq.1 hnq.2 hs (setFz_len _ _ _ _) (fun b hb => setFz_ne hb) (fun _ _ => rfl) (fun _ _ => rfl) (fun _ _ => rfl) (fun i => hRep.2.2.2.2.1 a i) (fun en he => ⟨_, setFz_at he, rfl, rfl⟩) (fun q _ => ?_)
    have hfs := fz_set (q := z) he (f := n1 (opAt k j)) (by have h9 := hk.2; unfold frL at h9; rw [he] at h9; exact h9) q
    unfold updV
    by_cases hz : q = n1 (opAt k j)
    · subst hz
      rw [if_pos rfl]
      unfold fvl
      rw [hf0]
      simp only [hfs, if_true]
    · rw [if_neg hz]
      unfold fvl
      simp only [hfs, if_neg hz]
end SIM3
end
section
-- ===== arrays =====
theorem ix_of {i : Int} (hr : inR i) : (Int32.ofInt i).toNatClampNeg = i.toNat := by
  show ((Int32.ofInt i).toInt).toNat = i.toNat
  rw [toI_of hr]
theorem inB_of {S : MS} {a : Nat} {i : Int} (h : inB S a i = true) : 0 ≤ i ∧ i < (ln S a : Int) := by
  unfold inB at h
  simp only [Bool.and_eq_true, decide_eq_true_eq] at h
  exact h
theorem inX {S : MS} {a n : Nat} {i : Int} (hr : inR i) (h : inB S a i = true) (hn : ln S a ≤ n) : ¬ (Int32.ofInt i < 0 ∨ n ≤ (Int32.ofInt i).toNatClampNeg) := by
  obtain ⟨h1, h2⟩ := inB_of h
  rw [ix_of hr, show (0 : Int32) = Int32.ofInt 0 from ofi_0.symm, oi_lt hr inR_0]
  omega
theorem arr_at {g : GA} {D : va_G} {s : State} {M : MM} {H : Heap} {a kk : Nat} (hRep : Rep g D s M H) (hk : kd M.1 a = kk) (h1 : 19 ≤ kk) (h2 : kk ≤ 27) : ∃ cell : Cell, H[adr g a]? = some cell ∧ s.isArrayOf cell (aty kk) ∧ cell.vm ≠ .unknown ∧ (ln M.1 a ≤ cell.slots.size ∧ cell.slots.size.toInt32 = Int32.ofNat (ln M.1 a)) ∧ (∀ j, j < ln M.1 a → cell.slots[j]? = some (elv g M a kk j)) ∧ (match aty kk with
  | .object C => va_RA s cell.cls (.object C)
  | _ => True) := by
  obtain ⟨en, he, rfl⟩ := kd_ex hk (by omega)
  rw [ln_at he]
  exact ((hRep.1 a en he).2.1 (by omega)).2
theorem elv_i {g : GA} {M : MM} {a kk : Nat} (h : kk ≤ 22) {i : Int} (h0 : 0 ≤ i) : elv g M a kk i.toNat = cv g (vI (M.2.2.1 a i)) := by
  unfold elv
  rw [if_pos h, show ((i.toNat : Nat) : Int) = i by omega]
  rfl
theorem elv_q {g : GA} {M : MM} {a kk : Nat} (h : 23 ≤ kk) {i : Int} (h0 : 0 ≤ i) : elv g M a kk i.toNat = cv g (vR (if frK kk = true then fz M.1 a i.toNat else M.2.1 a i)) := by
  unfold elv
  rw [if_neg (by omega), show ((i.toNat : Nat) : Int) = i by omega]
  split <;> rfl
section SIM4
variable {g : GA} {D : va_G} {l : Launch} {p : Program} {e : Env} {R : Room} {s : State} {m : MethodId} {args : Array Value} {below : List Frame} {meth : Method} {c : Code} {PQ : State → Prop} {k j j' : Nat} {ls st ls' st' : List MV} {b b' : Nat × Nat} {M M' : MM} {H : Heap} {locs : List Loc} {cells slots : Nat} {la : Array Slot} {rest : List Value} {pc a ci fk idx : Nat}
theorem si_iaload (hC : Cx D p R s m args meth c k) (hok : okOp k j = true) (hi : (opAt k j).1 = .iaload) (hs : (pIR st fun a i r => gd ((decide (kd M.1 a = 20) || decide (kd M.1 a = 19)) && inB M.1 a i) (nx (j + 1) ls (vI (M.2.2.1 a i) :: r) b M)) = some (Sum.inl (j', ls', st', b', M'))) (IH : Sim g D l p e R s m args below meth c PQ k j' ls' st' b' M') : Sim g D l p e R s m args below meth c PQ k j ls st b M := by
  obtain ⟨hd, h2⟩ := ok1 hok hi (fun h => by cases h)
  unfold okI at h2
  simp only [hi, Bool.and_eq_true, decide_eq_true_eq, fl1] at h2
  obtain ⟨hlen, hpc⟩ := h2
  rw [hlen] at hd hpc
  obtain ⟨a, i, r, rfl, hs⟩ := pIR_inv hs
  obtain ⟨hg, hs⟩ := gd_inv hs
  cases hs
  simp only [Bool.and_eq_true, Bool.or_eq_true, decide_eq_true_eq] at hg
  intro H locs cells slots la hRep hLR hst hlocs hcl hsl
  obtain ⟨hx, hb, hml, hown, hts, hK, hnm, hf1, hf2⟩ := hC
  have hir : inR i := hst (vI i) List.mem_cons_self
  have h3 := IH H locs cells slots la hRep hLR (vok_cons (vok_fI hRep _) (fun w hw => hst w (List.mem_cons_of_mem _ (List.mem_cons_of_mem _ hw)))) hlocs hcl hsl
  rw [hpc] at h3
  have hty : aty (kd M.1 a) = .int := by rcases hg.1 with h | h <;> rw [h] <;> rfl
  obtain ⟨cell, c1, c2, c3, c4, c5, -⟩ := arr_at (a := a) hRep rfl (by omega) (by omega)
  rw [hty] at c2
  obtain ⟨b1, b2⟩ := inB_of hg.2
  refine W.iald (v := cv g (vI (M.2.2.1 a i))) hx hb c1 c2 c3 (inX hir hg.2 c4.1) ?_ rfl rfl hd h3
  rw [ix_of hir, c5 i.toNat (by omega), elv_i (by omega) b1]
theorem si_baload (hC : Cx D p R s m args meth c k) (hok : okOp k j = true) (hi : (opAt k j).1 = .baload) (hs : (pIR st fun a i r => gd ((decide (kd M.1 a = 21) || decide (kd M.1 a = 22)) && inB M.1 a i) (nx (j + 1) ls (vI (M.2.2.1 a i) :: r) b M)) = some (Sum.inl (j', ls', st', b', M'))) (IH : Sim g D l p e R s m args below meth c PQ k j' ls' st' b' M') : Sim g D l p e R s m args below meth c PQ k j ls st b M := by
  obtain ⟨hd, h2⟩ := ok1 hok hi (fun h => by cases h)
  unfold okI at h2
  simp only [hi, Bool.and_eq_true, decide_eq_true_eq, fl1] at h2
  obtain ⟨hlen, hpc⟩ := h2
  rw [hlen] at hd hpc
  obtain ⟨a, i, r, rfl, hs⟩ := pIR_inv hs
  obtain ⟨hg, hs⟩ := gd_inv hs
  cases hs
  simp only [Bool.and_eq_true, Bool.or_eq_true, decide_eq_true_eq] at hg
  intro H locs cells slots la hRep hLR hst hlocs hcl hsl
  obtain ⟨hx, hb, hml, hown, hts, hK, hnm, hf1, hf2⟩ := hC
  have hir : inR i := hst (vI i) List.mem_cons_self
  have h3 := IH H locs cells slots la hRep hLR (vok_cons (vok_fI hRep _) (fun w hw => hst w (List.mem_cons_of_mem _ (List.mem_cons_of_mem _ hw)))) hlocs hcl hsl
  rw [hpc] at h3
  obtain ⟨cell, c1, c2, c3, c4, c5, -⟩ := arr_at (a := a) hRep rfl (by omega) (by omega)
  obtain ⟨b1, b2⟩ := inB_of hg.2
  have hv : cell.slots[(Int32.ofInt i).toNatClampNeg]? = some (cv g (vI (M.2.2.1 a i))) := by rw [ix_of hir, c5 i.toNat (by omega), elv_i (by omega) b1]
  rcases hg.1 with h | h
  · rw [h] at c2
    exact W.bald (v := cv g (vI (M.2.2.1 a i))) hx hb c1 c2 c3 (inX hir hg.2 c4.1) hv rfl rfl hd h3
  · rw [h] at c2
    exact W.zald (v := cv g (vI (M.2.2.1 a i))) hx hb c1 c2 c3 (inX hir hg.2 c4.1) hv rfl rfl hd h3
theorem aty_ref {kk : Nat} (h1 : 23 ≤ kk) (h2 : kk ≤ 27) : (aty kk).isReference = true := by
  have : kk = 23 ∨ kk = 24 ∨ kk = 25 ∨ kk = 26 ∨ kk = 27 := by omega
  rcases this with rfl | rfl | rfl | rfl | rfl <;> rfl
theorem si_aaload (hC : Cx D p R s m args meth c k) (hok : okOp k j = true) (hi : (opAt k j).1 = .aaload) (hs : (pIR st fun a i r => gd (decide (23 ≤ kd M.1 a) && decide (kd M.1 a ≤ 27) && inB M.1 a i) (nx (j + 1) ls (vR (if frK (kd M.1 a) = true then fz M.1 a i.toNat else M.2.1 a i) :: r) b M)) = some (Sum.inl (j', ls', st', b', M'))) (IH : Sim g D l p e R s m args below meth c PQ k j' ls' st' b' M') : Sim g D l p e R s m args below meth c PQ k j ls st b M := by
  obtain ⟨hd, h2⟩ := ok1 hok hi (fun h => by cases h)
  unfold okI at h2
  simp only [hi, Bool.and_eq_true, decide_eq_true_eq, fl1] at h2
  obtain ⟨hlen, hpc⟩ := h2
  rw [hlen] at hd hpc
  obtain ⟨a, i, r, rfl, hs⟩ := pIR_inv hs
  obtain ⟨hg, hs⟩ := gd_inv hs
  cases hs
  simp only [Bool.and_eq_true, decide_eq_true_eq] at hg
  intro H locs cells slots la hRep hLR hst hlocs hcl hsl
  obtain ⟨hx, hb, hml, hown, hts, hK, hnm, hf1, hf2⟩ := hC
  have hir : inR i := hst (vI i) List.mem_cons_self
  have h3 := IH H locs cells slots la hRep hLR (vok_cons trivial (fun w hw => hst w (List.mem_cons_of_mem _ (List.mem_cons_of_mem _ hw)))) hlocs hcl hsl
  rw [hpc] at h3
  obtain ⟨cell, c1, c2, c3, c4, c5, -⟩ := arr_at (a := a) hRep rfl (by omega) (by omega)
  obtain ⟨b1, b2⟩ := inB_of hg.2
  refine W.aald (v := cv g (vR (if frK (kd M.1 a) = true then fz M.1 a i.toNat else M.2.1 a i))) hx hb c1 c2 (aty_ref hg.1.1 hg.1.2) c3 (inX hir hg.2 c4.1) ?_ rfl rfl hd h3
  rw [ix_of hir, c5 i.toNat (by omega), elv_q hg.1.1 b1]
theorem si_arraylength (hC : Cx D p R s m args meth c k) (hok : okOp k j = true) (hi : (opAt k j).1 = .arraylength) (hs : (pR st fun a r => gd (decide (19 ≤ kd M.1 a) && decide (kd M.1 a ≤ 22)) (nx (j + 1) ls (vI (ln M.1 a) :: r) b M)) = some (Sum.inl (j', ls', st', b', M'))) (IH : Sim g D l p e R s m args below meth c PQ k j' ls' st' b' M') : Sim g D l p e R s m args below meth c PQ k j ls st b M := by
  obtain ⟨hd, h2⟩ := ok1 hok hi (fun h => by cases h)
  unfold okI at h2
  simp only [hi, Bool.and_eq_true, decide_eq_true_eq, fl1] at h2
  obtain ⟨hlen, hpc⟩ := h2
  rw [hlen] at hd hpc
  obtain ⟨a, r, rfl, hs⟩ := pR_inv hs
  obtain ⟨hg, hs⟩ := gd_inv hs
  cases hs
  simp only [Bool.and_eq_true, decide_eq_true_eq] at hg
  intro H locs cells slots la hRep hLR hst hlocs hcl hsl
  obtain ⟨hx, hb, hml, hown, hts, hK, hnm, hf1, hf2⟩ := hC
  obtain ⟨en, he, -⟩ := kd_ex (S := M.1) (a := a) rfl (by omega)
  have hln : ln M.1 a ≤ 100000 := by rw [ln_at he]; exact (hRep.1 a en he).2.2
  have h3 := IH H locs cells slots la hRep hLR (vok_cons (show inR _ by unfold inR; omega) (fun w hw => hst w (List.mem_cons_of_mem _ hw))) hlocs hcl hsl
  rw [hpc] at h3
  obtain ⟨cell, c1, c2, c3, c4, c5, -⟩ := arr_at (a := a) hRep rfl (by omega) (by omega)
  refine W.alen (n := Int32.ofInt (ln M.1 a : Int)) hx hb c1 c2 ?_ rfl rfl hd h3
  rw [c4.2]
  rfl
theorem si_getstatic (hC : Cx D p R s m args meth c k) (hok : okOp k j = true) (hi : (opAt k j).1 = .getstatic idx) (hs : nx (j + 1) ls (vR (some (n0 (opAt k j))) :: st) b M = some (Sum.inl (j', ls', st', b', M'))) (IH : Sim g D l p e R s m args below meth c PQ k j' ls' st' b' M') : Sim g D l p e R s m args below meth c PQ k j ls st b M := by
  obtain ⟨hd, h2⟩ := ok1 hok hi (fun h => by cases h)
  unfold okI at h2
  simp only [hi, Bool.and_eq_true, Bool.or_eq_true, decide_eq_true_eq, fl1] at h2
  obtain ⟨⟨⟨hlen, hpc⟩, hmem⟩, hn⟩ := h2
  rw [hlen] at hd hpc
  cases hs
  intro H locs cells slots la hRep hLR hst hlocs hcl hsl
  obtain ⟨hx, hb, hml, hown, hts, hK, hnm, hf1, hf2⟩ := hC
  have h3 := IH H locs cells slots la hRep hLR (vok_cons trivial hst) hlocs hcl hsl
  rw [hpc] at h3
  have hl := hts _ (st_ok (owK k) _ (List.contains_iff_mem.mp hmem))
  rcases hn with hn | hn
  · rw [hn] at hl h3
    obtain ⟨cf, kf, fi, f, a, cell, g1, g2, g3, g4, g5, g6, g7, g8⟩ := hRep.2.2.2.2.2.2.1
    exact W.gets hx hb hown hl g1 g2 g3 g4 g5 (fun q => by rw [q] at g6; cases g6) g7 rfl hd h3
  · rw [hn] at hl h3
    obtain ⟨cf, kf, fi, f, a, cell, g1, g2, g3, g4, g5, g6, g7, g8⟩ := hRep.2.2.2.2.2.2.2
    exact W.gets hx hb hown hl g1 g2 g3 g4 g5 (fun q => by rw [q] at g6; cases g6) g7 rfl hd h3
/-- the memory behind a store into an array -/
theorem Rep.ast {kk : Nat} (hRep : Rep g D s M H) (hk : kd M.1 a = kk) (h1 : 20 ≤ kk) (h2 : kk ≤ 27) {H1 : Heap} {i : Nat} {v : Value} {M2 : MM} {cell : Cell} (hcell : H[adr g a]? = some cell) (he : H1[adr g a]? = some (cell.setSlot i v)) (hz : H1.size = H.size) (hq : ∀ q, q ≠ adr g a → H1[q]? = H[q]?) (hi : i < ln M.1 a)
    (hl2 : M2.1.length = M.1.length) (hS2 : ∀ b, b ≠ a → M2.1[b]? = M.1[b]?) (hR2 : ∀ b, b ≠ a → M2.2.1 b = M.2.1 b) (hI2 : ∀ b, b ≠ a → M2.2.2.1 b = M.2.2.1 b) (hJ2 : ∀ b, b ≠ a → M2.2.2.2 b = M.2.2.2 b) (hrg : ∀ i, inR (M2.2.2.1 a i)) (hen : ∀ en, M.1[a]? = some en → ∃ en2, M2.1[a]? = some en2 ∧ en2.1 = en.1 ∧ en2.2.1 = en.2.1)
    (hv : elv g M2 a kk i = v) (hf : ∀ z, z < ln M.1 a → z ≠ i → elv g M2 a kk z = elv g M a kk z) : Rep g D s M2 H1 := by
  have ha3 : 3 ≤ a := hRep.hi hk (by omega)
  refine hRep.put ha3 hz hq hl2 hS2 hR2 hI2 hJ2 hrg (fun en2 hen2 => ?_)
  obtain ⟨en, he0, hen1⟩ := kd_ex hk (by omega)
  obtain ⟨en3, h7, h8, h9⟩ := hen en he0
  cases hen2.symm.trans h7
  have hc := hRep.1 a en he0
  refine ⟨fun h10 => absurd h10 (by rw [h8, hen1]; omega), fun h10 => ⟨by rw [h8, hen1]; omega, ?_⟩, by rw [h9]; exact hc.2.2⟩
  have h11 := (hc.2.1 (by rw [hen1]; omega)).2
  rw [h8, h9]
  refine h11.set (i := i) (v := v) (fun c2 hc2 => ?_) (by rw [← ln_at he0]; exact hi) (by rw [hen1]; exact hv) (fun z hz hne => by rw [hen1]; exact hf z (by rw [ln_at he0]; exact hz) hne)
  cases hcell.symm.trans hc2
  exact he
theorem loc_ok (hRep : Rep g D s M H) (hlocs : ∀ q ∈ locs, gB g ≤ q.base) (ha : 3 ≤ a) (i : Nat) : ∀ q ∈ locs ++ [⟨adr g a, i⟩], gB g ≤ q.base := fun q hq => by
  rcases List.mem_append.mp hq with h | h
  · exact hlocs q h
  · rw [List.mem_singleton.mp h]
    show gB g ≤ adr g a
    rw [adr_hi ha]; omega
theorem si_iastore (hC : Cx D p R s m args meth c k) (hok : okOp k j = true) (hi : (opAt k j).1 = .iastore) (hs : (pIIR st fun a i z r => gd (decide (kd M.1 a = 20) && inB M.1 a i) (nx (j + 1) ls r b (M.1, M.2.1, upM M.2.2.1 a i z, M.2.2.2))) = some (Sum.inl (j', ls', st', b', M'))) (IH : Sim g D l p e R s m args below meth c PQ k j' ls' st' b' M') : Sim g D l p e R s m args below meth c PQ k j ls st b M := by
  obtain ⟨hd, h2⟩ := ok1 hok hi (fun h => by cases h)
  unfold okI at h2
  simp only [hi, Bool.and_eq_true, decide_eq_true_eq, fl1] at h2
  obtain ⟨hlen, hpc⟩ := h2
  rw [hlen] at hd hpc
  obtain ⟨a, i, z, r, rfl, hs⟩ := pIIR_inv hs
  obtain ⟨hg, hs⟩ := gd_inv hs
  cases hs
  simp only [Bool.and_eq_true, decide_eq_true_eq] at hg
  intro H locs cells slots la hRep hLR hst hlocs hcl hsl
  obtain ⟨hx, hb, hml, hown, hts, hK, hnm, hf1, hf2⟩ := hC
  have hzr : inR z := hst (vI z) List.mem_cons_self
  have hir : inR i := hst (vI i) (List.mem_cons_of_mem _ List.mem_cons_self)
  obtain ⟨cell, c1, c2, c3, c4, c5, -⟩ := arr_at hRep hg.1 (by omega) (by omega)
  obtain ⟨b1, b2⟩ := inB_of hg.2
  refine W.iast hx hb c1 c2 c3 (inX hir hg.2 c4.1) rfl rfl hd (fun H1 e1 e2 e3 => ?_)
  rw [ix_of hir] at e1 ⊢
  have hRep2 : Rep g D s (M.1, M.2.1, upM M.2.2.1 a i z, M.2.2.2) H1 := by
    refine hRep.ast hg.1 (by omega) (by omega) c1 e1 e2 e3 (by omega) rfl (fun _ _ => rfl) (fun _ _ => rfl) (fun b hb => upM_ne hb) (fun _ _ => rfl) (fun q => ?_) (fun en he => ⟨en, he, rfl, rfl⟩) ?_ (fun q hq hne => ?_)
    · show inR (upM M.2.2.1 a i z a q)
      rw [upM_eq]; unfold upr; split
      · exact hzr
      · exact hRep.2.2.2.2.1 a q
    · rw [elv_i (by omega) b1]
      show cv g (vI (upM M.2.2.1 a i z a i)) = _
      rw [upM_eq, upr_eq]; rfl
    · unfold elv
      rw [if_pos (by omega), if_pos (by omega)]
      show Value.int (Int32.ofInt (upM M.2.2.1 a i z a q)) = _
      rw [upM_eq, upr_ne (by omega)]
  have h3 := IH H1 _ cells slots la hRep2 hLR (fun w hw => hst w (List.mem_cons_of_mem _ (List.mem_cons_of_mem _ (List.mem_cons_of_mem _ hw)))) (loc_ok hRep hlocs (hRep.hi hg.1 (by omega)) i.toNat) hcl hsl
  rw [hpc] at h3
  exact h3
theorem ib8_01 {z : Int} (h : z01 z = true) : narrow .boolean (.int (Int32.ofInt z)) = .int (Int32.ofInt (ib8 z)) := by
  unfold z01 at h
  simp only [Bool.or_eq_true, decide_eq_true_eq] at h
  rcases h with rfl | rfl <;> decide +kernel
theorem si_bastore (hC : Cx D p R s m args meth c k) (hok : okOp k j = true) (hi : (opAt k j).1 = .bastore) (hs : (pIIR st fun a i z r => gd ((decide (kd M.1 a = 21) || (decide (kd M.1 a = 22) && z01 z)) && inB M.1 a i) (nx (j + 1) ls r b (M.1, M.2.1, upM M.2.2.1 a i (ib8 z), M.2.2.2))) = some (Sum.inl (j', ls', st', b', M'))) (IH : Sim g D l p e R s m args below meth c PQ k j' ls' st' b' M') : Sim g D l p e R s m args below meth c PQ k j ls st b M := by
  obtain ⟨hd, h2⟩ := ok1 hok hi (fun h => by cases h)
  unfold okI at h2
  simp only [hi, Bool.and_eq_true, decide_eq_true_eq, fl1] at h2
  obtain ⟨hlen, hpc⟩ := h2
  rw [hlen] at hd hpc
  obtain ⟨a, i, z, r, rfl, hs⟩ := pIIR_inv hs
  obtain ⟨hg, hs⟩ := gd_inv hs
  cases hs
  simp only [Bool.and_eq_true, Bool.or_eq_true, decide_eq_true_eq] at hg
  intro H locs cells slots la hRep hLR hst hlocs hcl hsl
  obtain ⟨hx, hb, hml, hown, hts, hK, hnm, hf1, hf2⟩ := hC
  have hir : inR i := hst (vI i) (List.mem_cons_of_mem _ List.mem_cons_self)
  have hkk : kd M.1 a = 21 ∨ kd M.1 a = 22 := by rcases hg.1 with h | h; exact Or.inl h; exact Or.inr h.1
  obtain ⟨cell, c1, c2, c3, c4, c5, -⟩ := arr_at (a := a) hRep rfl (by omega) (by omega)
  obtain ⟨b1, b2⟩ := inB_of hg.2
  have key : ∀ H1 : Heap, H1[adr g a]? = some (cell.setSlot (Int32.ofInt i).toNatClampNeg (.int (Int32.ofInt (ib8 z)))) → H1.size = H.size → (∀ q, q ≠ adr g a → H1[q]? = H[q]?) → W p l e R s m args below meth c H1 (locs ++ [⟨adr g a, (Int32.ofInt i).toNatClampNeg⟩]) cells slots PQ (F0 m (pcK k j + 1) la (st'.map (cv g))) := by
    intro H1 e1 e2 e3
    rw [ix_of hir] at e1 ⊢
    have hRep2 : Rep g D s (M.1, M.2.1, upM M.2.2.1 a i (ib8 z), M.2.2.2) H1 := by
      refine hRep.ast rfl (by omega) (by omega) c1 e1 e2 e3 (by omega) rfl (fun _ _ => rfl) (fun _ _ => rfl) (fun b hb => upM_ne hb) (fun _ _ => rfl) (fun q => ?_) (fun en he => ⟨en, he, rfl, rfl⟩) ?_ (fun q hq hne => ?_)
      · show inR (upM M.2.2.1 a i (ib8 z) a q)
        rw [upM_eq]; unfold upr; split
        · exact inR_t _
        · exact hRep.2.2.2.2.1 a q
      · rw [elv_i (by omega) b1]
        show cv g (vI (upM M.2.2.1 a i (ib8 z) a i)) = _
        rw [upM_eq, upr_eq]; rfl
      · unfold elv
        rw [if_pos (by omega), if_pos (by omega)]
        show Value.int (Int32.ofInt (upM M.2.2.1 a i (ib8 z) a q)) = _
        rw [upM_eq, upr_ne (by omega)]
    have h3 := IH H1 _ cells slots la hRep2 hLR (fun w hw => hst w (List.mem_cons_of_mem _ (List.mem_cons_of_mem _ (List.mem_cons_of_mem _ hw)))) (loc_ok hRep hlocs (hRep.hi (a := a) rfl (by omega)) i.toNat) hcl hsl
    rw [hpc] at h3
    exact h3
  rcases hg.1 with h | h
  · rw [h] at c2
    refine W.bast hx hb c1 c2 c3 (inX hir hg.2 c4.1) rfl rfl hd (fun H1 e1 e2 e3 => key H1 ?_ e2 e3)
    rw [e1, show narrow .byte (.int (Int32.ofInt z)) = .int (Int32.ofInt (ib8 z)) by unfold ib8; rw [oi_t]; rfl]
  · rw [h.1] at c2
    refine W.zast hx hb c1 c2 c3 (inX hir hg.2 c4.1) rfl rfl hd (fun H1 e1 e2 e3 => key H1 ?_ e2 e3)
    rw [e1, ib8_01 h.2]
end SIM4
end
section
-- ===== references into arrays; new cells =====
theorem elK_cl {kk : Nat} (h1 : 23 ≤ kk) (h2 : kk ≤ 26) : elK kk < 10 ∧ aty kk = .object (cnm (elK kk)) := by
  have : kk = 23 ∨ kk = 24 ∨ kk = 25 ∨ kk = 26 := by omega
  rcases this with rfl | rfl | rfl | rfl <;> exact ⟨by decide, rfl⟩
section SIM5
variable {g : GA} {D : va_G} {l : Launch} {p : Program} {e : Env} {R : Room} {s : State} {m : MethodId} {args : Array Value} {below : List Frame} {meth : Method} {c : Code} {PQ : State → Prop} {k j j' : Nat} {ls st ls' st' : List MV} {b b' : Nat × Nat} {M M' : MM} {H : Heap} {locs : List Loc} {cells slots : Nat} {la : Array Slot} {rest : List Value} {pc a ci fk idx : Nat}
theorem si_aastore (hC : Cx D p R s m args meth c k) (hok : okOp k j = true) (hi : (opAt k j).1 = .aastore) (hs : (pRIR st fun a i v r => gd (decide (23 ≤ kd M.1 a) && decide (kd M.1 a ≤ 26) && decide (kd M.1 v = elK (kd M.1 a)) && inB M.1 a i && (!frK (kd M.1 a) || decide (i.toNat < frL M.1 a))) (nx (j + 1) ls r b (if frK (kd M.1 a) = true then (setFz M.1 a i.toNat (some v), M.2.1, M.2.2.1, M.2.2.2) else (M.1, upM M.2.1 a i (some v), M.2.2.1, M.2.2.2)))) = some (Sum.inl (j', ls', st', b', M'))) (IH : Sim g D l p e R s m args below meth c PQ k j' ls' st' b' M') : Sim g D l p e R s m args below meth c PQ k j ls st b M := by
  obtain ⟨hd, h2⟩ := ok1 hok hi (fun h => by cases h)
  unfold okI at h2
  simp only [hi, Bool.and_eq_true, decide_eq_true_eq, fl1] at h2
  obtain ⟨hlen, hpc⟩ := h2
  rw [hlen] at hd hpc
  obtain ⟨a, i, v, r, rfl, hs⟩ := pRIR_inv hs
  obtain ⟨hg, hs⟩ := gd_inv hs
  cases hs
  simp only [Bool.and_eq_true, Bool.or_eq_true, decide_eq_true_eq] at hg
  obtain ⟨⟨⟨⟨hg1, hg2⟩, hg3⟩, hg4⟩, hg5⟩ := hg
  intro H locs cells slots la hRep hLR hst hlocs hcl hsl
  obtain ⟨hx, hb, hml, hown, hts, hK, hnm, hf1, hf2⟩ := hC
  have hir : inR i := hst (vI i) (List.mem_cons_of_mem _ List.mem_cons_self)
  obtain ⟨cell, c1, c2, c3, c4, c5, c6⟩ := arr_at (a := a) hRep rfl (by omega) (by omega)
  obtain ⟨b1, b2⟩ := inB_of hg4
  obtain ⟨hel, hty⟩ := elK_cl hg1 hg2
  rw [hty] at c6
  obtain ⟨kA, comp, k1, k2, k3, -⟩ := (c6 : va_RA s cell.cls (.object (cnm (elK (kd M.1 a)))))
  obtain ⟨env, hev, hev1⟩ := kd_ex hg3 (by omega)
  obtain ⟨cellV, g1, g2, g3, -⟩ := (hRep.1 v env hev).1 (by rw [hev1]; exact hel)
  rw [hev1] at g2
  have hcls := (hK.1.1 (elK (kd M.1 a)) _ (vw_at hel)).2
  have hcomp : comp = D.1 (elK (kd M.1 a)) := Option.some.inj (k3.symm.trans hcls.1)
  subst hcomp
  obtain ⟨kC, hkC, -⟩ := hcls.2
  have hin := inX hir hg4 c4.1
  refine W.aast hx hb c1 c2.1 c3 k1 k2 rfl hkC ⟨fun q => hin (Or.inl q), Nat.lt_of_not_le (fun q => hin (Or.inr q))⟩ g1 (fun q h => by rw [g3] at h; cases h) (by rw [g2]; exact hkC) (by rw [g2]; exact va_assign hcls) rfl rfl hd (fun H1 e1 e2 e3 => ?_)
  rw [ix_of hir] at e1 ⊢
  have hRep2 : Rep g D s (if frK (kd M.1 a) = true then (setFz M.1 a i.toNat (some v), M.2.1, M.2.2.1, M.2.2.2) else (M.1, upM M.2.1 a i (some v), M.2.2.1, M.2.2.2)) H1 := by
    obtain ⟨en, he, hen⟩ := kd_ex (S := M.1) (a := a) rfl (by omega)
    by_cases hfr : frK (kd M.1 a) = true
    · rw [if_pos hfr]
      have hlt : i.toNat < en.2.2.length := by
        have h9 : i.toNat < frL M.1 a := by
          rcases hg5 with h | h
          · rw [hfr] at h; cases h
          · exact h
        unfold frL at h9; rw [he] at h9; exact h9
      refine hRep.ast rfl (by omega) (by omega) c1 e1 e2 e3 (by omega) (setFz_len _ _ _ _) (fun b hb => setFz_ne hb) (fun _ _ => rfl) (fun _ _ => rfl) (fun _ _ => rfl) (fun q => hRep.2.2.2.2.1 a q) (fun en he => ⟨_, setFz_at he, rfl, rfl⟩) ?_ (fun q hq hne => ?_)
      · unfold elv
        rw [if_neg (by omega), if_pos hfr]
        show va_rf ((fz (setFz M.1 a i.toNat (some v)) a i.toNat).map (adr g)) = _
        rw [fz_set he hlt, if_pos rfl]
        rfl
      · unfold elv
        rw [if_neg (by omega), if_pos hfr, if_neg (by omega), if_pos hfr]
        show va_rf ((fz (setFz M.1 a i.toNat (some v)) a q).map (adr g)) = _
        rw [fz_set he hlt, if_neg hne]
    · rw [if_neg hfr]
      refine hRep.ast rfl (by omega) (by omega) c1 e1 e2 e3 (by omega) rfl (fun _ _ => rfl) (fun b hb => upM_ne hb) (fun _ _ => rfl) (fun _ _ => rfl) (fun q => hRep.2.2.2.2.1 a q) (fun en he => ⟨en, he, rfl, rfl⟩) ?_ (fun q hq hne => ?_)
      · unfold elv
        rw [if_neg (by omega), if_neg hfr]
        show va_rf ((upM M.2.1 a i (some v) a (i.toNat : Int)).map (adr g)) = _
        rw [show ((i.toNat : Nat) : Int) = i by omega, upM_eq, upr_eq]
        rfl
      · unfold elv
        rw [if_neg (by omega), if_neg hfr, if_neg (by omega), if_neg hfr]
        show va_rf ((upM M.2.1 a i (some v) a (q : Int)).map (adr g)) = _
        rw [upM_eq, upr_ne (by omega)]
  have h3 := IH H1 _ cells slots la hRep2 hLR (fun w hw => hst w (List.mem_cons_of_mem _ (List.mem_cons_of_mem _ (List.mem_cons_of_mem _ hw)))) (loc_ok hRep hlocs (hRep.hi (a := a) rfl (by omega)) i.toNat) hcl hsl
  rw [hpc] at h3
  exact h3
theorem newM_fz {es : MS} {i : Nat} {en : Nat × Nat × List (Option Nat)} (h : es[i]? = some en) (z : Nat) : fz (newM M es).1 (M.1.length + i) z = en.2.2.getD z none := by
  apply fz_at
  show (M.1 ++ es)[M.1.length + i]? = some en
  rw [List.getElem?_append_right (by omega), show M.1.length + i - M.1.length = i by omega]
  exact h
theorem newM_lt {es : MS} {i : Nat} {en : Nat × Nat × List (Option Nat)} (h : es[i]? = some en) : i < es.length := (List.getElem?_eq_some_iff.mp h).1
theorem newM_I {es : MS} {i : Nat} {en : Nat × Nat × List (Option Nat)} (h : es[i]? = some en) (z : Int) : (newM M es).2.2.1 (M.1.length + i) z = 0 := by
  have := newM_lt h
  show zrN M.2.2.1 M.1.length es.length 0 (M.1.length + i) z = 0
  rw [zrN_in (by omega) (by omega)]
theorem newM_J {es : MS} {i : Nat} {en : Nat × Nat × List (Option Nat)} (h : es[i]? = some en) (z : Int) : (newM M es).2.2.2 (M.1.length + i) z = 0 := by
  have := newM_lt h
  show zrN M.2.2.2 M.1.length es.length 0 (M.1.length + i) z = 0
  rw [zrN_in (by omega) (by omega)]
theorem newM_R {es : MS} {i : Nat} {en : Nat × Nat × List (Option Nat)} (h : es[i]? = some en) (z : Int) : (newM M es).2.1 (M.1.length + i) z = none := by
  have := newM_lt h
  show zrN M.2.1 M.1.length es.length none (M.1.length + i) z = none
  rw [zrN_in (by omega) (by omega)]
theorem mNew_inv {es : MS} {nc ns : Nat} {r : List MV} (hc : nc = es.length) (h : mNew es nc ns j ls r b M = some (Sum.inl (j', ls', st', b', M'))) : nc ≤ b.1 ∧ ns ≤ b.2 ∧ j' = j + 1 ∧ ls' = ls ∧ st' = vR (some M.1.length) :: r ∧ b' = (b.1 - nc, b.2 - ns) ∧ M' = newM M es := by
  unfold mNew at h
  obtain ⟨hg, h⟩ := gd_inv h
  simp only [Bool.and_eq_true, decide_eq_true_eq] at hg
  subst hc
  cases h
  exact ⟨hg.1, hg.2, rfl, rfl, rfl, rfl, rfl⟩
theorem defv_f (c k : Nat) (hk : fkind c k ≤ 4) : defaultValue (cTy c k) = (match fkind c k with
  | 0 => .int (Int32.ofInt 0)
  | 1 => .int (Int32.ofInt 0)
  | 2 => .long 0
  | _ => .null) := by
  have : fkind c k = 0 ∨ fkind c k = 1 ∨ fkind c k = 2 ∨ fkind c k = 3 ∨ fkind c k = 4 := by omega
  rcases this with h | h | h | h | h
  · rw [h, cTy_i h]; rfl
  · rw [h, cTy_z h]; rfl
  · rw [h, cTy_l h]; rfl
  · rw [h]
    rcases cTy_q (Or.inl h) with ⟨n, h⟩ | ⟨n, h⟩ <;> rw [h] <;> rfl
  · rw [h]
    rcases cTy_q (Or.inr h) with ⟨n, h⟩ | ⟨n, h⟩ <;> rw [h] <;> rfl
theorem fk_all : ∀ c, c < 10 → ∀ k, k < cN c → fkind c k ≤ 4 := by decide +kernel
theorem cN_le : ∀ c, c < 10 → cN c ≤ 63 := by decide +kernel
theorem si_new (hC : Cx D p R s m args meth c k) (hok : okOp k j = true) (hi : (opAt k j).1 = .new idx) (hs : mNew [(n0 (opAt k j), n1 (opAt k j), List.replicate (n1 (opAt k j)) none)] 1 (n1 (opAt k j)) j ls st b M = some (Sum.inl (j', ls', st', b', M'))) (IH : Sim g D l p e R s m args below meth c PQ k j' ls' st' b' M') : Sim g D l p e R s m args below meth c PQ k j ls st b M := by
  obtain ⟨hd, h2⟩ := ok1 hok hi (fun h => by cases h)
  unfold okI at h2
  simp only [hi, Bool.and_eq_true, decide_eq_true_eq, fl1] at h2
  obtain ⟨⟨⟨⟨hlen, hpc⟩, hcm⟩, hci⟩, hN⟩ := h2
  rw [hlen] at hd hpc
  obtain ⟨hb1, hb2, rfl, rfl, rfl, rfl, rfl⟩ := mNew_inv (nc := 1) rfl hs
  rw [hN] at IH hb2
  generalize hcc : n0 (opAt k j) = cc at IH hci hcm hb2
  intro H locs cells slots la hRep hLR hst hlocs hcl hsl
  obtain ⟨hx, hb, hml, hown, hts, hK, hnm, hf1, hf2⟩ := hC
  have hKn := hK.1.1 cc _ (vw_at hci)
  refine W.newcK hx hb hown (hts _ (cl_ok (owK k) _ (List.contains_iff_mem.mp hcm))) (hts _ (ins_ok cc hci)) (hts _ (ini_ok cc (by omega))) rfl hd (by omega) (by omega) hKn.2.1 rfl (fun H1 kC hkC e1 e2 e3 => ?_)
  have hRep2 : Rep g D s (newM M [(cc, cN cc, List.replicate (cN cc) none)]) H1 := by
    refine hRep.new _ e2 e3 (fun i en hen => ?_)
    have hi0 : i = 0 := by have := newM_lt hen; simp at this; exact this
    subst hi0
    have hen2 := hen
    simp at hen
    subst hen
    refine ⟨fun _ => ?_, fun h => absurd hci h, by have := cN_le cc hci; simp only; omega⟩
    rw [adr_len hRep]
    refine (u_born (cTy cc) hts (lay_ok cc hci) hKn hkC e1 (cTy_ok hci)).to (fun z hz => ?_)
    show defaultValue (cTy cc z) = fvl g _ (M.1.length + 0) cc z
    rw [defv_f cc z (fk_all cc hci z hz)]
    unfold fvl
    rw [newM_fz hen2, newM_I hen2, newM_J hen2, newM_R hen2]
    have : (List.replicate (cN cc) (none : Option Nat)).getD z none = none := by
      rw [List.getD_eq_getElem?_getD, List.getElem?_replicate]; split <;> rfl
    have h5 : fkind cc z = 0 ∨ fkind cc z = 1 ∨ fkind cc z = 2 ∨ fkind cc z = 3 ∨ fkind cc z = 4 := by have := fk_all cc hci z hz; omega
    rcases h5 with h | h | h | h | h <;> simp only [h, this] <;> rfl
  have h3 := IH H1 locs (cells + 1) (slots + cN cc) la hRep2 hLR (vok_cons trivial hst) hlocs (by show cells + 1 + (b.1 - 1) ≤ _; omega) (by show slots + cN cc + (b.2 - cN cc) ≤ _; omega)
  rw [hpc] at h3
  have ea : adr g M.1.length = H.size := adr_len hRep 0
  have h4 : (vR (some M.1.length) :: st).map (cv g) = .ref H.size :: st.map (cv g) := by
    show Value.ref (adr g M.1.length) :: _ = _
    rw [ea]
  rw [h4] at h3
  exact h3
/-- one new array, its places as a new memory has them -/
theorem Rep.newA (hRep : Rep g D s M H) {H1 : Heap} {kind n : Nat} {fr : List (Option Nat)} {cell : Cell} {dv : Value} (hk1 : 20 ≤ kind) (hk2 : kind ≤ 26) (hn : n ≤ 1000) (e1 : H1[H.size]? = some cell) (e2 : H1.size = H.size + 1) (e3 : ∀ q, q < H.size → H1[q]? = H[q]?) (ha : s.isArrayOf cell (aty kind)) (hu : cell.vm ≠ .unknown) (hz : cell.slots.size = n) (hv : ∀ i, i < n → cell.slots[i]? = some dv) (hdv : dv = if kind ≤ 22 then .int 0 else .null) (hfr : ∀ z, fr.getD z none = none) (hra : ∀ C, aty kind = .object C → va_RA s cell.cls (.object C)) : Rep g D s (newM M [(kind, n, fr)]) H1 := by
  refine hRep.new _ e2 e3 (fun i en hen => ?_)
  have hi0 : i = 0 := by have := newM_lt hen; simp at this; exact this
  subst hi0
  have hen2 := hen
  simp at hen
  subst hen
  refine ⟨fun h => absurd h (by simp only; omega), fun _ => ⟨by simp only; omega, ?_⟩, by simp only; omega⟩
  rw [adr_len hRep]
  refine ⟨cell, e1, ha, hu, ⟨Nat.le_of_eq hz.symm, by rw [hz] <;> rfl⟩, fun i hi => ?_, ?_⟩
  · rw [hv i hi, hdv]
    show _ = some (elv g _ (M.1.length + 0) kind i)
    unfold elv
    rw [newM_fz hen2, newM_I hen2, newM_R hen2]
    by_cases h22 : kind ≤ 22
    · rw [if_pos h22, if_pos h22]; rfl
    · rw [if_neg h22, if_neg h22]
      simp only [hfr]
      split <;> rfl
  · show match aty kind with
      | .object C => va_RA s cell.cls (.object C)
      | _ => True
    split
    · rename_i C hC; exact hra C hC
    · trivial
theorem mArr_inv {kind : Nat} (h : mArr kind j ls st b M = some (Sum.inl (j', ls', st', b', M'))) : ∃ (n : Int) (r : List MV), st = vI n :: r ∧ 0 ≤ n ∧ n ≤ 1000 ∧ 1 ≤ b.1 ∧ n.toNat ≤ b.2 ∧ j' = j + 1 ∧ ls' = ls ∧ st' = vR (some M.1.length) :: r ∧ b' = (b.1 - 1, b.2 - n.toNat) ∧ M' = newM M [(kind, n.toNat, if frK kind = true then List.replicate n.toNat none else [])] := by
  unfold mArr at h
  obtain ⟨n, r, rfl, h⟩ := pI_inv h
  obtain ⟨hg, h⟩ := gd_inv h
  simp only [Bool.and_eq_true, decide_eq_true_eq] at hg
  obtain ⟨h1, h2, h3, h4, h5, h6, h7⟩ := mNew_inv (nc := 1) rfl h
  exact ⟨n, r, rfl, hg.1, hg.2, h1, h2, h3, h4, h5, h6, h7⟩
theorem fr_none (kind n : Nat) : ∀ z, (if frK kind = true then List.replicate n (none : Option Nat) else []).getD z none = none := by
  intro z
  split
  · rw [List.getD_eq_getElem?_getD, List.getElem?_replicate]; split <;> rfl
  · rfl
theorem nneg {n : Int} (hr : inR n) (h : 0 ≤ n) : ¬ Int32.ofInt n < 0 := by
  rw [show (0 : Int32) = Int32.ofInt 0 from ofi_0.symm, oi_lt hr inR_0]; omega
theorem si_newarray {t : ArrayType} (hC : Cx D p R s m args meth c k) (hok : okOp k j = true) (hi : (opAt k j).1 = .newarray t) (hs : mArr (n0 (opAt k j)) j ls st b M = some (Sum.inl (j', ls', st', b', M'))) (IH : Sim g D l p e R s m args below meth c PQ k j' ls' st' b' M') : Sim g D l p e R s m args below meth c PQ k j ls st b M := by
  obtain ⟨hd, h2⟩ := ok1 hok hi (fun h => by cases h)
  unfold okI at h2
  simp only [hi, Bool.and_eq_true, Bool.or_eq_true, decide_eq_true_eq, fl1] at h2
  obtain ⟨⟨hlen, hpc⟩, hkt⟩ := h2
  rw [hlen] at hd hpc
  obtain ⟨n, r, rfl, hn0, hn1, hb1, hb2, rfl, rfl, rfl, rfl, rfl⟩ := mArr_inv hs
  intro H locs cells slots la hRep hLR hst hlocs hcl hsl
  obtain ⟨hx, hb, hml, hown, hts, hK, hnm, hf1, hf2⟩ := hC
  have hnr : inR n := hst (vI n) List.mem_cons_self
  have hst2 : ∀ w ∈ r, vOK w := fun w hw => hst w (List.mem_cons_of_mem _ hw)
  have ea : adr g M.1.length = H.size := adr_len hRep 0
  have key : ∀ (kind : Nat), n0 (opAt k j) = kind → 20 ≤ kind → kind ≤ 22 → newarray.typeOf t = aty kind → Cond.arrayClass (newarray.typeOf t) ∈ lwG → defaultValue (newarray.typeOf t) = .int 0 → componentBytes (newarray.typeOf t) ≤ 4 → W p l e R s m args below meth c H locs cells slots PQ (F0 m (pcK k j) la (.int (Int32.ofInt n) :: r.map (cv g))) := by
    intro kind hkd h20 h22 hty hac hdv hcb
    rw [hkd] at IH
    refine W.newaK hx hb (hts _ hac) rfl hd rfl (nneg hnr hn0) (ix_of hnr) ?_ (by omega) (by omega) rfl (fun H1 cA e1 e2 e3 hAr => ?_)
    · have : n.toNat * componentBytes (newarray.typeOf t) ≤ 1000 * 4 := Nat.mul_le_mul (by omega) hcb
      omega
    have hRep2 := hRep.newA (kind := kind) (n := n.toNat) (fr := if frK kind = true then List.replicate n.toNat none else []) (dv := .int 0) h20 (by omega) (by omega) e1 e2 e3 (by rw [← hty]; exact hAr _ _) (fun h => by cases h) (arrV_size _ _ _) (fun i hi => by rw [arrV_read _ _ hi, hdv]) (by rw [if_pos h22]) (fr_none _ _) (fun C hC => by
      have : kind = 20 ∨ kind = 21 ∨ kind = 22 := by omega
      rcases this with rfl | rfl | rfl <;> cases hC)
    have h3 := IH H1 locs (cells + 1) (slots + n.toNat) la hRep2 hLR (vok_cons trivial hst2) hlocs (by show cells + 1 + (b.1 - 1) ≤ _; omega) (by show slots + n.toNat + (b.2 - n.toNat) ≤ _; omega)
    rw [hpc] at h3
    have h4 : (vR (some M.1.length) :: r).map (cv g) = .ref H.size :: r.map (cv g) := by
      show Value.ref (adr g M.1.length) :: _ = _
      rw [ea]
    rw [h4] at h3
    exact h3
  rcases hkt with (⟨rfl, h⟩ | ⟨rfl, h⟩) | ⟨rfl, h⟩
  · exact key 20 h (by omega) (by omega) rfl ac_int rfl (by decide)
  · exact key 21 h (by omega) (by omega) rfl ac_byte rfl (by decide)
  · exact key 22 h (by omega) (by omega) rfl ac_boolean rfl (by decide)
theorem si_anewarray (hC : Cx D p R s m args meth c k) (hok : okOp k j = true) (hi : (opAt k j).1 = .anewarray idx) (hs : mArr (n0 (opAt k j)) j ls st b M = some (Sum.inl (j', ls', st', b', M'))) (IH : Sim g D l p e R s m args below meth c PQ k j' ls' st' b' M') : Sim g D l p e R s m args below meth c PQ k j ls st b M := by
  obtain ⟨hd, h2⟩ := ok1 hok hi (fun h => by cases h)
  unfold okI at h2
  simp only [hi, Bool.and_eq_true, decide_eq_true_eq, fl1] at h2
  obtain ⟨⟨⟨⟨hlen, hpc⟩, h23⟩, h26⟩, hcm⟩ := h2
  rw [hlen] at hd hpc
  obtain ⟨n, r, rfl, hn0, hn1, hb1, hb2, rfl, rfl, rfl, rfl, rfl⟩ := mArr_inv hs
  generalize n0 (opAt k j) = kind at IH h23 h26 hcm
  intro H locs cells slots la hRep hLR hst hlocs hcl hsl
  obtain ⟨hx, hb, hml, hown, hts, hK, hnm, hf1, hf2⟩ := hC
  have hnr : inR n := hst (vI n) List.mem_cons_self
  have hst2 : ∀ w ∈ r, vOK w := fun w hw => hst w (List.mem_cons_of_mem _ hw)
  have ea : adr g M.1.length = H.size := adr_len hRep 0
  obtain ⟨hel, hty⟩ := elK_cl h23 h26
  have hao : va_AO (cnm (elK kind)) s := by
    have : kind = 23 ∨ kind = 24 ∨ kind = 25 ∨ kind = 26 := by omega
    rcases this with rfl | rfl | rfl | rfl
    · exact hK.2.2.1
    · exact hK.2.2.2.1
    · exact hK.2.2.2.2.1
    · exact hK.2.2.2.2.1
  refine W.anew hx hb hown (hts _ (cl_ok (owK k) _ (List.contains_iff_mem.mp hcm))) (va_AO.use hao) rfl hd rfl (nneg hnr hn0) (by rw [ix_of hnr]; omega) (by omega) (by rw [ix_of hnr]; omega) (fun cA kA comp f1 f2 f3 f4 => ?_)
  rw [ix_of hnr]
  generalize hH1 : H.push { cls := cA, slots := Array.replicate n.toNat .null, vm := .none } = H1
  have e1 : H1[H.size]? = some { cls := cA, slots := Array.replicate n.toNat .null, vm := .none } := by rw [← hH1]; simp
  have e2 : H1.size = H.size + 1 := by rw [← hH1]; simp
  have e3 : ∀ q, q < H.size → H1[q]? = H[q]? := fun q hq => by rw [← hH1, Array.getElem?_push, if_neg (Nat.ne_of_lt hq)]
  have hRep2 := hRep.newA (kind := kind) (n := n.toNat) (fr := if frK kind = true then List.replicate n.toNat none else []) (dv := .null) (by omega) h26 (by omega) e1 e2 e3 (by rw [hty]; exact ⟨fun q h => (by cases h), kA, f2, comp, f3⟩) (fun h => by cases h) (by simp) (fun i hi => by simp [hi]) (by rw [if_neg (by omega)]) (fr_none _ _) (fun C hC => by
    rw [hty] at hC
    cases hC
    exact ⟨kA, comp, f2, f3, f4, f1⟩)
  have h3 := IH H1 locs (cells + 1) (slots + n.toNat) la hRep2 hLR (vok_cons trivial hst2) hlocs (by show cells + 1 + (b.1 - 1) ≤ _; omega) (by show slots + n.toNat + (b.2 - n.toNat) ≤ _; omega)
  rw [hpc] at h3
  have h4 : (vR (some M.1.length) :: r).map (cv g) = .ref H.size :: r.map (cv g) := by
    show Value.ref (adr g M.1.length) :: _ = _
    rw [ea]
  rw [h4] at h3
  exact h3
end SIM5
end
section
-- ===== grids, calls, answers =====
theorem cat_sum (l : List Value) : (l.map fun v => v.category).sum ≤ 2 * l.length := by
  induction l with
  | nil => simp
  | cons v r ih =>
    simp only [List.map_cons, List.sum_cons, List.length_cons]
    have := lv_cat v
    omega
section SIM6
variable {g : GA} {D : va_G} {l : Launch} {p : Program} {e : Env} {R : Room} {s : State} {m : MethodId} {args : Array Value} {below : List Frame} {meth : Method} {c : Code} {PQ : State → Prop} {k j j' : Nat} {ls st ls' st' : List MV} {b b' : Nat × Nat} {M M' : MM} {H : Heap} {locs : List Loc} {cells slots : Nat} {la : Array Slot} {rest : List Value} {pc a ci fk idx : Nat}
theorem si_multianewarray {dm : Nat} (hC : Cx D p R s m args meth c k) (hok : okOp k j = true) (hi : (opAt k j).1 = .multianewarray idx dm) (hs : (pI2 st fun x y r => gd (decide (x = 6) && decide (y = 2)) (mNew ((27, 6, (List.range 6).map fun i => some (M.1.length + 1 + i)) :: List.replicate 6 (20, 2, [])) 7 18 j ls r b M)) = some (Sum.inl (j', ls', st', b', M'))) (IH : Sim g D l p e R s m args below meth c PQ k j' ls' st' b' M') : Sim g D l p e R s m args below meth c PQ k j ls st b M := by
  obtain ⟨hd, h2⟩ := ok1 hok hi (fun h => by cases h)
  unfold okI at h2
  simp only [hi, Bool.and_eq_true, decide_eq_true_eq, fl1] at h2
  obtain ⟨⟨⟨⟨hlen, hpc⟩, rfl⟩, rfl⟩, how⟩ := h2
  rw [hlen] at hd hpc
  obtain ⟨x, y, r, rfl, hs⟩ := pI2_inv hs
  obtain ⟨hg, hs⟩ := gd_inv hs
  simp only [Bool.and_eq_true, decide_eq_true_eq] at hg
  obtain ⟨rfl, rfl⟩ := hg
  obtain ⟨hb1, hb2, rfl, rfl, rfl, rfl, rfl⟩ := mNew_inv (nc := 7) rfl hs
  intro H locs cells slots la hRep hLR hst hlocs hcl hsl
  obtain ⟨hx, hb, hml, hown, hts, hK, hnm, hf1, hf2⟩ := hC
  have hst2 : ∀ w ∈ r, vOK w := fun w hw => hst w (List.mem_cons_of_mem _ (List.mem_cons_of_mem _ hw))
  rw [how] at hown
  refine W_mna hx hb hown (hts _ ma_ok) hK.2.2.2.2.2 (hts _ ac_int) (by omega) (by omega) hd (fun H1 e2 e3 e4 e5 => ?_)
  have hRep2 : Rep g D s (newM M ((27, 6, (List.range 6).map fun i => some (M.1.length + 1 + i)) :: List.replicate 6 (20, 2, []))) H1 := by
    refine hRep.new _ e2 e3 (fun i en hen => ?_)
    have hen2 := hen
    cases i with
    | zero =>
      simp at hen
      subst hen
      refine ⟨fun h => absurd h (by show ¬ (27 < 10); decide), fun _ => ⟨by show 19 ≤ 27 ∧ 27 ≤ 27; decide, ?_⟩, by show 6 ≤ 100000; decide⟩
      rw [adr_len hRep]
      refine e4.to (fun q hq => ?_)
      show Value.ref (H.size + 1 + q) = elv g _ (M.1.length + 0) 27 q
      unfold elv
      rw [if_neg (by decide), if_pos (by decide), newM_fz hen2]
      have h9 : ((List.range 6).map fun i => some (M.1.length + 1 + i)).getD q none = some (M.1.length + 1 + q) := by
        rw [List.getD_eq_getElem?_getD, List.getElem?_map, List.getElem?_range hq]; rfl
      simp only [h9]
      show _ = Value.ref (adr g (M.1.length + 1 + q))
      rw [Nat.add_assoc M.1.length, adr_len hRep, Nat.add_assoc]
    | succ i =>
      have hi6 : i < 6 := by have := newM_lt hen; simp at this; omega
      have : en = (20, 2, []) := by
        simp only [List.getElem?_cons_succ, List.getElem?_replicate, hi6, if_true, Option.some.injEq] at hen
        exact hen.symm
      subst this
      refine ⟨fun h => absurd h (by decide), fun _ => ⟨by decide, ?_⟩, by decide⟩
      rw [adr_len hRep]
      rw [show H.size + (i + 1) = H.size + 1 + i by omega]
      refine (e5 i hi6).to (fun q hq => ?_)
      show Value.int 0 = elv g _ (M.1.length + (i + 1)) 20 q
      unfold elv
      rw [if_pos (by decide), newM_I hen2]
      rfl
  have h3 := IH H1 locs (cells + 7) (slots + 18) la hRep2 hLR (vok_cons trivial hst2) hlocs (by show cells + 7 + (b.1 - 7) ≤ _; omega) (by show slots + 18 + (b.2 - 18) ≤ _; omega)
  rw [hpc] at h3
  have ea : adr g M.1.length = H.size := adr_len hRep 0
  have h4 : (vR (some M.1.length) :: r).map (cv g) = .ref H.size :: r.map (cv g) := by
    show Value.ref (adr g M.1.length) :: _ = _
    rw [ea]
  rw [h4] at h3
  exact h3
/-- what a callee's contract says of its end -/
def QcM (g : GA) (D : va_G) (Q' : Option MV → MM → Prop) : State → Outcome → State → Prop := fun _ o t => ∃ (v : Option MV) (M2 : MM), Q' v M2 ∧ o = .returned (v.map (cv g)) ∧ (∀ w, v = some w → vOK w) ∧ Rep g D t M2 t.heap
theorem run_go {mc ms : Nat} {st0 : List Value} {Q' : Option MV → MM → Prop} (hr : va_Run p l e R s m args below meth c H locs cells slots mc ms (F0 m pc la st0) rest (QcM g D Q') (fun q => gB g ≤ q)) (hlocs : ∀ q ∈ locs, gB g ≤ q.base)
    (kk : ∀ (v : Option MV) (M2 : MM) (H1 : Heap) (locs1 : List Loc), Q' v M2 → (∀ w, v = some w → vOK w) → Rep g D s M2 H1 → (∀ q ∈ locs1, gB g ≤ q.base) → W p l e R s m args below meth c H1 locs1 (cells + mc) (slots + ms) PQ (F0 m (pc + 3) la ((v.map (cv g)).toList ++ rest))) : W p l e R s m args below meth c H locs cells slots PQ (F0 m pc la st0) := by
  intro T hT X
  obtain ⟨v, st1, t, T', L, h0, X', hL, e1, e2, ⟨v2, M2, hq, ho, hv, hR⟩, stp⟩ := hr T hT X
  cases ho
  have hal : t.vm.Alike s.vm := by rw [← e2]; exact X'.warmed.alike.symm
  obtain ⟨t2, a1, b1⟩ := kk v2 M2 T'.heap (locs ++ L) hq hv (by rw [e1]; exact hR.moved hal) (fun q hq => by
    rcases List.mem_append.mp hq with h | h
    · exact hlocs q h
    · exact hL q h) T' rfl X'
  exact ⟨t2, stp t2 a1, b1⟩
def rmK (k : Nat) : Room := { frames := dpK k, cells := (buK k).1, slots := (buK k).2, locals := 28 * dpK k }
def wsK (k : Nat) : List Cond := Cond.code (yK k) (cK k) (mxK k) (rtK k) :: lwG
def PcM (g : GA) (D : va_G) (as : List MV) (M : MM) : Array Value → State → Prop := va_Pc (as.map (cv g)) (fun U => Rep g D U M U.heap ∧ Kn D U)
theorem PcM.blind (as : List MV) : FrameBlind (PcM g D as M) := fun a U gg mk h => ⟨h.1, h.2.1.moved (u := U) (U := U.calling gg mk a) (Vm.Alike.refl U.vm), by
  obtain ⟨h1, h2, h3, h4, h5, h6⟩ := h.2.2
  have ha : U.vm.Alike (U.calling gg mk a).vm := Vm.Alike.refl U.vm
  exact ⟨h1.moved ha, fun o e he => va_Nw.same rfl (u := U) (U := U.calling gg mk a) rfl (h2 o e he), h3.moved ha, h4.moved ha, h5.moved ha, h6.moved ha⟩⟩
theorem good_lwG {w : Cond} (h : w ∈ lwG) : (w.onTables && w.keeps) = true ∨ ∃ ty, w = .arrayClass ty := good_of_word (List.mem_filter.mp h).2
theorem goodIn_K {k' : Nat} (hm : mOK k') : GoodIn lwG (wsK k') := fun w hw => by
  rcases List.mem_cons.mp hw with rfl | hw
  · exact ⟨hm.1, good_lwG hm.1⟩
  · exact ⟨hw, good_lwG hw⟩
theorem mPl_of {k' : Nat} (h : mPl k' = true) : plainFor (yK k') = true ∧ (yK k').cls ≠ "java/lang/invoke/MethodHandle" ∧ (yK k').cls ≠ "java/lang/invoke/VarHandle" ∧ (parseMethodDescriptor (yK k').desc).map (fun d => d.parameters.length) = some (naK k') ∧ (yK k').cls = cnm (owK k') ∧ owK k' < 14 := by
  unfold mPl at h
  simp only [Bool.and_eq_true, decide_eq_true_eq] at h
  obtain ⟨⟨⟨⟨⟨h1, h2⟩, h3⟩, h4⟩, h5⟩, h6⟩ := h
  exact ⟨h1, h2, h3, h4, h5, h6⟩
theorem mInv_inv {k0 n mc ms mx k' : Nat} {rc : Option Nat} {as : List MV} (h : mInv k0 n rc mc ms mx j ls st b M = some (Sum.inr (Sum.inl (k', as, (j', ls', st', b', M'))))) : k' = k0 ∧ j' = j + 1 ∧ ls' = ls ∧ b' = (b.1 - mc, b.2 - ms) ∧ M' = M ∧ st = as.reverse ++ st' ∧ as.length = n ∧ st'.length ≤ 4 ∧ mc ≤ b.1 ∧ ms ≤ b.2 ∧ (flL as).length ≤ mx ∧ (∀ ci, rc = some ci → ∃ a as2, as = vR (some a) :: as2 ∧ kd M.1 a = ci) := by
  unfold mInv at h
  obtain ⟨hg, h⟩ := gd_inv h
  simp only [Bool.and_eq_true, decide_eq_true_eq] at hg
  obtain ⟨⟨⟨⟨⟨g1, g2⟩, g3⟩, g4⟩, g5⟩, g6⟩ := hg
  cases h
  refine ⟨rfl, rfl, rfl, rfl, rfl, ?_, ?_, g2, g3, g4, g5, ?_⟩
  · rw [List.reverse_reverse, List.take_append_drop]
  · rw [List.length_reverse, List.length_take]; omega
  · intro ci hci
    subst hci
    simp only at g6
    split at g6
    · rename_i a r hr; exact ⟨a, r, hr, of_decide_eq_true g6⟩
    · cases g6
theorem okInv_of {o : Op} (h : okInv k o idx = true) : 0 < n0 o ∧ n0 o < 224 ∧ ((n5 o = 1 ∧ (idx, n0 o) ∈ nlT.getD (owK k) []) ∨ (n5 o ≠ 1 ∧ (idx, n0 o) ∈ mlT.getD (owK k) [])) ∧ (n3 o, n4 o) = buK (n0 o) ∧ dpK (n0 o) + 1 ≤ dpK k ∧ n6 o = mxK (n0 o) := by
  unfold okInv isMet at h
  simp only [Bool.and_eq_true, decide_eq_true_eq] at h
  obtain ⟨⟨⟨⟨⟨h1, h2⟩, h3⟩, h4⟩, h5⟩, h6⟩ := h
  refine ⟨h1, h2, ?_, h4, h5, h6⟩
  by_cases hn : n5 o = 1
  · rw [if_pos hn] at h3; exact Or.inl ⟨hn, List.contains_iff_mem.mp h3⟩
  · rw [if_neg hn] at h3; exact Or.inr ⟨hn, List.contains_iff_mem.mp h3⟩
theorem mxK_le : ∀ k, k < 224 → mxK k ≤ 9 := by decide +kernel
/-- what a call takes of the caller's room -/
theorem room_call {k' : Nat} (hC : Cx D p R s m args meth c k) (hd : dpK k' + 1 ≤ dpK k) (hk : k' < 224) : (rmK k').frames + 1 ≤ R.frames ∧ 8 + (mxK k' + 11) + (rmK k').locals ≤ R.locals := by
  obtain ⟨hx, hb, hml, hown, hts, hK, hnm, hf1, hf2⟩ := hC
  have := mxK_le k' hk
  refine ⟨by show dpK k' + 1 ≤ _; omega, ?_⟩
  show 8 + (mxK k' + 11) + 28 * dpK k' ≤ R.locals
  have : 28 * (dpK k' + 1) ≤ 28 * dpK k := Nat.mul_le_mul_left 28 hd
  omega
theorem call_B {k' : Nat} (hC : Cx D p R s m args meth c k) (h0 : 0 < k') (hk : k' < 224) (hd : dpK k' + 1 ≤ dpK k) (hl : (idx, k') ∈ mlT.getD (owK k) []) : CallB R s args (cnm (owK k)) idx (yK k') (cK k') (mxK k') (rtK k') (wsK k') (rmK k') (buK k').1 (buK k').2 (naK k') := by
  have hC2 := hC
  obtain ⟨hx, hb, hml, hown, hts, hK, hnm, hf1, hf2⟩ := hC2
  have hm := mok_all k' h0 hk
  obtain ⟨p1, p2, p3, p4, p5, p6⟩ := mPl_of (mpl_all k' hk)
  exact callB_of (naK k') hts (goodIn_K hm) rfl rfl rfl (by rw [p5]; exact hts _ (ini_ok _ p6)) (hts _ (ml_ok (owK k) _ hl)) ⟨p2, p3, p4⟩ (room_call hC hd hk)
theorem call_N {k' : Nat} (hC : Cx D p R s m args meth c k) (h0 : 0 < k') (hk : k' < 224) (hd : dpK k' + 1 ≤ dpK k) (hl : (idx, k') ∈ nlT.getD (owK k) []) : va_CN R s args (cnm (owK k)) idx (yK k') "DictProof" (cK k') (mxK k') (rtK k') (wsK k') (rmK k') (buK k').1 (buK k').2 (naK k') := by
  have hC2 := hC
  obtain ⟨hx, hb, hml, hown, hts, hK, hnm, hf1, hf2⟩ := hC2
  have hm := mok_all k' h0 hk
  obtain ⟨p1, p2, p3, p4, p5, p6⟩ := mPl_of (mpl_all k' hk)
  exact va_cnB (naK k') hts (goodIn_K hm) rfl rfl rfl (hK.2.1 (owK k) _ hl) (by rw [p5]; exact hts _ (ini_ok _ p6)) ⟨p2, p3, p4⟩ (room_call hC hd hk)
set_option maxHeartbeats 4000000 in
theorem mstep_call {o : Op} {x : Nat × List MV × MC} (h : mstep o j ls st b M = some (Sum.inr (Sum.inl x))) : (∃ i, o.1 = .invokevirtual i) ∨ (∃ i, o.1 = .invokestatic i) ∨ (∃ i, o.1 = .invokespecial i ∧ n5 o ≠ 9) := by
  unfold mstep at h
  split at h
  all_goals first
    | exact Or.inl ⟨_, by assumption⟩
    | exact Or.inr (Or.inl ⟨_, by assumption⟩)
    | (split at h
       · exfalso
         simp only [pR, gd, nx] at h
         repeat' split at h
         all_goals cases h
       · exact Or.inr (Or.inr ⟨_, by assumption, by assumption⟩))
    | (exfalso
       simp only [gtI, gtL, gtR, pI, pI2, pL, pL2, pIL, pQ, pR, pIR, pIIR, pRIR, pLR, pQR, gd, br, cndI, nx, mGet, mPut, mNew, mArr] at h
       repeat' split at h
       all_goals cases h)
    | (exfalso; repeat' split at h
       all_goals cases h)
/-- a call of the mini-machine -/
theorem sim_call {k' : Nat} {as : List MV} {Q' : Option MV → MM → Prop} (hC : Cx D p R s m args meth c k) (hok : okOp k j = true) (hs : mstep (opAt k j) j ls st b M = some (Sum.inr (Sum.inl (k', as, (j', ls', st', b', M')))))
    (hMet : (∀ w ∈ as, vOK w) → (flL as).length ≤ mxK k' → 0 < k' → k' < 224 → Met l (yK k') (wsK k') (rmK k') (PcM g D as M') (fun _ => QcM g D Q') (buK k').1 (buK k').2 (fun q => gB g ≤ q)) (hcont : ∀ v M2, Q' v M2 → Sim g D l p e R s m args below meth c PQ k j' ls' (v.toList ++ st') b' M2) : Sim g D l p e R s m args below meth c PQ k j ls st b M := by
  intro H locs cells slots la hRep hLR hst hlocs hcl hsl
  have hC2 := hC
  obtain ⟨hx, hb, hml, hown, hts, hK, hnm, hf1, hf2⟩ := hC2
  have fin : ∀ (mc ms : Nat), b' = (b.1 - mc, b.2 - ms) → mc ≤ b.1 → ms ≤ b.2 → ls' = ls → pcK k j' = pcK k j + 3 → (∀ w ∈ st', vOK w) → ∀ (v : Option MV) (M2 : MM) (H1 : Heap) (locs1 : List Loc), Q' v M2 → (∀ w, v = some w → vOK w) → Rep g D s M2 H1 → (∀ q ∈ locs1, gB g ≤ q.base) → W p l e R s m args below meth c H1 locs1 (cells + mc) (slots + ms) PQ (F0 m (pcK k j + 3) la ((v.map (cv g)).toList ++ st'.map (cv g))) := by
    intro mc ms hb' hm1 hm2 hls hpc hst2 v M2 H1 locs1 hq hv hR hl1
    subst hb'
    subst hls
    have h3 := hcont v M2 hq H1 locs1 (cells + mc) (slots + ms) la hR hLR (fun w hw => by
      rcases List.mem_append.mp hw with h | h
      · cases v with
        | none => simp at h
        | some x => simp at h; subst h; exact hv _ rfl
      · exact hst2 w h) hl1 (by show cells + mc + (b.1 - mc) ≤ _; omega) (by show slots + ms + (b.2 - ms) ≤ _; omega)
    rw [hpc] at h3
    have e9 : (v.toList ++ st').map (cv g) = (v.map (cv g)).toList ++ st'.map (cv g) := by cases v <;> simp
    rw [e9] at h3
    exact h3
  have hroom : ∀ (x : Nat), st'.length ≤ 4 → 2 * (F0 m x la (st.map (cv g))).monitorRoom + ((st'.map (cv g)).map fun v => v.category).sum ≤ 8 := fun x h4 => by
    refine lv_room (m := m) (pc := x) (ls := la) ?_
    have := cat_sum (st'.map (cv g))
    rw [List.length_map] at this
    omega
  have stackV : ∀ (a : Nat) (as2 : List MV), as = vR (some a) :: as2 → st = as.reverse ++ st' → st.map (cv g) = (as2.map (cv g)).reverse ++ .ref (adr g a) :: st'.map (cv g) := by
    intro a as2 h1 h2
    rw [h2, h1]
    simp [cv, va_rf]
  have hpcU : ∀ U : State, U.heap = H → s.WarmedH U.vm → Rep g D U M U.heap ∧ Kn D U := fun U hU hW => ⟨by rw [hU]; exact hRep.moved hW.alike, hK.moved hW⟩
  rcases mstep_call hs with ⟨idx, hi⟩ | ⟨idx, hi⟩ | ⟨idx, hi, h9⟩
  · obtain ⟨hd, h2⟩ := ok1 hok hi (fun h => by cases h)
    unfold okI at h2
    simp only [hi, Bool.and_eq_true, Bool.not_eq_true', decide_eq_true_eq, fl1] at h2
    obtain ⟨⟨⟨⟨⟨⟨⟨hlen, hpc⟩, hinv⟩, hstt⟩, hna⟩, how⟩, how2⟩, hnn⟩ := h2
    rw [hlen] at hd hpc
    unfold mstep at hs
    simp only [hi] at hs
    obtain ⟨rfl, rfl, rfl, rfl, rfl, hst0, hal, hl4, hm1, hm2, hfl, hrc⟩ := mInv_inv hs
    obtain ⟨h0, hk, hlink, hbu, hdp, hmx⟩ := okInv_of hinv
    obtain ⟨a, as2, has, hka⟩ := hrc _ rfl
    rw [hmx] at hfl
    have hb1 : n3 (opAt k j) = (buK (n0 (opAt k j))).1 := congrArg Prod.fst hbu
    have hb2 : n4 (opAt k j) = (buK (n0 (opAt k j))).2 := congrArg Prod.snd hbu
    have hvas : ∀ w ∈ as, vOK w := fun w hw => hst w (by rw [hst0]; exact List.mem_append_left _ (List.mem_reverse.mpr hw))
    have hM := hMet hvas hfl h0 hk
    have hmok := mok_all _ h0 hk
    rw [mOK, if_neg (by rw [hstt]; decide)] at hmok
    have hsel := hmok.2.2.resolve_left hnn
    have hpl := mPl_of (mpl_all _ hk)
    obtain ⟨en, he, hen1⟩ := kd_ex hka (by omega)
    have hci : en.1 < 10 := by rw [hen1]; exact how2
    obtain ⟨cell, q1, q2, q3, -⟩ := (hRep.1 a en he).1 hci
    have hpre : PreV s H (yK (n0 (opAt k j))).cls (adr g a) (PcM g D as M') (as2.map (cv g)) := by
      refine ⟨PcM.blind as, ⟨cell, q1, by rw [q3]; rfl, ?_⟩, fun U hU hW => ⟨by rw [has]; simp [cv, va_rf], hpcU U hU hW⟩⟩
      rw [hpl.2.2.2.2.1, ← how, ← hen1, q2]
      exact (hK.1.1 en.1 _ (vw_at hci)).2.1
    have hstk := stackV a as2 has hst0
    have hasl : (as2.map (cv g)).length = naK (n0 (opAt k j)) := by
      rw [List.length_map]
      rw [has, List.length_cons, hna] at hal
      omega
    have f9 := fin _ _ rfl hm1 hm2 rfl hpc (fun w hw => hst w (by rw [hst0]; exact List.mem_append_right _ hw))
    rw [hb1] at hm1
    rw [hb2] at hm2
    rw [hb1, hb2] at f9
    rcases hlink with ⟨hn5, hlink⟩ | ⟨hn5, hlink⟩
    · exact run_go (va_runVN ⟨hx, hb, hml, hown, hts⟩ hM ⟨call_N hC h0 hk hdp hlink, hts _ hmok.2.1, hts _ hsel⟩ hpre rfl hasl hLR.2.2.1 hstk (hroom _ hl4) hd ⟨by omega, by omega⟩) hlocs f9
    · exact run_go (va_runV ⟨hx, hb, hml, hown, hts⟩ hM ⟨call_B hC h0 hk hdp hlink, hts _ hmok.2.1, hts _ hsel⟩ hpre rfl hasl hLR.2.2.1 hstk (hroom _ hl4) hd ⟨by omega, by omega⟩) hlocs f9
  · obtain ⟨hd, h2⟩ := ok1 hok hi (fun h => by cases h)
    unfold okI at h2
    simp only [hi, Bool.and_eq_true, decide_eq_true_eq, fl1] at h2
    obtain ⟨⟨⟨⟨hlen, hpc⟩, hinv⟩, hstt⟩, hna⟩ := h2
    rw [hlen] at hd hpc
    unfold mstep at hs
    simp only [hi] at hs
    obtain ⟨rfl, rfl, rfl, rfl, rfl, hst0, hal, hl4, hm1, hm2, hfl, -⟩ := mInv_inv hs
    obtain ⟨h0, hk, hlink, hbu, hdp, hmx⟩ := okInv_of hinv
    rw [hmx] at hfl
    have hb1 : n3 (opAt k j) = (buK (n0 (opAt k j))).1 := congrArg Prod.fst hbu
    have hb2 : n4 (opAt k j) = (buK (n0 (opAt k j))).2 := congrArg Prod.snd hbu
    have hvas : ∀ w ∈ as, vOK w := fun w hw => hst w (by rw [hst0]; exact List.mem_append_left _ (List.mem_reverse.mpr hw))
    have hM := hMet hvas hfl h0 hk
    have hmok := mok_all _ h0 hk
    rw [mOK, if_pos hstt] at hmok
    have hpre : PreS s H (PcM g D as M') (as.map (cv g)) := ⟨PcM.blind as, fun U hU hW => ⟨rfl, hpcU U hU hW⟩⟩
    have hstk : st.map (cv g) = (as.map (cv g)).reverse ++ st'.map (cv g) := by rw [hst0]; simp
    have hasl : (as.map (cv g)).length = naK (n0 (opAt k j)) := by rw [List.length_map, hal, hna]
    have f9 := fin _ _ rfl hm1 hm2 rfl hpc (fun w hw => hst w (by rw [hst0]; exact List.mem_append_right _ hw))
    rw [hb1] at hm1
    rw [hb2] at hm2
    rw [hb1, hb2] at f9
    rcases hlink with ⟨hn5, hlink⟩ | ⟨hn5, hlink⟩
    · exact run_go (va_runSN ⟨hx, hb, hml, hown, hts⟩ hM ⟨call_N hC h0 hk hdp hlink, hts _ hmok.2, trivial⟩ hpre rfl hasl hLR.2.2.1 hstk (hroom _ hl4) hd ⟨by omega, by omega⟩) hlocs f9
    · exact run_go (va_runS ⟨hx, hb, hml, hown, hts⟩ hM ⟨call_B hC h0 hk hdp hlink, hts _ hmok.2⟩ hpre rfl hasl hLR.2.2.1 hstk (hroom _ hl4) hd ⟨by omega, by omega⟩) hlocs f9
  · obtain ⟨hd, h2⟩ := ok1 hok hi (fun h => by cases h)
    unfold okI at h2
    simp only [hi, Bool.and_eq_true, decide_eq_true_eq, fl1] at h2
    obtain ⟨⟨hlen, hpc⟩, h2⟩ := h2
    rw [hlen] at hd hpc
    rw [if_neg h9] at h2
    simp only [Bool.and_eq_true, Bool.not_eq_true', decide_eq_true_eq] at h2
    obtain ⟨⟨⟨⟨hinv, hstt⟩, hna⟩, hnn⟩, hret⟩ := h2
    unfold mstep at hs
    simp only [hi] at hs
    rw [if_neg h9] at hs
    obtain ⟨rfl, rfl, rfl, rfl, rfl, hst0, hal, hl4, hm1, hm2, hfl, hrc⟩ := mInv_inv hs
    obtain ⟨h0, hk, hlink, hbu, hdp, hmx⟩ := okInv_of hinv
    obtain ⟨a, as2, has, hka⟩ := hrc _ rfl
    rw [hmx] at hfl
    have hb1 : n3 (opAt k j) = (buK (n0 (opAt k j))).1 := congrArg Prod.fst hbu
    have hb2 : n4 (opAt k j) = (buK (n0 (opAt k j))).2 := congrArg Prod.snd hbu
    have hvas : ∀ w ∈ as, vOK w := fun w hw => hst w (by rw [hst0]; exact List.mem_append_left _ (List.mem_reverse.mpr hw))
    have hM := hMet hvas hfl h0 hk
    have hmok := mok_all _ h0 hk
    rw [mOK, if_neg (by rw [hstt]; decide)] at hmok
    have hstk := stackV a as2 has hst0
    have hpre : PreS s H (PcM g D as M') (.ref (adr g a) :: as2.map (cv g)) := ⟨PcM.blind as, fun U hU hW => ⟨by rw [has]; simp [cv, va_rf], hpcU U hU hW⟩⟩
    have hasl : (as2.map (cv g)).length = naK (n0 (opAt k j)) := by
      rw [List.length_map]
      rw [has, List.length_cons, hna] at hal
      omega
    have f9 := fin _ _ rfl hm1 hm2 rfl hpc (fun w hw => hst w (by rw [hst0]; exact List.mem_append_right _ hw))
    rw [hb1] at hm1
    rw [hb2] at hm2
    rw [hb1, hb2] at f9
    rcases hlink with ⟨hn5, hlink⟩ | ⟨hn5, hlink⟩
    · have hcn := call_N hC h0 hk hdp hlink
      rw [hret] at hcn
      exact run_go (va_runIN ⟨hx, hb, hml, hown, hts⟩ hM ⟨hcn, hnn, hts _ hmok.2.1⟩ hpre rfl hasl hLR.2.2.1 hstk (hroom _ hl4) hd ⟨by omega, by omega⟩) hlocs f9
    · have hcn := call_B hC h0 hk hdp hlink
      rw [hret] at hcn
      exact run_go (va_runI ⟨hx, hb, hml, hown, hts⟩ hM ⟨hcn, hnn, hts _ hmok.2.1⟩ hpre rfl hasl hLR.2.2.1 hstk (hroom _ hl4) hd ⟨by omega, by omega⟩) hlocs f9
end SIM6
end
section
-- ===== all instructions together =====
section SIM7
variable {g : GA} {D : va_G} {l : Launch} {p : Program} {e : Env} {R : Room} {s : State} {m : MethodId} {args : Array Value} {below : List Frame} {meth : Method} {c : Code} {PQ : State → Prop} {k j j' : Nat} {ls st ls' st' : List MV} {b b' : Nat × Nat} {M M' : MM}
theorem si_objInit {idx : Nat} (hC : Cx D p R s m args meth c k) (hok : okOp k j = true) (hi : (opAt k j).1 = .invokespecial idx) (h9 : n5 (opAt k j) = 9) (hs : (pR st fun _ r => gd (decide (r.length ≤ 4)) (nx (j + 1) ls r b M)) = some (Sum.inl (j', ls', st', b', M'))) (IH : Sim g D l p e R s m args below meth c PQ k j' ls' st' b' M') : Sim g D l p e R s m args below meth c PQ k j ls st b M := by
  obtain ⟨hd, h2⟩ := ok1 hok hi (fun h => by cases h)
  unfold okI at h2
  simp only [hi, Bool.and_eq_true, decide_eq_true_eq, fl1] at h2
  obtain ⟨⟨hlen, hpc⟩, h2⟩ := h2
  rw [hlen] at hd hpc
  rw [if_pos h9] at h2
  simp only [Bool.and_eq_true, decide_eq_true_eq] at h2
  obtain ⟨a, r, rfl, hs⟩ := pR_inv hs
  obtain ⟨hg, hs⟩ := gd_inv hs
  have hg := of_decide_eq_true hg
  cases hs
  intro H locs cells slots la hRep hLR hst hlocs hcl hsl
  obtain ⟨hx, hb, hml, hown, hts, hK, hnm, hf1, hf2⟩ := hC
  have h3 := IH H locs cells slots la hRep hLR (fun w hw => hst w (List.mem_cons_of_mem _ hw)) hlocs hcl hsl
  rw [hpc] at h3
  have hcs := cat_sum (st'.map (cv g))
  rw [List.length_map] at hcs
  refine W.objInit hx hb hown (hts _ (oi_ok (owK k) _ (List.contains_iff_mem.mp h2.1))) (hts _ oi_inst) (hts _ oi_code) rfl (by rw [hml]; exact hLR.2.2.1) rfl hd (by omega) ?_ h3
  show 2 * 0 + ((st'.map (cv g)).map fun v => v.category).sum + 12 ≤ R.locals
  omega
set_option maxHeartbeats 4000000 in
theorem sim_nx (hC : Cx D p R s m args meth c k) (hok : okOp k j = true) (hs : mstep (opAt k j) j ls st b M = some (Sum.inl (j', ls', st', b', M'))) (IH : Sim g D l p e R s m args below meth c PQ k j' ls' st' b' M') : Sim g D l p e R s m args below meth c PQ k j ls st b M := by
  unfold mstep at hs
  split at hs
  · exact si_nop hC hok (by assumption) hs IH
  · exact si_aconst_null hC hok (by assumption) hs IH
  · exact si_iconst hC hok (by assumption) hs IH
  · exact si_bipush hC hok (by assumption) hs IH
  · exact si_sipush hC hok (by assumption) hs IH
  · exact si_ldc_w hC hok (by assumption) hs IH
  · exact si_ldc2_w hC hok (by assumption) hs IH
  · exact si_lconst hC hok (by assumption) hs IH
  · exact si_iload_n hC hok (by assumption) hs IH
  · exact si_iload hC hok (by assumption) hs IH
  · exact si_lload_n hC hok (by assumption) hs IH
  · exact si_lload hC hok (by assumption) hs IH
  · exact si_aload_n hC hok (by assumption) hs IH
  · exact si_aload hC hok (by assumption) hs IH
  · exact si_istore_n hC hok (by assumption) hs IH
  · exact si_istore hC hok (by assumption) hs IH
  · exact si_lstore_n hC hok (by assumption) hs IH
  · exact si_lstore hC hok (by assumption) hs IH
  · exact si_astore_n hC hok (by assumption) hs IH
  · exact si_astore hC hok (by assumption) hs IH
  · exact si_iinc hC hok (by assumption) hs IH
  · exact si_iadd hC hok (by assumption) hs IH
  · exact si_isub hC hok (by assumption) hs IH
  · exact si_imul hC hok (by assumption) hs IH
  · exact si_iand hC hok (by assumption) hs IH
  · exact si_ior hC hok (by assumption) hs IH
  · exact si_ixor hC hok (by assumption) hs IH
  · exact si_ishl hC hok (by assumption) hs IH
  · exact si_ishr hC hok (by assumption) hs IH
  · exact si_iushr hC hok (by assumption) hs IH
  · exact si_idiv hC hok (by assumption) hs IH
  · exact si_irem hC hok (by assumption) hs IH
  · exact si_ladd hC hok (by assumption) hs IH
  · exact si_lsub hC hok (by assumption) hs IH
  · exact si_lmul hC hok (by assumption) hs IH
  · exact si_land hC hok (by assumption) hs IH
  · exact si_lor hC hok (by assumption) hs IH
  · exact si_ldiv hC hok (by assumption) hs IH
  · exact si_lrem hC hok (by assumption) hs IH
  · exact si_lcmp hC hok (by assumption) hs IH
  · exact si_lushr hC hok (by assumption) hs IH
  · exact si_lshl hC hok (by assumption) hs IH
  · exact si_i2l hC hok (by assumption) hs IH
  · exact si_l2i hC hok (by assumption) hs IH
  · exact si_i2b hC hok (by assumption) hs IH
  · exact si_dup hC hok (by assumption) hs IH
  · exact si_dup2 hC hok (by assumption) hs IH
  · exact si_pop hC hok (by assumption) hs IH
  · exact si_ifCond hC hok (by assumption) hs IH
  · exact si_if_icmp hC hok (by assumption) hs IH
  · exact si_goto hC hok (by assumption) hs IH
  · exact si_ifnull hC hok (by assumption) hs IH
  · exact si_ifnonnull hC hok (by assumption) hs IH
  · exact si_tableswitch hC hok (by assumption) hs IH
  · exact si_lookupswitch hC hok (by assumption) hs IH
  · exact si_getfield hC hok (by assumption) hs IH
  · exact si_putfield hC hok (by assumption) hs IH
  · exact si_getstatic hC hok (by assumption) hs IH
  · exact si_arraylength hC hok (by assumption) hs IH
  · exact si_iaload hC hok (by assumption) hs IH
  · exact si_baload hC hok (by assumption) hs IH
  · exact si_aaload hC hok (by assumption) hs IH
  · exact si_iastore hC hok (by assumption) hs IH
  · exact si_bastore hC hok (by assumption) hs IH
  · exact si_aastore hC hok (by assumption) hs IH
  · exact si_new hC hok (by assumption) hs IH
  · exact si_newarray hC hok (by assumption) hs IH
  · exact si_anewarray hC hok (by assumption) hs IH
  · exact si_multianewarray hC hok (by assumption) hs IH
  · exfalso; unfold mInv at hs; have h7 := (gd_inv hs).2; cases h7
  · exfalso; unfold mInv at hs; have h7 := (gd_inv hs).2; cases h7
  · split at hs
    · exact si_objInit hC hok (by assumption) (by assumption) hs IH
    · exfalso; unfold mInv at hs; have h7 := (gd_inv hs).2; cases h7
  · exfalso; split at hs
    · have h7 := (gd_inv hs).2; cases h7
    · cases hs
  · exfalso; split at hs <;> cases hs
  · exfalso; split at hs <;> cases hs
  · exfalso; split at hs <;> cases hs
  · cases hs
/-- which answers a method may give, and by which instruction -/
def retOK (r : Option FieldType) (v : Option MV) : Prop := match r with
  | none => v = none
  | some .int => ∃ z, v = some (vI z)
  | some .boolean => ∃ z, v = some (vI z) ∧ z01 z = true
  | some .long => ∃ x, v = some (vL x)
  | some (.object _) => ∃ q, v = some (vR q)
  | some (.array _) => ∃ q, v = some (vR q)
  | _ => False
def retI (r : Option FieldType) : Instr := match r with
  | none => .return_
  | some .long => .lreturn
  | some (.object _) => .areturn
  | some (.array _) => .areturn
  | _ => .ireturn
theorem sim_ret {v : Option MV} (hok : okOp k j = true) (hs : mstep (opAt k j) j ls st b M = some (Sum.inr (Sum.inr v))) (hst : ∀ w ∈ st, vOK w) : retOK (rtK k) v ∧ decode (cK k) (pcK k j) = .ok (retI (rtK k), 1) ∧ st.map (cv g) = (v.map (cv g)).toList ∧ ∀ w, v = some w → vOK w := by
  have h1 : (opAt k j).1 = .ireturn ∨ (opAt k j).1 = .lreturn ∨ (opAt k j).1 = .areturn ∨ (opAt k j).1 = .return_ := by
    unfold mstep at hs
    split at hs
    all_goals first
      | exact Or.inl (by assumption)
      | exact Or.inr (Or.inl (by assumption))
      | exact Or.inr (Or.inr (Or.inl (by assumption)))
      | exact Or.inr (Or.inr (Or.inr (by assumption)))
      | (exfalso; unfold mInv at hs; have h7 := (gd_inv hs).2; cases h7; done)
      | (exfalso
         split at hs
         · obtain ⟨a7, r7, -, h7⟩ := pR_inv hs
           have h8 := (gd_inv h7).2
           cases h8
         · unfold mInv at hs; have h7 := (gd_inv hs).2; cases h7; done)
      | (exfalso
         simp only [gtI, gtL, gtR, pI, pI2, pL, pL2, pIL, pQ, pR, pIR, pIIR, pRIR, pLR, pQR, gd, br, cndI, nx, mGet, mPut, mNew, mArr] at hs
         repeat' split at hs
         all_goals cases hs)
      | (exfalso; repeat' split at hs
         all_goals cases hs)
  rcases h1 with hi | hi | hi | hi
  · obtain ⟨hd, h2⟩ := ok1 hok hi (fun h => by cases h)
    unfold okI at h2
    simp only [hi, Bool.and_eq_true, Bool.or_eq_true, decide_eq_true_eq] at h2
    obtain ⟨hlen, h2⟩ := h2
    rw [hlen] at hd
    unfold mstep at hs
    simp only [hi] at hs
    split at hs
    · obtain ⟨hg, hs⟩ := gd_inv hs
      cases hs
      rename_i z
      rcases h2 with ⟨hr, hn⟩ | ⟨hr, hn⟩
      · rw [hr]; exact ⟨⟨z, rfl⟩, hd, rfl, fun w hw => by cases hw; exact hst _ List.mem_cons_self⟩
      · rw [hr]
        rw [if_pos hn] at hg
        exact ⟨⟨z, rfl, hg⟩, hd, rfl, fun w hw => by cases hw; exact hst _ List.mem_cons_self⟩
    · cases hs
  · obtain ⟨hd, h2⟩ := ok1 hok hi (fun h => by cases h)
    unfold okI at h2
    simp only [hi, Bool.and_eq_true, decide_eq_true_eq] at h2
    obtain ⟨hlen, hr⟩ := h2
    rw [hlen] at hd
    unfold mstep at hs
    simp only [hi] at hs
    split at hs
    · cases hs
      rw [hr]
      exact ⟨⟨_, rfl⟩, hd, rfl, fun w hw => by cases hw; trivial⟩
    · cases hs
  · obtain ⟨hd, h2⟩ := ok1 hok hi (fun h => by cases h)
    unfold okI at h2
    simp only [hi, Bool.and_eq_true, decide_eq_true_eq] at h2
    obtain ⟨hlen, hr⟩ := h2
    rw [hlen] at hd
    unfold mstep at hs
    simp only [hi] at hs
    split at hs
    · cases hs
      split at hr
      · rename_i hr2; rw [hr2]; exact ⟨⟨_, rfl⟩, hd, rfl, fun w hw => by cases hw; trivial⟩
      · rename_i hr2; rw [hr2]; exact ⟨⟨_, rfl⟩, hd, rfl, fun w hw => by cases hw; trivial⟩
      · cases hr
    · cases hs
  · obtain ⟨hd, h2⟩ := ok1 hok hi (fun h => by cases h)
    unfold okI at h2
    simp only [hi, Bool.and_eq_true, decide_eq_true_eq] at h2
    obtain ⟨hlen, hr⟩ := h2
    rw [hlen] at hd
    unfold mstep at hs
    simp only [hi] at hs
    split at hs
    · cases hs
      rw [hr]
      exact ⟨rfl, hd, rfl, fun w hw => by cases hw⟩
    · cases hs
end SIM7
end
section
-- ===== what the mini-machine comes to, the JVM comes to =====
theorem lgsl_len (g : GA) : ∀ as : List MV, (lg_sl (as.map (cv g))).length = (flL as).length
  | [] => rfl
  | Sum.inl z :: r => by
    have := lgsl_len g r
    unfold lg_sl at this ⊢
    simp only [List.map_cons, List.flatMap_cons, List.length_append, this, flL, List.length_cons]
    simp [cv, Value.category]; omega
  | Sum.inr (Sum.inl z) :: r => by
    have := lgsl_len g r
    unfold lg_sl at this ⊢
    simp only [List.map_cons, List.flatMap_cons, List.length_append, this, flL, List.length_cons]
    simp [cv, Value.category]; omega
  | Sum.inr (Sum.inr (Sum.inl q)) :: r => by
    have := lgsl_len g r
    unfold lg_sl at this ⊢
    simp only [List.map_cons, List.flatMap_cons, List.length_append, this, flL, List.length_cons]
    cases q <;> (simp [cv, va_rf, Value.category]; omega)
  | Sum.inr (Sum.inr (Sum.inr ())) :: r => by
    have := lgsl_len g r
    unfold lg_sl at this ⊢
    simp only [List.map_cons, List.flatMap_cons, List.length_append, this, flL, List.length_cons]
    simp [cv, Value.category]; omega
theorem flL_mem : ∀ (as : List MV) (w : MV), w ∈ flL as → w = vU ∨ w ∈ as
  | [], w, h => by simp [flL] at h
  | Sum.inl z :: r, w, h => by
    rcases List.mem_cons.mp (show w ∈ vI z :: flL r from h) with h | h
    · exact Or.inr (by rw [h]; exact List.mem_cons_self)
    · exact (flL_mem r w h).imp id (List.mem_cons_of_mem _)
  | Sum.inr (Sum.inl z) :: r, w, h => by
    rcases List.mem_cons.mp (show w ∈ vL z :: vU :: flL r from h) with h | h
    · exact Or.inr (by rw [h]; exact List.mem_cons_self)
    · rcases List.mem_cons.mp h with h | h
      · exact Or.inl h
      · exact (flL_mem r w h).imp id (List.mem_cons_of_mem _)
  | Sum.inr (Sum.inr (Sum.inl q)) :: r, w, h => by
    rcases List.mem_cons.mp (show w ∈ vR q :: flL r from h) with h | h
    · exact Or.inr (by rw [h]; exact List.mem_cons_self)
    · exact (flL_mem r w h).imp id (List.mem_cons_of_mem _)
  | Sum.inr (Sum.inr (Sum.inr ())) :: r, w, h => by
    rcases List.mem_cons.mp (show w ∈ vU :: flL r from h) with h | h
    · exact Or.inl h
    · exact (flL_mem r w h).imp id (List.mem_cons_of_mem _)
theorem LR_entry (g : GA) {k : Nat} {as : List MV} (hv : ∀ w ∈ as, vOK w) (hl : (flL as).length ≤ mxK k) : LR g (mxK k) (entL k as) ((lg_sl (as.map (cv g)) ++ List.replicate (mxK k - (lg_sl (as.map (cv g))).length) Slot.unset).toArray) := by
  have he := lv_entry (as.map (cv g)) (n := mxK k) (by rw [lgsl_len]; exact hl)
  refine ⟨?_, fun w hw => ?_, he.1, he.2.1, fun q hq => ?_⟩
  · unfold entL; rw [List.length_append, List.length_replicate]; omega
  · unfold entL at hw
    rcases List.mem_append.mp hw with h | h
    · rcases flL_mem as w h with h | h
      · exact Or.inl h
      · exact Or.inr (hv w h)
    · exact Or.inl (List.eq_of_mem_replicate h)
  · obtain ⟨q1, q2⟩ := q
    obtain ⟨n, w, e1, e2, e3, e4⟩ := (toL_mem g _ 0 q1 q2).mp hq
    unfold entL at e2
    by_cases hn : n < (flL as).length
    · rw [List.getElem?_append_left hn] at e2
      exact he.2.2 _ (lvargs_fl g as 0 q1 q2 n w e1 e2 e3 e4)
    · rw [List.getElem?_append_right (by omega), List.getElem?_replicate] at e2
      split at e2
      · exact absurd (Option.some.inj e2).symm e3
      · cases e2
theorem pcK_0 : (List.range 224).all (fun k => decide (pcK k 0 = 0)) = true := by decide +kernel
section SND
variable {g : GA} {D : va_G} {l : Launch}
def HRet (g : GA) (D : va_G) (l : Launch) (p : Program) (e : Env) (R : Room) (s : State) (m : MethodId) (args : Array Value) (below : List Frame) (meth : Method) (c : Code) (PQ : State → Prop) (k : Nat) (Q : Option MV → MM → Prop) : Prop :=
  ∀ (v : Option MV) (M2 : MM) (H1 : Heap) (locs1 : List Loc) (cells1 slots1 : Nat) (la1 : Array Slot) (pc : Nat), Q v M2 → retOK (rtK k) v → (∀ w, v = some w → vOK w) → Rep g D s M2 H1 → (∀ q ∈ locs1, gB g ≤ q.base) → cells1 ≤ R.cells → slots1 ≤ R.slots → decode (cK k) pc = .ok (retI (rtK k), 1) → W p l e R s m args below meth c H1 locs1 cells1 slots1 PQ (F0 m pc la1 (v.map (cv g)).toList)
theorem met_of {k' : Nat} {as : List MV} {M : MM} {Q' : Option MV → MM → Prop} (hI : ∀ {p : Program} {e : Env} {R : Room} {s : State} {m : MethodId} {args : Array Value} {below : List Frame} {meth : Method} {c : Code} {PQ : State → Prop}, Cx D p R s m args meth c k' → HRet g D l p e R s m args below meth c PQ k' Q' → Sim g D l p e R s m args below meth c PQ k' 0 (entL k' as) [] (buK k') M)
    (hvas : ∀ w ∈ as, vOK w) (hfl : (flL as).length ≤ mxK k') (h0 : 0 < k') (hk : k' < 224) : Met l (yK k') (wsK k') (rmK k') (PcM g D as M) (fun _ => QcM g D Q') (buK k').1 (buK k').2 (fun q => gB g ≤ q) := by
  obtain ⟨p1, p2, p3, p4, p5, p6⟩ := mPl_of (mpl_all k' hk)
  refine va_MetF (cc := cK k') (maxL := mxK k') (ret := rtK k') p1 rfl ?_
  intro p e s m args below meth c s1 B hml hv
  obtain ⟨rfl, hRep, hKn⟩ := hv
  have hx := B.exec
  have hb := B.bytes
  have hr := B.returns
  have hts := atoms_spec (ws := wsK k') B.pre
  have hown : s.vm.findClass (yK k').cls = some m.cls := findClass_of_methodNamed B.named
  have hlocks := B.notSynchronized
  have hnm : meth.name = (yK k').name := (name_of_methodNamed B.named B.method).1
  have hC : Cx D p (rmK k') s m ((as.map (cv g)).toArray) meth c k' := ⟨hx, hb, hml, by rw [← p5]; exact hown, fun w hw => hts w (List.mem_cons_of_mem _ hw), hKn, fun h => by rw [hnm]; exact h, Nat.le_refl _, Nat.le_refl _⟩
  have hS := hI (p := p) (e := e) (R := rmK k') (s := s) (m := m) (below := below) (PQ := MQ below (fun _ => QcM g D Q') ((as.map (cv g)).toArray) s (buK k').1 (buK k').2 (fun q => gB g ≤ q)) hC (by
    intro v M2 H1 locs1 cells1 slots1 la1 pc hQ hret hvv hR hl1 hc1 hs1 hd
    refine W.widen (k := (buK k').1) (n := (buK k').2) hc1 hs1 ?_
    have hend : ∀ t : State, t.heap = H1 → s.WarmedH t.vm → QcM g D Q' s (.returned (v.map (cv g))) t := fun t ht hW => ⟨v, M2, hQ, rfl, hvv, by rw [ht]; exact hR.moved hW.alike⟩
    unfold retOK at hret
    split at hret
    · rename_i hrt
      subst hret
      rw [hrt] at hr hd
      exact W.vret hx hb hr hend hl1 hd
    · rename_i hrt
      obtain ⟨z, rfl⟩ := hret
      rw [hrt] at hr hd
      exact W.iret hx hb hr hend hl1 hd
    · rename_i hrt
      obtain ⟨z, rfl, hz⟩ := hret
      rw [hrt] at hr hd
      exact W.zret hx hb hr (nar_z hz).1 hend hl1 hd
    · rename_i hrt
      obtain ⟨z, rfl⟩ := hret
      rw [hrt] at hr hd
      exact W.lret hx hb hr hend hl1 hd
    · rename_i hrt
      obtain ⟨z, rfl⟩ := hret
      rw [hrt] at hr hd
      exact W.aret hx hb hr (Or.inl ⟨_, rfl⟩) (by cases z; exact Or.inl rfl; exact Or.inr ⟨_, rfl⟩) hend hl1 hd
    · rename_i hrt
      obtain ⟨z, rfl⟩ := hret
      rw [hrt] at hr hd
      exact W.aret hx hb hr (Or.inr ⟨_, rfl⟩) (by cases z; exact Or.inl rfl; exact Or.inr ⟨_, rfl⟩) hend hl1 hd
    · cases hret)
  have h3 := hS s.heap [] 0 0 _ hRep (LR_entry g hvas hfl) (fun w hw => by cases hw) (fun q hq => by cases hq) (by show 0 + (buK k').1 ≤ (buK k').1; omega) (by show 0 + (buK k').2 ≤ (buK k').2; omega)
  have hpc : pcK k' 0 = 0 := of_decide_eq_true (List.all_eq_true.mp pcK_0 k' (List.mem_range.mpr hk))
  rw [hpc] at h3
  rw [lg_entry_eq]
  exact h3
theorem snd_all : ∀ (n : Nat) {k j : Nat} {ls st : List MV} {b : Nat × Nat} {M : MM} {Q : Option MV → MM → Prop}, wpf n k j ls st b M Q → ∀ {p : Program} {e : Env} {R : Room} {s : State} {m : MethodId} {args : Array Value} {below : List Frame} {meth : Method} {c : Code} {PQ : State → Prop}, Cx D p R s m args meth c k → HRet g D l p e R s m args below meth c PQ k Q → Sim g D l p e R s m args below meth c PQ k j ls st b M := by
  intro n
  induction n with
  | zero => intro k j ls st b M Q h; exact False.elim h
  | succ n ih =>
    intro k j ls st b M Q h p e R s m args below meth c PQ hC hret
    rw [wpf] at h
    have hbad : mstep (opAt k j) j ls st b M ≠ none → opAt k j ≠ opBad := by
      intro h1 h2
      rw [h2] at h1
      exact h1 rfl
    split at h
    · exact False.elim h
    · rename_i j' ls' st' b' M' hs
      have hok := (ok_of (hbad (by rw [hs]; exact fun q => by cases q))).2
      exact sim_nx hC hok hs (ih h hC hret)
    · rename_i k' as j' ls' st' b' M' hs
      have hok := (ok_of (hbad (by rw [hs]; exact fun q => by cases q))).2
      exact sim_call hC hok hs (met_of (fun hC2 hr2 => ih h hC2 hr2)) (fun v M2 hq => ih hq hC hret)
    · rename_i v hs
      have hok := (ok_of (hbad (by rw [hs]; exact fun q => by cases q))).2
      intro H locs cells slots la hRep hLR hst hlocs hcl hsl
      obtain ⟨h1, h2, h3, h4⟩ := sim_ret (g := g) hok hs hst
      rw [h3]
      exact hret v M H locs cells slots la (pcK k j) h h1 h4 hRep hlocs (by omega) (by omega) h2
end SND
end
section
-- ===== rules of the mini-machine, as rows to rewrite with =====
/-- n plain steps -/
def stN : Nat → Nat → MC → Option MC
  | 0, _, cf => some cf
  | n + 1, k, (j, ls, st, b, M) => match mstep (opAt k j) j ls st b M with
    | some (Sum.inl cf) => stN n k cf
    | _ => none
theorem w_st (n : Nat) {k j j' : Nat} {ls st ls' st' : List MV} {b b' : Nat × Nat} {M M' : MM} {Q : Option MV → MM → Prop} (h : stN n k (j, ls, st, b, M) = some (j', ls', st', b', M')) : wpc k j ls st b M Q ↔ wpc k j' ls' st' b' M' Q := by
  induction n generalizing j ls st b M with
  | zero => cases h; exact Iff.rfl
  | succ n ih =>
    unfold stN at h
    split at h
    · rename_i cf hm
      obtain ⟨j1, ls1, st1, b1, M1⟩ := cf
      exact (wpc_nx hm).trans (ih h)
    · cases h
section RULES
variable {k j : Nat} {ls st : List MV} {b : Nat × Nat} {S : MS} {R : Nat → Int → Option Nat} {I : Nat → Int → Int} {J : Nat → Int → Int64} {Q : Option MV → MM → Prop} {pl : Nat × Nat} {ns : List Nat} {z : Int} {sw : List (Int × Nat)}
theorem w_gd {c : Bool} {C : Prop} {j' : Nat} {ls' st' : List MV} {b' : Nat × Nat} {M M' : MM} (hc : c = true ↔ C) (h : mstep (opAt k j) j ls st b M = gd c (nx j' ls' st' b' M')) : wpc k j ls st b M Q ↔ C ∧ wpc k j' ls' st' b' M' Q := by
  by_cases h1 : c = true
  · rw [wpc_nx (by rw [h, h1]; rfl)]
    exact ⟨fun h2 => ⟨hc.mp h1, h2⟩, fun h2 => h2.2⟩
  · rw [wpc_no (by rw [h]; unfold gd; rw [if_neg h1])]
    exact ⟨fun h2 => False.elim h2, fun h2 => h1 (hc.mpr h2.1)⟩
theorem w_br {c : Bool} {C : Prop} [Decidable C] {j1 j2 : Nat} {ls' st' : List MV} {b' : Nat × Nat} {M M' : MM} (hc : c = true ↔ C) (h : mstep (opAt k j) j ls st b M = br c j1 j2 ls' st' b' M') : wpc k j ls st b M Q ↔ if C then wpc k j1 ls' st' b' M' Q else wpc k j2 ls' st' b' M' Q := by
  by_cases h1 : c = true
  · rw [if_pos (hc.mp h1), wpc_nx (by rw [h, h1]; rfl)]
  · rw [if_neg (fun h2 => h1 (hc.mpr h2)), wpc_nx (by rw [h]; unfold br; rw [if_neg h1]; rfl)]
theorem w_ite {C A B A' B' : Prop} [Decidable C] (h1 : C → (A ↔ A')) (h2 : ¬ C → (B ↔ B')) : (if C then A else B) ↔ (if C then A' else B') := by
  by_cases h : C
  · rw [if_pos h, if_pos h]; exact h1 h
  · rw [if_neg h, if_neg h]; exact h2 h
-- branches
theorem w_ifeq {o : Int} {x : Int} (hf : opAt k j = (.ifCond .eq o, pl, ns, z, sw)) {M : MM} : wpc k j ls (vI x :: st) b M Q ↔ if x = 0 then wpc k (ns.getD 0 0) ls st b M Q else wpc k (j + 1) ls st b M Q := w_br (c := decide (x = 0)) decide_eq_true_iff (by rw [hf]; rfl)
theorem w_ifne {o : Int} {x : Int} (hf : opAt k j = (.ifCond .ne o, pl, ns, z, sw)) {M : MM} : wpc k j ls (vI x :: st) b M Q ↔ if x = 0 then wpc k (j + 1) ls st b M Q else wpc k (ns.getD 0 0) ls st b M Q := w_br (c := decide (x = 0)) decide_eq_true_iff (by rw [hf]; rfl)
theorem w_iflt {o : Int} {x : Int} (hf : opAt k j = (.ifCond .lt o, pl, ns, z, sw)) {M : MM} : wpc k j ls (vI x :: st) b M Q ↔ if x < 0 then wpc k (ns.getD 0 0) ls st b M Q else wpc k (j + 1) ls st b M Q := w_br (c := decide (x < 0)) decide_eq_true_iff (by rw [hf]; rfl)
theorem w_ifge {o : Int} {x : Int} (hf : opAt k j = (.ifCond .ge o, pl, ns, z, sw)) {M : MM} : wpc k j ls (vI x :: st) b M Q ↔ if x < 0 then wpc k (j + 1) ls st b M Q else wpc k (ns.getD 0 0) ls st b M Q := w_br (c := decide (x < 0)) decide_eq_true_iff (by rw [hf]; rfl)
theorem w_ifgt {o : Int} {x : Int} (hf : opAt k j = (.ifCond .gt o, pl, ns, z, sw)) {M : MM} : wpc k j ls (vI x :: st) b M Q ↔ if x ≤ 0 then wpc k (j + 1) ls st b M Q else wpc k (ns.getD 0 0) ls st b M Q := w_br (c := decide (x ≤ 0)) decide_eq_true_iff (by rw [hf]; rfl)
theorem w_ifle {o : Int} {x : Int} (hf : opAt k j = (.ifCond .le o, pl, ns, z, sw)) {M : MM} : wpc k j ls (vI x :: st) b M Q ↔ if x ≤ 0 then wpc k (ns.getD 0 0) ls st b M Q else wpc k (j + 1) ls st b M Q := w_br (c := decide (x ≤ 0)) decide_eq_true_iff (by rw [hf]; rfl)
theorem w_ceq {o : Int} {x y : Int} (hf : opAt k j = (.if_icmp .eq o, pl, ns, z, sw)) {M : MM} : wpc k j ls (vI y :: vI x :: st) b M Q ↔ if x = y then wpc k (ns.getD 0 0) ls st b M Q else wpc k (j + 1) ls st b M Q := w_br (c := decide (x = y)) decide_eq_true_iff (by rw [hf]; rfl)
theorem w_cne {o : Int} {x y : Int} (hf : opAt k j = (.if_icmp .ne o, pl, ns, z, sw)) {M : MM} : wpc k j ls (vI y :: vI x :: st) b M Q ↔ if x = y then wpc k (j + 1) ls st b M Q else wpc k (ns.getD 0 0) ls st b M Q := w_br (c := decide (x = y)) decide_eq_true_iff (by rw [hf]; rfl)
theorem w_clt {o : Int} {x y : Int} (hf : opAt k j = (.if_icmp .lt o, pl, ns, z, sw)) {M : MM} : wpc k j ls (vI y :: vI x :: st) b M Q ↔ if x < y then wpc k (ns.getD 0 0) ls st b M Q else wpc k (j + 1) ls st b M Q := w_br (c := decide (x < y)) decide_eq_true_iff (by rw [hf]; rfl)
theorem w_cge {o : Int} {x y : Int} (hf : opAt k j = (.if_icmp .ge o, pl, ns, z, sw)) {M : MM} : wpc k j ls (vI y :: vI x :: st) b M Q ↔ if x < y then wpc k (j + 1) ls st b M Q else wpc k (ns.getD 0 0) ls st b M Q := w_br (c := decide (x < y)) decide_eq_true_iff (by rw [hf]; rfl)
theorem w_cgt {o : Int} {x y : Int} (hf : opAt k j = (.if_icmp .gt o, pl, ns, z, sw)) {M : MM} : wpc k j ls (vI y :: vI x :: st) b M Q ↔ if x ≤ y then wpc k (j + 1) ls st b M Q else wpc k (ns.getD 0 0) ls st b M Q := w_br (c := decide (x ≤ y)) decide_eq_true_iff (by rw [hf]; rfl)
theorem w_cle {o : Int} {x y : Int} (hf : opAt k j = (.if_icmp .le o, pl, ns, z, sw)) {M : MM} : wpc k j ls (vI y :: vI x :: st) b M Q ↔ if x ≤ y then wpc k (ns.getD 0 0) ls st b M Q else wpc k (j + 1) ls st b M Q := w_br (c := decide (x ≤ y)) decide_eq_true_iff (by rw [hf]; rfl)
theorem w_ifnull {o : Int} {q : Option Nat} (hf : opAt k j = (.ifnull o, pl, ns, z, sw)) {M : MM} : wpc k j ls (vR q :: st) b M Q ↔ if q = none then wpc k (ns.getD 0 0) ls st b M Q else wpc k (j + 1) ls st b M Q := w_br (c := q.isNone) Option.isNone_iff_eq_none (by rw [hf]; rfl)
theorem w_ifnonnull {o : Int} {q : Option Nat} (hf : opAt k j = (.ifnonnull o, pl, ns, z, sw)) {M : MM} : wpc k j ls (vR q :: st) b M Q ↔ if q = none then wpc k (j + 1) ls st b M Q else wpc k (ns.getD 0 0) ls st b M Q := w_br (c := q.isNone) Option.isNone_iff_eq_none (by rw [hf]; rfl)
def swP (x : Int) (d : Nat) (K : Nat → Prop) : List (Int × Nat) → Prop
  | [] => K d
  | (c, t) :: r => if x = c then K t else swP x d K r
theorem swP_eq (x : Int) (d : Nat) (K : Nat → Prop) : ∀ l : List (Int × Nat), swP x d K l ↔ K (swT x d l)
  | [] => Iff.rfl
  | (c, t) :: r => by
    unfold swP swT
    by_cases h : x = c
    · rw [if_pos h, if_pos h]
    · rw [if_neg h, if_neg h]; exact swP_eq x d K r
theorem w_tsw {x d lo hi : Int} {offs : Array Int} (hf : opAt k j = (.tableswitch d lo hi offs, pl, ns, z, sw)) {M : MM} : wpc k j ls (vI x :: st) b M Q ↔ swP x (ns.getD 0 0) (fun t => wpc k t ls st b M Q) sw := (wpc_nx (j' := swT x (ns.getD 0 0) sw) (by rw [hf]; rfl)).trans (swP_eq x _ (fun t => wpc k t ls st b M Q) sw).symm
theorem w_lsw {x d : Int} {ps : Array (Int × Int)} (hf : opAt k j = (.lookupswitch d ps, pl, ns, z, sw)) {M : MM} : wpc k j ls (vI x :: st) b M Q ↔ swP x (ns.getD 0 0) (fun t => wpc k t ls st b M Q) sw := (wpc_nx (j' := swT x (ns.getD 0 0) sw) (by rw [hf]; rfl)).trans (swP_eq x _ (fun t => wpc k t ls st b M Q) sw).symm
-- divisions
theorem w_idiv {x y : Int} (hf : opAt k j = (.idiv, pl, ns, z, sw)) {M : MM} : wpc k j ls (vI y :: vI x :: st) b M Q ↔ ¬ y = 0 ∧ wpc k (j + 1) ls (vI (w32 (x.tdiv y)) :: st) b M Q := w_gd (c := decide (¬ y = 0)) decide_eq_true_iff (by rw [hf]; rfl)
theorem w_irem {x y : Int} (hf : opAt k j = (.irem, pl, ns, z, sw)) {M : MM} : wpc k j ls (vI y :: vI x :: st) b M Q ↔ ¬ y = 0 ∧ wpc k (j + 1) ls (vI (x.tmod y) :: st) b M Q := w_gd (c := decide (¬ y = 0)) decide_eq_true_iff (by rw [hf]; rfl)
theorem w_ldiv {x y : Int64} (hf : opAt k j = (.ldiv, pl, ns, z, sw)) {M : MM} : wpc k j ls (vL y :: vL x :: st) b M Q ↔ ¬ y = 0 ∧ wpc k (j + 1) ls (vL (x / y) :: st) b M Q := w_gd (c := decide (¬ y = 0)) decide_eq_true_iff (by rw [hf]; rfl)
theorem w_lrem {x y : Int64} (hf : opAt k j = (.lrem, pl, ns, z, sw)) {M : MM} : wpc k j ls (vL y :: vL x :: st) b M Q ↔ ¬ y = 0 ∧ wpc k (j + 1) ls (vL (x - x / y * y) :: st) b M Q := w_gd (c := decide (¬ y = 0)) decide_eq_true_iff (by rw [hf]; rfl)
-- fields
theorem w_gI {y a ci fk ft : Nat} (hf : opAt k j = (.getfield y, pl, [ci, fk, ft], z, sw)) (ht : ft = 0 ∨ ft = 1) (hk : kd S a = ci) : wpc k j ls (vR (some a) :: st) b (S, R, I, J) Q ↔ wpc k (j + 1) ls (vI (I a fk) :: st) b (S, R, I, J) Q := by
  subst hk
  rcases ht with rfl | rfl
  · exact wpc_nx (by rw [hf]; show gd (decide (kd S a = kd S a)) _ = _; rw [decide_eq_true rfl]; rfl)
  · exact wpc_nx (by rw [hf]; show gd (decide (kd S a = kd S a)) _ = _; rw [decide_eq_true rfl]; rfl)
theorem w_gJ {y a ci fk : Nat} (hf : opAt k j = (.getfield y, pl, [ci, fk, 2], z, sw)) (hk : kd S a = ci) : wpc k j ls (vR (some a) :: st) b (S, R, I, J) Q ↔ wpc k (j + 1) ls (vL (J a fk) :: st) b (S, R, I, J) Q := by
  subst hk
  exact wpc_nx (by rw [hf]; show gd (decide (kd S a = kd S a)) _ = _; rw [decide_eq_true rfl]; rfl)
theorem w_gR {y a ci fk : Nat} {q : Option Nat} (hf : opAt k j = (.getfield y, pl, [ci, fk, 3], z, sw)) (hk : kd S a = ci) (hq : R a fk = q) : wpc k j ls (vR (some a) :: st) b (S, R, I, J) Q ↔ wpc k (j + 1) ls (vR q :: st) b (S, R, I, J) Q := by
  subst hk; subst hq
  exact wpc_nx (by rw [hf]; show gd (decide (kd S a = kd S a)) _ = _; rw [decide_eq_true rfl]; rfl)
theorem w_gS {y a ci fk : Nat} {q : Option Nat} (hf : opAt k j = (.getfield y, pl, [ci, fk, 4], z, sw)) (hk : kd S a = ci) (hq : fz S a fk = q) : wpc k j ls (vR (some a) :: st) b (S, R, I, J) Q ↔ wpc k (j + 1) ls (vR q :: st) b (S, R, I, J) Q := by
  subst hk; subst hq
  exact wpc_nx (by rw [hf]; show gd (decide (kd S a = kd S a)) _ = _; rw [decide_eq_true rfl]; rfl)
theorem w_pI {y a ci fk : Nat} {v : Int} (hf : opAt k j = (.putfield y, pl, [ci, fk, 0], z, sw)) (hk : kd S a = ci) : wpc k j ls (vI v :: vR (some a) :: st) b (S, R, I, J) Q ↔ wpc k (j + 1) ls st b (S, R, upM I a fk v, J) Q := by
  subst hk
  exact wpc_nx (by rw [hf]; show gd (decide (kd S a = kd S a)) _ = _; rw [decide_eq_true rfl]; rfl)
theorem w_pZ {y a ci fk : Nat} {v : Int} (hf : opAt k j = (.putfield y, pl, [ci, fk, 1], z, sw)) (hk : kd S a = ci) (hv : v = 0 ∨ v = 1) : wpc k j ls (vI v :: vR (some a) :: st) b (S, R, I, J) Q ↔ wpc k (j + 1) ls st b (S, R, upM I a fk v, J) Q := by
  subst hk
  have h1 : z01 v = true := by unfold z01; rcases hv with rfl | rfl <;> rfl
  exact wpc_nx (by rw [hf]; show gd (decide (kd S a = kd S a) && z01 v) _ = _; rw [decide_eq_true rfl, h1]; rfl)
theorem w_pJ {y a ci fk : Nat} {v : Int64} (hf : opAt k j = (.putfield y, pl, [ci, fk, 2], z, sw)) (hk : kd S a = ci) : wpc k j ls (vL v :: vR (some a) :: st) b (S, R, I, J) Q ↔ wpc k (j + 1) ls st b (S, R, I, upM J a fk v) Q := by
  subst hk
  exact wpc_nx (by rw [hf]; show gd (decide (kd S a = kd S a)) _ = _; rw [decide_eq_true rfl]; rfl)
theorem w_pR {y a ci fk : Nat} {v : Option Nat} (hf : opAt k j = (.putfield y, pl, [ci, fk, 3], z, sw)) (hk : kd S a = ci) : wpc k j ls (vR v :: vR (some a) :: st) b (S, R, I, J) Q ↔ wpc k (j + 1) ls st b (S, upM R a fk v, I, J) Q := by
  subst hk
  exact wpc_nx (by rw [hf]; show gd (decide (kd S a = kd S a)) _ = _; rw [decide_eq_true rfl]; rfl)
theorem w_pS {y a ci fk : Nat} {v : Option Nat} (hf : opAt k j = (.putfield y, pl, [ci, fk, 4], z, sw)) (hk : kd S a = ci) (hl : fk < frL S a) : wpc k j ls (vR v :: vR (some a) :: st) b (S, R, I, J) Q ↔ wpc k (j + 1) ls st b (setFz S a fk v, R, I, J) Q := by
  subst hk
  exact wpc_nx (by rw [hf]; show gd (decide (kd S a = kd S a) && decide (fk < frL S a)) _ = _; rw [decide_eq_true rfl, decide_eq_true hl]; rfl)
-- arrays
theorem inB_iff {a n : Nat} {i : Int} (hn : ln S a = n) : inB S a i = true ↔ (0 ≤ i ∧ i < (n : Int)) := by
  unfold inB
  rw [hn]
  simp only [Bool.and_eq_true, decide_eq_true_eq]
theorem w_iald {a n : Nat} {i : Int} (hf : opAt k j = (.iaload, pl, ns, z, sw)) (hk : kd S a = 20 ∨ kd S a = 19) (hn : ln S a = n) : wpc k j ls (vI i :: vR (some a) :: st) b (S, R, I, J) Q ↔ (0 ≤ i ∧ i < (n : Int)) ∧ wpc k (j + 1) ls (vI (I a i) :: st) b (S, R, I, J) Q := by
  refine w_gd (c := (decide (kd S a = 20) || decide (kd S a = 19)) && inB S a i) ?_ (by rw [hf]; rfl)
  rw [Bool.and_eq_true, inB_iff hn, Bool.or_eq_true, decide_eq_true_eq, decide_eq_true_eq]
  exact ⟨fun h => h.2, fun h => ⟨hk, h⟩⟩
theorem w_bald {a n : Nat} {i : Int} (hf : opAt k j = (.baload, pl, ns, z, sw)) (hk : kd S a = 21 ∨ kd S a = 22) (hn : ln S a = n) : wpc k j ls (vI i :: vR (some a) :: st) b (S, R, I, J) Q ↔ (0 ≤ i ∧ i < (n : Int)) ∧ wpc k (j + 1) ls (vI (I a i) :: st) b (S, R, I, J) Q := by
  refine w_gd (c := (decide (kd S a = 21) || decide (kd S a = 22)) && inB S a i) ?_ (by rw [hf]; rfl)
  rw [Bool.and_eq_true, inB_iff hn, Bool.or_eq_true, decide_eq_true_eq, decide_eq_true_eq]
  exact ⟨fun h => h.2, fun h => ⟨hk, h⟩⟩
theorem w_aaldF {a n kk : Nat} {i : Int} {f : Int → Nat} (hf : opAt k j = (.aaload, pl, ns, z, sw)) (hk : kd S a = kk) (h1 : frK kk = true) (hn : ln S a = n) (hv : ∀ i : Int, 0 ≤ i → i < (n : Int) → fz S a i.toNat = some (f i)) : wpc k j ls (vI i :: vR (some a) :: st) b (S, R, I, J) Q ↔ (0 ≤ i ∧ i < (n : Int)) ∧ wpc k (j + 1) ls (vR (some (f i)) :: st) b (S, R, I, J) Q := by
  have hkk : 23 ≤ kk ∧ kk ≤ 27 := by
    unfold frK at h1
    simp only [Bool.or_eq_true, beq_iff_eq] at h1
    omega
  have e1 : wpc k j ls (vI i :: vR (some a) :: st) b (S, R, I, J) Q ↔ (0 ≤ i ∧ i < (n : Int)) ∧ wpc k (j + 1) ls (vR (fz S a i.toNat) :: st) b (S, R, I, J) Q := by
    refine w_gd (c := decide (23 ≤ kd S a) && decide (kd S a ≤ 27) && inB S a i) ?_ (by rw [hf]; show gd _ (nx (j + 1) ls (vR (if frK (kd S a) = true then fz S a i.toNat else R a i) :: st) b (S, R, I, J)) = _; rw [hk, if_pos h1])
    rw [Bool.and_eq_true, inB_iff hn, Bool.and_eq_true, decide_eq_true_eq, decide_eq_true_eq, hk]
    exact ⟨fun h => h.2, fun h => ⟨hkk, h⟩⟩
  rw [e1]
  exact and_congr_right fun h => by rw [hv i h.1 h.2]
theorem w_aaldD {a n : Nat} {i : Int} {q : Option Nat} (hf : opAt k j = (.aaload, pl, ns, z, sw)) (hk : kd S a = 26) (hn : ln S a = n) (hq : R a i = q) : wpc k j ls (vI i :: vR (some a) :: st) b (S, R, I, J) Q ↔ (0 ≤ i ∧ i < (n : Int)) ∧ wpc k (j + 1) ls (vR q :: st) b (S, R, I, J) Q := by
  subst hq
  refine w_gd (c := decide (23 ≤ kd S a) && decide (kd S a ≤ 27) && inB S a i) ?_ (by rw [hf]; show gd _ (nx (j + 1) ls (vR (if frK (kd S a) = true then fz S a i.toNat else R a i) :: st) b (S, R, I, J)) = _; rw [hk, if_neg (by decide)])
  rw [Bool.and_eq_true, inB_iff hn, Bool.and_eq_true, decide_eq_true_eq, decide_eq_true_eq, hk]
  exact ⟨fun h => h.2, fun h => ⟨⟨by decide, by decide⟩, h⟩⟩
theorem w_iast {a n : Nat} {i v : Int} (hf : opAt k j = (.iastore, pl, ns, z, sw)) (hk : kd S a = 20) (hn : ln S a = n) : wpc k j ls (vI v :: vI i :: vR (some a) :: st) b (S, R, I, J) Q ↔ (0 ≤ i ∧ i < (n : Int)) ∧ wpc k (j + 1) ls st b (S, R, upM I a i v, J) Q := by
  refine w_gd (c := decide (kd S a = 20) && inB S a i) ?_ (by rw [hf]; rfl)
  rw [Bool.and_eq_true, inB_iff hn, decide_eq_true_eq]
  exact ⟨fun h => h.2, fun h => ⟨hk, h⟩⟩
theorem w_bast {a n : Nat} {i v : Int} (hf : opAt k j = (.bastore, pl, ns, z, sw)) (hk : kd S a = 21 ∨ (kd S a = 22 ∧ z01 v = true)) (hn : ln S a = n) : wpc k j ls (vI v :: vI i :: vR (some a) :: st) b (S, R, I, J) Q ↔ (0 ≤ i ∧ i < (n : Int)) ∧ wpc k (j + 1) ls st b (S, R, upM I a i (ib8 v), J) Q := by
  refine w_gd (c := (decide (kd S a = 21) || (decide (kd S a = 22) && z01 v)) && inB S a i) ?_ (by rw [hf]; rfl)
  rw [Bool.and_eq_true, inB_iff hn, Bool.or_eq_true, Bool.and_eq_true, decide_eq_true_eq, decide_eq_true_eq]
  exact ⟨fun h => h.2, fun h => ⟨hk, h⟩⟩
theorem w_aastD {a n v : Nat} {i : Int} (hf : opAt k j = (.aastore, pl, ns, z, sw)) (hk : kd S a = 26) (hv : kd S v = 3) (hn : ln S a = n) : wpc k j ls (vR (some v) :: vI i :: vR (some a) :: st) b (S, R, I, J) Q ↔ (0 ≤ i ∧ i < (n : Int)) ∧ wpc k (j + 1) ls st b (S, upM R a i (some v), I, J) Q := by
  refine w_gd (c := decide (23 ≤ kd S a) && decide (kd S a ≤ 26) && decide (kd S v = elK (kd S a)) && inB S a i && (!frK (kd S a) || decide (i.toNat < frL S a))) ?_ (by rw [hf]; show gd _ (nx (j + 1) ls st b (if frK (kd S a) = true then _ else _)) = _; rw [hk, if_neg (by decide)])
  rw [hk, hv]
  simp only [Bool.and_eq_true, inB_iff hn, decide_eq_true_eq, Bool.or_eq_true]
  exact ⟨fun h => h.1.2, fun h => ⟨⟨⟨⟨by decide, by decide⟩, by decide⟩, h⟩, Or.inl (by decide)⟩⟩
theorem w_alen {a n : Nat} (hf : opAt k j = (.arraylength, pl, ns, z, sw)) (hk : kd S a = 20 ∨ kd S a = 19) (hn : ln S a = n) : wpc k j ls (vR (some a) :: st) b (S, R, I, J) Q ↔ wpc k (j + 1) ls (vI (n : Int) :: st) b (S, R, I, J) Q := by
  subst hn
  refine wpc_nx (by rw [hf]; show gd (decide (19 ≤ kd S a) && decide (kd S a ≤ 22)) _ = _; rcases hk with h | h <;> rw [h] <;> rfl)
-- answers
theorem w_iret {v : Int} (hf : opAt k j = (.ireturn, pl, [0], z, sw)) {M : MM} : wpc k j ls [vI v] b M Q ↔ Q (some (vI v)) M := wpc_ret (by rw [hf]; rfl)
theorem w_zret {v : Int} (hf : opAt k j = (.ireturn, pl, [1], z, sw)) {M : MM} : wpc k j ls [vI v] b M Q ↔ (v = 0 ∨ v = 1) ∧ Q (some (vI v)) M := by
  have e1 : mstep (opAt k j) j ls [vI v] b M = gd (z01 v) (some (Sum.inr (Sum.inr (some (vI v))))) := by rw [hf]; rfl
  by_cases h : v = 0 ∨ v = 1
  · have h1 : z01 v = true := by unfold z01; rcases h with rfl | rfl <;> rfl
    rw [wpc_ret (v := some (vI v)) (by rw [e1, h1]; rfl)]
    exact ⟨fun q => ⟨h, q⟩, fun q => q.2⟩
  · have h1 : ¬ z01 v = true := by unfold z01; simp only [Bool.or_eq_true, decide_eq_true_eq]; exact h
    rw [wpc_no (by rw [e1]; unfold gd; rw [if_neg h1])]
    exact ⟨fun q => False.elim q, fun q => h q.1⟩
theorem w_zret1 {v : Int} (hf : opAt k j = (.ireturn, pl, [1], z, sw)) (hv : v = 0 ∨ v = 1) {M : MM} : wpc k j ls [vI v] b M Q ↔ Q (some (vI v)) M := (w_zret hf).trans ⟨fun q => q.2, fun q => ⟨hv, q⟩⟩
theorem w_lret {v : Int64} (hf : opAt k j = (.lreturn, pl, ns, z, sw)) {M : MM} : wpc k j ls [vL v] b M Q ↔ Q (some (vL v)) M := wpc_ret (by rw [hf]; rfl)
theorem w_aret {v : Option Nat} (hf : opAt k j = (.areturn, pl, ns, z, sw)) {M : MM} : wpc k j ls [vR v] b M Q ↔ Q (some (vR v)) M := wpc_ret (by rw [hf]; rfl)
theorem w_vret (hf : opAt k j = (.return_, pl, ns, z, sw)) {M : MM} : wpc k j ls [] b M Q ↔ Q none M := wpc_ret (by rw [hf]; rfl)
-- calls that make no cells, and the nop behind them
theorem w_cv {y a k' n ci ne mx : Nat} {as2 st' ls' : List MV} {pl2 : Nat × Nat} {ns2 : List Nat} {z2 : Int} {sw2 : List (Int × Nat)} (hf : opAt k j = (.invokevirtual y, pl, [k', n, ci, 0, 0, ne, mx], z, sw)) (h1 : st = (vR (some a) :: as2).reverse ++ st') (h2 : as2.length + 1 = n) (h3 : st'.length ≤ 4) (h4 : (flL (vR (some a) :: as2)).length ≤ mx) (hk : kd S a = ci) (hf2 : opAt k (j + 1) = (.nop, pl2, ns2, z2, sw2)) (h5 : killL ls ns2 = ls') : wpc k j ls st b (S, R, I, J) Q ↔ wpC k' (vR (some a) :: as2) (S, R, I, J) (fun v M2 => wpc k (j + 2) ls' (v.toList ++ st') b M2 Q) := by
  have e0 : st.take n = (vR (some a) :: as2).reverse := by rw [h1, List.take_append_of_le_length (by simp; omega), List.take_of_length_le (by simp; omega)]
  have e9 : st.drop n = st' := by rw [h1, List.drop_append_of_le_length (by simp; omega), List.drop_of_length_le (by simp; omega)]; rfl
  have e1 : mstep (opAt k j) j ls st b (S, R, I, J) = some (Sum.inr (Sum.inl (k', vR (some a) :: as2, (j + 1, ls, st', b, (S, R, I, J))))) := by
    rw [hf]
    show mInv k' n (some ci) 0 0 mx j ls st b (S, R, I, J) = _
    unfold mInv
    rw [e0, e9, List.reverse_reverse]
    have hl : n ≤ st.length := by rw [h1]; simp; omega
    simp only [hl, h3, h4, hk, decide_true, Nat.zero_le, Bool.and_self, gd, if_true]
    rfl
  rw [wpc_call e1]
  have e2 : (fun v M2 => wpc k (j + 1) ls (Option.toList v ++ st') b M2 Q) = (fun v M2 => wpc k (j + 2) ls' (Option.toList v ++ st') b M2 Q) := by
    funext v M2
    exact propext (wpc_nx (by rw [hf2]; subst h5; rfl))
  rw [e2]
theorem w_cs {y k' n ci ne mx : Nat} {as st' ls' : List MV} {pl2 : Nat × Nat} {ns2 : List Nat} {z2 : Int} {sw2 : List (Int × Nat)} (hf : opAt k j = (.invokestatic y, pl, [k', n, ci, 0, 0, ne, mx], z, sw)) (h1 : st = as.reverse ++ st') (h2 : as.length = n) (h3 : st'.length ≤ 4) (h4 : (flL as).length ≤ mx) (hf2 : opAt k (j + 1) = (.nop, pl2, ns2, z2, sw2)) (h5 : killL ls ns2 = ls') {M : MM} : wpc k j ls st b M Q ↔ wpC k' as M (fun v M2 => wpc k (j + 2) ls' (v.toList ++ st') b M2 Q) := by
  have e0 : st.take n = as.reverse := by rw [h1, List.take_append_of_le_length (by simp; omega), List.take_of_length_le (by simp; omega)]
  have e9 : st.drop n = st' := by rw [h1, List.drop_append_of_le_length (by simp; omega), List.drop_of_length_le (by simp; omega)]; rfl
  have e1 : mstep (opAt k j) j ls st b M = some (Sum.inr (Sum.inl (k', as, (j + 1, ls, st', b, M)))) := by
    rw [hf]
    show mInv k' n none 0 0 mx j ls st b M = _
    unfold mInv
    rw [e0, e9, List.reverse_reverse]
    have hl : n ≤ st.length := by rw [h1]; simp; omega
    simp only [hl, h3, h4, decide_true, Nat.zero_le, Bool.and_self, gd, if_true]
    rfl
  rw [wpc_call e1]
  have e2 : (fun v M2 => wpc k (j + 1) ls (Option.toList v ++ st') b M2 Q) = (fun v M2 => wpc k (j + 2) ls' (Option.toList v ++ st') b M2 Q) := by
    funext v M2
    exact propext (wpc_nx (by rw [hf2]; subst h5; rfl))
  rw [e2]
end RULES
end
section
-- ===== end of PART A; then your names; then what follows =====
def R_law : String := "DictProofLaw"
def lw_P (b : Addr) (xs : List Int32) (args : Array Value) (s : State) : Prop := args = #[.ref b] ∧ s.IntsAt b xs ∧ xs.length ≤ 2560 ∧ (Jvm.Cond.and given_1 narrow_1).before args s = true
def lw_Q (_ : Array Value) (s : State) (o : Outcome) (t : State) : Prop := o = .returned (some (.int 1)) ∧ Framed s o t [] 600000 7302250
def lw_Z (below : List Frame) (a : Array Value) (s : State) : State → Prop := fun t => ∃ o, t.status = .running ∧ Ended t below o ∧ lw_Q a s o t
/-- the law's own end, with 1 on the stack, nothing written that was there before, its room as the claim has it -/
theorem lw_ret {p : Program} {l : Launch} {e : Env} {s : State} {m : MethodId} {below : List Frame} {meth : Method} {c : Code} {b : Nat} (hx : p.tables.exec = Jvm.exec) (hb : c.code = code) (hr : meth.sig.returnType = ret) (hlocks : meth.locks = false) {pc : Nat} {H : Heap} {ls : Array Slot} (hdg : decode code pc = .ok (.ireturn, 1)) : W p l e room_1 s m #[Value.ref b] below meth c H [] 600000 7302250 (lw_Z below #[Value.ref b] s) (F0 m pc ls [.int 1]) := by
  intro T hT X
  obtain ⟨fs, hret, hrun, hended, hW, hframe⟩ := X.leave (v := some (.int 1)) (hlocks := hlocks) (fun h => by rw [hr] at h; cases h)
  have hmeth' : T.vm.method? m = some meth := X.method'
  refine ⟨T.setFrames fs, ?_, .returned (some (.int 1)), hrun, hended, rfl, ⟨_, rfl⟩, hW, hframe⟩
  jvm_step X.here [X.here.top, hx, hb, hdg, hmeth', hr, ret, narrow_b1]
  (try refine ⟨rfl, ?_⟩); (try refine ⟨rfl, ?_⟩)
  first | (intro acts; rw [hret _ acts rfl rfl rfl]) | rw [hret _ _ rfl rfl rfl]
  exact Steps.refl _
/-- what holds at the law's entry: the machine, the code, the tables' words (any of lw_tbl by 'hts w (by decide +kernel)'), the script of L ints xs at the cell b, what the Statement gives of the start (any of its parts by flat_of_before) -/
def lw_At (p : Program) (s : State) (m : MethodId) (meth : Method) (c : Code) (b L : Nat) (xs : Nat → Int32) : Prop :=
  p.tables.exec = Jvm.exec ∧ c.code = code ∧ meth.sig.returnType = ret ∧ c.maxLocals = 4 ∧ s.vm.findClass R_law = some m.cls ∧ (∀ w ∈ lw_tbl, w.before #[Value.ref b] s = true) ∧ va_X b L xs s s.heap ∧ b < s.heap.size ∧ meth.locks = false ∧ (Jvm.Cond.and given_1 narrow_1).before #[Value.ref b] s = true
-- ===== the memory at the law's entry =====
def so4 : List Int := [8, 27, 9, 17]
def pa6 : List Int := [0, 0, 1, 2, 0, 0]
def S00 (L : Nat) : MS := [(19, L, []), (19, 4, []), (19, 6, [])]
def I00 (L : Nat) (xs : Nat → Int32) : Nat → Int → Int := fun a i => match a with
  | 0 => if 0 ≤ i ∧ i < (L : Int) then (xs i.toNat).toInt else 0
  | 1 => so4.getD i.toNat 0
  | 2 => pa6.getD i.toNat 0
  | _ => 0
def M00 (L : Nat) (xs : Nat → Int32) : MM := (S00 L, fun _ _ => none, I00 L xs, fun _ _ => 0)
theorem I00_r (L : Nat) (xs : Nat → Int32) (a : Nat) (i : Int) : inR (I00 L xs a i) := by
  unfold I00
  split
  · split
    · exact inR_t _
    · exact inR_0
  · have : ∀ n, inR (so4.getD n 0) := fun n => by
      match n with
      | 0 => unfold inR; decide
      | 1 => unfold inR; decide
      | 2 => unfold inR; decide
      | 3 => unfold inR; decide
      | n + 4 => exact inR_0
    exact this _
  · have : ∀ n, inR (pa6.getD n 0) := fun n => by
      match n with
      | 0 => unfold inR; decide
      | 1 => unfold inR; decide
      | 2 => unfold inR; decide
      | 3 => unfold inR; decide
      | 4 => unfold inR; decide
      | 5 => unfold inR; decide
      | n + 6 => exact inR_0
    exact this _
  · exact inR_0
/-- the static array of a name, out of what the Statement gives of the start -/
theorem stat_arr {args : Array Value} {s : State} {C n : String} {N : Nat} {f : Nat → Value} {A : Nat → Prop} (hN : N < 2 ^ 31) (hl : (Cond.laysStatic C n "[I").before args s = true) (hini : (Cond.initialized C).before args s = true) (harr : (Cond.arrayOf (.static C n "[I") .int).before args s = true) (hlen : (Cond.eq (.length (.static C n "[I")) (.int (Int32.ofNat N))).before args s = true) (hel : ∀ j : Nat, j < N → (Term.elem (.static C n "[I") (.int (Int32.ofNat j))).eval args s none [] s = some (f j)) (hA : ∀ a : Nat, a < s.heap.size → ¬ A a) : ∃ t : Nat, t < s.heap.size ∧ va_Z C n "[I" (.ref t) A s s.heap ∧ arrOK s s.heap t .int N f := by
  obtain ⟨t, ht, cell, c1, c2, c3, c4, c5, c6, c7⟩ := va_Tof hN harr (va_eqt hlen) hel hA
  exact ⟨t, (Array.getElem?_eq_some_iff.mp c1).1, va_Zof hl hini ht hA, cell, c1, c2, c3, ⟨c4, c5⟩, c6, trivial⟩
set_option maxRecDepth 20000 in
theorem lay_in {c : Nat} (hc : c < 10) : ∀ w ∈ u_ws (cnm c) (cT c) (cN c), w ∈ lw_tbl := fun w hw => (List.mem_filter.mp (lay_ok c hc w hw)).1
set_option maxHeartbeats 4000000 in
set_option maxRecDepth 20000 in
/-- the start: the mini-machine's memory stands for the heap -/
theorem rep_start {p : Program} {s : State} {m : MethodId} {meth : Method} {c : Code} {b L : Nat} {xs : Nat → Int32} (hL : L ≤ 2560) (C0 : lw_At p s m meth c b L xs) : ∃ (g : GA) (D : va_G), gB g = s.heap.size ∧ g.1 = b ∧ Rep g D s (M00 L xs) s.heap ∧ Cx D p room_1 s m #[Value.ref b] meth c 0 := by
  obtain ⟨hx, hb, hr, hml, hown, hts, hX, hbl, hlocks, hgv⟩ := id C0
  have hs := flat_of_before _ hgv
  have hA : ∀ a : Nat, a < s.heap.size → ¬ (fun q : Nat => s.heap.size ≤ q) a := fun a ha h => Nat.lt_irrefl _ (Nat.lt_of_lt_of_le ha h)
  obtain ⟨t1, ht1, hz1, ha1⟩ := stat_arr (C := "DictProof") (n := "SO_OF_KINDS") (N := 4) (f := fun i => .int (Int32.ofInt (so4.getD i 0))) (A := fun q => s.heap.size ≤ q) (by decide) (hts _ ls_1) (hts _ (List.mem_filter.mp ini_8).1) (hs _ (by decide +kernel)) (hs _ (by decide +kernel)) (fun i hi => by
    match i, hi with
    | 0, _ => exact va_eqt (hs (Cond.eq (.elem (.static "DictProof" "SO_OF_KINDS" "[I") (.int 0)) (.int 8)) (by decide +kernel))
    | 1, _ => exact va_eqt (hs (Cond.eq (.elem (.static "DictProof" "SO_OF_KINDS" "[I") (.int 1)) (.int 27)) (by decide +kernel))
    | 2, _ => exact va_eqt (hs (Cond.eq (.elem (.static "DictProof" "SO_OF_KINDS" "[I") (.int 2)) (.int 9)) (by decide +kernel))
    | 3, _ => exact va_eqt (hs (Cond.eq (.elem (.static "DictProof" "SO_OF_KINDS" "[I") (.int 3)) (.int 17)) (by decide +kernel))
    | i + 4, h => omega) hA
  obtain ⟨t2, ht2, hz2, ha2⟩ := stat_arr (C := "DictProof$Shape") (n := "PARTS") (N := 6) (f := fun i => .int (Int32.ofInt (pa6.getD i 0))) (A := fun q => s.heap.size ≤ q) (by decide) (hts _ ls_2) (hts _ (List.mem_filter.mp ini_7).1) (hs _ (by decide +kernel)) (hs _ (by decide +kernel)) (fun i hi => by
    match i, hi with
    | 0, _ => exact va_eqt (hs (Cond.eq (.elem (.static "DictProof$Shape" "PARTS" "[I") (.int 0)) (.int 0)) (by decide +kernel))
    | 1, _ => exact va_eqt (hs (Cond.eq (.elem (.static "DictProof$Shape" "PARTS" "[I") (.int 1)) (.int 0)) (by decide +kernel))
    | 2, _ => exact va_eqt (hs (Cond.eq (.elem (.static "DictProof$Shape" "PARTS" "[I") (.int 2)) (.int 1)) (by decide +kernel))
    | 3, _ => exact va_eqt (hs (Cond.eq (.elem (.static "DictProof$Shape" "PARTS" "[I") (.int 3)) (.int 2)) (by decide +kernel))
    | 4, _ => exact va_eqt (hs (Cond.eq (.elem (.static "DictProof$Shape" "PARTS" "[I") (.int 4)) (.int 0)) (by decide +kernel))
    | 5, _ => exact va_eqt (hs (Cond.eq (.elem (.static "DictProof$Shape" "PARTS" "[I") (.int 5)) (.int 0)) (by decide +kernel))
    | i + 6, h => omega) hA
  have hkn : ∀ c : Nat, ∃ q : ClassId × (Nat → Nat), c < 10 → u_Kn s (cnm c) (cT c) (cN c) q.1 q.2 := by
    intro c
    by_cases hc : c < 10
    · obtain ⟨cC, iS, h⟩ := u_known hts (lay_in hc) (hts _ (List.mem_filter.mp (ins_ok c hc)).1)
      exact ⟨(cC, iS), fun _ => h⟩
    · exact ⟨(0, fun _ => 0), fun h => absurd h hc⟩
  have hch : ∃ F : Nat → ClassId × (Nat → Nat), ∀ c, c < 10 → u_Kn s (cnm c) (cT c) (cN c) (F c).1 (F c).2 := ⟨fun c => (hkn c).choose, fun c => (hkn c).choose_spec⟩
  obtain ⟨F, hF⟩ := hch
  have hKn : Kn (fun c => (F c).1, fun c => (F c).2) s := by
    refine ⟨⟨fun c q hq => ?_, fun k q h => by simp at h⟩, fun o e he => va_Nw.of rfl (hts _ (nl_ok o e he)), va_AO.of (hts _ ao_Rule), va_AO.of (hts _ ao_Shape), va_AO.of (hts _ ao_Goal), hts _ ao_int⟩
    have hc : c < 10 := by
      have := (List.getElem?_eq_some_iff.mp hq).1
      exact this
    cases hq.symm.trans (vw_at hc)
    exact hF c hc
  refine ⟨(b, t1, t2, s.heap.size), (fun c => (F c).1, fun c => (F c).2), rfl, rfl, ?_, hx, hb, hml, hown, fun w hw => hts w (List.mem_filter.mp hw).1, hKn, fun h => absurd h (by decide +kernel), by decide +kernel, by decide +kernel⟩
  refine ⟨fun a e he => ?_, fun a ha => ?_, Nat.le_refl 3, rfl, fun a i => I00_r L xs a i, ⟨hbl, ht1, ht2⟩, hz1, hz2⟩
  · match a, he with
    | 0, he =>
      cases he
      refine ⟨fun h => absurd h (by show ¬ 19 < 10; decide), fun _ => ⟨by show 19 ≤ 19 ∧ 19 ≤ 27; decide, ?_⟩, by show L ≤ 100000; omega⟩
      obtain ⟨scr, x1, x2, x3, x4, x5⟩ := hX
      refine ⟨scr, x1, x2, x3, ⟨Nat.le_of_eq x4.symm, by rw [x4] <;> rfl⟩, fun i hi => ?_, trivial⟩
      rw [x5 i hi]
      show some (Value.int (xs i)) = some (Value.int (Int32.ofInt (if 0 ≤ (i : Int) ∧ (i : Int) < (L : Int) then (xs (i : Int).toNat).toInt else 0)))
      have hi : i < L := hi
      rw [if_pos (by omega), Int.toNat_natCast, oi_t]
    | 1, he =>
      cases he
      exact ⟨fun h => absurd h (by decide), fun _ => ⟨by decide, ha1⟩, by decide⟩
    | 2, he =>
      cases he
      exact ⟨fun h => absurd h (by decide), fun _ => ⟨by decide, ha2⟩, by decide⟩
    | a + 3, he => cases he
  · match a, ha with
    | 0, _ => rfl
    | 1, _ => rfl
    | 2, _ => rfl
    | a + 3, h => omega
end
