section
-- ===== PART A: goes FIRST, ahead of the names: the tables' words, and 'selects' of the private methods out of them =====
/-- a private method of a class that the tables say can be made, by its rows of tables_1 -/
def lw_okq (q : MethodName × Nat) : Prop := (q.1.cls ≠ "java/lang/invoke/MethodHandle" ∧ q.1.cls ≠ "java/lang/invoke/VarHandle") ∧ Cond.instantiable q.1.cls q.2 ∈ tables_1 ∧ Cond.privateMethod q.1 ∈ tables_1 ∧ Cond.instanceMethod q.1 ∈ tables_1
theorem lw_p0 : lw_okq (⟨"java/lang/Throwable", "fillInStackTrace", "(I)Ljava/lang/Throwable;"⟩, 6) := ⟨⟨by decide +kernel, by decide +kernel⟩, List.mem_of_getElem? (i := 206) (by decide +kernel), List.mem_of_getElem? (i := 204) (by decide +kernel), List.mem_of_getElem? (i := 205) (by decide +kernel)⟩
theorem lw_p1 : lw_okq (⟨"ExtentTree$Tree", "find", "(I)V"⟩, 11) := ⟨⟨by decide +kernel, by decide +kernel⟩, List.mem_of_getElem? (i := 81) (by decide +kernel), List.mem_of_getElem? (i := 240) (by decide +kernel), List.mem_of_getElem? (i := 241) (by decide +kernel)⟩
theorem lw_p2 : lw_okq (⟨"ExtentTree$Node", "word", "(II)I"⟩, 6) := ⟨⟨by decide +kernel, by decide +kernel⟩, List.mem_of_getElem? (i := 37) (by decide +kernel), List.mem_of_getElem? (i := 252) (by decide +kernel), List.mem_of_getElem? (i := 253) (by decide +kernel)⟩
theorem lw_p3 : lw_okq (⟨"ExtentTree$Tree", "runEnd", "()I"⟩, 11) := ⟨⟨by decide +kernel, by decide +kernel⟩, List.mem_of_getElem? (i := 81) (by decide +kernel), List.mem_of_getElem? (i := 269) (by decide +kernel), List.mem_of_getElem? (i := 270) (by decide +kernel)⟩
theorem lw_p4 : lw_okq (⟨"ExtentTree$Tree", "runFirst", "()I"⟩, 11) := ⟨⟨by decide +kernel, by decide +kernel⟩, List.mem_of_getElem? (i := 81) (by decide +kernel), List.mem_of_getElem? (i := 273) (by decide +kernel), List.mem_of_getElem? (i := 274) (by decide +kernel)⟩
theorem lw_p5 : lw_okq (⟨"ExtentTree$Tree", "runLength", "()I"⟩, 11) := ⟨⟨by decide +kernel, by decide +kernel⟩, List.mem_of_getElem? (i := 81) (by decide +kernel), List.mem_of_getElem? (i := 278) (by decide +kernel), List.mem_of_getElem? (i := 279) (by decide +kernel)⟩
theorem lw_p6 : lw_okq (⟨"ExtentTree$Tree", "countMapped", "(IZ)V"⟩, 11) := ⟨⟨by decide +kernel, by decide +kernel⟩, List.mem_of_getElem? (i := 81) (by decide +kernel), List.mem_of_getElem? (i := 331) (by decide +kernel), List.mem_of_getElem? (i := 332) (by decide +kernel)⟩
theorem lw_p7 : lw_okq (⟨"ExtentTree$Tree", "lengthToJoinBefore", "(IIIZ)I"⟩, 11) := ⟨⟨by decide +kernel, by decide +kernel⟩, List.mem_of_getElem? (i := 81) (by decide +kernel), List.mem_of_getElem? (i := 335) (by decide +kernel), List.mem_of_getElem? (i := 336) (by decide +kernel)⟩
theorem lw_p8 : lw_okq (⟨"ExtentTree$Tree", "runVolume", "()I"⟩, 11) := ⟨⟨by decide +kernel, by decide +kernel⟩, List.mem_of_getElem? (i := 81) (by decide +kernel), List.mem_of_getElem? (i := 339) (by decide +kernel), List.mem_of_getElem? (i := 340) (by decide +kernel)⟩
theorem lw_p9 : lw_okq (⟨"ExtentTree$Tree", "runIsWritten", "()Z"⟩, 11) := ⟨⟨by decide +kernel, by decide +kernel⟩, List.mem_of_getElem? (i := 81) (by decide +kernel), List.mem_of_getElem? (i := 347) (by decide +kernel), List.mem_of_getElem? (i := 348) (by decide +kernel)⟩
theorem lw_p10 : lw_okq (⟨"ExtentTree$Tree", "lengthToJoinBehind", "(IIIZI)I"⟩, 11) := ⟨⟨by decide +kernel, by decide +kernel⟩, List.mem_of_getElem? (i := 81) (by decide +kernel), List.mem_of_getElem? (i := 356) (by decide +kernel), List.mem_of_getElem? (i := 357) (by decide +kernel)⟩
theorem lw_p11 : lw_okq (⟨"ExtentTree$Tree", "setRun", "(IIIZ)V"⟩, 11) := ⟨⟨by decide +kernel, by decide +kernel⟩, List.mem_of_getElem? (i := 81) (by decide +kernel), List.mem_of_getElem? (i := 360) (by decide +kernel), List.mem_of_getElem? (i := 361) (by decide +kernel)⟩
theorem lw_p12 : lw_okq (⟨"ExtentTree$Tree", "refreshFirsts", "(I)V"⟩, 11) := ⟨⟨by decide +kernel, by decide +kernel⟩, List.mem_of_getElem? (i := 81) (by decide +kernel), List.mem_of_getElem? (i := 372) (by decide +kernel), List.mem_of_getElem? (i := 373) (by decide +kernel)⟩
theorem lw_p13 : lw_okq (⟨"ExtentTree$Tree", "removeRun", "()V"⟩, 11) := ⟨⟨by decide +kernel, by decide +kernel⟩, List.mem_of_getElem? (i := 81) (by decide +kernel), List.mem_of_getElem? (i := 380) (by decide +kernel), List.mem_of_getElem? (i := 381) (by decide +kernel)⟩
theorem lw_p14 : lw_okq (⟨"ExtentTree$Tree", "giveBack", "(LExtentTree$Node;)V"⟩, 11) := ⟨⟨by decide +kernel, by decide +kernel⟩, List.mem_of_getElem? (i := 81) (by decide +kernel), List.mem_of_getElem? (i := 391) (by decide +kernel), List.mem_of_getElem? (i := 392) (by decide +kernel)⟩
theorem lw_p15 : lw_okq (⟨"ExtentTree$Tree", "countBlock", "(LExtentTree$Node;I)V"⟩, 11) := ⟨⟨by decide +kernel, by decide +kernel⟩, List.mem_of_getElem? (i := 81) (by decide +kernel), List.mem_of_getElem? (i := 395) (by decide +kernel), List.mem_of_getElem? (i := 396) (by decide +kernel)⟩
def lw_privs_1 : List (MethodName × Nat) := [(⟨"java/lang/Throwable", "fillInStackTrace", "(I)Ljava/lang/Throwable;"⟩, 6), (⟨"ExtentTree$Tree", "find", "(I)V"⟩, 11), (⟨"ExtentTree$Node", "word", "(II)I"⟩, 6), (⟨"ExtentTree$Tree", "runEnd", "()I"⟩, 11), (⟨"ExtentTree$Tree", "runFirst", "()I"⟩, 11), (⟨"ExtentTree$Tree", "runLength", "()I"⟩, 11), (⟨"ExtentTree$Tree", "countMapped", "(IZ)V"⟩, 11), (⟨"ExtentTree$Tree", "lengthToJoinBefore", "(IIIZ)I"⟩, 11), (⟨"ExtentTree$Tree", "runVolume", "()I"⟩, 11), (⟨"ExtentTree$Tree", "runIsWritten", "()Z"⟩, 11), (⟨"ExtentTree$Tree", "lengthToJoinBehind", "(IIIZI)I"⟩, 11), (⟨"ExtentTree$Tree", "setRun", "(IIIZ)V"⟩, 11), (⟨"ExtentTree$Tree", "refreshFirsts", "(I)V"⟩, 11), (⟨"ExtentTree$Tree", "removeRun", "()V"⟩, 11), (⟨"ExtentTree$Tree", "giveBack", "(LExtentTree$Node;)V"⟩, 11), (⟨"ExtentTree$Tree", "countBlock", "(LExtentTree$Node;I)V"⟩, 11)]
theorem lw_r1 : ∀ q ∈ lw_privs_1, lw_okq q := List.forall_mem_cons.mpr ⟨lw_p0, List.forall_mem_cons.mpr ⟨lw_p1, List.forall_mem_cons.mpr ⟨lw_p2, List.forall_mem_cons.mpr ⟨lw_p3, List.forall_mem_cons.mpr ⟨lw_p4, List.forall_mem_cons.mpr ⟨lw_p5, List.forall_mem_cons.mpr ⟨lw_p6, List.forall_mem_cons.mpr ⟨lw_p7, List.forall_mem_cons.mpr ⟨lw_p8, List.forall_mem_cons.mpr ⟨lw_p9, List.forall_mem_cons.mpr ⟨lw_p10, List.forall_mem_cons.mpr ⟨lw_p11, List.forall_mem_cons.mpr ⟨lw_p12, List.forall_mem_cons.mpr ⟨lw_p13, List.forall_mem_cons.mpr ⟨lw_p14, List.forall_mem_cons.mpr ⟨lw_p15, fun _ h => absurd h List.not_mem_nil⟩⟩⟩⟩⟩⟩⟩⟩⟩⟩⟩⟩⟩⟩⟩⟩
theorem lw_p16 : lw_okq (⟨"ExtentTree$Tree", "insertRun", "(IIIZ)V"⟩, 11) := ⟨⟨by decide +kernel, by decide +kernel⟩, List.mem_of_getElem? (i := 81) (by decide +kernel), List.mem_of_getElem? (i := 403) (by decide +kernel), List.mem_of_getElem? (i := 404) (by decide +kernel)⟩
theorem lw_p17 : lw_okq (⟨"ExtentTree$Tree", "levelWithRoom", "()I"⟩, 11) := ⟨⟨by decide +kernel, by decide +kernel⟩, List.mem_of_getElem? (i := 81) (by decide +kernel), List.mem_of_getElem? (i := 407) (by decide +kernel), List.mem_of_getElem? (i := 408) (by decide +kernel)⟩
theorem lw_p18 : lw_okq (⟨"ExtentTree$Tree", "growRoot", "()V"⟩, 11) := ⟨⟨by decide +kernel, by decide +kernel⟩, List.mem_of_getElem? (i := 81) (by decide +kernel), List.mem_of_getElem? (i := 415) (by decide +kernel), List.mem_of_getElem? (i := 416) (by decide +kernel)⟩
theorem lw_p19 : lw_okq (⟨"ExtentTree$Tree", "splitBlock", "(I)V"⟩, 11) := ⟨⟨by decide +kernel, by decide +kernel⟩, List.mem_of_getElem? (i := 81) (by decide +kernel), List.mem_of_getElem? (i := 429) (by decide +kernel), List.mem_of_getElem? (i := 430) (by decide +kernel)⟩
theorem lw_p20 : lw_okq (⟨"ExtentTree$Tree", "nextFirst", "()I"⟩, 11) := ⟨⟨by decide +kernel, by decide +kernel⟩, List.mem_of_getElem? (i := 81) (by decide +kernel), List.mem_of_getElem? (i := 461) (by decide +kernel), List.mem_of_getElem? (i := 462) (by decide +kernel)⟩
theorem lw_p21 : lw_okq (⟨"ExtentTree$Tree", "takeOutOfRun", "(II)V"⟩, 11) := ⟨⟨by decide +kernel, by decide +kernel⟩, List.mem_of_getElem? (i := 81) (by decide +kernel), List.mem_of_getElem? (i := 467) (by decide +kernel), List.mem_of_getElem? (i := 468) (by decide +kernel)⟩
theorem lw_p22 : lw_okq (⟨"ExtentTree$Node", "wordOfBytes", "(I)I"⟩, 6) := ⟨⟨by decide +kernel, by decide +kernel⟩, List.mem_of_getElem? (i := 37) (by decide +kernel), List.mem_of_getElem? (i := 570) (by decide +kernel), List.mem_of_getElem? (i := 571) (by decide +kernel)⟩
theorem lw_p23 : lw_okq (⟨"ExtentTreeModel", "freeBlocks", "()I"⟩, 16) := ⟨⟨by decide +kernel, by decide +kernel⟩, List.mem_of_getElem? (i := 589) (by decide +kernel), List.mem_of_getElem? (i := 653) (by decide +kernel), List.mem_of_getElem? (i := 654) (by decide +kernel)⟩
theorem lw_p24 : lw_okq (⟨"ExtentTreeModel", "noRange", "(IIII)Z"⟩, 16) := ⟨⟨by decide +kernel, by decide +kernel⟩, List.mem_of_getElem? (i := 589) (by decide +kernel), List.mem_of_getElem? (i := 662) (by decide +kernel), List.mem_of_getElem? (i := 663) (by decide +kernel)⟩
theorem lw_p25 : lw_okq (⟨"ExtentTreeModel", "noVolume", "(II)Z"⟩, 16) := ⟨⟨by decide +kernel, by decide +kernel⟩, List.mem_of_getElem? (i := 589) (by decide +kernel), List.mem_of_getElem? (i := 668) (by decide +kernel), List.mem_of_getElem? (i := 669) (by decide +kernel)⟩
theorem lw_p26 : lw_okq (⟨"ExtentTreeModel", "tryPut", "(IIIIZ)I"⟩, 16) := ⟨⟨by decide +kernel, by decide +kernel⟩, List.mem_of_getElem? (i := 589) (by decide +kernel), List.mem_of_getElem? (i := 673) (by decide +kernel), List.mem_of_getElem? (i := 674) (by decide +kernel)⟩
theorem lw_p27 : lw_okq (⟨"ExtentTreeModel", "behind", "(II)I"⟩, 16) := ⟨⟨by decide +kernel, by decide +kernel⟩, List.mem_of_getElem? (i := 589) (by decide +kernel), List.mem_of_getElem? (i := 677) (by decide +kernel), List.mem_of_getElem? (i := 678) (by decide +kernel)⟩
theorem lw_p28 : lw_okq (⟨"ExtentTreeModel", "isTight", "(IIII)Z"⟩, 16) := ⟨⟨by decide +kernel, by decide +kernel⟩, List.mem_of_getElem? (i := 589) (by decide +kernel), List.mem_of_getElem? (i := 681) (by decide +kernel), List.mem_of_getElem? (i := 682) (by decide +kernel)⟩
theorem lw_p29 : lw_okq (⟨"ExtentTreeModel", "enterRun", "(IIIIZ)V"⟩, 16) := ⟨⟨by decide +kernel, by decide +kernel⟩, List.mem_of_getElem? (i := 589) (by decide +kernel), List.mem_of_getElem? (i := 685) (by decide +kernel), List.mem_of_getElem? (i := 686) (by decide +kernel)⟩
theorem lw_p30 : lw_okq (⟨"ExtentTreeModel", "joins", "(IIIZIIIZ)Z"⟩, 16) := ⟨⟨by decide +kernel, by decide +kernel⟩, List.mem_of_getElem? (i := 589) (by decide +kernel), List.mem_of_getElem? (i := 689) (by decide +kernel), List.mem_of_getElem? (i := 690) (by decide +kernel)⟩
theorem lw_p31 : lw_okq (⟨"ExtentTreeModel", "leave", "(II)V"⟩, 16) := ⟨⟨by decide +kernel, by decide +kernel⟩, List.mem_of_getElem? (i := 589) (by decide +kernel), List.mem_of_getElem? (i := 693) (by decide +kernel), List.mem_of_getElem? (i := 694) (by decide +kernel)⟩
def lw_privs_2 : List (MethodName × Nat) := [(⟨"ExtentTree$Tree", "insertRun", "(IIIZ)V"⟩, 11), (⟨"ExtentTree$Tree", "levelWithRoom", "()I"⟩, 11), (⟨"ExtentTree$Tree", "growRoot", "()V"⟩, 11), (⟨"ExtentTree$Tree", "splitBlock", "(I)V"⟩, 11), (⟨"ExtentTree$Tree", "nextFirst", "()I"⟩, 11), (⟨"ExtentTree$Tree", "takeOutOfRun", "(II)V"⟩, 11), (⟨"ExtentTree$Node", "wordOfBytes", "(I)I"⟩, 6), (⟨"ExtentTreeModel", "freeBlocks", "()I"⟩, 16), (⟨"ExtentTreeModel", "noRange", "(IIII)Z"⟩, 16), (⟨"ExtentTreeModel", "noVolume", "(II)Z"⟩, 16), (⟨"ExtentTreeModel", "tryPut", "(IIIIZ)I"⟩, 16), (⟨"ExtentTreeModel", "behind", "(II)I"⟩, 16), (⟨"ExtentTreeModel", "isTight", "(IIII)Z"⟩, 16), (⟨"ExtentTreeModel", "enterRun", "(IIIIZ)V"⟩, 16), (⟨"ExtentTreeModel", "joins", "(IIIZIIIZ)Z"⟩, 16), (⟨"ExtentTreeModel", "leave", "(II)V"⟩, 16)]
theorem lw_r2 : ∀ q ∈ lw_privs_2, lw_okq q := List.forall_mem_cons.mpr ⟨lw_p16, List.forall_mem_cons.mpr ⟨lw_p17, List.forall_mem_cons.mpr ⟨lw_p18, List.forall_mem_cons.mpr ⟨lw_p19, List.forall_mem_cons.mpr ⟨lw_p20, List.forall_mem_cons.mpr ⟨lw_p21, List.forall_mem_cons.mpr ⟨lw_p22, List.forall_mem_cons.mpr ⟨lw_p23, List.forall_mem_cons.mpr ⟨lw_p24, List.forall_mem_cons.mpr ⟨lw_p25, List.forall_mem_cons.mpr ⟨lw_p26, List.forall_mem_cons.mpr ⟨lw_p27, List.forall_mem_cons.mpr ⟨lw_p28, List.forall_mem_cons.mpr ⟨lw_p29, List.forall_mem_cons.mpr ⟨lw_p30, List.forall_mem_cons.mpr ⟨lw_p31, fun _ h => absurd h List.not_mem_nil⟩⟩⟩⟩⟩⟩⟩⟩⟩⟩⟩⟩⟩⟩⟩⟩
theorem lw_p32 : lw_okq (⟨"ExtentTreeModel", "findWay", "(II)V"⟩, 16) := ⟨⟨by decide +kernel, by decide +kernel⟩, List.mem_of_getElem? (i := 589) (by decide +kernel), List.mem_of_getElem? (i := 697) (by decide +kernel), List.mem_of_getElem? (i := 698) (by decide +kernel)⟩
theorem lw_p33 : lw_okq (⟨"ExtentTreeModel", "levelOf", "(II)I"⟩, 16) := ⟨⟨by decide +kernel, by decide +kernel⟩, List.mem_of_getElem? (i := 589) (by decide +kernel), List.mem_of_getElem? (i := 701) (by decide +kernel), List.mem_of_getElem? (i := 702) (by decide +kernel)⟩
theorem lw_p34 : lw_okq (⟨"ExtentTreeModel", "removeNode", "(III)V"⟩, 16) := ⟨⟨by decide +kernel, by decide +kernel⟩, List.mem_of_getElem? (i := 589) (by decide +kernel), List.mem_of_getElem? (i := 705) (by decide +kernel), List.mem_of_getElem? (i := 706) (by decide +kernel)⟩
theorem lw_p35 : lw_okq (⟨"ExtentTreeModel", "levelEnd", "(I)I"⟩, 16) := ⟨⟨by decide +kernel, by decide +kernel⟩, List.mem_of_getElem? (i := 589) (by decide +kernel), List.mem_of_getElem? (i := 709) (by decide +kernel), List.mem_of_getElem? (i := 710) (by decide +kernel)⟩
theorem lw_p36 : lw_okq (⟨"ExtentTreeModel", "removeRun", "(II)V"⟩, 16) := ⟨⟨by decide +kernel, by decide +kernel⟩, List.mem_of_getElem? (i := 589) (by decide +kernel), List.mem_of_getElem? (i := 713) (by decide +kernel), List.mem_of_getElem? (i := 714) (by decide +kernel)⟩
theorem lw_p37 : lw_okq (⟨"ExtentTreeModel", "shift", "(II)V"⟩, 16) := ⟨⟨by decide +kernel, by decide +kernel⟩, List.mem_of_getElem? (i := 589) (by decide +kernel), List.mem_of_getElem? (i := 717) (by decide +kernel), List.mem_of_getElem? (i := 718) (by decide +kernel)⟩
theorem lw_p38 : lw_okq (⟨"ExtentTreeModel", "enter", "(II)V"⟩, 16) := ⟨⟨by decide +kernel, by decide +kernel⟩, List.mem_of_getElem? (i := 589) (by decide +kernel), List.mem_of_getElem? (i := 722) (by decide +kernel), List.mem_of_getElem? (i := 723) (by decide +kernel)⟩
theorem lw_p39 : lw_okq (⟨"ExtentTreeModel", "takeBlock", "()I"⟩, 16) := ⟨⟨by decide +kernel, by decide +kernel⟩, List.mem_of_getElem? (i := 589) (by decide +kernel), List.mem_of_getElem? (i := 726) (by decide +kernel), List.mem_of_getElem? (i := 727) (by decide +kernel)⟩
theorem lw_p40 : lw_okq (⟨"ExtentTreeModel", "insertNode", "(IIIII)V"⟩, 16) := ⟨⟨by decide +kernel, by decide +kernel⟩, List.mem_of_getElem? (i := 589) (by decide +kernel), List.mem_of_getElem? (i := 730) (by decide +kernel), List.mem_of_getElem? (i := 731) (by decide +kernel)⟩
theorem lw_p41 : lw_okq (⟨"ExtentTreeModel", "insertRun", "(IIIIIZ)V"⟩, 16) := ⟨⟨by decide +kernel, by decide +kernel⟩, List.mem_of_getElem? (i := 589) (by decide +kernel), List.mem_of_getElem? (i := 734) (by decide +kernel), List.mem_of_getElem? (i := 735) (by decide +kernel)⟩
theorem lw_p42 : lw_okq (⟨"ExtentTreeModel", "shrink", "(I)V"⟩, 16) := ⟨⟨by decide +kernel, by decide +kernel⟩, List.mem_of_getElem? (i := 589) (by decide +kernel), List.mem_of_getElem? (i := 738) (by decide +kernel), List.mem_of_getElem? (i := 739) (by decide +kernel)⟩
theorem lw_p43 : lw_okq (⟨"ExtentTreeModel", "runs", "(I)I"⟩, 16) := ⟨⟨by decide +kernel, by decide +kernel⟩, List.mem_of_getElem? (i := 589) (by decide +kernel), List.mem_of_getElem? (i := 742) (by decide +kernel), List.mem_of_getElem? (i := 743) (by decide +kernel)⟩
theorem lw_p44 : lw_okq (⟨"ExtentTreeModel", "noSteps", "(IIII)Z"⟩, 16) := ⟨⟨by decide +kernel, by decide +kernel⟩, List.mem_of_getElem? (i := 589) (by decide +kernel), List.mem_of_getElem? (i := 750) (by decide +kernel), List.mem_of_getElem? (i := 751) (by decide +kernel)⟩
theorem lw_p45 : lw_okq (⟨"ExtentTreeModel", "takeOut", "(III)I"⟩, 16) := ⟨⟨by decide +kernel, by decide +kernel⟩, List.mem_of_getElem? (i := 589) (by decide +kernel), List.mem_of_getElem? (i := 758) (by decide +kernel), List.mem_of_getElem? (i := 759) (by decide +kernel)⟩
theorem lw_p46 : lw_okq (⟨"ExtentTreeModel", "noBlock", "(II)Z"⟩, 16) := ⟨⟨by decide +kernel, by decide +kernel⟩, List.mem_of_getElem? (i := 589) (by decide +kernel), List.mem_of_getElem? (i := 774) (by decide +kernel), List.mem_of_getElem? (i := 775) (by decide +kernel)⟩
theorem lw_p47 : lw_okq (⟨"ExtentTreeModel", "bytesOf", "(IIIIII)I"⟩, 16) := ⟨⟨by decide +kernel, by decide +kernel⟩, List.mem_of_getElem? (i := 589) (by decide +kernel), List.mem_of_getElem? (i := 794) (by decide +kernel), List.mem_of_getElem? (i := 795) (by decide +kernel)⟩
def lw_privs_3 : List (MethodName × Nat) := [(⟨"ExtentTreeModel", "findWay", "(II)V"⟩, 16), (⟨"ExtentTreeModel", "levelOf", "(II)I"⟩, 16), (⟨"ExtentTreeModel", "removeNode", "(III)V"⟩, 16), (⟨"ExtentTreeModel", "levelEnd", "(I)I"⟩, 16), (⟨"ExtentTreeModel", "removeRun", "(II)V"⟩, 16), (⟨"ExtentTreeModel", "shift", "(II)V"⟩, 16), (⟨"ExtentTreeModel", "enter", "(II)V"⟩, 16), (⟨"ExtentTreeModel", "takeBlock", "()I"⟩, 16), (⟨"ExtentTreeModel", "insertNode", "(IIIII)V"⟩, 16), (⟨"ExtentTreeModel", "insertRun", "(IIIIIZ)V"⟩, 16), (⟨"ExtentTreeModel", "shrink", "(I)V"⟩, 16), (⟨"ExtentTreeModel", "runs", "(I)I"⟩, 16), (⟨"ExtentTreeModel", "noSteps", "(IIII)Z"⟩, 16), (⟨"ExtentTreeModel", "takeOut", "(III)I"⟩, 16), (⟨"ExtentTreeModel", "noBlock", "(II)Z"⟩, 16), (⟨"ExtentTreeModel", "bytesOf", "(IIIIII)I"⟩, 16)]
theorem lw_r3 : ∀ q ∈ lw_privs_3, lw_okq q := List.forall_mem_cons.mpr ⟨lw_p32, List.forall_mem_cons.mpr ⟨lw_p33, List.forall_mem_cons.mpr ⟨lw_p34, List.forall_mem_cons.mpr ⟨lw_p35, List.forall_mem_cons.mpr ⟨lw_p36, List.forall_mem_cons.mpr ⟨lw_p37, List.forall_mem_cons.mpr ⟨lw_p38, List.forall_mem_cons.mpr ⟨lw_p39, List.forall_mem_cons.mpr ⟨lw_p40, List.forall_mem_cons.mpr ⟨lw_p41, List.forall_mem_cons.mpr ⟨lw_p42, List.forall_mem_cons.mpr ⟨lw_p43, List.forall_mem_cons.mpr ⟨lw_p44, List.forall_mem_cons.mpr ⟨lw_p45, List.forall_mem_cons.mpr ⟨lw_p46, List.forall_mem_cons.mpr ⟨lw_p47, fun _ h => absurd h List.not_mem_nil⟩⟩⟩⟩⟩⟩⟩⟩⟩⟩⟩⟩⟩⟩⟩⟩
theorem lw_p48 : lw_okq (⟨"ExtentTreeModel", "headByte", "(IIII)I"⟩, 16) := ⟨⟨by decide +kernel, by decide +kernel⟩, List.mem_of_getElem? (i := 589) (by decide +kernel), List.mem_of_getElem? (i := 798) (by decide +kernel), List.mem_of_getElem? (i := 799) (by decide +kernel)⟩
theorem lw_p49 : lw_okq (⟨"ExtentTreeModel", "byteIn", "(II)I"⟩, 16) := ⟨⟨by decide +kernel, by decide +kernel⟩, List.mem_of_getElem? (i := 589) (by decide +kernel), List.mem_of_getElem? (i := 803) (by decide +kernel), List.mem_of_getElem? (i := 804) (by decide +kernel)⟩
theorem lw_p50 : lw_okq (⟨"ExtentTreeModel", "runByte", "(II)I"⟩, 16) := ⟨⟨by decide +kernel, by decide +kernel⟩, List.mem_of_getElem? (i := 589) (by decide +kernel), List.mem_of_getElem? (i := 807) (by decide +kernel), List.mem_of_getElem? (i := 808) (by decide +kernel)⟩
theorem lw_p51 : lw_okq (⟨"ExtentTreeModel", "nodeEntryByte", "(IIII)I"⟩, 16) := ⟨⟨by decide +kernel, by decide +kernel⟩, List.mem_of_getElem? (i := 589) (by decide +kernel), List.mem_of_getElem? (i := 811) (by decide +kernel), List.mem_of_getElem? (i := 812) (by decide +kernel)⟩
theorem lw_p52 : lw_okq (⟨"ExtentTreeModel", "firstRun", "(III)I"⟩, 16) := ⟨⟨by decide +kernel, by decide +kernel⟩, List.mem_of_getElem? (i := 589) (by decide +kernel), List.mem_of_getElem? (i := 815) (by decide +kernel), List.mem_of_getElem? (i := 816) (by decide +kernel)⟩
def lw_privs_4 : List (MethodName × Nat) := [(⟨"ExtentTreeModel", "headByte", "(IIII)I"⟩, 16), (⟨"ExtentTreeModel", "byteIn", "(II)I"⟩, 16), (⟨"ExtentTreeModel", "runByte", "(II)I"⟩, 16), (⟨"ExtentTreeModel", "nodeEntryByte", "(IIII)I"⟩, 16), (⟨"ExtentTreeModel", "firstRun", "(III)I"⟩, 16)]
theorem lw_r4 : ∀ q ∈ lw_privs_4, lw_okq q := List.forall_mem_cons.mpr ⟨lw_p48, List.forall_mem_cons.mpr ⟨lw_p49, List.forall_mem_cons.mpr ⟨lw_p50, List.forall_mem_cons.mpr ⟨lw_p51, List.forall_mem_cons.mpr ⟨lw_p52, fun _ h => absurd h List.not_mem_nil⟩⟩⟩⟩⟩
def lw_privs : List (MethodName × Nat) := lw_privs_1 ++ (lw_privs_2 ++ (lw_privs_3 ++ (lw_privs_4)))
def lw_tbl : List Cond := k2_sels lw_privs ++ tables_1
theorem lw_privs_ok : ∀ q ∈ lw_privs, lw_okq q := by
  show ∀ q ∈ lw_privs_1 ++ (lw_privs_2 ++ (lw_privs_3 ++ (lw_privs_4))), lw_okq q
  exact List.forall_mem_append.mpr ⟨lw_r1, List.forall_mem_append.mpr ⟨lw_r2, List.forall_mem_append.mpr ⟨lw_r3, lw_r4⟩⟩⟩
end
section
/-! ===== BEGIN words of one list among another's, by their places ===== -/
theorem goodIn_r {big : List Cond} (ws : List Cond) (ps : List Nat) (hp : ws = ps.filterMap (fun i => big[i]?)) (h : ws.all goodWord = true) : GoodIn big ws := by
  intro w hw
  have h1 := List.all_eq_true.mp h w hw
  rw [hp] at hw
  obtain ⟨i, -, hi⟩ := List.mem_filterMap.mp hw
  have hm : w ∈ big := by first | exact List.mem_of_getElem? hi | exact List.getElem?_mem hi
  exact ⟨hm, good_of_word h1⟩
theorem goodIn_app {big a b : List Cond} (ha : GoodIn big a) (hb : GoodIn big b) : GoodIn big (a ++ b) := fun w h => (List.mem_append.mp h).elim (ha w) (hb w)
theorem goodIn_ca {big a b : List Cond} {c : Cond} (ha : GoodIn big (c :: a)) (hb : GoodIn big b) : GoodIn big (c :: (a ++ b)) := fun w h => (List.mem_cons.mp h).elim (fun e => ha w (List.mem_cons.mpr (Or.inl e))) (fun h => (List.mem_append.mp h).elim (fun h => ha w (List.mem_cons.mpr (Or.inr h))) (hb w))
theorem goodIn_sub {big ws : List Cond} (hm : ∀ w ∈ ws, w ∈ big) (h : ws.all goodWord = true) : GoodIn big ws := fun w hw => ⟨hm w hw, good_of_word (List.all_eq_true.mp h w hw)⟩
/-! ===== END ===== -/

/-! ===== BEGIN exceptions that leave a method, and their catching by the caller (launches without stack traces) ===== -/
section VXA
/-! The laws vx_back, vx_callV, vx_callS, vx_callSW, vx_throw0, vx_throwS follow proofs of the library, with one case more: JvmDerived/Free/Laws.lean (Back.of_free), Shelf42/LK1.lean (callV, callS), Shelf/KitTraced.lean (throwNew0V, throwNewS). -/
/-- where a method has thrown q: the class by its name, the cell, what was written, the world -/
def vx_T (XC : String → State → State → Prop) (st : State) (q : Addr) (t : State) (mc ms : Nat) (free : Addr → Prop) : Prop :=
  ∃ (E : String) (ce : Cell) (L : List Loc), XC E st t ∧ t.heap[q]? = some ce ∧ ce.vm = .none ∧ st.vm.findClass E = some ce.cls ∧ st.WarmedH t.vm ∧ st.sameButNew ({ t with vm := st.vm } : State) L mc ms ∧ ∀ z ∈ L, free z.base
def vx_Q (Qc : Array Value → State → Outcome → State → Prop) (XC : String → State → State → Prop) (mc ms : Nat) (free : Addr → Prop) : Array Value → State → Outcome → State → Prop := fun a st o t =>
  (Qc a st o t ∧ ∃ L, FrameEnd st o t L mc ms ∧ ∀ q ∈ L, free q.base) ∨ ∃ q, o = .threw q ∧ vx_T XC st q t mc ms free
/-- a callee that returns or throws -/
def vx_Met (l : Launch) (y : MethodName) (ws : List Cond) (rm : Room) (Pc : Array Value → State → Prop) (Qc : Array Value → State → Outcome → State → Prop) (XC : String → State → State → Prop) (mc ms : Nat) (free : Addr → Prop) : Prop :=
  MetFree l y (headSpec ws rm) Pc (fun _ _ _ _ _ => True) (vx_Q Qc XC mc ms free)
def vx_Post (XC : String → State → State → Prop) (mc ms : Nat) (free : Addr → Prop) : Pt → Array Value → Addr → Pt → Prop := fun A a q B =>
  ∃ (g : JFrame) (mk : MethodId) (t : State) (L : List Loc) (E : String) (ce : Cell), B.U.heap = t.heap ∧ B.U.vm = t.vm ∧ XC E (A.U.calling g mk a) t ∧ t.heap[q]? = some ce ∧ ce.vm = .none ∧ A.U.vm.findClass E = some ce.cls ∧ B.locs = A.locs ++ L ∧ (∀ z ∈ L, free z.base) ∧ B.cells = A.cells + mc ∧ B.slots = A.slots + ms
def vx_Back (l : Launch) (R : Room) (p : Program) (e : Env) (below : List Frame) (s : State) (sargs : Array Value) (y : MethodName) (len W9 : Nat)
    (Pre : Pt → Array Value → Prop) (Post : Pt → Array Value → Option Value → Pt → Prop) (PostX : Pt → Array Value → Addr → Pt → Prop) : Prop :=
  ∀ (m : MethodId) (meth : Method) (c : Code) (A : Pt) (g : JFrame) (ig : Instr) (mk : MethodId) (a : Array Value),
    Stand p l e R s m sargs below meth c A.U A.locs A.cells A.slots → g.method = m → g.locals.size = c.maxLocals → decode c.code g.pc = .ok (ig, len) →
    2 * g.monitorRoom + (g.stack.map fun v => v.category).sum ≤ W9 → A.U.methodNamed? y = some mk → Pre A a →
    (∃ (v : Option Value) (B : Pt), Stand p l e R s m sargs below meth c B.U B.locs B.cells B.slots ∧ Post A a v B ∧
      Steps p.tables e below (doInvoke e (A.U.setTop g) [] mk a).1 (B.U.setTop { g with pc := g.pc + len, stack := v.toList ++ g.stack })) ∨
    (∃ (q : Addr) (B : Pt), Stand p l e R s m sargs below meth c B.U B.locs B.cells B.slots ∧ PostX A a q B ∧
      Steps p.tables e below (doInvoke e (A.U.setTop g) [] mk a).1 ((B.U.setTop g).pushFrame (.throwing q)))
section Payer
variable {l : Launch} {R : Room} {p : Program} {e : Env} {below : List Frame} {s : State} {sargs : Array Value} {y : MethodName} {len W9 : Nat}
theorem vx_back {ws : List Cond} {rm : Room} {Pc : Array Value → State → Prop} {Qc : Array Value → State → Outcome → State → Prop} {XC : String → State → State → Prop} {mc ms : Nat} {free : Addr → Prop} {bytes : ByteArray} {maxL : Nat} {ret : Option FieldType}
    (hM : vx_Met l y ws rm Pc Qc XC mc ms free) (hblind : FrameBlind Pc) (hrc : rm.cells = mc) (hrs : rm.slots = ms)
    (hframes : rm.frames + 1 ≤ R.frames) (hlocals : W9 + (maxL + 11) + rm.locals ≤ R.locals)
    (hws : ∀ w ∈ ws, ∀ a' U, s.WarmedH U.vm → w.before a' U = true) (hcode : Cond.code y bytes maxL ret ∈ ws) (hinit : ∀ a' U, s.WarmedH U.vm → (Cond.initialized y.cls).before a' U = true) :
    vx_Back l R p e below s sargs y len W9 (PreOf R mc ms Pc) (PostOf Qc mc ms free) (vx_Post XC mc ms free) := by
  intro m meth c A g ig mk a X hg hsize hdg hW hn hp
  have h1 : (headSpec ws rm).pre.before a A.U = true := atoms_intro fun w hw => hws w hw _ _ X.warmed
  have h2 : (Cond.code y bytes maxL ret).before a A.U = true := hws _ hcode _ _ X.warmed
  have h3 : (Cond.initialized y.cls).before a A.U = true := hinit _ _ X.warmed
  have h4 : A.cells + (headSpec ws rm).room.cells ≤ R.cells := by rw [show (headSpec ws rm).room.cells = mc from hrc]; exact hp.1
  have h5 : A.slots + (headSpec ws rm).room.slots ≤ R.slots := by rw [show (headSpec ws rm).room.slots = ms from hrs]; exact hp.2.1
  have hPc : Pc a (A.U.calling g mk a) := hblind _ _ _ _ hp.2.2
  obtain ⟨U, Ls, c0, s0⟩ := A
  dsimp only [Pt.U, Pt.locs, Pt.cells, Pt.slots] at h1 h2 h3 h4 h5 X hn hPc ⊢
  obtain ⟨methY, cY, hmY, hcY, -, hlY, -, -, -, -⟩ := Cond.code_spec hn h2
  obtain ⟨kY, hkY, -⟩ := className_of_methodNamed hn
  have hinitY : kY.init = .initialized := Cond.initialized_spec (findClass_of_methodNamed hn) hkY h3
  have h : At U g.method c below := by rw [hg]; exact X.here
  have hlocals9 : W9 + (maxL + 11) + (headSpec ws rm).room.locals ≤ R.locals := hlocals
  have happ : (headSpec ws rm).appliesLoose y e.platform (U.calling g mk a) = true :=
    Spec.appliesLoose_calling (g := g) h hdg hn hkY hinitY
      (X.room_calling (g := g) (R' := (headSpec ws rm).room) hsize hmY hcY hframes (by rw [hlY]; omega) h4 h5) h1
  obtain ⟨mid, hmid⟩ := h.above
  have hfr : (U.setTop g).frames = (.java g :: mid) ++ below := by rw [State.frames_setTop' g h.top, hmid]; rfl
  obtain ⟨o, s₂, hsteps, -, hend, hq⟩ := Steps.callFree hM p X.admits X.cas X.clock (acts := []) hfr happ hPc trivial
  have hq' : vx_Q Qc XC mc ms free a (U.calling g mk a) o s₂ := hq
  rw [State.frames_setTop' g h.top] at hend
  obtain ⟨g₀, hg0⟩ := Option.isSome_iff_exists.mp h.top
  obtain ⟨r, hr⟩ := State.topJava?_eq_some.mp hg0
  have hr' : (({ U with heap := s₂.heap, slotsUsed := s₂.slotsUsed } : State).setVm s₂.vm).frames = .java g₀ :: r := hr
  rcases hq' with ⟨hqc, L, hfe, hL⟩ | ⟨q, rfl, E, ce, L, hx, hce, hcv, hcl, hW₂, hsm, hL⟩
  · obtain ⟨⟨v, rfl⟩, hW₂, e2, q2, q3, q4, q5, q6⟩ := id hfe
    have e3 : s₂ = ({ (U.calling g mk a).setFrames s₂.frames with heap := s₂.heap, slotsUsed := s₂.slotsUsed } : State).setVm s₂.vm := by
      have : s₂ = ({ s₂ with vm := (U.calling g mk a).vm } : State).setVm s₂.vm := rfl
      rw [e2] at this
      exact this
    obtain ⟨c₂, i₂, len₂, hc₂, hd₂, hf₂⟩ := hend
    have hW' : U.WarmedH s₂.vm := hW₂
    have hcc : c₂ = c := by
      have h1 : s₂.code? g.method = U.code? g.method := by
        rw [State.code?_eq, State.code?_eq, hW'.alike.method?]
      exact Option.some.inj (hc₂.symm.trans (h1.trans h.code))
    subst hcc
    have hlen : len₂ = len := by rw [hdg] at hd₂; cases hd₂; rfl
    subst hlen
    have hs₂ : s₂ = (({ U with heap := s₂.heap, slotsUsed := s₂.slotsUsed } : State).setVm s₂.vm).setTop { g with pc := g.pc + len₂, stack := v.toList ++ g.stack } := by
      refine e3.trans ?_
      rw [hf₂, State.calling_eq h.top, State.setFrames_setFrames, State.setTop_of_frames _ hr', hr]
      rfl
    have hsame : U.sameButNew ({ U with heap := s₂.heap, slotsUsed := s₂.slotsUsed } : State) L mc ms := by
      refine ⟨?_, q2, q3, q4, q5, q6⟩
      obtain ⟨t, ht, -⟩ := State.frames_cons hr
      show ({ U with heap := s₂.heap, slotsUsed := s₂.slotsUsed } : State) = { U.setFrames U.frames with heap := s₂.heap, slotsUsed := s₂.slotsUsed }
      rw [State.setFrames_self ht]
    subst hg
    refine Or.inl ⟨v, ⟨(({ U with heap := s₂.heap, slotsUsed := s₂.slotsUsed } : State).setVm s₂.vm), Ls ++ L, c0 + mc, s0 + ms⟩,
      ⟨X.admits, X.cas, X.clock, X.frames, X.room, X.hears, X.method, X.code, (X.here.setHeapUsed s₂.heap s₂.slotsUsed).setVm hW'.alike, X.tail, State.WarmedH.trans X.warmed hW', X.limits, X.bytes, X.same.trans (hsame.setVm s.vm)⟩,
      ⟨g, mk, s₂, L, rfl, rfl, hqc, rfl, hL, rfl, rfl⟩, ?_⟩
    show Steps p.tables e below _ ((({ U with heap := s₂.heap, slotsUsed := s₂.slotsUsed } : State).setVm s₂.vm).setTop { g with pc := g.pc + len₂, stack := v.toList ++ g.stack })
    rw [← hs₂]
    exact hsteps
  · obtain ⟨e2, q2, q3, q4, q5, q6⟩ := id hsm
    have e3 : s₂ = ({ (U.calling g mk a).setFrames s₂.frames with heap := s₂.heap, slotsUsed := s₂.slotsUsed } : State).setVm s₂.vm := by
      have : s₂ = ({ s₂ with vm := (U.calling g mk a).vm } : State).setVm s₂.vm := rfl
      rw [e2] at this
      exact this
    have hf₂ : s₂.frames = .throwing q :: .java g :: U.frames.tail := hend
    have hW' : U.WarmedH s₂.vm := hW₂
    have hs₂ : s₂ = ((({ U with heap := s₂.heap, slotsUsed := s₂.slotsUsed } : State).setVm s₂.vm).setTop g).pushFrame (.throwing q) := by
      refine e3.trans ?_
      rw [hf₂, State.calling_eq h.top, State.setFrames_setFrames, State.pushFrame, State.frames_setTop _ hr', State.setTop_of_frames _ hr', State.setFrames_setFrames, hr]
      rfl
    have hsame : U.sameButNew ({ U with heap := s₂.heap, slotsUsed := s₂.slotsUsed } : State) L mc ms := by
      refine ⟨?_, q2, q3, q4, q5, q6⟩
      obtain ⟨t, ht, -⟩ := State.frames_cons hr
      show ({ U with heap := s₂.heap, slotsUsed := s₂.slotsUsed } : State) = { U.setFrames U.frames with heap := s₂.heap, slotsUsed := s₂.slotsUsed }
      rw [State.setFrames_self ht]
    subst hg
    refine Or.inr ⟨q, ⟨(({ U with heap := s₂.heap, slotsUsed := s₂.slotsUsed } : State).setVm s₂.vm), Ls ++ L, c0 + mc, s0 + ms⟩,
      ⟨X.admits, X.cas, X.clock, X.frames, X.room, X.hears, X.method, X.code, (X.here.setHeapUsed s₂.heap s₂.slotsUsed).setVm hW'.alike, X.tail, State.WarmedH.trans X.warmed hW', X.limits, X.bytes, X.same.trans (hsame.setVm s.vm)⟩,
      ⟨g, mk, s₂, L, E, ce, rfl, rfl, hx, hce, hcv, hcl, rfl, hL, rfl, rfl⟩, ?_⟩
    show Steps p.tables e below _ (((({ U with heap := s₂.heap, slotsUsed := s₂.slotsUsed } : State).setVm s₂.vm).setTop g).pushFrame (.throwing q))
    rw [← hs₂]
    exact hsteps
end Payer
section Calls
variable {p : Program} {l : Launch} {e : Env} {R : Room} {s : State} {m : MethodId} {args : Array Value} {below : List Frame} {meth : Method} {c : Code} {T : State} {locs : List Loc} {cells slots : Nat}
theorem vx_callV (X : Stand p l e R s m args below meth c T locs cells slots) (hexec : p.tables.exec = Jvm.exec) {own C : String} {index : Nat} {y : MethodName} {bytes : ByteArray} {maxL : Nat} {ret : Option FieldType}
    (hown : s.vm.findClass own = some m.cls) (hlink : (Cond.methodLink own index y).before args s = true) (hinst : (Cond.instanceMethod y).before args s = true) (hsel : (Cond.selects C y y).before args s = true)
    (hcode : (Cond.code y bytes maxL ret).before args s = true) (hy : y.cls ≠ "java/lang/invoke/MethodHandle" ∧ y.cls ≠ "java/lang/invoke/VarHandle")
    {W9 : Nat} {Pre : Pt → Array Value → Prop} {Post : Pt → Array Value → Option Value → Pt → Prop} {PostX : Pt → Array Value → Addr → Pt → Prop} (hK : vx_Back l R p e below s args y 3 W9 Pre Post PostX)
    {b : Addr} {cellB : Cell} (hcell : T.heap[b]? = some cellB) (hobj : cellB.vm.isStatics = false) (hcls : s.vm.findClass C = some cellB.cls)
    {g : JFrame} (hg : g.method = m) (hsize : g.locals.size = c.maxLocals) {argsL rest : List Value} (hlen : ∀ sig, parseMethodDescriptor y.desc = some sig → argsL.length = sig.parameters.length)
    (hstack : g.stack = argsL.reverse ++ .ref b :: rest) (hW : 2 * g.monitorRoom + (rest.map fun v => v.category).sum ≤ W9) (hdg : decode c.code g.pc = .ok (.invokevirtual index, 3))
    (hpre : ∀ vm₁, s.WarmedH vm₁ → Pre ⟨T.setVm vm₁, locs, cells, slots⟩ (Value.ref b :: argsL).toArray) :
    (∃ (v : Option Value) (vm₁ : Vm) (B : Pt), s.WarmedH vm₁ ∧ Stand p l e R s m args below meth c B.U B.locs B.cells B.slots ∧ Post ⟨T.setVm vm₁, locs, cells, slots⟩ (Value.ref b :: argsL).toArray v B ∧
      ∀ target, Steps p.tables e below (B.U.setTop { g with pc := g.pc + 3, stack := v.toList ++ rest }) target → Steps p.tables e below (T.setTop g) target) ∨
    (∃ (q : Addr) (vm₁ : Vm) (B : Pt), s.WarmedH vm₁ ∧ Stand p l e R s m args below meth c B.U B.locs B.cells B.slots ∧ PostX ⟨T.setVm vm₁, locs, cells, slots⟩ (Value.ref b :: argsL).toArray q B ∧
      Steps p.tables e below (T.setTop g) ((B.U.setTop { g with stack := rest }).pushFrame (.throwing q))) := by
  obtain ⟨mk, methM, hnamed, hmethM, hstM, habM⟩ := Cond.instanceMethod_spec hinst
  obtain ⟨methM', cM, hmethM', -, -, -, -, -, -, hsigM⟩ := Cond.code_spec hnamed hcode
  cases hmethM.symm.trans hmethM'
  obtain ⟨c2, r2, m2, q1, q2, q3, q4, kP, hkP, hkPi⟩ := Cond.selects_spec hsel
  cases hcls.symm.trans q1
  cases (State.methodFound?_of_named hnamed hy).symm.trans q2
  cases hnamed.symm.trans q3
  have hselP : selectMethod e.platform s.vm cellB.cls mk = .method mk := by rw [Launch.admits_selectMethod X.admits]; exact q4
  obtain ⟨vm₁, X₁, hstep₁⟩ := X.invokevirtual hexec hown hlink hnamed hmethM hstM hkP hkPi hy (a := b) (cell := cellB) hcell
    (fun z h => by rw [h] at hobj; cases hobj) hselP hmethM habM hkP hkPi (g := g) hg (argsL := argsL) (rest := rest) (hlen _ hsigM) hstack hdg
  rcases hK m meth c ⟨T.setVm vm₁, locs, cells, slots⟩ { g with stack := rest } (.invokevirtual index) mk (Value.ref b :: argsL).toArray X₁ hg hsize hdg hW (X₁.named hnamed) (hpre vm₁ X₁.warmed) with ⟨v, B, X', hpost, hsteps⟩ | ⟨q, B, X', hpost, hsteps⟩
  · exact Or.inl ⟨v, vm₁, B, X₁.warmed, X', hpost, fun target h => hstep₁ _ fun acts => by rw [doInvoke_state]; exact hsteps.trans h⟩
  · exact Or.inr ⟨q, vm₁, B, X₁.warmed, X', hpost, hstep₁ _ fun acts => by rw [doInvoke_state]; exact hsteps⟩
theorem vx_callS (X : Stand p l e R s m args below meth c T locs cells slots) (hexec : p.tables.exec = Jvm.exec) {own : String} {index : Nat} {y : MethodName} {bytes : ByteArray} {maxL : Nat} {ret : Option FieldType}
    (hown : s.vm.findClass own = some m.cls) (hlink : (Cond.methodLink own index y).before args s = true) (hstat : (Cond.static y).before args s = true) (hinit : (Cond.initialized y.cls).before args s = true)
    (hcode : (Cond.code y bytes maxL ret).before args s = true) (hy : y.cls ≠ "java/lang/invoke/MethodHandle" ∧ y.cls ≠ "java/lang/invoke/VarHandle")
    {W9 : Nat} {Pre : Pt → Array Value → Prop} {Post : Pt → Array Value → Option Value → Pt → Prop} {PostX : Pt → Array Value → Addr → Pt → Prop} (hK : vx_Back l R p e below s args y 3 W9 Pre Post PostX)
    {g : JFrame} (hg : g.method = m) (hsize : g.locals.size = c.maxLocals) {argsL rest : List Value} (hlen : ∀ sig, parseMethodDescriptor y.desc = some sig → argsL.length = sig.parameters.length)
    (hstack : g.stack = argsL.reverse ++ rest) (hW : 2 * g.monitorRoom + (rest.map fun v => v.category).sum ≤ W9) (hdg : decode c.code g.pc = .ok (.invokestatic index, 3))
    (hpre : ∀ vm₁, s.WarmedH vm₁ → Pre ⟨T.setVm vm₁, locs, cells, slots⟩ argsL.toArray) :
    (∃ (v : Option Value) (vm₁ : Vm) (B : Pt), s.WarmedH vm₁ ∧ Stand p l e R s m args below meth c B.U B.locs B.cells B.slots ∧ Post ⟨T.setVm vm₁, locs, cells, slots⟩ argsL.toArray v B ∧
      ∀ target, Steps p.tables e below (B.U.setTop { g with pc := g.pc + 3, stack := v.toList ++ rest }) target → Steps p.tables e below (T.setTop g) target) ∨
    (∃ (q : Addr) (vm₁ : Vm) (B : Pt), s.WarmedH vm₁ ∧ Stand p l e R s m args below meth c B.U B.locs B.cells B.slots ∧ PostX ⟨T.setVm vm₁, locs, cells, slots⟩ argsL.toArray q B ∧
      Steps p.tables e below (T.setTop g) ((B.U.setTop { g with stack := rest }).pushFrame (.throwing q))) := by
  obtain ⟨mk, hnamed⟩ := Cond.code_named hcode
  obtain ⟨methM, cM, hmethM, -, -, -, -, -, -, hsigM⟩ := Cond.code_spec hnamed hcode
  have hstatic : methM.isStatic = true := Cond.static_spec hnamed hmethM hstat
  obtain ⟨kP, hkP, -⟩ := className_of_methodNamed hnamed
  have hinitP : kP.init = .initialized := Cond.initialized_spec (findClass_of_methodNamed hnamed) hkP hinit
  obtain ⟨vm₁, X₁, hstep₁⟩ := X.invokestatic hexec hown hlink hnamed hmethM hstatic hkP hinitP hy (g := g) hg (argsL := argsL) (rest := rest) (hlen _ hsigM) hstack hdg
  rcases hK m meth c ⟨T.setVm vm₁, locs, cells, slots⟩ { g with stack := rest } (.invokestatic index) mk argsL.toArray X₁ hg hsize hdg hW (X₁.named hnamed) (hpre vm₁ X₁.warmed) with ⟨v, B, X', hpost, hsteps⟩ | ⟨q, B, X', hpost, hsteps⟩
  · exact Or.inl ⟨v, vm₁, B, X₁.warmed, X', hpost, fun target h => hstep₁ _ fun acts => by rw [doInvoke_state]; exact hsteps.trans h⟩
  · exact Or.inr ⟨q, vm₁, B, X₁.warmed, X', hpost, hstep₁ _ fun acts => by rw [doInvoke_state]; exact hsteps⟩
end Calls
theorem vx_cls {s : State} {T : State} {vm₁ : Vm} {E : String} {k : ClassId} (hW : s.WarmedH vm₁) (h : (T.setVm vm₁).vm.findClass E = some k) : s.vm.findClass E = some k := by
  have h1 : vm₁.findClass E = some k := h
  rw [hW.alike.findClass] at h1
  exact h1
/-- the method's frame g, with q thrown over it -/
def vx_W (p : Program) (l : Launch) (e : Env) (R : Room) (s : State) (m : MethodId) (args : Array Value) (below : List Frame) (meth : Method) (c : Code) (H : Heap) (locs : List Loc) (cells slots : Nat) (Q : State → Prop) (g : JFrame) (q : Addr) : Prop :=
  ∀ T : State, T.heap = H → Stand p l e R s m args below meth c T locs cells slots → ∃ t, Steps p.tables e below ((T.setTop g).pushFrame (.throwing q)) t ∧ Q t
def vx_Run (p : Program) (l : Launch) (e : Env) (R : Room) (s : State) (m : MethodId) (args : Array Value) (below : List Frame) (meth : Method) (c : Code) (H : Heap) (locs : List Loc) (cells slots mc ms : Nat) (g : JFrame) (rest : List Value) (Qa : State → Outcome → State → Prop) (XC : String → State → State → Prop) (free : Addr → Prop) : Prop :=
  ∀ T : State, T.heap = H → Stand p l e R s m args below meth c T locs cells slots →
    (∃ (v : Option Value) (st₀ t T' : State) (L : List Loc), st₀.heap = H ∧ Stand p l e R s m args below meth c T' (locs ++ L) (cells + mc) (slots + ms) ∧ (∀ q ∈ L, free q.base) ∧ T'.heap = t.heap ∧ T'.vm = t.vm ∧ Qa st₀ (.returned v) t ∧
      Goes p e below T g T' { g with pc := g.pc + 3, stack := v.toList ++ rest }) ∨
    (∃ (q : Addr) (st₀ t T' : State) (L : List Loc) (E : String) (ce : Cell), st₀.heap = H ∧ Stand p l e R s m args below meth c T' (locs ++ L) (cells + mc) (slots + ms) ∧ (∀ z ∈ L, free z.base) ∧ T'.heap = t.heap ∧ T'.vm = t.vm ∧ XC E st₀ t ∧ t.heap[q]? = some ce ∧ ce.vm = .none ∧ s.vm.findClass E = some ce.cls ∧
      Steps p.tables e below (T.setTop g) ((T'.setTop { g with stack := rest }).pushFrame (.throwing q)))
def vx_X {S : Type} (px : S → Prop) (B : String → S → State → Prop) (A : Nat → Prop) : String → State → State → Prop := fun E st t => ∃ u : S, px u ∧ B E u t ∧ va_F A st t
section Runs
variable {p : Program} {l : Launch} {e : Env} {R : Room} {s : State} {m : MethodId} {args : Array Value} {below : List Frame} {meth : Method} {c : Code} {H : Heap} {locs : List Loc} {cells slots : Nat}
variable {y : MethodName} {bytes cc : ByteArray} {maxL nL mc ms n index : Nat} {ret : Option FieldType} {ws : List Cond} {rm : Room} {Pc : Array Value → State → Prop} {Qc : Array Value → State → Outcome → State → Prop} {XC : String → State → State → Prop} {free : Addr → Prop} {Ts : List Cond} {own C : String} {b : Addr} {As rest : List Value} {g : JFrame}
theorem vx_callBack (cb : CallB R s args own index y bytes maxL ret ws rm mc ms n) (hM : vx_Met l y ws rm Pc Qc XC mc ms free) (hbl : FrameBlind Pc) : vx_Back l R p e below s args y 3 8 (PreOf R mc ms Pc) (PostOf Qc mc ms free) (vx_Post XC mc ms free) := by
  obtain ⟨hrc, hrs, hfr, hlo, hws, hcw, -, hini, -⟩ := cb
  exact vx_back (bytes := bytes) (maxL := maxL) (ret := ret) hM hbl hrc hrs hfr hlo hws hcw (fun a' U hW => word_at hW (Or.inl (by first | rfl | simp [Cond.onTables, Cond.keeps, Cond.steady])) hini)
theorem vx_runV (S : CallFix p m c cc nL s args Ts own) (hM : vx_Met l y ws rm Pc Qc XC mc ms free) (cw : CallW R s args own C index y bytes maxL ret ws rm mc ms n) (hp : PreV s H C b Pc As)
    (hg : g.method = m) (hn : As.length = n) (hsize : g.locals.size = nL) (hstack : g.stack = As.reverse ++ .ref b :: rest) (hW : 2 * g.monitorRoom + (rest.map fun v => v.category).sum ≤ 8) (hdg : decode cc g.pc = .ok (.invokevirtual index, 3)) (hf : cells + mc ≤ R.cells ∧ slots + ms ≤ R.slots) :
    vx_Run p l e R s m args below meth c H locs cells slots mc ms g rest (Qc (Value.ref b :: As).toArray) XC free := by
  have hK : vx_Back l R p e below s args y 3 8 (PreOf R mc ms Pc) (PostOf Qc mc ms free) (vx_Post XC mc ms free) := vx_callBack cw.1 hM hp.1
  obtain ⟨⟨-, -, -, -, -, -, hcode, -, hy, hlen, hl⟩, hin, hse⟩ := cw
  obtain ⟨hx, hb, hml, ho, -⟩ := S
  obtain ⟨-, ⟨cellB, hcB, hoB, hclB⟩, hPc⟩ := hp
  intro T hT X
  rcases vx_callV X hx (C := C) (bytes := bytes) (maxL := maxL) (ret := ret) ho hl hin hse hcode hy hK (by rw [hT]; exact hcB) hoB hclB hg (hsize.trans hml.symm) (argsL := As) (rest := rest) (fun sig h => hn.trans (hlen sig h)) hstack hW (by rw [hb]; exact hdg)
    (fun vm₁ hW₁ => ⟨hf.1, hf.2, hPc (T.setVm vm₁) hT hW₁⟩) with ⟨v, vm₁, ⟨U', l2, c2, s2⟩, hW₁, X', ⟨g', mk, t, L, e1, e2, hq, h1, hL, h2, h3⟩, st⟩ | ⟨q, vm₁, ⟨U', l2, c2, s2⟩, hW₁, X', ⟨g', mk, t, L, E, ce, e1, e2, hq, hce, hcv, hcl, h1, hL, h2, h3⟩, st⟩
  · dsimp only [Pt.U, Pt.locs, Pt.cells, Pt.slots] at X' e1 e2 h1 h2 h3 st
    subst h1; subst h2; subst h3
    exact Or.inl ⟨v, (T.setVm vm₁).calling g' mk (Value.ref b :: As).toArray, t, U', L, hT, X', hL, e1, e2, hq, st⟩
  · dsimp only [Pt.U, Pt.locs, Pt.cells, Pt.slots] at X' e1 e2 h1 h2 h3 st hcl
    subst h1; subst h2; subst h3
    exact Or.inr ⟨q, (T.setVm vm₁).calling g' mk (Value.ref b :: As).toArray, t, U', L, E, ce, hT, X', hL, e1, e2, hq, hce, hcv, vx_cls hW₁ hcl, st⟩
theorem vx_runS (S : CallFix p m c cc nL s args Ts own) (hM : vx_Met l y ws rm Pc Qc XC mc ms free) (cw : CallB R s args own index y bytes maxL ret ws rm mc ms n ∧ (Cond.static y).before args s = true) (hp : PreS s H Pc As)
    (hg : g.method = m) (hn : As.length = n) (hsize : g.locals.size = nL) (hstack : g.stack = As.reverse ++ rest) (hW : 2 * g.monitorRoom + (rest.map fun v => v.category).sum ≤ 8) (hdg : decode cc g.pc = .ok (.invokestatic index, 3)) (hf : cells + mc ≤ R.cells ∧ slots + ms ≤ R.slots) :
    vx_Run p l e R s m args below meth c H locs cells slots mc ms g rest (Qc As.toArray) XC free := by
  have hK : vx_Back l R p e below s args y 3 8 (PreOf R mc ms Pc) (PostOf Qc mc ms free) (vx_Post XC mc ms free) := vx_callBack cw.1 hM hp.1
  obtain ⟨⟨-, -, -, -, -, -, hcode, hini, hy, hlen, hl⟩, hstt⟩ := cw
  obtain ⟨hx, hb, hml, ho, -⟩ := S
  intro T hT X
  rcases vx_callS X hx (bytes := bytes) (maxL := maxL) (ret := ret) ho hl hstt hini hcode hy hK hg (hsize.trans hml.symm) (argsL := As) (rest := rest) (fun sig h => hn.trans (hlen sig h)) hstack hW (by rw [hb]; exact hdg)
    (fun vm₁ hW₁ => ⟨hf.1, hf.2, hp.2 (T.setVm vm₁) hT hW₁⟩) with ⟨v, vm₁, ⟨U', l2, c2, s2⟩, hW₁, X', ⟨g', mk, t, L, e1, e2, hq, h1, hL, h2, h3⟩, st⟩ | ⟨q, vm₁, ⟨U', l2, c2, s2⟩, hW₁, X', ⟨g', mk, t, L, E, ce, e1, e2, hq, hce, hcv, hcl, h1, hL, h2, h3⟩, st⟩
  · dsimp only [Pt.U, Pt.locs, Pt.cells, Pt.slots] at X' e1 e2 h1 h2 h3 st
    subst h1; subst h2; subst h3
    exact Or.inl ⟨v, (T.setVm vm₁).calling g' mk As.toArray, t, U', L, hT, X', hL, e1, e2, hq, st⟩
  · dsimp only [Pt.U, Pt.locs, Pt.cells, Pt.slots] at X' e1 e2 h1 h2 h3 st hcl
    subst h1; subst h2; subst h3
    exact Or.inr ⟨q, (T.setVm vm₁).calling g' mk As.toArray, t, U', L, E, ce, hT, X', hL, e1, e2, hq, hce, hcv, vx_cls hW₁ hcl, st⟩
end Runs
section Rows
variable {p : Program} {l : Launch} {e : Env} {R : Room} {s : State} {m : MethodId} {args : Array Value} {below : List Frame} {meth : Method} {c : Code} {H : Heap} {locs : List Loc} {cells slots : Nat} {Q : State → Prop}
variable {mc ms : Nat} {free : Addr → Prop} {A0 A1 : Nat → Prop} {H0 : Heap} {a : Array Value} {pc : Nat} {ls : Array Slot} {st0 rest : List Value}
theorem vx_keep {st₀ t T' : State} {L : List Loc} (h0 : st₀.heap = H) (e1 : T'.heap = t.heap) (hS : va_S A0 H0 H locs) (hA : ∀ q, q < H.size → A1 q → A0 q) (hf : ∀ q, free q → A0 q) (hL : ∀ q ∈ L, free q.base) (hF : va_F A1 st₀ t) :
    H.size ≤ T'.heap.size ∧ (∀ q : Nat, q < H.size → ¬ A1 q → T'.heap[q]? = H[q]?) ∧ va_S A0 H0 T'.heap (locs ++ L) := by
  obtain ⟨hz, hk⟩ := hF
  rw [h0] at hz hk
  exact ⟨by rw [e1]; exact hz, fun q h1 h2 => by rw [e1]; exact hk q h1 h2,
    ⟨Nat.le_trans hS.1 (by rw [e1]; exact hz), fun q h1 h2 => by rw [e1, hk q (Nat.lt_of_lt_of_le h1 hS.1) (fun z => h2 (hA q (Nat.lt_of_lt_of_le h1 hS.1) z))]; exact hS.2.1 q h1 h2, fun q hq => by
      rcases List.mem_append.mp hq with h | h
      · exact hS.2.2 q h
      · exact hf _ (hL q h)⟩⟩
theorem vx_calli {S SX : Type} {post : Int32 → S → Prop} {px : SX → Prop} {B : S → State → Prop} {BX : String → SX → State → Prop} {AX : Nat → Prop} (hr : vx_Run p l e R s m args below meth c H locs cells slots mc ms (F0 m pc ls st0) rest (va_Qi post B A1 a) (vx_X px BX AX) free) (hS : va_S A0 H0 H locs) (hA : ∀ q, q < H.size → A1 q → A0 q) (hf : ∀ q, free q → A0 q) (hAX : ∀ q, q < H.size → AX q → A0 q)
    (kx : ∀ (E : String) (ce : Cell) (q9 : Addr) (u : SX) (t : State) (H1 : Heap) (locs1 : List Loc), t.heap = H1 → s.vm.Alike t.vm → px u → BX E u t → H.size ≤ H1.size → (∀ q : Nat, q < H.size → ¬ AX q → H1[q]? = H[q]?) → va_S A0 H0 H1 locs1 → H1[q9]? = some ce → ce.vm = .none → s.vm.findClass E = some ce.cls → vx_W p l e R s m args below meth c H1 locs1 (cells + mc) (slots + ms) Q (F0 m pc ls rest) q9)
    (kk : ∀ (r : Int32) (u : S) (t : State) (H1 : Heap) (locs1 : List Loc), t.heap = H1 → s.vm.Alike t.vm → post r u → B u t → H.size ≤ H1.size → (∀ q : Nat, q < H.size → ¬ A1 q → H1[q]? = H[q]?) → va_S A0 H0 H1 locs1 → W p l e R s m args below meth c H1 locs1 (cells + mc) (slots + ms) Q (F0 m (pc + 3) ls (.int r :: rest))) : W p l e R s m args below meth c H locs cells slots Q (F0 m pc ls st0) := by
  intro T hT X
  rcases hr T hT X with ⟨v, st₀, t, T', L, h0, X', hL, e1, e2, ⟨⟨r, u, hv, hp, hb⟩, hF⟩, st⟩ | ⟨q, st₀, t, T', L, E, ce, h0, X', hL, e1, e2, ⟨u, hp, hb, hF⟩, hce, hcv, hcl, st⟩
  · cases hv
    obtain ⟨k1, k2, k3⟩ := vx_keep h0 e1 hS hA hf hL hF
    obtain ⟨t2, a1, b1⟩ := kk r u t T'.heap (locs ++ L) e1.symm (by rw [← e2]; exact X'.warmed.alike) hp hb k1 k2 k3 T' rfl X'
    exact ⟨t2, st t2 a1, b1⟩
  · obtain ⟨k1, k2, k3⟩ := vx_keep h0 e1 hS hAX hf hL hF
    obtain ⟨t2, a1, b1⟩ := kx E ce q u t T'.heap (locs ++ L) e1.symm (by rw [← e2]; exact X'.warmed.alike) hp hb k1 k2 k3 (by rw [e1]; exact hce) hcv hcl T' rfl X'
    exact ⟨t2, st.trans a1, b1⟩
theorem vx_calll {S SX : Type} {post : Int64 → S → Prop} {px : SX → Prop} {B : S → State → Prop} {BX : String → SX → State → Prop} {AX : Nat → Prop} (hr : vx_Run p l e R s m args below meth c H locs cells slots mc ms (F0 m pc ls st0) rest (va_Ql post B A1 a) (vx_X px BX AX) free) (hS : va_S A0 H0 H locs) (hA : ∀ q, q < H.size → A1 q → A0 q) (hf : ∀ q, free q → A0 q) (hAX : ∀ q, q < H.size → AX q → A0 q)
    (kx : ∀ (E : String) (ce : Cell) (q9 : Addr) (u : SX) (t : State) (H1 : Heap) (locs1 : List Loc), t.heap = H1 → s.vm.Alike t.vm → px u → BX E u t → H.size ≤ H1.size → (∀ q : Nat, q < H.size → ¬ AX q → H1[q]? = H[q]?) → va_S A0 H0 H1 locs1 → H1[q9]? = some ce → ce.vm = .none → s.vm.findClass E = some ce.cls → vx_W p l e R s m args below meth c H1 locs1 (cells + mc) (slots + ms) Q (F0 m pc ls rest) q9)
    (kk : ∀ (r : Int64) (u : S) (t : State) (H1 : Heap) (locs1 : List Loc), t.heap = H1 → s.vm.Alike t.vm → post r u → B u t → H.size ≤ H1.size → (∀ q : Nat, q < H.size → ¬ A1 q → H1[q]? = H[q]?) → va_S A0 H0 H1 locs1 → W p l e R s m args below meth c H1 locs1 (cells + mc) (slots + ms) Q (F0 m (pc + 3) ls (.long r :: rest))) : W p l e R s m args below meth c H locs cells slots Q (F0 m pc ls st0) := by
  intro T hT X
  rcases hr T hT X with ⟨v, st₀, t, T', L, h0, X', hL, e1, e2, ⟨⟨r, u, hv, hp, hb⟩, hF⟩, st⟩ | ⟨q, st₀, t, T', L, E, ce, h0, X', hL, e1, e2, ⟨u, hp, hb, hF⟩, hce, hcv, hcl, st⟩
  · cases hv
    obtain ⟨k1, k2, k3⟩ := vx_keep h0 e1 hS hA hf hL hF
    obtain ⟨t2, a1, b1⟩ := kk r u t T'.heap (locs ++ L) e1.symm (by rw [← e2]; exact X'.warmed.alike) hp hb k1 k2 k3 T' rfl X'
    exact ⟨t2, st t2 a1, b1⟩
  · obtain ⟨k1, k2, k3⟩ := vx_keep h0 e1 hS hAX hf hL hF
    obtain ⟨t2, a1, b1⟩ := kx E ce q u t T'.heap (locs ++ L) e1.symm (by rw [← e2]; exact X'.warmed.alike) hp hb k1 k2 k3 (by rw [e1]; exact hce) hcv hcl T' rfl X'
    exact ⟨t2, st.trans a1, b1⟩
theorem vx_callf {S SX : Type} {post : UInt32 → S → Prop} {px : SX → Prop} {B : S → State → Prop} {BX : String → SX → State → Prop} {AX : Nat → Prop} (hr : vx_Run p l e R s m args below meth c H locs cells slots mc ms (F0 m pc ls st0) rest (va_Qf post B A1 a) (vx_X px BX AX) free) (hS : va_S A0 H0 H locs) (hA : ∀ q, q < H.size → A1 q → A0 q) (hf : ∀ q, free q → A0 q) (hAX : ∀ q, q < H.size → AX q → A0 q)
    (kx : ∀ (E : String) (ce : Cell) (q9 : Addr) (u : SX) (t : State) (H1 : Heap) (locs1 : List Loc), t.heap = H1 → s.vm.Alike t.vm → px u → BX E u t → H.size ≤ H1.size → (∀ q : Nat, q < H.size → ¬ AX q → H1[q]? = H[q]?) → va_S A0 H0 H1 locs1 → H1[q9]? = some ce → ce.vm = .none → s.vm.findClass E = some ce.cls → vx_W p l e R s m args below meth c H1 locs1 (cells + mc) (slots + ms) Q (F0 m pc ls rest) q9)
    (kk : ∀ (r : UInt32) (u : S) (t : State) (H1 : Heap) (locs1 : List Loc), t.heap = H1 → s.vm.Alike t.vm → post r u → B u t → H.size ≤ H1.size → (∀ q : Nat, q < H.size → ¬ A1 q → H1[q]? = H[q]?) → va_S A0 H0 H1 locs1 → W p l e R s m args below meth c H1 locs1 (cells + mc) (slots + ms) Q (F0 m (pc + 3) ls (.float r :: rest))) : W p l e R s m args below meth c H locs cells slots Q (F0 m pc ls st0) := by
  intro T hT X
  rcases hr T hT X with ⟨v, st₀, t, T', L, h0, X', hL, e1, e2, ⟨⟨r, u, hv, hp, hb⟩, hF⟩, st⟩ | ⟨q, st₀, t, T', L, E, ce, h0, X', hL, e1, e2, ⟨u, hp, hb, hF⟩, hce, hcv, hcl, st⟩
  · cases hv
    obtain ⟨k1, k2, k3⟩ := vx_keep h0 e1 hS hA hf hL hF
    obtain ⟨t2, a1, b1⟩ := kk r u t T'.heap (locs ++ L) e1.symm (by rw [← e2]; exact X'.warmed.alike) hp hb k1 k2 k3 T' rfl X'
    exact ⟨t2, st t2 a1, b1⟩
  · obtain ⟨k1, k2, k3⟩ := vx_keep h0 e1 hS hAX hf hL hF
    obtain ⟨t2, a1, b1⟩ := kx E ce q u t T'.heap (locs ++ L) e1.symm (by rw [← e2]; exact X'.warmed.alike) hp hb k1 k2 k3 (by rw [e1]; exact hce) hcv hcl T' rfl X'
    exact ⟨t2, st.trans a1, b1⟩
theorem vx_calld {S SX : Type} {post : UInt64 → S → Prop} {px : SX → Prop} {B : S → State → Prop} {BX : String → SX → State → Prop} {AX : Nat → Prop} (hr : vx_Run p l e R s m args below meth c H locs cells slots mc ms (F0 m pc ls st0) rest (va_Qd post B A1 a) (vx_X px BX AX) free) (hS : va_S A0 H0 H locs) (hA : ∀ q, q < H.size → A1 q → A0 q) (hf : ∀ q, free q → A0 q) (hAX : ∀ q, q < H.size → AX q → A0 q)
    (kx : ∀ (E : String) (ce : Cell) (q9 : Addr) (u : SX) (t : State) (H1 : Heap) (locs1 : List Loc), t.heap = H1 → s.vm.Alike t.vm → px u → BX E u t → H.size ≤ H1.size → (∀ q : Nat, q < H.size → ¬ AX q → H1[q]? = H[q]?) → va_S A0 H0 H1 locs1 → H1[q9]? = some ce → ce.vm = .none → s.vm.findClass E = some ce.cls → vx_W p l e R s m args below meth c H1 locs1 (cells + mc) (slots + ms) Q (F0 m pc ls rest) q9)
    (kk : ∀ (r : UInt64) (u : S) (t : State) (H1 : Heap) (locs1 : List Loc), t.heap = H1 → s.vm.Alike t.vm → post r u → B u t → H.size ≤ H1.size → (∀ q : Nat, q < H.size → ¬ A1 q → H1[q]? = H[q]?) → va_S A0 H0 H1 locs1 → W p l e R s m args below meth c H1 locs1 (cells + mc) (slots + ms) Q (F0 m (pc + 3) ls (.double r :: rest))) : W p l e R s m args below meth c H locs cells slots Q (F0 m pc ls st0) := by
  intro T hT X
  rcases hr T hT X with ⟨v, st₀, t, T', L, h0, X', hL, e1, e2, ⟨⟨r, u, hv, hp, hb⟩, hF⟩, st⟩ | ⟨q, st₀, t, T', L, E, ce, h0, X', hL, e1, e2, ⟨u, hp, hb, hF⟩, hce, hcv, hcl, st⟩
  · cases hv
    obtain ⟨k1, k2, k3⟩ := vx_keep h0 e1 hS hA hf hL hF
    obtain ⟨t2, a1, b1⟩ := kk r u t T'.heap (locs ++ L) e1.symm (by rw [← e2]; exact X'.warmed.alike) hp hb k1 k2 k3 T' rfl X'
    exact ⟨t2, st t2 a1, b1⟩
  · obtain ⟨k1, k2, k3⟩ := vx_keep h0 e1 hS hAX hf hL hF
    obtain ⟨t2, a1, b1⟩ := kx E ce q u t T'.heap (locs ++ L) e1.symm (by rw [← e2]; exact X'.warmed.alike) hp hb k1 k2 k3 (by rw [e1]; exact hce) hcv hcl T' rfl X'
    exact ⟨t2, st.trans a1, b1⟩
theorem vx_callv {S SX : Type} {post : S → Prop} {px : SX → Prop} {B : S → State → Prop} {BX : String → SX → State → Prop} {AX : Nat → Prop} (hr : vx_Run p l e R s m args below meth c H locs cells slots mc ms (F0 m pc ls st0) rest (va_Qv post B A1 a) (vx_X px BX AX) free) (hS : va_S A0 H0 H locs) (hA : ∀ q, q < H.size → A1 q → A0 q) (hf : ∀ q, free q → A0 q) (hAX : ∀ q, q < H.size → AX q → A0 q)
    (kx : ∀ (E : String) (ce : Cell) (q9 : Addr) (u : SX) (t : State) (H1 : Heap) (locs1 : List Loc), t.heap = H1 → s.vm.Alike t.vm → px u → BX E u t → H.size ≤ H1.size → (∀ q : Nat, q < H.size → ¬ AX q → H1[q]? = H[q]?) → va_S A0 H0 H1 locs1 → H1[q9]? = some ce → ce.vm = .none → s.vm.findClass E = some ce.cls → vx_W p l e R s m args below meth c H1 locs1 (cells + mc) (slots + ms) Q (F0 m pc ls rest) q9)
    (kk : ∀ (u : S) (t : State) (H1 : Heap) (locs1 : List Loc), t.heap = H1 → s.vm.Alike t.vm → post u → B u t → H.size ≤ H1.size → (∀ q : Nat, q < H.size → ¬ A1 q → H1[q]? = H[q]?) → va_S A0 H0 H1 locs1 → W p l e R s m args below meth c H1 locs1 (cells + mc) (slots + ms) Q (F0 m (pc + 3) ls (rest))) : W p l e R s m args below meth c H locs cells slots Q (F0 m pc ls st0) := by
  intro T hT X
  rcases hr T hT X with ⟨v, st₀, t, T', L, h0, X', hL, e1, e2, ⟨⟨u, hv, hp, hb⟩, hF⟩, st⟩ | ⟨q, st₀, t, T', L, E, ce, h0, X', hL, e1, e2, ⟨u, hp, hb, hF⟩, hce, hcv, hcl, st⟩
  · cases hv
    obtain ⟨k1, k2, k3⟩ := vx_keep h0 e1 hS hA hf hL hF
    obtain ⟨t2, a1, b1⟩ := kk u t T'.heap (locs ++ L) e1.symm (by rw [← e2]; exact X'.warmed.alike) hp hb k1 k2 k3 T' rfl X'
    exact ⟨t2, st t2 a1, b1⟩
  · obtain ⟨k1, k2, k3⟩ := vx_keep h0 e1 hS hAX hf hL hF
    obtain ⟨t2, a1, b1⟩ := kx E ce q u t T'.heap (locs ++ L) e1.symm (by rw [← e2]; exact X'.warmed.alike) hp hb k1 k2 k3 (by rw [e1]; exact hce) hcv hcl T' rfl X'
    exact ⟨t2, st.trans a1, b1⟩
/-- caught by the row x of this method's table; the rows ahead don't take it -/
theorem vx_catch {own name : String} {E : String} {ce : Cell} {q : Addr} (hown : s.vm.findClass own = some m.cls) (pre : List ExceptionTableEntry) (x : ExceptionTableEntry) (suf : List ExceptionTableEntry) (hsplit : c.exceptionTable.toList = pre ++ x :: suf)
    (hpass : ∀ z ∈ pre, covers z pc = false ∨ (z.catchType ≠ 0 ∧ ∃ nm : String, (Cond.classLink own z.catchType nm).before args s = true ∧ va_Nc E nm s)) (hx : covers x pc = true) (h0 : x.catchType ≠ 0)
    (hlink : (Cond.classLink own x.catchType name).before args s = true) (hcast : (Cond.castable E name).before args s = true) (hcell : H[q]? = some ce) (hv : ce.vm = .none) (hcl : s.vm.findClass E = some ce.cls)
    (kk : W p l e R s m args below meth c H locs cells slots Q (F0 m x.handlerPc ls [.ref q])) : vx_W p l e R s m args below meth c H locs cells slots Q (F0 m pc ls rest) q := by
  intro T hT X
  have hpl : e.platform.magicAccessors = ({} : Platform).magicAccessors := by rw [X.admits.platform]
  obtain ⟨c3, c4, hc3, hc4, hasg⟩ := Cond.castable_spec hcast
  cases Option.some.inj (hc3.symm.trans hcl)
  obtain ⟨c5, hc5, hcl5⟩ := Cond.classLink_spec hown hlink e.platform hpl
  cases Option.some.inj (hc4.symm.trans hc5)
  obtain ⟨vm', X', st⟩ := X.thenCaughtThrough q (g := F0 m pc ls rest) rfl (Steps.refl _) (by rw [hT]; exact hcell) (by rw [hv]; rfl) (by obtain ⟨k9, h9, -⟩ := Vm.findClass_spec hcl; exact ⟨k9, h9⟩) pre x suf hsplit
    (fun z hz => by
      rcases hpass z hz with h | ⟨hz0, nm, hl1, hn1⟩
      · exact Or.inl h
      · obtain ⟨c6, hc6, hcl6⟩ := Cond.classLink_spec hown hl1 e.platform hpl
        obtain ⟨a8, b8, h1, h2, h3⟩ := hn1
        cases Option.some.inj (h1.symm.trans hcl)
        cases Option.some.inj (h2.symm.trans hc6)
        exact Or.inr ⟨hz0, _, hcl6, h3⟩) hx (Or.inr ⟨h0, c4, hcl5, hasg⟩)
  obtain ⟨t, a1, b1⟩ := kk (T.setVm vm') hT X'
  exact ⟨t, st.trans a1, b1⟩
end Rows
section Ends
variable {p : Program} {l : Launch} {e : Env} {R : Room} {s : State} {m : MethodId} {args : Array Value} {below : List Frame} {meth : Method} {c : Code} {H : Heap} {locs : List Loc} {cells slots : Nat} {Q : State → Prop}
variable {mc ms : Nat} {free : Addr → Prop} {A0 A1 : Nat → Prop} {H0 : Heap} {a : Array Value} {ls : Array Slot} {st0 rest : List Value}
variable {Qc : Array Value → State → Outcome → State → Prop} {XC : String → State → State → Prop}
/-- what a body that may throw owes at its end -/
def vx_MQ (below : List Frame) (Qc : Array Value → State → Outcome → State → Prop) (XC : String → State → State → Prop) (a : Array Value) (s : State) (mc ms : Nat) (free : Addr → Prop) : State → Prop := fun t =>
  ∃ o, t.status = .running ∧ Ended t below o ∧ vx_Q Qc XC mc ms free a s o t
theorem vx_ret {g : JFrame} {mc ms : Nat} (k : W p l e R s m args below meth c H locs cells slots (MQ below Qc args s mc ms free) g) : W p l e R s m args below meth c H locs cells slots (vx_MQ below Qc XC args s mc ms free) g := by
  intro T hT X
  obtain ⟨t, a1, o, b1, b2, b3, b4⟩ := k T hT X
  exact ⟨t, a1, o, b1, b2, Or.inl ⟨b3, b4⟩⟩
/-- not caught here: it goes on to the caller -/
theorem vx_widen {g : JFrame} {q : Addr} {k n : Nat} (h1 : cells ≤ k) (h2 : slots ≤ n) (kk : vx_W p l e R s m args below meth c H locs k n Q g q) : vx_W p l e R s m args below meth c H locs cells slots Q g q := fun T hT X => kk T hT (stand_widen X h1 h2)
theorem vx_out {pc : Nat} {E : String} {ce : Cell} {q : Addr} {mc ms : Nat} (hout : ∀ x ∈ c.exceptionTable.toList, covers x pc = false) (hlocks : meth.locks = false) (hcell : H[q]? = some ce) (hv : ce.vm = .none) (hcl : s.vm.findClass E = some ce.cls)
    (hx : ∀ t : State, t.heap = H → s.vm.Alike t.vm → XC E s t) (hf : ∀ z ∈ locs, free z.base) (hc : cells ≤ mc) (hs : slots ≤ ms) :
    vx_W p l e R s m args below meth c H locs cells slots (vx_MQ below Qc XC args s mc ms free) (F0 m pc ls rest) q := by
  intro T hT X
  obtain ⟨st1, hrun, hend, hW, hsm⟩ := X.leaveThrown q (g := F0 m pc ls rest) rfl rfl rfl hout hlocks
  have hcell9 : (T.setFrames (.throwing q :: below)).heap[q]? = some ce := by
    show T.heap[q]? = some ce
    rw [hT]; exact hcell
  exact ⟨_, st1, .threw q, hrun, hend, Or.inr ⟨q, rfl, E, ce, locs, hx _ hT hW.alike, hcell9, hv, hcl, hW, hsm.mono hc hs, hf⟩⟩
theorem vx_frame {U : State} {k n : Nat} (h : s.sameButNew ({ U with vm := s.vm } : State) locs k n) : s.heap.size ≤ U.heap.size ∧ ∀ q : Nat, q < s.heap.size → (∀ z ∈ locs, z.base ≠ q) → U.heap[q]? = s.heap[q]? := by
  obtain ⟨-, h2, -, -, -, h6⟩ := h
  refine ⟨h2, fun q hq hz => ?_⟩
  obtain ⟨c9, e1, e2, e3, e4⟩ := h6 q _ (Array.getElem?_eq_getElem hq)
  have hs : c9.slots = (s.heap[q]).slots := Array.ext_getElem? fun i => e4 i fun hm => hz _ hm rfl
  have h9 : c9 = s.heap[q] := by
    rw [hs] at e2
    exact e2
  have e5 : U.heap[q]? = some c9 := e1
  rw [e5, h9, Array.getElem?_eq_getElem hq]
/-- the words of a throw but the four that speak of the heap -/
def vx_no (w : Cond) : Bool := decide (w ≠ .isRef (.static Bundle.tN "UNASSIGNED_STACK" Bundle.steD)) && decide (w ≠ .isRef (.static Bundle.tN "SUPPRESSED_SENTINEL" Bundle.listD)) && decide (w ≠ .laysStatic Bundle.tN "UNASSIGNED_STACK" Bundle.steD) && decide (w ≠ .laysStatic Bundle.tN "SUPPRESSED_SENTINEL" Bundle.listD)
def vx_at0 (own : String) (ic : Nat) (X : String) (names : List String) : List Cond := (Bundle.ownAtoms0 own ic X names).filter vx_no
def vx_atS (own : String) (ic : Nat) (X : String) (names : List String) : List Cond := (Bundle.ownAtoms own ic X names).filter vx_no
/-- a word that the tables alone decide, or a good one -/
def vx_ot (w : Cond) : Bool := w.onTables || goodWord w
theorem vx_ot_at {args a' : Array Value} {s U : State} {w : Cond} (hW : s.WarmedH U.vm) (hvm : s.vm = U.vm) (hg : vx_ot w = true) (h : w.before args s = true) : w.before a' U = true := by
  simp only [vx_ot, Bool.or_eq_true] at hg
  rcases hg with hg | hg
  · exact va_tabs hg hvm h
  · exact word_at hW (good_of_word hg) h
/-- a list's words: the good ones out of the method's own list, the others by premises of their own -/
theorem vx_hat {args : Array Value} {s : State} {L B : List Cond} (h1 : ∀ w ∈ L.filter goodWord, w.before args s = true) (h2 : ∀ w ∈ L.filter (fun w => !goodWord w), w ∈ B) (h3 : ∀ w ∈ B, w.before args s = true) : ∀ w ∈ L, w.before args s = true := by
  intro w hw
  by_cases g : goodWord w = true
  · exact h1 w (List.mem_filter.mpr ⟨hw, g⟩)
  · refine h3 w (h2 w (List.mem_filter.mpr ⟨hw, ?_⟩))
    show (!goodWord w) = true
    cases hgw : goodWord w
    · rfl
    · exact absurd hgw g
theorem vx_c {args : Array Value} {s : State} {w : Cond} {B : List Cond} (h : w.before args s = true) (t : ∀ w ∈ B, w.before args s = true) : ∀ w' ∈ w :: B, w'.before args s = true := fun w' h' => (List.mem_cons.mp h').elim (fun e => by rw [e]; exact h) (t w')
theorem vx_n {args : Array Value} {s : State} : ∀ w ∈ ([] : List Cond), w.before args s = true := fun _ h => nomatch h
theorem vx_own {args : Array Value} {s : State} {L : List Cond} (h1 : ∀ w ∈ L.filter vx_no, w.before args s = true)
    (hU : (Cond.isRef (.static Bundle.tN "UNASSIGNED_STACK" Bundle.steD)).before args s = true) (hN : (Cond.isRef (.static Bundle.tN "SUPPRESSED_SENTINEL" Bundle.listD)).before args s = true)
    (lU : (Cond.laysStatic Bundle.tN "UNASSIGNED_STACK" Bundle.steD).before args s = true) (lN : (Cond.laysStatic Bundle.tN "SUPPRESSED_SENTINEL" Bundle.listD).before args s = true) : ∀ w ∈ L, w.before args s = true := by
  intro w hw
  by_cases e1 : w = .isRef (.static Bundle.tN "UNASSIGNED_STACK" Bundle.steD)
  · rw [e1]; exact hU
  · by_cases e2 : w = .isRef (.static Bundle.tN "SUPPRESSED_SENTINEL" Bundle.listD)
    · rw [e2]; exact hN
    · by_cases e3 : w = .laysStatic Bundle.tN "UNASSIGNED_STACK" Bundle.steD
      · rw [e3]; exact lU
      · by_cases e4 : w = .laysStatic Bundle.tN "SUPPRESSED_SENTINEL" Bundle.listD
        · rw [e4]; exact lN
        · exact h1 w (List.mem_filter.mpr ⟨hw, by unfold vx_no; rw [decide_eq_true e1, decide_eq_true e2, decide_eq_true e3, decide_eq_true e4]; rfl⟩)
/-- where a static field lies, its class's statics cell in H -/
def vx_L (C n d : String) (A : Nat → Prop) (U : State) (H : Heap) : Prop := ∃ (c : ClassId) (k : Class) (i : Nat) (f : Field) (a : Nat) (cell : Cell), U.vm.findClass C = some c ∧ U.fieldFound? C n d = some (c, k, i, f) ∧ f.isStatic = true ∧ k.statics = some a ∧ H[a]? = some cell ∧ cell.vm.isStatics = true ∧ cell.cls = c ∧ f.slot < cell.slots.size ∧ k.staticTypes[f.slot]? = some f.type ∧ ¬ A a
theorem vx_L.moved {C n d : String} {A : Nat → Prop} {u U : State} {H : Heap} (hvm : u.vm.Alike U.vm) (h : vx_L C n d A u H) : vx_L C n d A U H := by
  obtain ⟨c, k, i, f, a, cell, h1, h2, h3, h4, h5, h6, h7, h8, h9, h10⟩ := h
  obtain ⟨k', hi', he⟩ := State.fieldFound?_setVm hvm h2
  exact ⟨c, k', i, f, a, cell, by rw [hvm.findClass]; exact h1, hi', h3, by rw [he]; exact h4, h5, h6, h7, h8, by rw [he]; exact h9, h10⟩
theorem vx_L.kept {C n d : String} {A : Nat → Prop} {U : State} {H H1 : Heap} (h : vx_L C n d A U H) (hq : ∀ a : Nat, a < H.size → ¬ A a → H1[a]? = H[a]?) : vx_L C n d A U H1 := by
  obtain ⟨c, k, i, f, a, cell, h1, h2, h3, h4, h5, h6, h7, h8, h9, h10⟩ := h
  exact ⟨c, k, i, f, a, cell, h1, h2, h3, h4, by rw [hq a (Array.getElem?_eq_some_iff.mp h5).1 h10]; exact h5, h6, h7, h8, h9, h10⟩
theorem vx_L.narrow {C n d : String} {A B : Nat → Prop} {U : State} {H : Heap} (h : vx_L C n d A U H) (hAB : ∀ q, B q → A q) : vx_L C n d B U H := by
  obtain ⟨c, k, i, f, a, cell, h1, h2, h3, h4, h5, h6, h7, h8, h9, h10⟩ := h
  exact ⟨c, k, i, f, a, cell, h1, h2, h3, h4, h5, h6, h7, h8, h9, fun z => h10 (hAB _ z)⟩
theorem vx_L.word {C n d : String} {A : Nat → Prop} {s : State} {args : Array Value} (h : vx_L C n d A s s.heap) : (Cond.laysStatic C n d).before args s = true := by
  obtain ⟨c, k, i, f, a, cell, h1, h2, h3, h4, h5, h6, h7, h8, h9, -⟩ := h
  show (Cond.laysStatic C n d).holds args s none s [] = true
  exact Cond.laysStatic_of h1 h2 h3 h4 h5 h6 h7 h8 h9
/-- .. and what it holds: null or some reference -/
def vx_Zq (C n d : String) (A : Nat → Prop) (U : State) (H : Heap) : Prop := va_Zq C n d A U H ∧ vx_L C n d A U H
theorem vx_Zq.moved {C n d : String} {A : Nat → Prop} {u U : State} {H : Heap} (hvm : u.vm.Alike U.vm) (h : vx_Zq C n d A u H) : vx_Zq C n d A U H := ⟨va_Zq.moved hvm h.1, vx_L.moved hvm h.2⟩
theorem vx_Zq.kept {C n d : String} {A : Nat → Prop} {U : State} {H H1 : Heap} (h : vx_Zq C n d A U H) (hq : ∀ a : Nat, a < H.size → ¬ A a → H1[a]? = H[a]?) : vx_Zq C n d A U H1 := ⟨va_Zq.kept h.1 hq, vx_L.kept h.2 hq⟩
theorem vx_Zq.narrow {C n d : String} {A B : Nat → Prop} {U : State} {H : Heap} (h : vx_Zq C n d A U H) (hAB : ∀ q, B q → A q) : vx_Zq C n d B U H := ⟨va_Zq.narrow h.1 hAB, vx_L.narrow h.2 hAB⟩
theorem vx_Zqof {args : Array Value} {s : State} {C n d : String} {A : Nat → Prop} (hl : (Cond.laysStatic C n d).before args s = true) (hini : (Cond.initialized C).before args s = true) (h : (Cond.isRef (.static C n d)).before args s = true) (hA : ∀ a : Nat, a < s.heap.size → ¬ A a) : vx_Zq C n d A s s.heap := by
  refine ⟨va_Zqof hl hini h hA, ?_⟩
  obtain ⟨c, k, i, f, a, cell, h1, h2, h3, h4, h5, h6, h7, h8, h9⟩ := Cond.laysStatic_spec hl
  exact ⟨c, k, i, f, a, cell, h1, h2, h3, h4, h5, h6, h7, h8, h9, hA a (Array.getElem?_eq_some_iff.mp h5).1⟩
theorem vx_isRef {C n d : String} {v : Value} {A : Nat → Prop} {s : State} {args : Array Value} (h : va_Z C n d v A s s.heap) (hv : v.isRef = true) : (Cond.isRef (.static C n d)).before args s = true := by
  obtain ⟨cf, kf, fi, f, a, cell, h1, h2, h3, h4, h5, h6, h7, -⟩ := h
  have he : (Term.static C n d).eval args s none [] s = some v := by
    simp [Term.eval, State.fieldNamed?, h1, h2, h4, h5, h6, h7]
  simp only [Cond.before, Cond.holds, Cond.value, he]
  cases v <;> simp_all [Value.isRef]
theorem vx_isRefq {C n d : String} {A : Nat → Prop} {s : State} {args : Array Value} (h : va_Zq C n d A s s.heap) : (Cond.isRef (.static C n d)).before args s = true := by
  rcases h with h | ⟨t, h⟩
  · exact vx_isRef h rfl
  · exact vx_isRef h rfl
/-- the same frame, seen from here: as if the method were called anew in this heap -/
theorem vx_rebase {T : State} (X : Stand p l e R s m args below meth c T locs cells slots) {R' : Room} (hf : R'.frames ≤ R.frames) (hl : R'.locals ≤ R.locals) (hc : cells + R'.cells ≤ R.cells) (hs : slots + R'.slots ≤ R.slots) :
    Stand p l e R' ((T.setVm s.vm).setFrames (.invoking m args :: below)) m args below meth c T [] 0 0 := by
  have htop : (T.setVm s.vm).topJava?.isSome := X.here.top
  have hF : ((T.setVm s.vm).setFrames (.invoking m args :: below)).frames = .invoking m args :: below := State.frames_setFrames _ (State.cur_lt_of_top htop)
  obtain ⟨g₀, hg0⟩ := Option.isSome_iff_exists.mp htop
  obtain ⟨r, hr⟩ := State.topJava?_eq_some.mp hg0
  have hl9 : e.platform.stackLimits (T.setVm s.vm).me = e.platform.stackLimits s.me := X.limits
  have hb9 : (T.setVm s.vm).me.stackBytes = s.me.stackBytes := X.bytes
  refine ⟨X.admits, X.cas, X.clock, hF, ?_, X.hears, X.method, X.code, X.here, X.tail, X.warmed, ?_, ?_, ?_⟩
  · have h := X.room
    have hU : ((T.setVm s.vm).setFrames (.invoking m args :: below)).localsInUse = s.localsInUse := by
      rw [State.localsInUse_invoking hF (meth := meth) (c := c) X.method X.code, State.localsInUse_invoking X.frames X.method X.code]
    simp only [State.hasRoom, Bool.and_eq_true, decide_eq_true_eq] at h ⊢
    obtain ⟨⟨⟨⟨h1, h2, h3, h4, h5, h6⟩, h7⟩, h8⟩, h9⟩ := h
    rw [X.frames, List.length_cons] at h2 h3
    have q1 := X.heapSize
    have q2 := X.used
    simp only [hF, hU, List.length_cons, State.stackLimits_setFrames, State.stackBytes_setFrames, hl9, hb9]
    refine ⟨⟨⟨⟨by omega, by omega, by omega, by omega, by omega, h6⟩, ?_⟩, ?_⟩, X.book⟩
    · show T.heap.size + R'.cells ≤ e.platform.maxCells
      omega
    · show T.slotsUsed + R'.slots ≤ e.platform.maxSlots
      omega
  · rw [State.stackLimits_setFrames]; rfl
  · rw [State.stackBytes_setFrames]; rfl
  · refine ⟨?_, Nat.le_refl _, Nat.le_refl _, ?_, ?_, fun a c9 h9 => ⟨c9, h9, rfl, rfl, fun _ _ => rfl⟩⟩
    · obtain ⟨t, ht, -⟩ := State.frames_cons hr
      show T.setVm s.vm = { ((T.setVm s.vm).setFrames (.invoking m args :: below)).setFrames (T.setVm s.vm).frames with heap := T.heap, slotsUsed := T.slotsUsed }
      rw [State.setFrames_setFrames, State.setFrames_self ht]
      rfl
    · show T.slotsUsed = T.slotsUsed + ((T.heap.toList.drop T.heap.size).map (·.slots.size)).sum
      rw [List.drop_eq_nil_of_le (Nat.le_of_eq Array.length_toList)]
      rfl
    · show ((T.heap.toList.drop T.heap.size).map (·.slots.size)).sum ≤ 0
      rw [List.drop_eq_nil_of_le (Nat.le_of_eq Array.length_toList)]
      exact Nat.le_refl _
/-- 'throw new E()': new; dup; invokespecial; athrow -/
theorem vx_throw0 {cc : ByteArray} {pc : Nat} (hexec : p.tables.exec = Jvm.exec) (hb : c.code = cc) (hl : l.stackTraces = false) {own cls : String} {names : List String} {ik ic mc ms : Nat} {A : Nat → Prop}
    (hown : s.vm.findClass own = some m.cls) (hcls : Bundle.fit cls = true) (hnames : ∀ n ∈ names, Bundle.fit n = true)
    (hk : (Cond.classLink own ik cls).before args s = true) (hini : (Cond.initialized cls).before args s = true) (hat : ∀ w ∈ vx_at0 own ic cls names, w.before args s = true)
    (hgood : ∀ w ∈ Cond.classLink own ik cls :: Cond.initialized cls :: vx_at0 own ic cls names, vx_ot w = true)
    (hU : vx_Zq Bundle.tN "UNASSIGNED_STACK" Bundle.steD A s s.heap) (hN : vx_Zq Bundle.tN "SUPPRESSED_SENTINEL" Bundle.listD A s s.heap) (hS : va_S A s.heap H locs) (hsize : ls.size = c.maxLocals)
    (d0 : decode cc pc = .ok (.new ik, 3)) (d3 : decode cc (pc + 3) = .ok (.dup, 1)) (d4 : decode cc (pc + 4) = .ok (.invokespecial ic, 3)) (d7 : decode cc (pc + 7) = .ok (.athrow, 1))
    (hout : ∀ x ∈ c.exceptionTable.toList, covers x (pc + 7) = false)
    (hRframes : names.length + 3 < R.frames) (hRlocals : (rest.map fun v => v.category).sum + (13 * (names.length + 1) + 42) ≤ R.locals) (hRcells : cells + 1 ≤ R.cells) (hRslots : slots + 6 ≤ R.slots) (hlocks : meth.locks = false)
    (hx : ∀ t : State, s.vm.Alike t.vm → H.size ≤ t.heap.size → (∀ q : Nat, q < H.size → t.heap[q]? = H[q]?) → XC cls s t)
    (hf : ∀ z ∈ locs, free z.base) (hc : cells + 1 ≤ mc) (hs : slots + 6 ≤ ms) :
    W p l e R s m args below meth c H locs cells slots (vx_MQ below Qc XC args s mc ms free) (F0 m pc ls rest) := by
  intro T hT X
  have htr : e.platform.stackTraces = false := (show e.platform.stackTraces = l.stackTraces by rw [X.admits.platform]).trans hl
  have Y := vx_rebase X (R' := { frames := R.frames, locals := R.locals, cells := 1, slots := 6 }) (Nat.le_refl _) (Nat.le_refl _) hRcells hRslots
  obtain ⟨s', hA⟩ : ∃ z, z = (T.setVm s.vm).setFrames (.invoking m args :: below) := ⟨_, rfl⟩
  rw [← hA] at Y
  have hvm : s'.vm = s.vm := by rw [hA]; rfl
  have hhp : s'.heap = H := by rw [hA]; exact hT
  have hW0 : s.WarmedH s'.vm := by rw [hvm]; exact State.WarmedH.refl s
  have hat' : ∀ w ∈ vx_at0 own ic cls names, w.before args s' = true := fun w hw => vx_ot_at hW0 hvm.symm (hgood w (List.mem_cons_of_mem _ (List.mem_cons_of_mem _ hw))) (hat w hw)
  have hk' : (Cond.classLink own ik cls).before args s' = true := vx_ot_at hW0 hvm.symm (hgood _ List.mem_cons_self) hk
  have hini' : (Cond.initialized cls).before args s' = true := vx_ot_at hW0 hvm.symm (hgood _ (List.mem_cons_of_mem _ List.mem_cons_self)) hini
  have hU' : vx_Zq Bundle.tN "UNASSIGNED_STACK" Bundle.steD A s' s'.heap := by rw [hhp]; exact vx_Zq.moved hW0.alike (hU.kept hS.2.1)
  have hN' : vx_Zq Bundle.tN "SUPPRESSED_SENTINEL" Bundle.listD A s' s'.heap := by rw [hhp]; exact vx_Zq.moved hW0.alike (hN.kept hS.2.1)
  have h : ∀ w ∈ Bundle.ownAtoms0 own ic cls names, w.before args s' = true := vx_own hat' (vx_isRefq hU'.1) (vx_isRefq hN'.1) hU'.2.word hN'.2.word
  have hown' : s'.vm.findClass own = some m.cls := by rw [hvm]; exact hown
  have hins : (Cond.instantiable cls 6).before args s' = true := h _ (by simp [Bundle.ownAtoms0])
  obtain ⟨vm₁, cX, kX, hfX, hkX, -, -, X₁, st1⟩ := Y.newCold hexec (own := own) (C := cls) (index := ik) (n := 6) hown' hk' hins hini'
    (g := F0 m pc ls rest) rfl (by rw [hb]; exact d0) (Nat.le_refl _) (Nat.le_refl _)
  generalize hT1 : (T.setVm vm₁).pushCell { cls := cX, slots := kX.instanceTypes.map defaultValue, vm := .none } = T1 at X₁ st1
  have hcat : (Value.ref T.heap.size).category = 1 := rfl
  have hcellA : T1.heap[T.heap.size]? = some (freshCell cX kX) := by rw [← hT1]; exact State.heap_pushCell_size _ _
  have d3' : decode c.code (pc + 3) = .ok (.dup, 1) := by rw [hb]; exact d3
  obtain ⟨U, hsteps, hrun, hend, hW, hsame, ce, hce, hO⟩ := X₁.ctorThrow0 hexec htr (own := own) (cls := cls) (names := names) (ic := ic) hown' hcls hnames h (fun x hx => nomatch hx) hfX hkX hcellA (by rw [hhp, hT]; exact Nat.le_refl _)
    (g := { method := m, pc := pc + 4, locals := ls, stack := .ref T.heap.size :: .ref T.heap.size :: rest, locked := none }) rfl hsize rfl rfl (rest := rest) rfl
    (by rw [hb]; exact d4) (by rw [hb]; exact d7) hout hRframes (by simp only [List.map_cons, List.sum_cons, hcat]; omega) hlocks
  obtain ⟨f1, f2⟩ := vx_frame hsame
  rw [hhp] at f1 f2
  have hWs : s.WarmedH U.vm := State.WarmedH.trans hW0 hW
  have hcl : s.vm.findClass cls = some ce.cls := by
    have h9 := hO.cls
    rw [hvm] at h9
    exact h9
  have hall : s.sameButNew ({ U with vm := s.vm } : State) locs mc ms := by
    subst hA
    obtain ⟨e1, e2⟩ := hsame
    rw [State.setFrames_setFrames] at e1
    have h2 : (T.setVm s.vm).sameButNew ({ U with vm := s.vm } : State) [] (0 + 1) (0 + 6) := ⟨e1, e2⟩
    have h3 := X.same.trans h2
    rw [List.append_nil] at h3
    exact h3.mono hc hs
  refine ⟨U, ?_, .threw T.heap.size, hrun, hend, Or.inr ⟨T.heap.size, rfl, cls, ce, locs, hx U hWs.alike f1 (fun q hq => f2 q hq (fun z hz => nomatch hz)), hce, hO.vm, hcl, hWs, hall, hf⟩⟩
  refine st1 _ ?_
  show Steps p.tables e below (T1.setTop { method := m, pc := pc + 3, locals := ls, stack := .ref T.heap.size :: rest, locked := none }) _
  jvm_step X₁.here [X₁.here.top, hexec, d3', Value.category]
  exact hsteps
/-- 'throw new E("text")': new; dup; ldc; invokespecial; athrow -/
theorem vx_throwS {cc : ByteArray} {pc : Nat} (hexec : p.tables.exec = Jvm.exec) (hb : c.code = cc) (hl : l.stackTraces = false) {own cls text : String} {names : List String} {ik is ic mc ms sa : Nat} {A : Nat → Prop}
    (hown : s.vm.findClass own = some m.cls) (hcls : Bundle.fit cls = true) (hnames : ∀ n ∈ names, Bundle.fit n = true)
    (hk : (Cond.classLink own ik cls).before args s = true) (hini : (Cond.initialized cls).before args s = true) (hstr : vk_R own is text sa s) (hat : ∀ w ∈ vx_atS own ic cls names, w.before args s = true)
    (hgood : ∀ w ∈ Cond.classLink own ik cls :: Cond.initialized cls :: vx_atS own ic cls names, vx_ot w = true)
    (hU : vx_Zq Bundle.tN "UNASSIGNED_STACK" Bundle.steD A s s.heap) (hN : vx_Zq Bundle.tN "SUPPRESSED_SENTINEL" Bundle.listD A s s.heap) (hS : va_S A s.heap H locs) (hsize : ls.size = c.maxLocals)
    (d0 : decode cc pc = .ok (.new ik, 3)) (d3 : decode cc (pc + 3) = .ok (.dup, 1)) (d4 : decode cc (pc + 4) = .ok (.ldc is, 2)) (d6 : decode cc (pc + 6) = .ok (.invokespecial ic, 3)) (d9 : decode cc (pc + 9) = .ok (.athrow, 1))
    (hout : ∀ x ∈ c.exceptionTable.toList, covers x (pc + 9) = false)
    (hRframes : names.length + 3 < R.frames) (hRlocals : (rest.map fun v => v.category).sum + (13 * (names.length + 1) + 43) ≤ R.locals) (hRcells : cells + 1 ≤ R.cells) (hRslots : slots + 6 ≤ R.slots) (hlocks : meth.locks = false)
    (hx : ∀ t : State, s.vm.Alike t.vm → H.size ≤ t.heap.size → (∀ q : Nat, q < H.size → t.heap[q]? = H[q]?) → XC cls s t)
    (hf : ∀ z ∈ locs, free z.base) (hc : cells + 1 ≤ mc) (hs : slots + 6 ≤ ms) :
    W p l e R s m args below meth c H locs cells slots (vx_MQ below Qc XC args s mc ms free) (F0 m pc ls rest) := by
  intro T hT X
  have htr : e.platform.stackTraces = false := (show e.platform.stackTraces = l.stackTraces by rw [X.admits.platform]).trans hl
  have Y := vx_rebase X (R' := { frames := R.frames, locals := R.locals, cells := 1, slots := 6 }) (Nat.le_refl _) (Nat.le_refl _) hRcells hRslots
  obtain ⟨s', hA⟩ : ∃ z, z = (T.setVm s.vm).setFrames (.invoking m args :: below) := ⟨_, rfl⟩
  rw [← hA] at Y
  have hvm : s'.vm = s.vm := by rw [hA]; rfl
  have hhp : s'.heap = H := by rw [hA]; exact hT
  have hW0 : s.WarmedH s'.vm := by rw [hvm]; exact State.WarmedH.refl s
  have hat' : ∀ w ∈ vx_atS own ic cls names, w.before args s' = true := fun w hw => vx_ot_at hW0 hvm.symm (hgood w (List.mem_cons_of_mem _ (List.mem_cons_of_mem _ hw))) (hat w hw)
  have hk' : (Cond.classLink own ik cls).before args s' = true := vx_ot_at hW0 hvm.symm (hgood _ List.mem_cons_self) hk
  have hini' : (Cond.initialized cls).before args s' = true := vx_ot_at hW0 hvm.symm (hgood _ (List.mem_cons_of_mem _ List.mem_cons_self)) hini
  have hU' : vx_Zq Bundle.tN "UNASSIGNED_STACK" Bundle.steD A s' s'.heap := by rw [hhp]; exact vx_Zq.moved hW0.alike (hU.kept hS.2.1)
  have hN' : vx_Zq Bundle.tN "SUPPRESSED_SENTINEL" Bundle.listD A s' s'.heap := by rw [hhp]; exact vx_Zq.moved hW0.alike (hN.kept hS.2.1)
  have h : ∀ w ∈ Bundle.ownAtoms own ic cls names, w.before args s' = true := vx_own hat' (vx_isRefq hU'.1) (vx_isRefq hN'.1) hU'.2.word hN'.2.word
  have hown' : s'.vm.findClass own = some m.cls := by rw [hvm]; exact hown
  have hins : (Cond.instantiable cls 6).before args s' = true := h _ (by simp [Bundle.ownAtoms])
  obtain ⟨vm₁, cX, kX, hfX, hkX, -, -, X₁, st1⟩ := Y.newCold hexec (own := own) (C := cls) (index := ik) (n := 6) hown' hk' hins hini'
    (g := F0 m pc ls rest) rfl (by rw [hb]; exact d0) (Nat.le_refl _) (Nat.le_refl _)
  generalize hT1 : (T.setVm vm₁).pushCell { cls := cX, slots := kX.instanceTypes.map defaultValue, vm := .none } = T1 at X₁ st1
  have hcat : (Value.ref T.heap.size).category = 1 := rfl
  have hcellA : T1.heap[T.heap.size]? = some (freshCell cX kX) := by rw [← hT1]; exact State.heap_pushCell_size _ _
  have d3' : decode c.code (pc + 3) = .ok (.dup, 1) := by rw [hb]; exact d3
  have d4' : decode c.code (pc + 4) = .ok (.ldc is, 2) := by rw [hb]; exact d4
  have hstr' : vk_R own is text sa s' := vk_R.warm hW0 hstr
  obtain ⟨U, hsteps, hrun, hend, hW, hsame, ce, hce, hO⟩ := X₁.ctorThrowS hexec htr (own := own) (cls := cls) (names := names) (ic := ic) hown' hcls hnames h (fun x hx => nomatch hx) hfX hkX hcellA (by rw [hhp, hT]; exact Nat.le_refl _) (msg := .ref sa) rfl
    (g := { method := m, pc := pc + 6, locals := ls, stack := .ref sa :: .ref T.heap.size :: .ref T.heap.size :: rest, locked := none }) rfl hsize rfl rfl (rest := rest) rfl
    (by rw [hb]; exact d6) (by rw [hb]; exact d9) hout hRframes (by simp only [List.map_cons, List.sum_cons, hcat]; omega) hlocks
  obtain ⟨f1, f2⟩ := vx_frame hsame
  rw [hhp] at f1 f2
  have hWs : s.WarmedH U.vm := State.WarmedH.trans hW0 hW
  have hcl : s.vm.findClass cls = some ce.cls := by
    have h9 := hO.cls
    rw [hvm] at h9
    exact h9
  have hall : s.sameButNew ({ U with vm := s.vm } : State) locs mc ms := by
    subst hA
    obtain ⟨e1, e2⟩ := hsame
    rw [State.setFrames_setFrames] at e1
    have h2 : (T.setVm s.vm).sameButNew ({ U with vm := s.vm } : State) [] (0 + 1) (0 + 6) := ⟨e1, e2⟩
    have h3 := X.same.trans h2
    rw [List.append_nil] at h3
    exact h3.mono hc hs
  refine ⟨U, ?_, .threw T.heap.size, hrun, hend, Or.inr ⟨T.heap.size, rfl, cls, ce, locs, hx U hWs.alike f1 (fun q hq => f2 q hq (fun z hz => nomatch hz)), hce, hO.vm, hcl, hWs, hall, hf⟩⟩
  refine st1 _ ?_
  show Steps p.tables e below (T1.setTop { method := m, pc := pc + 3, locals := ls, stack := .ref T.heap.size :: rest, locked := none }) _
  jvm_step X₁.here [X₁.here.top, hexec, d3', Value.category]
  exact X₁.ldcString hexec (own := own) (text := text) (index := is) (a := sa) hown' hstr'.1 hstr'.2
    (g := { method := m, pc := pc + 4, locals := ls, stack := .ref T.heap.size :: .ref T.heap.size :: rest, locked := none }) rfl d4' _ hsteps
/-- 'throw new E("text")', the text by a wide index -/
theorem vx_throwSW {cc : ByteArray} {pc : Nat} (hexec : p.tables.exec = Jvm.exec) (hb : c.code = cc) (hl : l.stackTraces = false) {own cls text : String} {names : List String} {ik is ic mc ms sa : Nat} {A : Nat → Prop}
    (hown : s.vm.findClass own = some m.cls) (hcls : Bundle.fit cls = true) (hnames : ∀ n ∈ names, Bundle.fit n = true)
    (hk : (Cond.classLink own ik cls).before args s = true) (hini : (Cond.initialized cls).before args s = true) (hstr : vk_R own is text sa s) (hat : ∀ w ∈ vx_atS own ic cls names, w.before args s = true)
    (hgood : ∀ w ∈ Cond.classLink own ik cls :: Cond.initialized cls :: vx_atS own ic cls names, vx_ot w = true)
    (hU : vx_Zq Bundle.tN "UNASSIGNED_STACK" Bundle.steD A s s.heap) (hN : vx_Zq Bundle.tN "SUPPRESSED_SENTINEL" Bundle.listD A s s.heap) (hS : va_S A s.heap H locs) (hsize : ls.size = c.maxLocals)
    (d0 : decode cc pc = .ok (.new ik, 3)) (d3 : decode cc (pc + 3) = .ok (.dup, 1)) (d4 : decode cc (pc + 4) = .ok (.ldc_w is, 3)) (d7 : decode cc (pc + 7) = .ok (.invokespecial ic, 3)) (d10 : decode cc (pc + 10) = .ok (.athrow, 1))
    (hout : ∀ x ∈ c.exceptionTable.toList, covers x (pc + 10) = false)
    (hRframes : names.length + 3 < R.frames) (hRlocals : (rest.map fun v => v.category).sum + (13 * (names.length + 1) + 43) ≤ R.locals) (hRcells : cells + 1 ≤ R.cells) (hRslots : slots + 6 ≤ R.slots) (hlocks : meth.locks = false)
    (hx : ∀ t : State, s.vm.Alike t.vm → H.size ≤ t.heap.size → (∀ q : Nat, q < H.size → t.heap[q]? = H[q]?) → XC cls s t)
    (hf : ∀ z ∈ locs, free z.base) (hc : cells + 1 ≤ mc) (hs : slots + 6 ≤ ms) :
    W p l e R s m args below meth c H locs cells slots (vx_MQ below Qc XC args s mc ms free) (F0 m pc ls rest) := by
  intro T hT X
  have htr : e.platform.stackTraces = false := (show e.platform.stackTraces = l.stackTraces by rw [X.admits.platform]).trans hl
  have Y := vx_rebase X (R' := { frames := R.frames, locals := R.locals, cells := 1, slots := 6 }) (Nat.le_refl _) (Nat.le_refl _) hRcells hRslots
  obtain ⟨s', hA⟩ : ∃ z, z = (T.setVm s.vm).setFrames (.invoking m args :: below) := ⟨_, rfl⟩
  rw [← hA] at Y
  have hvm : s'.vm = s.vm := by rw [hA]; rfl
  have hhp : s'.heap = H := by rw [hA]; exact hT
  have hW0 : s.WarmedH s'.vm := by rw [hvm]; exact State.WarmedH.refl s
  have hat' : ∀ w ∈ vx_atS own ic cls names, w.before args s' = true := fun w hw => vx_ot_at hW0 hvm.symm (hgood w (List.mem_cons_of_mem _ (List.mem_cons_of_mem _ hw))) (hat w hw)
  have hk' : (Cond.classLink own ik cls).before args s' = true := vx_ot_at hW0 hvm.symm (hgood _ List.mem_cons_self) hk
  have hini' : (Cond.initialized cls).before args s' = true := vx_ot_at hW0 hvm.symm (hgood _ (List.mem_cons_of_mem _ List.mem_cons_self)) hini
  have hU' : vx_Zq Bundle.tN "UNASSIGNED_STACK" Bundle.steD A s' s'.heap := by rw [hhp]; exact vx_Zq.moved hW0.alike (hU.kept hS.2.1)
  have hN' : vx_Zq Bundle.tN "SUPPRESSED_SENTINEL" Bundle.listD A s' s'.heap := by rw [hhp]; exact vx_Zq.moved hW0.alike (hN.kept hS.2.1)
  have h : ∀ w ∈ Bundle.ownAtoms own ic cls names, w.before args s' = true := vx_own hat' (vx_isRefq hU'.1) (vx_isRefq hN'.1) hU'.2.word hN'.2.word
  have hown' : s'.vm.findClass own = some m.cls := by rw [hvm]; exact hown
  have hins : (Cond.instantiable cls 6).before args s' = true := h _ (by simp [Bundle.ownAtoms])
  obtain ⟨vm₁, cX, kX, hfX, hkX, -, -, X₁, st1⟩ := Y.newCold hexec (own := own) (C := cls) (index := ik) (n := 6) hown' hk' hins hini'
    (g := F0 m pc ls rest) rfl (by rw [hb]; exact d0) (Nat.le_refl _) (Nat.le_refl _)
  generalize hT1 : (T.setVm vm₁).pushCell { cls := cX, slots := kX.instanceTypes.map defaultValue, vm := .none } = T1 at X₁ st1
  have hcat : (Value.ref T.heap.size).category = 1 := rfl
  have hcellA : T1.heap[T.heap.size]? = some (freshCell cX kX) := by rw [← hT1]; exact State.heap_pushCell_size _ _
  have d3' : decode c.code (pc + 3) = .ok (.dup, 1) := by rw [hb]; exact d3
  have d4' : decode c.code (pc + 4) = .ok (.ldc_w is, 3) := by rw [hb]; exact d4
  have hstr' : vk_R own is text sa s' := vk_R.warm hW0 hstr
  obtain ⟨U, hsteps, hrun, hend, hW, hsame, ce, hce, hO⟩ := X₁.ctorThrowS hexec htr (own := own) (cls := cls) (names := names) (ic := ic) hown' hcls hnames h (fun x hx => nomatch hx) hfX hkX hcellA (by rw [hhp, hT]; exact Nat.le_refl _) (msg := .ref sa) rfl
    (g := { method := m, pc := pc + 7, locals := ls, stack := .ref sa :: .ref T.heap.size :: .ref T.heap.size :: rest, locked := none }) rfl hsize rfl rfl (rest := rest) rfl
    (by rw [hb]; exact d7) (by rw [hb]; exact d10) hout hRframes (by simp only [List.map_cons, List.sum_cons, hcat]; omega) hlocks
  obtain ⟨f1, f2⟩ := vx_frame hsame
  rw [hhp] at f1 f2
  have hWs : s.WarmedH U.vm := State.WarmedH.trans hW0 hW
  have hcl : s.vm.findClass cls = some ce.cls := by
    have h9 := hO.cls
    rw [hvm] at h9
    exact h9
  have hall : s.sameButNew ({ U with vm := s.vm } : State) locs mc ms := by
    subst hA
    obtain ⟨e1, e2⟩ := hsame
    rw [State.setFrames_setFrames] at e1
    have h2 : (T.setVm s.vm).sameButNew ({ U with vm := s.vm } : State) [] (0 + 1) (0 + 6) := ⟨e1, e2⟩
    have h3 := X.same.trans h2
    rw [List.append_nil] at h3
    exact h3.mono hc hs
  refine ⟨U, ?_, .threw T.heap.size, hrun, hend, Or.inr ⟨T.heap.size, rfl, cls, ce, locs, hx U hWs.alike f1 (fun q hq => f2 q hq (fun z hz => nomatch hz)), hce, hO.vm, hcl, hWs, hall, hf⟩⟩
  refine st1 _ ?_
  show Steps p.tables e below (T1.setTop { method := m, pc := pc + 3, locals := ls, stack := .ref T.heap.size :: rest, locked := none }) _
  jvm_step X₁.here [X₁.here.top, hexec, d3', Value.category]
  exact X₁.ldcStringW hexec (own := own) (text := text) (index := is) (a := sa) hown' hstr'.1 hstr'.2
    (g := { method := m, pc := pc + 4, locals := ls, stack := .ref T.heap.size :: .ref T.heap.size :: rest, locked := none }) rfl d4' _ hsteps
end Ends
section Bodies
variable {l : Launch}
theorem vx_ofW {y : MethodName} {ws ws' : List Cond} {rm : Room} {Pc : Array Value → State → Prop} {Qc : Array Value → State → Outcome → State → Prop} {XC : String → State → State → Prop} {mc ms : Nat} {free : Addr → Prop} {cc : ByteArray} {maxL : Nat} {ret : Option FieldType}
    (hy : plainName y.cls = true) (hw : ws = Cond.code y cc maxL ret :: ws')
    (body : ∀ p e s m args below meth c s₁, BodyLoose p l y (headSpec ws rm) cc maxL ret e s m args below meth c s₁ → c.maxLocals = maxL → (∀ x ∈ c.exceptionTable.toList, False) → Pc args s →
      W p l e (headSpec ws rm).room s m args below meth c s.heap [] 0 0 (vx_MQ below Qc XC args s mc ms free) (entryFrame m args maxL)) : vx_Met l y ws rm Pc Qc XC mc ms free := by
  refine MetFree.of_bodyS (code := cc) (maxLocals := maxL) (ret := ret) hy ?_ ?_
  · intro args s m h hn
    obtain ⟨meth, c, h1, h2, h3, h4, h5, h6, -, -⟩ := Cond.code_spec hn (atoms_spec (ws := ws) h _ (by rw [hw]; exact List.mem_cons_self))
    exact ⟨meth, c, h1, h2, h3, h4, h5, h6⟩
  · intro p e s m args below meth c s₁ B hml hP _
    have hh0 : s₁.heap = s.heap := by rw [B.state]; rfl
    have ht : ∀ x ∈ c.exceptionTable.toList, False := by
      obtain ⟨meth9, c9, h1, h2, -, -, -, -, h7, -⟩ := Cond.code_spec B.named (atoms_spec (ws := ws) B.pre _ (by rw [hw]; exact List.mem_cons_self))
      cases Option.some.inj (h1.symm.trans B.method)
      cases Option.some.inj (h2.symm.trans (Stand.of_body B).code)
      intro x hx
      rw [Array.isEmpty_iff.mp h7] at hx
      cases hx
    obtain ⟨t, a1, o, b1, b2, b3⟩ := body p e s m args below meth c s₁ B hml ht hP s₁ hh0 (Stand.of_body B)
    exact ⟨t, o, a1, b1, b2, b3⟩
/-- the table of a body with handlers -/
theorem vx_table {p : Program} {x y : MethodName} {S : Spec} {cc bytes : ByteArray} {maxL maxL' : Nat} {ret ret' : Option FieldType} {e : Env} {s s₁ : State} {m : MethodId} {args : Array Value} {below : List Frame} {meth : Method} {c : Code} {hh : List (Nat × Nat × Nat × Nat)}
    (B : BodyLoose p l y S cc maxL ret e s m args below meth c s₁) (h : (Cond.codeWith y bytes maxL' ret' hh).before args s = true) : c.exceptionTable.toList = tableOf hh := by
  obtain ⟨m9, meth9, c9, hn9, h1, h2, -, -, h6, -⟩ := Cond.codeWith_spec h
  cases Option.some.inj (hn9.symm.trans B.named)
  cases Option.some.inj (h1.symm.trans B.method)
  cases Option.some.inj (h2.symm.trans (Stand.of_body B).code)
  rw [← h6, table_eq]
end Bodies
end VXA
/-! ===== END ===== -/
/-! ===== BEGIN a static call of a method with an exception table ===== -/
section VXS
variable {p : Program} {l : Launch} {e : Env} {R : Room} {s : State} {m : MethodId} {args : Array Value} {below : List Frame} {meth : Method} {c : Code} {T : State} {H : Heap} {locs : List Loc} {cells slots : Nat}
abbrev vx_CSW (R : Room) (s : State) (args : Array Value) (own : String) (index : Nat) (y : MethodName) (bytes : ByteArray) (maxL : Nat) (ret : Option FieldType) (hh : List (Nat × Nat × Nat × Nat)) (ws : List Cond) (rm : Room) (mc ms n : Nat) : Prop :=
  (rm.cells = mc ∧ rm.slots = ms ∧ rm.frames + 1 ≤ R.frames ∧ 8 + (maxL + 11) + rm.locals ≤ R.locals ∧ (∀ w ∈ ws, ∀ (a' : Array Value) (U : State), s.WarmedH U.vm → w.before a' U = true) ∧ Cond.codeWith y bytes maxL ret hh ∈ ws) ∧
  (Cond.codeWith y bytes maxL ret hh).before args s = true ∧ (Cond.initialized y.cls).before args s = true ∧ (y.cls ≠ "java/lang/invoke/MethodHandle" ∧ y.cls ≠ "java/lang/invoke/VarHandle") ∧
  (∀ sig, parseMethodDescriptor y.desc = some sig → n = sig.parameters.length) ∧ (Cond.methodLink own index y).before args s = true ∧ (Cond.static y).before args s = true
theorem vx_cwSW {own : String} {index maxL mc ms : Nat} {y : MethodName} {bytes : ByteArray} {ret : Option FieldType} {hh : List (Nat × Nat × Nat × Nat)} {Ts ws ws' : List Cond} {rm : Room} (n : Nat) (ht : ∀ w ∈ Ts, w.before args s = true) (hT : GoodIn Ts (va_wsS own index y ws)) (hw : ws = Cond.codeWith y bytes maxL ret hh :: ws') (hrc : rm.cells = mc) (hrs : rm.slots = ms)
    (hd : y.cls ≠ "java/lang/invoke/MethodHandle" ∧ y.cls ≠ "java/lang/invoke/VarHandle" ∧ (parseMethodDescriptor y.desc).map (fun d => d.parameters.length) = some n) (hR : rm.frames + 1 ≤ R.frames ∧ 8 + (maxL + 11) + rm.locals ≤ R.locals) :
    vx_CSW R s args own index y bytes maxL ret hh ws rm mc ms n := by
  have ok : ∀ w ∈ va_wsS own index y ws, w.before args s = true := fun w h => ht w (hT w h).1
  have hG : GoodIn Ts ws := fun w h => hT w (by unfold va_wsS; exact List.mem_append_right _ h)
  have hc : Cond.codeWith y bytes maxL ret hh ∈ ws := by rw [hw]; exact List.mem_cons_self
  refine ⟨⟨hrc, hrs, hR.1, hR.2, pay_in ht hG, hc⟩, ht _ (hG _ hc).1, ok _ (by simp [va_wsS]), ⟨hd.1, hd.2.1⟩, fun sig h => ?_, ok _ (by simp [va_wsS]), ok _ (by simp [va_wsS])⟩
  have h2 := hd.2.2
  rw [h] at h2
  exact (Option.some.inj h2).symm
theorem vx_callSW (X : Stand p l e R s m args below meth c T locs cells slots) (hexec : p.tables.exec = Jvm.exec) {own : String} {index : Nat} {y : MethodName} {bytes : ByteArray} {maxL : Nat} {ret : Option FieldType} {hh : List (Nat × Nat × Nat × Nat)}
    (hown : s.vm.findClass own = some m.cls) (hlink : (Cond.methodLink own index y).before args s = true) (hstat : (Cond.static y).before args s = true) (hinit : (Cond.initialized y.cls).before args s = true)
    (hcode : (Cond.codeWith y bytes maxL ret hh).before args s = true) (hy : y.cls ≠ "java/lang/invoke/MethodHandle" ∧ y.cls ≠ "java/lang/invoke/VarHandle")
    {W9 : Nat} {Pre : Pt → Array Value → Prop} {Post : Pt → Array Value → Option Value → Pt → Prop} (hK : Back l R p e below s args y 3 W9 Pre Post)
    {g : JFrame} (hg : g.method = m) (hsize : g.locals.size = c.maxLocals) {argsL rest : List Value} (hlen : ∀ sig, parseMethodDescriptor y.desc = some sig → argsL.length = sig.parameters.length)
    (hstack : g.stack = argsL.reverse ++ rest) (hW : 2 * g.monitorRoom + (rest.map fun v => v.category).sum ≤ W9) (hdg : decode c.code g.pc = .ok (.invokestatic index, 3))
    (hpre : ∀ vm₁, s.WarmedH vm₁ → Pre ⟨T.setVm vm₁, locs, cells, slots⟩ argsL.toArray) :
    ∃ (v : Option Value) (vm₁ : Vm) (B : Pt), s.WarmedH vm₁ ∧ Stand p l e R s m args below meth c B.U B.locs B.cells B.slots ∧ Post ⟨T.setVm vm₁, locs, cells, slots⟩ argsL.toArray v B ∧
      ∀ target, Steps p.tables e below (B.U.setTop { g with pc := g.pc + 3, stack := v.toList ++ rest }) target → Steps p.tables e below (T.setTop g) target := by
  obtain ⟨mk, methM, cM, hnamed, hmethM, -, -, -, -, -, -, hsigM⟩ := Cond.codeWith_spec hcode
  have hstatic : methM.isStatic = true := Cond.static_spec hnamed hmethM hstat
  obtain ⟨kP, hkP, -⟩ := className_of_methodNamed hnamed
  have hinitP : kP.init = .initialized := Cond.initialized_spec (findClass_of_methodNamed hnamed) hkP hinit
  obtain ⟨vm₁, X₁, hstep₁⟩ := X.invokestatic hexec hown hlink hnamed hmethM hstatic hkP hinitP hy (g := g) hg (argsL := argsL) (rest := rest) (hlen _ hsigM) hstack hdg
  obtain ⟨v, B, X', hpost, hsteps⟩ := hK m meth c ⟨T.setVm vm₁, locs, cells, slots⟩ { g with stack := rest } (.invokestatic index) mk argsL.toArray X₁ hg hsize hdg hW (X₁.named hnamed) (hpre vm₁ X₁.warmed)
  exact ⟨v, vm₁, B, X₁.warmed, X', hpost, fun target h => hstep₁ _ fun acts => by rw [doInvoke_state]; exact hsteps.trans h⟩
theorem vx_runSW {y : MethodName} {bytes cc : ByteArray} {maxL nL mc ms n index : Nat} {ret : Option FieldType} {hh : List (Nat × Nat × Nat × Nat)} {ws : List Cond} {rm : Room} {Pc : Array Value → State → Prop} {Qc : Array Value → State → Outcome → State → Prop} {free : Addr → Prop} {Ts : List Cond} {own : String} {As rest : List Value} {g : JFrame}
    (S : CallFix p m c cc nL s args Ts own) (hM : Met l y ws rm Pc Qc mc ms free) (cw : vx_CSW R s args own index y bytes maxL ret hh ws rm mc ms n) (hp : PreS s H Pc As)
    (hg : g.method = m) (hn : As.length = n) (hsize : g.locals.size = nL) (hstack : g.stack = As.reverse ++ rest) (hW : 2 * g.monitorRoom + (rest.map fun v => v.category).sum ≤ 8) (hdg : decode cc g.pc = .ok (.invokestatic index, 3)) (hf : cells + mc ≤ R.cells ∧ slots + ms ≤ R.slots) :
    va_Run p l e R s m args below meth c H locs cells slots mc ms g rest (Qc As.toArray) (free) := by
  obtain ⟨⟨hrc, hrs, hfr, hlo, hws, hcw⟩, hcode, hini, hy, hlen, hl, hstt⟩ := cw
  have hK : Back l R p e below s args y 3 8 (PreOf R mc ms Pc) (PostOf Qc mc ms free) := va_backW (hh := hh) (bytes := bytes) (maxL := maxL) (ret := ret) hM hp.1 hrc hrs hfr hlo hws hcw (fun a' U hW => word_at hW (Or.inl (by first | rfl | simp [Cond.onTables, Cond.keeps, Cond.steady])) hini)
  obtain ⟨hx, hb, hml, ho, -⟩ := S
  intro T hT X
  obtain ⟨v, vm₁, ⟨U', l2, c2, s2⟩, hW₁, X', ⟨g', mk, t, L, e1, e2, hq, h1, hL, h2, h3⟩, st⟩ := vx_callSW X hx (hh := hh) (bytes := bytes) (maxL := maxL) (ret := ret) ho hl hstt hini hcode hy hK hg (hsize.trans hml.symm) (argsL := As) (rest := rest) (fun sig h => hn.trans (hlen sig h)) hstack hW (by rw [hb]; exact hdg)
    (fun vm₁ hW₁ => ⟨hf.1, hf.2, hp.2 (T.setVm vm₁) hT hW₁⟩)
  dsimp only [Pt.U, Pt.locs, Pt.cells, Pt.slots] at X' e1 e2 h1 h2 h3 st
  subst h1; subst h2; subst h3
  exact ⟨v, (T.setVm vm₁).calling g' mk As.toArray, t, U', L, hT, X', hL, e1, e2, hq, st⟩
/-- not caught here, past rows that name other classes: it goes on to the caller -/
theorem vx_outP {p : Program} {l : Launch} {e : Env} {R : Room} {s : State} {m : MethodId} {args : Array Value} {below : List Frame} {meth : Method} {c : Code} {H : Heap} {locs : List Loc} {cells slots : Nat} {free : Addr → Prop} {ls : Array Slot} {rest : List Value} {Qc : Array Value → State → Outcome → State → Prop} {XC : String → State → State → Prop}
    {pc : Nat} {own E : String} {ce : Cell} {q : Addr} {mc ms : Nat} (hown : s.vm.findClass own = some m.cls) (hlocks : meth.locks = false)
    (hpass : ∀ z ∈ c.exceptionTable.toList, covers z pc = false ∨ (z.catchType ≠ 0 ∧ ∃ nm : String, (Cond.classLink own z.catchType nm).before args s = true ∧ va_Nc E nm s)) (hcell : H[q]? = some ce) (hv : ce.vm = .none) (hcl : s.vm.findClass E = some ce.cls)
    (hx : ∀ t : State, t.heap = H → s.vm.Alike t.vm → XC E s t) (hf : ∀ z ∈ locs, free z.base) (hc : cells ≤ mc) (hs : slots ≤ ms) :
    vx_W p l e R s m args below meth c H locs cells slots (vx_MQ below Qc XC args s mc ms free) (F0 m pc ls rest) q := by
  intro T hT X
  have hpl : e.platform.magicAccessors = ({} : Platform).magicAccessors := by rw [X.admits.platform]
  obtain ⟨vm', hW', X', st⟩ := X.outThrough hlocks q (g := F0 m pc ls rest) rfl rfl rfl (cell := ce) (by rw [hT]; exact hcell) (by rw [hv]; rfl)
    (by obtain ⟨k9, h9, -⟩ := Vm.findClass_spec hcl; exact ⟨k9, h9⟩) (fun z hz => by
      rcases hpass z hz with h | ⟨hz0, nm, hl1, hn1⟩
      · exact Or.inl h
      · obtain ⟨c6, hc6, hcl6⟩ := Cond.classLink_spec hown hl1 e.platform hpl
        obtain ⟨a8, b8, h1, h2, h3⟩ := hn1
        cases Option.some.inj (h1.symm.trans hcl)
        cases Option.some.inj (h2.symm.trans hc6)
        exact Or.inr ⟨hz0, _, hcl6, h3⟩)
  obtain ⟨g₀, hfr⟩ := X'.frames_eq
  have hcell9 : ((T.setVm vm').setFrames (.throwing q :: below)).heap[q]? = some ce := by
    show T.heap[q]? = some ce
    rw [hT]; exact hcell
  have hend : Ended ((T.setVm vm').setFrames (.throwing q :: below)) below (.threw q) := State.frames_setFrames _ (State.cur_lt_of_frames hfr)
  refine ⟨(T.setVm vm').setFrames (.throwing q :: below), ?_, .threw q, X'.here.running, hend, Or.inr ⟨q, rfl, E, ce, locs, hx _ hT (X'.ends _).1.alike, hcell9, hv, hcl, (X'.ends _).1, (X'.ends _).2.mono hc hs, hf⟩⟩
  rw [X.pushThrowing_eq]
  exact st
/-- a thing of a world lies in the heap -/
theorem vx_lt {D : va_G} {cl : List vw_C} {ws : va_W} {H1 : Heap} (h : va_P D cl ws H1) {k : Nat} {q : Nat × va_E} (hk : ws[k]? = some q) : q.1 < H1.size := (h k q hk).lt
end VXS
/-! ===== END ===== -/
/-! ===== BEGIN methods with a table of their own: called by a name, returning or throwing ===== -/
section VXH
/-! vx_backW, vx_callVX, vx_callSX, vx_callVW, vx_runVW, vx_runVX, vx_runSX, vx_ofWH follow the same proofs as their sisters above (Free/Laws.lean, Shelf42/LK1.lean); vx_outP calls Shelf42/NT130.lean (outThrough). -/
section
variable {l : Launch} {R : Room} {p : Program} {e : Env} {below : List Frame} {s : State} {sargs : Array Value} {y : MethodName} {len W9 : Nat}
theorem vx_backW {ws : List Cond} {rm : Room} {Pc : Array Value → State → Prop} {Qc : Array Value → State → Outcome → State → Prop} {XC : String → State → State → Prop} {mc ms : Nat} {free : Addr → Prop} {bytes : ByteArray} {maxL : Nat} {ret : Option FieldType} {hh : List (Nat × Nat × Nat × Nat)}
    (hM : vx_Met l y ws rm Pc Qc XC mc ms free) (hblind : FrameBlind Pc) (hrc : rm.cells = mc) (hrs : rm.slots = ms)
    (hframes : rm.frames + 1 ≤ R.frames) (hlocals : W9 + (maxL + 11) + rm.locals ≤ R.locals)
    (hws : ∀ w ∈ ws, ∀ a' U, s.WarmedH U.vm → w.before a' U = true) (hcode : Cond.codeWith y bytes maxL ret hh ∈ ws) (hinit : ∀ a' U, s.WarmedH U.vm → (Cond.initialized y.cls).before a' U = true) :
    vx_Back l R p e below s sargs y len W9 (PreOf R mc ms Pc) (PostOf Qc mc ms free) (vx_Post XC mc ms free) := by
  intro m meth c A g ig mk a X hg hsize hdg hW hn hp
  have h1 : (headSpec ws rm).pre.before a A.U = true := atoms_intro fun w hw => hws w hw _ _ X.warmed
  have h2 : (Cond.codeWith y bytes maxL ret hh).before a A.U = true := hws _ hcode _ _ X.warmed
  have h3 : (Cond.initialized y.cls).before a A.U = true := hinit _ _ X.warmed
  have h4 : A.cells + (headSpec ws rm).room.cells ≤ R.cells := by rw [show (headSpec ws rm).room.cells = mc from hrc]; exact hp.1
  have h5 : A.slots + (headSpec ws rm).room.slots ≤ R.slots := by rw [show (headSpec ws rm).room.slots = ms from hrs]; exact hp.2.1
  have hPc : Pc a (A.U.calling g mk a) := hblind _ _ _ _ hp.2.2
  obtain ⟨U, Ls, c0, s0⟩ := A
  dsimp only [Pt.U, Pt.locs, Pt.cells, Pt.slots] at h1 h2 h3 h4 h5 X hn hPc ⊢
  obtain ⟨m9, methY, cY, hn9, hmY, hcY, -, hlY, -⟩ := Cond.codeWith_spec h2
  cases Option.some.inj (hn9.symm.trans hn)
  obtain ⟨kY, hkY, -⟩ := className_of_methodNamed hn
  have hinitY : kY.init = .initialized := Cond.initialized_spec (findClass_of_methodNamed hn) hkY h3
  have h : At U g.method c below := by rw [hg]; exact X.here
  have hlocals9 : W9 + (maxL + 11) + (headSpec ws rm).room.locals ≤ R.locals := hlocals
  have happ : (headSpec ws rm).appliesLoose y e.platform (U.calling g mk a) = true :=
    Spec.appliesLoose_calling (g := g) h hdg hn hkY hinitY
      (X.room_calling (g := g) (R' := (headSpec ws rm).room) hsize hmY hcY hframes (by rw [hlY]; omega) h4 h5) h1
  obtain ⟨mid, hmid⟩ := h.above
  have hfr : (U.setTop g).frames = (.java g :: mid) ++ below := by rw [State.frames_setTop' g h.top, hmid]; rfl
  obtain ⟨o, s₂, hsteps, -, hend, hq⟩ := Steps.callFree hM p X.admits X.cas X.clock (acts := []) hfr happ hPc trivial
  have hq' : vx_Q Qc XC mc ms free a (U.calling g mk a) o s₂ := hq
  rw [State.frames_setTop' g h.top] at hend
  obtain ⟨g₀, hg0⟩ := Option.isSome_iff_exists.mp h.top
  obtain ⟨r, hr⟩ := State.topJava?_eq_some.mp hg0
  have hr' : (({ U with heap := s₂.heap, slotsUsed := s₂.slotsUsed } : State).setVm s₂.vm).frames = .java g₀ :: r := hr
  rcases hq' with ⟨hqc, L, hfe, hL⟩ | ⟨q, rfl, E, ce, L, hx, hce, hcv, hcl, hW₂, hsm, hL⟩
  · obtain ⟨⟨v, rfl⟩, hW₂, e2, q2, q3, q4, q5, q6⟩ := id hfe
    have e3 : s₂ = ({ (U.calling g mk a).setFrames s₂.frames with heap := s₂.heap, slotsUsed := s₂.slotsUsed } : State).setVm s₂.vm := by
      have : s₂ = ({ s₂ with vm := (U.calling g mk a).vm } : State).setVm s₂.vm := rfl
      rw [e2] at this
      exact this
    obtain ⟨c₂, i₂, len₂, hc₂, hd₂, hf₂⟩ := hend
    have hW' : U.WarmedH s₂.vm := hW₂
    have hcc : c₂ = c := by
      have h1 : s₂.code? g.method = U.code? g.method := by
        rw [State.code?_eq, State.code?_eq, hW'.alike.method?]
      exact Option.some.inj (hc₂.symm.trans (h1.trans h.code))
    subst hcc
    have hlen : len₂ = len := by rw [hdg] at hd₂; cases hd₂; rfl
    subst hlen
    have hs₂ : s₂ = (({ U with heap := s₂.heap, slotsUsed := s₂.slotsUsed } : State).setVm s₂.vm).setTop { g with pc := g.pc + len₂, stack := v.toList ++ g.stack } := by
      refine e3.trans ?_
      rw [hf₂, State.calling_eq h.top, State.setFrames_setFrames, State.setTop_of_frames _ hr', hr]
      rfl
    have hsame : U.sameButNew ({ U with heap := s₂.heap, slotsUsed := s₂.slotsUsed } : State) L mc ms := by
      refine ⟨?_, q2, q3, q4, q5, q6⟩
      obtain ⟨t, ht, -⟩ := State.frames_cons hr
      show ({ U with heap := s₂.heap, slotsUsed := s₂.slotsUsed } : State) = { U.setFrames U.frames with heap := s₂.heap, slotsUsed := s₂.slotsUsed }
      rw [State.setFrames_self ht]
    subst hg
    refine Or.inl ⟨v, ⟨(({ U with heap := s₂.heap, slotsUsed := s₂.slotsUsed } : State).setVm s₂.vm), Ls ++ L, c0 + mc, s0 + ms⟩,
      ⟨X.admits, X.cas, X.clock, X.frames, X.room, X.hears, X.method, X.code, (X.here.setHeapUsed s₂.heap s₂.slotsUsed).setVm hW'.alike, X.tail, State.WarmedH.trans X.warmed hW', X.limits, X.bytes, X.same.trans (hsame.setVm s.vm)⟩,
      ⟨g, mk, s₂, L, rfl, rfl, hqc, rfl, hL, rfl, rfl⟩, ?_⟩
    show Steps p.tables e below _ ((({ U with heap := s₂.heap, slotsUsed := s₂.slotsUsed } : State).setVm s₂.vm).setTop { g with pc := g.pc + len₂, stack := v.toList ++ g.stack })
    rw [← hs₂]
    exact hsteps
  · obtain ⟨e2, q2, q3, q4, q5, q6⟩ := id hsm
    have e3 : s₂ = ({ (U.calling g mk a).setFrames s₂.frames with heap := s₂.heap, slotsUsed := s₂.slotsUsed } : State).setVm s₂.vm := by
      have : s₂ = ({ s₂ with vm := (U.calling g mk a).vm } : State).setVm s₂.vm := rfl
      rw [e2] at this
      exact this
    have hf₂ : s₂.frames = .throwing q :: .java g :: U.frames.tail := hend
    have hW' : U.WarmedH s₂.vm := hW₂
    have hs₂ : s₂ = ((({ U with heap := s₂.heap, slotsUsed := s₂.slotsUsed } : State).setVm s₂.vm).setTop g).pushFrame (.throwing q) := by
      refine e3.trans ?_
      rw [hf₂, State.calling_eq h.top, State.setFrames_setFrames, State.pushFrame, State.frames_setTop _ hr', State.setTop_of_frames _ hr', State.setFrames_setFrames, hr]
      rfl
    have hsame : U.sameButNew ({ U with heap := s₂.heap, slotsUsed := s₂.slotsUsed } : State) L mc ms := by
      refine ⟨?_, q2, q3, q4, q5, q6⟩
      obtain ⟨t, ht, -⟩ := State.frames_cons hr
      show ({ U with heap := s₂.heap, slotsUsed := s₂.slotsUsed } : State) = { U.setFrames U.frames with heap := s₂.heap, slotsUsed := s₂.slotsUsed }
      rw [State.setFrames_self ht]
    subst hg
    refine Or.inr ⟨q, ⟨(({ U with heap := s₂.heap, slotsUsed := s₂.slotsUsed } : State).setVm s₂.vm), Ls ++ L, c0 + mc, s0 + ms⟩,
      ⟨X.admits, X.cas, X.clock, X.frames, X.room, X.hears, X.method, X.code, (X.here.setHeapUsed s₂.heap s₂.slotsUsed).setVm hW'.alike, X.tail, State.WarmedH.trans X.warmed hW', X.limits, X.bytes, X.same.trans (hsame.setVm s.vm)⟩,
      ⟨g, mk, s₂, L, E, ce, rfl, rfl, hx, hce, hcv, hcl, rfl, hL, rfl, rfl⟩, ?_⟩
    show Steps p.tables e below _ (((({ U with heap := s₂.heap, slotsUsed := s₂.slotsUsed } : State).setVm s₂.vm).setTop g).pushFrame (.throwing q))
    rw [← hs₂]
    exact hsteps
end
variable {p : Program} {l : Launch} {e : Env} {R : Room} {s : State} {m : MethodId} {args : Array Value} {below : List Frame} {meth : Method} {c : Code} {T : State} {H : Heap} {locs : List Loc} {cells slots : Nat}
theorem vx_callVX (X : Stand p l e R s m args below meth c T locs cells slots) (hexec : p.tables.exec = Jvm.exec) {own C : String} {index : Nat} {y : MethodName} {bytes : ByteArray} {maxL : Nat} {ret : Option FieldType} {hh : List (Nat × Nat × Nat × Nat)}
    (hown : s.vm.findClass own = some m.cls) (hlink : (Cond.methodLink own index y).before args s = true) (hinst : (Cond.instanceMethod y).before args s = true) (hsel : (Cond.selects C y y).before args s = true)
    (hcode : (Cond.codeWith y bytes maxL ret hh).before args s = true) (hy : y.cls ≠ "java/lang/invoke/MethodHandle" ∧ y.cls ≠ "java/lang/invoke/VarHandle")
    {W9 : Nat} {Pre : Pt → Array Value → Prop} {Post : Pt → Array Value → Option Value → Pt → Prop} {PostX : Pt → Array Value → Addr → Pt → Prop} (hK : vx_Back l R p e below s args y 3 W9 Pre Post PostX)
    {b : Addr} {cellB : Cell} (hcell : T.heap[b]? = some cellB) (hobj : cellB.vm.isStatics = false) (hcls : s.vm.findClass C = some cellB.cls)
    {g : JFrame} (hg : g.method = m) (hsize : g.locals.size = c.maxLocals) {argsL rest : List Value} (hlen : ∀ sig, parseMethodDescriptor y.desc = some sig → argsL.length = sig.parameters.length)
    (hstack : g.stack = argsL.reverse ++ .ref b :: rest) (hW : 2 * g.monitorRoom + (rest.map fun v => v.category).sum ≤ W9) (hdg : decode c.code g.pc = .ok (.invokevirtual index, 3))
    (hpre : ∀ vm₁, s.WarmedH vm₁ → Pre ⟨T.setVm vm₁, locs, cells, slots⟩ (Value.ref b :: argsL).toArray) :
    (∃ (v : Option Value) (vm₁ : Vm) (B : Pt), s.WarmedH vm₁ ∧ Stand p l e R s m args below meth c B.U B.locs B.cells B.slots ∧ Post ⟨T.setVm vm₁, locs, cells, slots⟩ (Value.ref b :: argsL).toArray v B ∧
      ∀ target, Steps p.tables e below (B.U.setTop { g with pc := g.pc + 3, stack := v.toList ++ rest }) target → Steps p.tables e below (T.setTop g) target) ∨
    (∃ (q : Addr) (vm₁ : Vm) (B : Pt), s.WarmedH vm₁ ∧ Stand p l e R s m args below meth c B.U B.locs B.cells B.slots ∧ PostX ⟨T.setVm vm₁, locs, cells, slots⟩ (Value.ref b :: argsL).toArray q B ∧
      Steps p.tables e below (T.setTop g) ((B.U.setTop { g with stack := rest }).pushFrame (.throwing q))) := by
  obtain ⟨mk, methM, hnamed, hmethM, hstM, habM⟩ := Cond.instanceMethod_spec hinst
  obtain ⟨m8, methM', cM, hn8, hmethM', -, -, -, -, -, -, hsigM⟩ := Cond.codeWith_spec hcode
  cases Option.some.inj (hn8.symm.trans hnamed)
  cases hmethM.symm.trans hmethM'
  obtain ⟨c2, r2, m2, q1, q2, q3, q4, kP, hkP, hkPi⟩ := Cond.selects_spec hsel
  cases hcls.symm.trans q1
  cases (State.methodFound?_of_named hnamed hy).symm.trans q2
  cases hnamed.symm.trans q3
  have hselP : selectMethod e.platform s.vm cellB.cls mk = .method mk := by rw [Launch.admits_selectMethod X.admits]; exact q4
  obtain ⟨vm₁, X₁, hstep₁⟩ := X.invokevirtual hexec hown hlink hnamed hmethM hstM hkP hkPi hy (a := b) (cell := cellB) hcell
    (fun z h => by rw [h] at hobj; cases hobj) hselP hmethM habM hkP hkPi (g := g) hg (argsL := argsL) (rest := rest) (hlen _ hsigM) hstack hdg
  rcases hK m meth c ⟨T.setVm vm₁, locs, cells, slots⟩ { g with stack := rest } (.invokevirtual index) mk (Value.ref b :: argsL).toArray X₁ hg hsize hdg hW (X₁.named hnamed) (hpre vm₁ X₁.warmed) with ⟨v, B, X', hpost, hsteps⟩ | ⟨q, B, X', hpost, hsteps⟩
  · exact Or.inl ⟨v, vm₁, B, X₁.warmed, X', hpost, fun target h => hstep₁ _ fun acts => by rw [doInvoke_state]; exact hsteps.trans h⟩
  · exact Or.inr ⟨q, vm₁, B, X₁.warmed, X', hpost, hstep₁ _ fun acts => by rw [doInvoke_state]; exact hsteps⟩
theorem vx_callSX (X : Stand p l e R s m args below meth c T locs cells slots) (hexec : p.tables.exec = Jvm.exec) {own : String} {index : Nat} {y : MethodName} {bytes : ByteArray} {maxL : Nat} {ret : Option FieldType} {hh : List (Nat × Nat × Nat × Nat)}
    (hown : s.vm.findClass own = some m.cls) (hlink : (Cond.methodLink own index y).before args s = true) (hstat : (Cond.static y).before args s = true) (hinit : (Cond.initialized y.cls).before args s = true)
    (hcode : (Cond.codeWith y bytes maxL ret hh).before args s = true) (hy : y.cls ≠ "java/lang/invoke/MethodHandle" ∧ y.cls ≠ "java/lang/invoke/VarHandle")
    {W9 : Nat} {Pre : Pt → Array Value → Prop} {Post : Pt → Array Value → Option Value → Pt → Prop} {PostX : Pt → Array Value → Addr → Pt → Prop} (hK : vx_Back l R p e below s args y 3 W9 Pre Post PostX)
    {g : JFrame} (hg : g.method = m) (hsize : g.locals.size = c.maxLocals) {argsL rest : List Value} (hlen : ∀ sig, parseMethodDescriptor y.desc = some sig → argsL.length = sig.parameters.length)
    (hstack : g.stack = argsL.reverse ++ rest) (hW : 2 * g.monitorRoom + (rest.map fun v => v.category).sum ≤ W9) (hdg : decode c.code g.pc = .ok (.invokestatic index, 3))
    (hpre : ∀ vm₁, s.WarmedH vm₁ → Pre ⟨T.setVm vm₁, locs, cells, slots⟩ argsL.toArray) :
    (∃ (v : Option Value) (vm₁ : Vm) (B : Pt), s.WarmedH vm₁ ∧ Stand p l e R s m args below meth c B.U B.locs B.cells B.slots ∧ Post ⟨T.setVm vm₁, locs, cells, slots⟩ argsL.toArray v B ∧
      ∀ target, Steps p.tables e below (B.U.setTop { g with pc := g.pc + 3, stack := v.toList ++ rest }) target → Steps p.tables e below (T.setTop g) target) ∨
    (∃ (q : Addr) (vm₁ : Vm) (B : Pt), s.WarmedH vm₁ ∧ Stand p l e R s m args below meth c B.U B.locs B.cells B.slots ∧ PostX ⟨T.setVm vm₁, locs, cells, slots⟩ argsL.toArray q B ∧
      Steps p.tables e below (T.setTop g) ((B.U.setTop { g with stack := rest }).pushFrame (.throwing q))) := by
  obtain ⟨mk, methM, cM, hnamed, hmethM, -, -, -, -, -, -, hsigM⟩ := Cond.codeWith_spec hcode
  have hstatic : methM.isStatic = true := Cond.static_spec hnamed hmethM hstat
  obtain ⟨kP, hkP, -⟩ := className_of_methodNamed hnamed
  have hinitP : kP.init = .initialized := Cond.initialized_spec (findClass_of_methodNamed hnamed) hkP hinit
  obtain ⟨vm₁, X₁, hstep₁⟩ := X.invokestatic hexec hown hlink hnamed hmethM hstatic hkP hinitP hy (g := g) hg (argsL := argsL) (rest := rest) (hlen _ hsigM) hstack hdg
  rcases hK m meth c ⟨T.setVm vm₁, locs, cells, slots⟩ { g with stack := rest } (.invokestatic index) mk argsL.toArray X₁ hg hsize hdg hW (X₁.named hnamed) (hpre vm₁ X₁.warmed) with ⟨v, B, X', hpost, hsteps⟩ | ⟨q, B, X', hpost, hsteps⟩
  · exact Or.inl ⟨v, vm₁, B, X₁.warmed, X', hpost, fun target h => hstep₁ _ fun acts => by rw [doInvoke_state]; exact hsteps.trans h⟩
  · exact Or.inr ⟨q, vm₁, B, X₁.warmed, X', hpost, hstep₁ _ fun acts => by rw [doInvoke_state]; exact hsteps⟩
theorem vx_callVW (X : Stand p l e R s m args below meth c T locs cells slots) (hexec : p.tables.exec = Jvm.exec) {own C : String} {index : Nat} {y : MethodName} {bytes : ByteArray} {maxL : Nat} {ret : Option FieldType} {hh : List (Nat × Nat × Nat × Nat)}
    (hown : s.vm.findClass own = some m.cls) (hlink : (Cond.methodLink own index y).before args s = true) (hinst : (Cond.instanceMethod y).before args s = true) (hsel : (Cond.selects C y y).before args s = true)
    (hcode : (Cond.codeWith y bytes maxL ret hh).before args s = true) (hy : y.cls ≠ "java/lang/invoke/MethodHandle" ∧ y.cls ≠ "java/lang/invoke/VarHandle")
    {W9 : Nat} {Pre : Pt → Array Value → Prop} {Post : Pt → Array Value → Option Value → Pt → Prop} (hK : Back l R p e below s args y 3 W9 Pre Post)
    {b : Addr} {cellB : Cell} (hcell : T.heap[b]? = some cellB) (hobj : cellB.vm.isStatics = false) (hcls : s.vm.findClass C = some cellB.cls)
    {g : JFrame} (hg : g.method = m) (hsize : g.locals.size = c.maxLocals) {argsL rest : List Value} (hlen : ∀ sig, parseMethodDescriptor y.desc = some sig → argsL.length = sig.parameters.length)
    (hstack : g.stack = argsL.reverse ++ .ref b :: rest) (hW : 2 * g.monitorRoom + (rest.map fun v => v.category).sum ≤ W9) (hdg : decode c.code g.pc = .ok (.invokevirtual index, 3))
    (hpre : ∀ vm₁, s.WarmedH vm₁ → Pre ⟨T.setVm vm₁, locs, cells, slots⟩ (Value.ref b :: argsL).toArray) :
    ∃ (v : Option Value) (vm₁ : Vm) (B : Pt), s.WarmedH vm₁ ∧ Stand p l e R s m args below meth c B.U B.locs B.cells B.slots ∧ Post ⟨T.setVm vm₁, locs, cells, slots⟩ (Value.ref b :: argsL).toArray v B ∧
      ∀ target, Steps p.tables e below (B.U.setTop { g with pc := g.pc + 3, stack := v.toList ++ rest }) target → Steps p.tables e below (T.setTop g) target := by
  obtain ⟨mk, methM, hnamed, hmethM, hstM, habM⟩ := Cond.instanceMethod_spec hinst
  obtain ⟨m8, methM', cM, hn8, hmethM', -, -, -, -, -, -, hsigM⟩ := Cond.codeWith_spec hcode
  cases Option.some.inj (hn8.symm.trans hnamed)
  cases hmethM.symm.trans hmethM'
  obtain ⟨c2, r2, m2, q1, q2, q3, q4, kP, hkP, hkPi⟩ := Cond.selects_spec hsel
  cases hcls.symm.trans q1
  cases (State.methodFound?_of_named hnamed hy).symm.trans q2
  cases hnamed.symm.trans q3
  have hselP : selectMethod e.platform s.vm cellB.cls mk = .method mk := by rw [Launch.admits_selectMethod X.admits]; exact q4
  obtain ⟨vm₁, X₁, hstep₁⟩ := X.invokevirtual hexec hown hlink hnamed hmethM hstM hkP hkPi hy (a := b) (cell := cellB) hcell
    (fun z h => by rw [h] at hobj; cases hobj) hselP hmethM habM hkP hkPi (g := g) hg (argsL := argsL) (rest := rest) (hlen _ hsigM) hstack hdg
  obtain ⟨v, B, X', hpost, hsteps⟩ := hK m meth c ⟨T.setVm vm₁, locs, cells, slots⟩ { g with stack := rest } (.invokevirtual index) mk (Value.ref b :: argsL).toArray X₁ hg hsize hdg hW (X₁.named hnamed) (hpre vm₁ X₁.warmed)
  exact ⟨v, vm₁, B, X₁.warmed, X', hpost, fun target h => hstep₁ _ fun acts => by rw [doInvoke_state]; exact hsteps.trans h⟩
abbrev vx_CVW (R : Room) (s : State) (args : Array Value) (own C : String) (index : Nat) (y : MethodName) (bytes : ByteArray) (maxL : Nat) (ret : Option FieldType) (hh : List (Nat × Nat × Nat × Nat)) (ws : List Cond) (rm : Room) (mc ms n : Nat) : Prop :=
  (rm.cells = mc ∧ rm.slots = ms ∧ rm.frames + 1 ≤ R.frames ∧ 8 + (maxL + 11) + rm.locals ≤ R.locals ∧ (∀ w ∈ ws, ∀ (a' : Array Value) (U : State), s.WarmedH U.vm → w.before a' U = true) ∧ Cond.codeWith y bytes maxL ret hh ∈ ws) ∧
  (Cond.codeWith y bytes maxL ret hh).before args s = true ∧ (Cond.initialized y.cls).before args s = true ∧ (y.cls ≠ "java/lang/invoke/MethodHandle" ∧ y.cls ≠ "java/lang/invoke/VarHandle") ∧
  (∀ sig, parseMethodDescriptor y.desc = some sig → n = sig.parameters.length) ∧ (Cond.methodLink own index y).before args s = true ∧ (Cond.instanceMethod y).before args s = true ∧ (Cond.selects C y y).before args s = true
theorem vx_cwVW {own C : String} {index maxL mc ms : Nat} {y : MethodName} {bytes : ByteArray} {ret : Option FieldType} {hh : List (Nat × Nat × Nat × Nat)} {Ts ws ws' : List Cond} {rm : Room} (n : Nat) (ht : ∀ w ∈ Ts, w.before args s = true) (hT : GoodIn Ts (wsV own index C y ws)) (hw : ws = Cond.codeWith y bytes maxL ret hh :: ws') (hrc : rm.cells = mc) (hrs : rm.slots = ms)
    (hd : y.cls = C ∧ y.cls ≠ "java/lang/invoke/MethodHandle" ∧ y.cls ≠ "java/lang/invoke/VarHandle" ∧ (parseMethodDescriptor y.desc).map (fun d => d.parameters.length) = some n) (hR : rm.frames + 1 ≤ R.frames ∧ 8 + (maxL + 11) + rm.locals ≤ R.locals) :
    vx_CVW R s args own C index y bytes maxL ret hh ws rm mc ms n := by
  obtain ⟨hC, hd⟩ := hd
  subst hC
  have ok : ∀ w ∈ wsV own index y.cls y ws, w.before args s = true := fun w h => ht w (hT w h).1
  have hG : GoodIn Ts ws := fun w h => hT w (by unfold wsV; exact List.mem_append_right _ h)
  have hc : Cond.codeWith y bytes maxL ret hh ∈ ws := by rw [hw]; exact List.mem_cons_self
  refine ⟨⟨hrc, hrs, hR.1, hR.2, pay_in ht hG, hc⟩, ht _ (hG _ hc).1, ok _ (by simp [wsV]), ⟨hd.1, hd.2.1⟩, fun sig h => ?_, ok _ (by simp [wsV]), ok _ (by simp [wsV]), ok _ (by simp [wsV])⟩
  have h2 := hd.2.2
  rw [h] at h2
  exact (Option.some.inj h2).symm
theorem vx_runVW {y : MethodName} {bytes cc : ByteArray} {maxL nL mc ms n index : Nat} {ret : Option FieldType} {hh : List (Nat × Nat × Nat × Nat)} {ws : List Cond} {rm : Room} {Pc : Array Value → State → Prop} {Qc : Array Value → State → Outcome → State → Prop} {free : Addr → Prop} {Ts : List Cond} {own C : String} {b : Addr} {As rest : List Value} {g : JFrame}
    (S : CallFix p m c cc nL s args Ts own) (hM : Met l y ws rm Pc Qc mc ms free) (cw : vx_CVW R s args own C index y bytes maxL ret hh ws rm mc ms n) (hp : PreV s H C b Pc As)
    (hg : g.method = m) (hn : As.length = n) (hsize : g.locals.size = nL) (hstack : g.stack = As.reverse ++ .ref b :: rest) (hW : 2 * g.monitorRoom + (rest.map fun v => v.category).sum ≤ 8) (hdg : decode cc g.pc = .ok (.invokevirtual index, 3)) (hf : cells + mc ≤ R.cells ∧ slots + ms ≤ R.slots) :
    va_Run p l e R s m args below meth c H locs cells slots mc ms g rest (Qc (Value.ref b :: As).toArray) free := by
  obtain ⟨⟨hrc, hrs, hfr, hlo, hws, hcw⟩, hcode, hini, hy, hlen, hl, hin, hse⟩ := cw
  have hK : Back l R p e below s args y 3 8 (PreOf R mc ms Pc) (PostOf Qc mc ms free) := va_backW (hh := hh) (bytes := bytes) (maxL := maxL) (ret := ret) hM hp.1 hrc hrs hfr hlo hws hcw (fun a' U hW => word_at hW (Or.inl (by first | rfl | simp [Cond.onTables, Cond.keeps, Cond.steady])) hini)
  obtain ⟨hx, hb, hml, ho, -⟩ := S
  obtain ⟨-, ⟨cellB, hcB, hoB, hclB⟩, hPc⟩ := hp
  intro T hT X
  obtain ⟨v, vm₁, ⟨U', l2, c2, s2⟩, hW₁, X', ⟨g', mk, t, L, e1, e2, hq, h1, hL, h2, h3⟩, st⟩ := vx_callVW X hx (C := C) (hh := hh) (bytes := bytes) (maxL := maxL) (ret := ret) ho hl hin hse hcode hy hK (by rw [hT]; exact hcB) hoB hclB hg (hsize.trans hml.symm) (argsL := As) (rest := rest) (fun sig h => hn.trans (hlen sig h)) hstack hW (by rw [hb]; exact hdg)
    (fun vm₁ hW₁ => ⟨hf.1, hf.2, hPc (T.setVm vm₁) hT hW₁⟩)
  dsimp only [Pt.U, Pt.locs, Pt.cells, Pt.slots] at X' e1 e2 h1 h2 h3 st
  subst h1; subst h2; subst h3
  exact ⟨v, (T.setVm vm₁).calling g' mk (Value.ref b :: As).toArray, t, U', L, hT, X', hL, e1, e2, hq, st⟩
section
variable {y : MethodName} {bytes cc : ByteArray} {maxL nL mc ms n index : Nat} {ret : Option FieldType} {ws : List Cond} {rm : Room} {Pc : Array Value → State → Prop} {Qc : Array Value → State → Outcome → State → Prop} {XC : String → State → State → Prop} {free : Addr → Prop} {Ts : List Cond} {own C : String} {b : Addr} {As rest : List Value} {g : JFrame}
theorem vx_runVX {hh : List (Nat × Nat × Nat × Nat)} (S : CallFix p m c cc nL s args Ts own) (hM : vx_Met l y ws rm Pc Qc XC mc ms free) (cw : vx_CVW R s args own C index y bytes maxL ret hh ws rm mc ms n) (hp : PreV s H C b Pc As)
    (hg : g.method = m) (hn : As.length = n) (hsize : g.locals.size = nL) (hstack : g.stack = As.reverse ++ .ref b :: rest) (hW : 2 * g.monitorRoom + (rest.map fun v => v.category).sum ≤ 8) (hdg : decode cc g.pc = .ok (.invokevirtual index, 3)) (hf : cells + mc ≤ R.cells ∧ slots + ms ≤ R.slots) :
    vx_Run p l e R s m args below meth c H locs cells slots mc ms g rest (Qc (Value.ref b :: As).toArray) XC free := by
  obtain ⟨⟨hrc, hrs, hfr, hlo, hws, hcw⟩, hcode, hini, hy, hlen, hl, hin, hse⟩ := cw
  have hK : vx_Back l R p e below s args y 3 8 (PreOf R mc ms Pc) (PostOf Qc mc ms free) (vx_Post XC mc ms free) := vx_backW (hh := hh) (bytes := bytes) (maxL := maxL) (ret := ret) hM hp.1 hrc hrs hfr hlo hws hcw (fun a' U hW => word_at hW (Or.inl (by first | rfl | simp [Cond.onTables, Cond.keeps, Cond.steady])) hini)
  obtain ⟨hx, hb, hml, ho, -⟩ := S
  obtain ⟨-, ⟨cellB, hcB, hoB, hclB⟩, hPc⟩ := hp
  intro T hT X
  rcases vx_callVX X hx (C := C) (hh := hh) (bytes := bytes) (maxL := maxL) (ret := ret) ho hl hin hse hcode hy hK (by rw [hT]; exact hcB) hoB hclB hg (hsize.trans hml.symm) (argsL := As) (rest := rest) (fun sig h => hn.trans (hlen sig h)) hstack hW (by rw [hb]; exact hdg)
    (fun vm₁ hW₁ => ⟨hf.1, hf.2, hPc (T.setVm vm₁) hT hW₁⟩) with ⟨v, vm₁, ⟨U', l2, c2, s2⟩, hW₁, X', ⟨g', mk, t, L, e1, e2, hq, h1, hL, h2, h3⟩, st⟩ | ⟨q, vm₁, ⟨U', l2, c2, s2⟩, hW₁, X', ⟨g', mk, t, L, E, ce, e1, e2, hq, hce, hcv, hcl, h1, hL, h2, h3⟩, st⟩
  · dsimp only [Pt.U, Pt.locs, Pt.cells, Pt.slots] at X' e1 e2 h1 h2 h3 st
    subst h1; subst h2; subst h3
    exact Or.inl ⟨v, (T.setVm vm₁).calling g' mk (Value.ref b :: As).toArray, t, U', L, hT, X', hL, e1, e2, hq, st⟩
  · dsimp only [Pt.U, Pt.locs, Pt.cells, Pt.slots] at X' e1 e2 h1 h2 h3 st hcl
    subst h1; subst h2; subst h3
    exact Or.inr ⟨q, (T.setVm vm₁).calling g' mk (Value.ref b :: As).toArray, t, U', L, E, ce, hT, X', hL, e1, e2, hq, hce, hcv, vx_cls hW₁ hcl, st⟩
theorem vx_runSX {hh : List (Nat × Nat × Nat × Nat)} (S : CallFix p m c cc nL s args Ts own) (hM : vx_Met l y ws rm Pc Qc XC mc ms free) (cw : vx_CSW R s args own index y bytes maxL ret hh ws rm mc ms n) (hp : PreS s H Pc As)
    (hg : g.method = m) (hn : As.length = n) (hsize : g.locals.size = nL) (hstack : g.stack = As.reverse ++ rest) (hW : 2 * g.monitorRoom + (rest.map fun v => v.category).sum ≤ 8) (hdg : decode cc g.pc = .ok (.invokestatic index, 3)) (hf : cells + mc ≤ R.cells ∧ slots + ms ≤ R.slots) :
    vx_Run p l e R s m args below meth c H locs cells slots mc ms g rest (Qc As.toArray) XC free := by
  obtain ⟨⟨hrc, hrs, hfr, hlo, hws, hcw⟩, hcode, hini, hy, hlen, hl, hstt⟩ := cw
  have hK : vx_Back l R p e below s args y 3 8 (PreOf R mc ms Pc) (PostOf Qc mc ms free) (vx_Post XC mc ms free) := vx_backW (hh := hh) (bytes := bytes) (maxL := maxL) (ret := ret) hM hp.1 hrc hrs hfr hlo hws hcw (fun a' U hW => word_at hW (Or.inl (by first | rfl | simp [Cond.onTables, Cond.keeps, Cond.steady])) hini)
  obtain ⟨hx, hb, hml, ho, -⟩ := S
  intro T hT X
  rcases vx_callSX X hx (hh := hh) (bytes := bytes) (maxL := maxL) (ret := ret) ho hl hstt hini hcode hy hK hg (hsize.trans hml.symm) (argsL := As) (rest := rest) (fun sig h => hn.trans (hlen sig h)) hstack hW (by rw [hb]; exact hdg)
    (fun vm₁ hW₁ => ⟨hf.1, hf.2, hp.2 (T.setVm vm₁) hT hW₁⟩) with ⟨v, vm₁, ⟨U', l2, c2, s2⟩, hW₁, X', ⟨g', mk, t, L, e1, e2, hq, h1, hL, h2, h3⟩, st⟩ | ⟨q, vm₁, ⟨U', l2, c2, s2⟩, hW₁, X', ⟨g', mk, t, L, E, ce, e1, e2, hq, hce, hcv, hcl, h1, hL, h2, h3⟩, st⟩
  · dsimp only [Pt.U, Pt.locs, Pt.cells, Pt.slots] at X' e1 e2 h1 h2 h3 st
    subst h1; subst h2; subst h3
    exact Or.inl ⟨v, (T.setVm vm₁).calling g' mk As.toArray, t, U', L, hT, X', hL, e1, e2, hq, st⟩
  · dsimp only [Pt.U, Pt.locs, Pt.cells, Pt.slots] at X' e1 e2 h1 h2 h3 st hcl
    subst h1; subst h2; subst h3
    exact Or.inr ⟨q, (T.setVm vm₁).calling g' mk As.toArray, t, U', L, E, ce, hT, X', hL, e1, e2, hq, hce, hcv, vx_cls hW₁ hcl, st⟩
end
end VXH
theorem vx_ofWH {l : Launch} {y : MethodName} {ws ws' : List Cond} {rm : Room} {Pc : Array Value → State → Prop} {Qc : Array Value → State → Outcome → State → Prop} {XC : String → State → State → Prop} {mc ms : Nat} {free : Addr → Prop} {cc : ByteArray} {maxL : Nat} {ret : Option FieldType} {hh : List (Nat × Nat × Nat × Nat)}
    (hy : plainName y.cls = true) (hw : ws = Cond.codeWith y cc maxL ret hh :: ws')
    (body : ∀ p e s m args below meth c s₁, BodyLoose p l y (headSpec ws rm) cc maxL ret e s m args below meth c s₁ → c.maxLocals = maxL → Pc args s →
      W p l e (headSpec ws rm).room s m args below meth c s.heap [] 0 0 (vx_MQ below Qc XC args s mc ms free) (entryFrame m args maxL)) : vx_Met l y ws rm Pc Qc XC mc ms free := by
  refine MetFree.of_bodyS (code := cc) (maxLocals := maxL) (ret := ret) hy ?_ ?_
  · intro args s m h hn
    obtain ⟨m9, meth, c, hn9, h1, h2, h3, h4, -, h5, h6, -⟩ := Cond.codeWith_spec (atoms_spec (ws := ws) h _ (by rw [hw]; exact List.mem_cons_self))
    cases hn.symm.trans hn9
    exact ⟨meth, c, h1, h2, h3, h4, h5, h6⟩
  · intro p e s m args below meth c s₁ B hml hP _
    have hh0 : s₁.heap = s.heap := by rw [B.state]; rfl
    obtain ⟨t, a1, o, b1, b2, b3⟩ := body p e s m args below meth c s₁ B hml hP s₁ hh0 (Stand.of_body B)
    exact ⟨t, o, a1, b1, b2, b3⟩
/-! ===== END ===== -/
end
section
/-! THE ABSTRACT MACHINE: ints are Int (what an int of the machine is: Int32.ofInt of it), references are places of a list of cells, 0 the script -/
abbrev gV : Type := Int ⊕ Int64 ⊕ Option Nat
abbrev gC : Type := (Nat → Int) ⊕ (Nat → Int64) ⊕ (Nat → Option Nat)
abbrev gE : Type := (Nat × Nat × gC) ⊕ (Nat × List gV)
abbrev gH : Type := Nat → Option gE
/-- launch, the address ahead of the first cell, the script's address, length, ints, the tables' numbers of classes and slots, of array classes, the addresses of the texts -/
abbrev gG : Type := Launch × Nat × Nat × Nat × (Nat → Int32) × va_G × (Nat → ClassId) × (Nat → Nat)
/-- pc, instruction, the next pc, a number, two places -/
abbrev gI : Type := Nat × Instr × Nat × Int × Nat × Nat
/-- name, bytes, locals, what is returned, frames, words of locals, handlers, instructions -/
abbrev gM : Type := MethodName × ByteArray × Nat × Option FieldType × Nat × Nat × List (Nat × Nat × Nat × Nat) × List gI
abbrev gK : Type := Program × Env × Room × State × MethodId × Array Value × List Frame × Method × Code
abbrev vI (z : Int) : gV := .inl z
abbrev vL (x : Int64) : gV := .inr (.inl x)
abbrev vR (i : Nat) : gV := .inr (.inr (some i))
abbrev vN : gV := .inr (.inr none)
abbrev gl (G : gG) : Launch := G.1
abbrev gZ (G : gG) : Nat := G.2.1
abbrev gb (G : gG) : Nat := G.2.2.1
abbrev gL (G : gG) : Nat := G.2.2.2.1
abbrev gxs (G : gG) : Nat → Int32 := G.2.2.2.2.1
abbrev gD (G : gG) : va_G := G.2.2.2.2.2.1
abbrev gdA (G : gG) : Nat → ClassId := G.2.2.2.2.2.2.1
abbrev gsa (G : gG) : Nat → Nat := G.2.2.2.2.2.2.2
abbrev mN (M : gM) : MethodName := M.1
abbrev mB (M : gM) : ByteArray := M.2.1
abbrev mL (M : gM) : Nat := M.2.2.1
abbrev mR (M : gM) : Option FieldType := M.2.2.2.1
abbrev mF (M : gM) : Nat := M.2.2.2.2.1
abbrev mO (M : gM) : Nat := M.2.2.2.2.2.1
abbrev mH (M : gM) : List (Nat × Nat × Nat × Nat) := M.2.2.2.2.2.2.1
abbrev mT (M : gM) : List gI := M.2.2.2.2.2.2.2
/-- the machine's side of a place, a value, a cell -/
def ga (G : gG) (i : Nat) : Nat := if i = 0 then gb G else gZ G + i
def gz (G : gG) : gV → Value
  | .inl z => .int (Int32.ofInt z)
  | .inr (.inl x) => .long x
  | .inr (.inr none) => .null
  | .inr (.inr (some i)) => .ref (ga G i)
def gzC (G : gG) : gC → ((Nat → Int32) ⊕ (Nat → Int64) ⊕ (Nat → UInt32) ⊕ (Nat → UInt64) ⊕ (Nat → Option Nat))
  | .inl f => .inl (fun i => Int32.ofInt (f i))
  | .inr (.inl f) => .inr (.inl f)
  | .inr (.inr f) => .inr (.inr (.inr (.inr (fun i => (f i).map (ga G)))))
def gzE (G : gG) : gE → va_E
  | .inl (k, n, a) => .inl (gdA G k, (n, gzC G a))
  | .inr (ci, fs) => .inr (ci, fs.map (gz G))
def gU (h : gH) (i : Nat) (e : gE) : gH := fun j => if j = i then some e else h j
/-- lookups that compute -/
def gAt : List gI → Nat → Option gI
  | [], _ => none
  | q :: t, pc => bif Nat.beq q.1 pc then some q else gAt t pc
def gGet : List (Option gV) → Nat → Option gV
  | [], _ => none
  | x :: _, 0 => x
  | _ :: t, i + 1 => gGet t i
def gSet : List (Option gV) → Nat → Option gV → Option (List (Option gV))
  | [], _, _ => none
  | _ :: t, 0, v => some (v :: t)
  | x :: t, i + 1, v => match gSet t i v with
    | some t' => some (x :: t')
    | none => none
def gSetF : List gV → Nat → gV → Option (List gV)
  | [], _, _ => none
  | _ :: t, 0, v => some (v :: t)
  | x :: t, i + 1, v => match gSetF t i v with
    | some t' => some (x :: t')
    | none => none
/-- n values off the stack, the last one first, in the order of the call -/
def gPop : Nat → List gV → List gV → Option (List gV × List gV)
  | 0, acc, st => some (acc, st)
  | _ + 1, _, [] => none
  | n + 1, acc, v :: st => gPop n (v :: acc) st
def gPsh (v : Option gV) (st : List gV) : List gV := match v with
  | some x => x :: st
  | none => st
/-- the locals with which a method begins; no longs among them -/
def gEnt : Nat → List gV → List (Option gV)
  | n, [] => List.replicate n none
  | 0, _ :: _ => []
  | n + 1, v :: vs => some v :: gEnt n vs
def gLen : Instr → Nat
  | .bipush _ => 2 | .sipush _ => 3 | .ldc _ => 2
  | .iload _ => 2 | .aload _ => 2 | .istore _ => 2 | .astore _ => 2 | .iinc _ _ => 3
  | .ifCond _ _ => 3 | .if_icmp _ _ => 3 | .goto _ => 3 | .getfield _ => 3 | .putfield _ => 3
  | .invokevirtual _ => 3 | .invokestatic _ => 3 | .invokespecial _ => 3 | .new _ => 3 | .newarray _ => 2 | .anewarray _ => 3
  | .tableswitch .. => 0 | .lookupswitch .. => 0
  | _ => 1
end
section
/-! the words that stay, the classes, the methods: by program (wip/whole/gen.py) -/
def gT : List Cond := lw_tbl.filter goodWord
theorem gGood : ∀ w ∈ gT, goodWord w = true := fun w h => (List.mem_filter.mp h).2
theorem gT_of {w : Cond} (h : w ∈ lw_tbl) (hg : goodWord w = true) : w ∈ gT := List.mem_filter.mpr ⟨h, hg⟩
theorem gT_in {w : Cond} (h : w ∈ gT) : w ∈ lw_tbl := (List.mem_filter.mp h).1
def gIn (w : Cond) : Bool := goodWord w && decide (w ∈ lw_tbl)
theorem gIn_spec {w : Cond} (h : gIn w = true) : w ∈ gT := by
  simp only [gIn, Bool.and_eq_true, decide_eq_true_eq] at h
  exact gT_of h.2 h.1
def gF0 : u_T := fun k => match k with
  | 0 => ("ExtentTree$Node", "number", "I", true)
  | 1 => ("ExtentTree$Node", "room", "I", true)
  | 2 => ("ExtentTree$Node", "taken", "Z", false)
  | 3 => ("ExtentTree$Node", "depth", "I", false)
  | 4 => ("ExtentTree$Node", "entries", "I", false)
  | _ => ("ExtentTree$Node", "words", "[I", true)
def gY0 : Nat → FieldType := fun k => match k with
  | 0 => .int
  | 1 => .int
  | 2 => .boolean
  | 3 => .int
  | 4 => .int
  | _ => .array .int
theorem gY0_ok : ∀ k, k < 6 → parseFieldDescriptor (gF0 k).2.2.1 = some (gY0 k) := by decide +kernel
theorem gN0_ok : ∀ a, a < 6 → ∀ b, b < 6 → a ≠ b → (gF0 a).2.1 ≠ (gF0 b).2.1 := by decide +kernel
theorem gU0_ok : ∀ w ∈ u_ws "ExtentTree$Node" gF0 6, w ∈ gT := by
  have h : (u_ws "ExtentTree$Node" gF0 6).all gIn = true := by decide +kernel
  exact fun w hw => gIn_spec (List.all_eq_true.mp h w hw)
def gF1 : u_T := fun k => match k with
  | 0 => ("ExtentTree$Pool", "left", "I", false)
  | _ => ("ExtentTree$Pool", "nodes", "[LExtentTree$Node;", true)
def gY1 : Nat → FieldType := fun k => match k with
  | 0 => .int
  | _ => .array (.object "ExtentTree$Node")
theorem gY1_ok : ∀ k, k < 2 → parseFieldDescriptor (gF1 k).2.2.1 = some (gY1 k) := by decide +kernel
theorem gN1_ok : ∀ a, a < 2 → ∀ b, b < 2 → a ≠ b → (gF1 a).2.1 ≠ (gF1 b).2.1 := by decide +kernel
theorem gU1_ok : ∀ w ∈ u_ws "ExtentTree$Pool" gF1 2, w ∈ gT := by
  have h : (u_ws "ExtentTree$Pool" gF1 2).all gIn = true := by decide +kernel
  exact fun w hw => gIn_spec (List.all_eq_true.mp h w hw)
def gF2 : u_T := fun k => match k with
  | 0 => ("ExtentTree$Tree", "root", "LExtentTree$Node;", true)
  | 1 => ("ExtentTree$Tree", "runs", "I", false)
  | 2 => ("ExtentTree$Tree", "blocks", "I", false)
  | 3 => ("ExtentTree$Tree", "mapped", "I", false)
  | 4 => ("ExtentTree$Tree", "mappedWritten", "I", false)
  | 5 => ("ExtentTree$Tree", "leafBlocks", "I", false)
  | 6 => ("ExtentTree$Tree", "pool", "LExtentTree$Pool;", true)
  | 7 => ("ExtentTree$Tree", "way", "[LExtentTree$Node;", true)
  | 8 => ("ExtentTree$Tree", "place", "[I", true)
  | 9 => ("ExtentTree$Tree", "leaf", "I", false)
  | _ => ("ExtentTree$Tree", "fresh", "[LExtentTree$Node;", true)
def gY2 : Nat → FieldType := fun k => match k with
  | 0 => .object "ExtentTree$Node"
  | 1 => .int
  | 2 => .int
  | 3 => .int
  | 4 => .int
  | 5 => .int
  | 6 => .object "ExtentTree$Pool"
  | 7 => .array (.object "ExtentTree$Node")
  | 8 => .array .int
  | 9 => .int
  | _ => .array (.object "ExtentTree$Node")
theorem gY2_ok : ∀ k, k < 11 → parseFieldDescriptor (gF2 k).2.2.1 = some (gY2 k) := by decide +kernel
theorem gN2_ok : ∀ a, a < 11 → ∀ b, b < 11 → a ≠ b → (gF2 a).2.1 ≠ (gF2 b).2.1 := by decide +kernel
theorem gU2_ok : ∀ w ∈ u_ws "ExtentTree$Tree" gF2 11, w ∈ gT := by
  have h : (u_ws "ExtentTree$Tree" gF2 11).all gIn = true := by decide +kernel
  exact fun w hw => gIn_spec (List.all_eq_true.mp h w hw)
def gF3 : u_T := fun k => match k with
  | 0 => ("ExtentTree", "pool", "LExtentTree$Pool;", true)
  | _ => ("ExtentTree", "trees", "[LExtentTree$Tree;", true)
def gY3 : Nat → FieldType := fun k => match k with
  | 0 => .object "ExtentTree$Pool"
  | _ => .array (.object "ExtentTree$Tree")
theorem gY3_ok : ∀ k, k < 2 → parseFieldDescriptor (gF3 k).2.2.1 = some (gY3 k) := by decide +kernel
theorem gN3_ok : ∀ a, a < 2 → ∀ b, b < 2 → a ≠ b → (gF3 a).2.1 ≠ (gF3 b).2.1 := by decide +kernel
theorem gU3_ok : ∀ w ∈ u_ws "ExtentTree" gF3 2, w ∈ gT := by
  have h : (u_ws "ExtentTree" gF3 2).all gIn = true := by decide +kernel
  exact fun w hw => gIn_spec (List.all_eq_true.mp h w hw)
def gF4 : u_T := fun k => match k with
  | 0 => ("ExtentTreeModel", "thrown", "I", false)
  | 1 => ("ExtentTreeModel", "most", "I", false)
  | 2 => ("ExtentTreeModel", "begins", "[I", false)
  | 3 => ("ExtentTreeModel", "starts", "[I", false)
  | 4 => ("ExtentTreeModel", "lengths", "[I", false)
  | 5 => ("ExtentTreeModel", "volumes", "[I", false)
  | 6 => ("ExtentTreeModel", "written", "[Z", false)
  | 7 => ("ExtentTreeModel", "depth", "[I", false)
  | 8 => ("ExtentTreeModel", "rootMany", "[I", false)
  | 9 => ("ExtentTreeModel", "nodes", "[I", false)
  | 10 => ("ExtentTreeModel", "entries", "[I", false)
  | 11 => ("ExtentTreeModel", "many", "[I", false)
  | 12 => ("ExtentTreeModel", "taken", "[Z", false)
  | 13 => ("ExtentTreeModel", "way", "[I", false)
  | 14 => ("ExtentTreeModel", "place", "[I", false)
  | _ => ("ExtentTreeModel", "fresh", "[I", false)
def gY4 : Nat → FieldType := fun k => match k with
  | 0 => .int
  | 1 => .int
  | 2 => .array .int
  | 3 => .array .int
  | 4 => .array .int
  | 5 => .array .int
  | 6 => .array .boolean
  | 7 => .array .int
  | 8 => .array .int
  | 9 => .array .int
  | 10 => .array .int
  | 11 => .array .int
  | 12 => .array .boolean
  | 13 => .array .int
  | 14 => .array .int
  | _ => .array .int
theorem gY4_ok : ∀ k, k < 16 → parseFieldDescriptor (gF4 k).2.2.1 = some (gY4 k) := by decide +kernel
theorem gN4_ok : ∀ a, a < 16 → ∀ b, b < 16 → a ≠ b → (gF4 a).2.1 ≠ (gF4 b).2.1 := by decide +kernel
theorem gU4_ok : ∀ w ∈ u_ws "ExtentTreeModel" gF4 16, w ∈ gT := by
  have h : (u_ws "ExtentTreeModel" gF4 16).all gIn = true := by decide +kernel
  exact fun w hw => gIn_spec (List.all_eq_true.mp h w hw)
def gCl : List vw_C := [("ExtentTree$Node", gF0, 6), ("ExtentTree$Pool", gF1, 2), ("ExtentTree$Tree", gF2, 11), ("ExtentTree", gF3, 2), ("ExtentTreeModel", gF4, 16)]
def gFt (k : Nat) : Nat → FieldType := match k with
  | 0 => gY0
  | 1 => gY1
  | 2 => gY2
  | 3 => gY3
  | _ => gY4
theorem gUws : ∀ (k : Nat) (q : vw_C), gCl[k]? = some q → ∀ w ∈ u_ws q.1 q.2.1 q.2.2, w ∈ gT := by
  intro k q h
  match k, h with
  | 0, h => cases h; exact gU0_ok
  | 1, h => cases h; exact gU1_ok
  | 2, h => cases h; exact gU2_ok
  | 3, h => cases h; exact gU3_ok
  | 4, h => cases h; exact gU4_ok
  | k + 5, h => simp [gCl] at h
theorem gFt_ok : ∀ (k : Nat) (q : vw_C), gCl[k]? = some q → ∀ i, i < q.2.2 → parseFieldDescriptor (q.2.1 i).2.2.1 = some (gFt k i) := by
  intro k q h
  match k, h with
  | 0, h => cases h; exact gY0_ok
  | 1, h => cases h; exact gY1_ok
  | 2, h => cases h; exact gY2_ok
  | 3, h => cases h; exact gY3_ok
  | 4, h => cases h; exact gY4_ok
  | k + 5, h => simp [gCl] at h
theorem gFn_ok : ∀ (k : Nat) (q : vw_C), gCl[k]? = some q → ∀ a, a < q.2.2 → ∀ b, b < q.2.2 → a ≠ b → (q.2.1 a).2.1 ≠ (q.2.1 b).2.1 := by
  intro k q h
  match k, h with
  | 0, h => cases h; exact gN0_ok
  | 1, h => cases h; exact gN1_ok
  | 2, h => cases h; exact gN2_ok
  | 3, h => cases h; exact gN3_ok
  | 4, h => cases h; exact gN4_ok
  | k + 5, h => simp [gCl] at h
theorem gFt_kind (k i : Nat) : gFt k i = .int ∨ gFt k i = .boolean ∨ gFt k i = .long ∨ (∃ C, gFt k i = .object C) ∨ ∃ t, gFt k i = .array t := by
  unfold gFt
  split
  · unfold gY0
    split <;> simp
  · unfold gY1
    split <;> simp
  · unfold gY2
    split <;> simp
  · unfold gY3
    split <;> simp
  · unfold gY4
    split <;> simp
def gTy : List FieldType := [.int, .long, .object "ExtentTree$Node", .object "ExtentTree$Tree", .boolean]
def gSt : List (String × Nat × String) := [("ExtentTree", 53, "no such file, file blocks, volume blocks or run"), ("ExtentTree", 63, "a file block is in a run already"), ("ExtentTree", 72, "too few free blocks, or too deep"), ("ExtentTree", 90, "no such file, file blocks, volume blocks or steps"), ("ExtentTree", 92, "no such file or file blocks"), ("ExtentTree", 97, "no such file, file blocks or steps"), ("ExtentTree", 102, "not all in one run that is not yet written"), ("ExtentTree", 111, "no such file or file block"), ("ExtentTree", 119, "no such file or number"), ("ExtentTree", 146, "no such file"), ("ExtentTree", 150, "no such byte of a root"), ("ExtentTree", 159, "no such byte of a block that is taken")]
def gAo : List String := ["ExtentTree$Node", "ExtentTree$Tree"]
def gNl : List (String × Nat × MethodName × String) := [("ExtentTree$Tree", 145, ⟨"ExtentTree", "longest", "(Z)I"⟩, "ExtentTree")]
def gCa : List (String × String) := [("java/lang/IllegalArgumentException", "java/lang/IllegalArgumentException"), ("java/lang/IllegalStateException", "java/lang/IllegalStateException"), ("java/lang/UnsupportedOperationException", "java/lang/UnsupportedOperationException"), ("java/lang/IndexOutOfBoundsException", "java/lang/IndexOutOfBoundsException")]
def gNc : List (String × String) := [("java/lang/IllegalArgumentException", "java/lang/IllegalStateException"), ("java/lang/IllegalArgumentException", "java/lang/UnsupportedOperationException"), ("java/lang/IllegalArgumentException", "java/lang/IndexOutOfBoundsException"), ("java/lang/IllegalStateException", "java/lang/IllegalArgumentException"), ("java/lang/IllegalStateException", "java/lang/UnsupportedOperationException"), ("java/lang/IllegalStateException", "java/lang/IndexOutOfBoundsException"), ("java/lang/UnsupportedOperationException", "java/lang/IllegalArgumentException"), ("java/lang/UnsupportedOperationException", "java/lang/IllegalStateException"), ("java/lang/UnsupportedOperationException", "java/lang/IndexOutOfBoundsException"), ("java/lang/IndexOutOfBoundsException", "java/lang/IllegalArgumentException"), ("java/lang/IndexOutOfBoundsException", "java/lang/IllegalStateException"), ("java/lang/IndexOutOfBoundsException", "java/lang/UnsupportedOperationException")]
def gDe : List MethodName := [⟨"java/lang/RuntimeException", "<init>", "(Ljava/lang/String;)V"⟩, ⟨"java/lang/Exception", "<init>", "(Ljava/lang/String;)V"⟩, ⟨"java/lang/Throwable", "<init>", "(Ljava/lang/String;)V"⟩]
def m_ET_init : gM := (⟨"ExtentTree", "<init>", "(I)V"⟩, prog_1_method_1_code, 3, (none : Option FieldType), 3, 65, [], [
  (0, .aload_n 0, 1, 0, 0, 0), (1, .invokespecial 3, 4, 1, 0, 0), (4, .aload_n 0, 5, 0, 0, 0), (5, .new 9, 8, 0, 1, 0), (8, .dup, 9, 0, 0, 0), (9, .iconst 5, 10, 5, 0, 0), (10, .bipush 84, 12, 84, 0, 0), (12, .iload_n 1, 13, 0, 1, 0),
  (13, .invokestatic 11, 16, 2, 0, 0), (16, .invokestatic 17, 19, 1, 0, 0), (19, .invokespecial 20, 22, 0, 79, 1), (22, .putfield 23, 25, 0, 3, 0), (25, .aload_n 0, 26, 0, 0, 0), (26, .iconst 4, 27, 4, 0, 0), (27, .anewarray 27, 30, 0, 3, 0), (30, .putfield 29, 33, 0, 3, 1),
  (33, .iconst 0, 34, 0, 0, 0), (34, .istore_n 2, 35, 0, 2, 0), (35, .iload_n 2, 36, 0, 2, 0), (36, .iconst 4, 37, 4, 0, 0), (37, .if_icmp .ge 26, 40, 0, 63, 0), (40, .aload_n 0, 41, 0, 0, 0), (41, .getfield 29, 44, 0, 3, 1), (44, .iload_n 2, 45, 0, 2, 0),
  (45, .new 27, 48, 0, 2, 0), (48, .dup, 49, 0, 0, 0), (49, .aload_n 0, 50, 0, 0, 0), (50, .getfield 23, 53, 0, 3, 0), (53, .invokespecial 33, 56, 0, 84, 1), (56, .aastore, 57, 0, 0, 0), (57, .iinc 2 1, 60, 1, 2, 0), (60, .goto (-25), 63, 0, 35, 0),
  (63, .return_, 64, 0, 0, 0)])
def m_ET_put : gM := (⟨"ExtentTree", "put", "(IIIIZ)I"⟩, prog_1_method_2_code, 7, (Option.some FieldType.int), 7, 165, [], [
  (0, .iload_n 1, 1, 0, 1, 0), (1, .invokestatic 36, 4, 0, 13, 1), (4, .ifCond .eq 29, 7, 0, 33, 0), (7, .iload_n 2, 8, 0, 2, 0), (8, .iload_n 3, 9, 0, 3, 0), (9, .invokestatic 40, 12, 0, 14, 2), (12, .ifCond .eq 21, 15, 0, 33, 0), (15, .iload_n 3, 16, 0, 3, 0),
  (16, .iload 5, 18, 0, 5, 0), (18, .invokestatic 44, 21, 0, 17, 1), (21, .if_icmp .gt 12, 24, 0, 33, 0), (24, .iload 4, 26, 0, 4, 0), (26, .iload_n 3, 27, 0, 3, 0), (27, .invokestatic 48, 30, 0, 15, 2), (30, .ifCond .ne 13, 33, 0, 43, 0), (33, .new 51, 36, 0, 0, 1),
  (36, .dup, 37, 0, 0, 0), (37, .ldc 53, 39, 0, 0, 1), (39, .invokespecial 55, 42, 2, 0, 0), (42, .athrow, 43, 0, 0, 0), (43, .aload_n 0, 44, 0, 0, 0), (44, .getfield 29, 47, 0, 3, 1), (47, .iload_n 1, 48, 0, 1, 0), (48, .aaload, 49, 0, 0, 0),
  (49, .astore 6, 51, 0, 6, 0), (51, .aload 6, 53, 0, 6, 0), (53, .iload_n 2, 54, 0, 2, 0), (54, .iload_n 3, 55, 0, 3, 0), (55, .invokevirtual 58, 58, 0, 97, 2), (58, .ifCond .eq 13, 61, 0, 71, 0), (61, .new 61, 64, 0, 0, 1), (64, .dup, 65, 0, 0, 0),
  (65, .ldc 63, 67, 0, 1, 1), (67, .invokespecial 65, 70, 2, 0, 0), (70, .athrow, 71, 0, 0, 0), (71, .aload 6, 73, 0, 6, 0), (73, .invokevirtual 66, 76, 0, 86, 0), (76, .ifCond .ne 13, 79, 0, 89, 0), (79, .new 70, 82, 0, 0, 1), (82, .dup, 83, 0, 0, 0),
  (83, .ldc 72, 85, 0, 2, 1), (85, .invokespecial 74, 88, 2, 0, 0), (88, .athrow, 89, 0, 0, 0), (89, .aload 6, 91, 0, 6, 0), (91, .iload_n 2, 92, 0, 2, 0), (92, .iload_n 3, 93, 0, 3, 0), (93, .iload 4, 95, 0, 4, 0), (95, .iload 5, 97, 0, 5, 0),
  (97, .invokevirtual 75, 100, 0, 102, 4), (100, .aload 6, 102, 0, 6, 0), (102, .invokevirtual 79, 105, 0, 114, 0), (105, .aload 6, 107, 0, 6, 0), (107, .getfield 82, 110, 0, 2, 1), (110, .ireturn, 111, 0, 0, 0)])
def m_ET_spread : gM := (⟨"ExtentTree", "spread", "(IIIII)I"⟩, prog_1_method_3_code, 9, (Option.some FieldType.int), 7, 165, [], [
  (0, .iload_n 1, 1, 0, 1, 0), (1, .invokestatic 36, 4, 0, 13, 1), (4, .ifCond .eq 27, 7, 0, 31, 0), (7, .iload_n 2, 8, 0, 2, 0), (8, .iload_n 3, 9, 0, 3, 0), (9, .iload 4, 11, 0, 4, 0), (11, .invokestatic 86, 14, 0, 16, 3), (14, .ifCond .eq 17, 17, 0, 31, 0),
  (17, .iload 5, 19, 0, 5, 0), (19, .iconst 2, 20, 2, 0, 0), (20, .iload 4, 22, 0, 4, 0), (22, .imul, 23, 0, 0, 0), (23, .iconst 1, 24, 1, 0, 0), (24, .isub, 25, 0, 0, 0), (25, .invokestatic 48, 28, 0, 15, 2), (28, .ifCond .ne 13, 31, 0, 41, 0),
  (31, .new 51, 34, 0, 0, 1), (34, .dup, 35, 0, 0, 0), (35, .ldc 90, 37, 0, 3, 1), (37, .invokespecial 55, 40, 2, 0, 0), (40, .athrow, 41, 0, 0, 0), (41, .aload_n 0, 42, 0, 0, 0), (42, .getfield 29, 45, 0, 3, 1), (45, .iload_n 1, 46, 0, 1, 0),
  (46, .aaload, 47, 0, 0, 0), (47, .astore 6, 49, 0, 6, 0), (49, .iconst 0, 50, 0, 0, 0), (50, .istore 7, 52, 0, 7, 0), (52, .iload 7, 54, 0, 7, 0), (54, .iload 4, 56, 0, 4, 0), (56, .if_icmp .ge 60, 59, 0, 116, 0), (59, .iload_n 2, 60, 0, 2, 0),
  (60, .iload 7, 62, 0, 7, 0), (62, .iload_n 3, 63, 0, 3, 0), (63, .imul, 64, 0, 0, 0), (64, .iadd, 65, 0, 0, 0), (65, .istore 8, 67, 0, 8, 0), (67, .aload 6, 69, 0, 6, 0), (69, .iload 8, 71, 0, 8, 0), (71, .iconst 1, 72, 1, 0, 0),
  (72, .invokevirtual 58, 75, 0, 97, 2), (75, .ifCond .ne 11, 78, 0, 86, 0), (78, .aload 6, 80, 0, 6, 0), (80, .invokevirtual 66, 83, 0, 86, 0), (83, .ifCond .ne 6, 86, 0, 89, 0), (86, .iload 7, 88, 0, 7, 0), (88, .ireturn, 89, 0, 0, 0), (89, .aload 6, 91, 0, 6, 0),
  (91, .iload 8, 93, 0, 8, 0), (93, .iconst 1, 94, 1, 0, 0), (94, .iload 5, 96, 0, 5, 0), (96, .iconst 2, 97, 2, 0, 0), (97, .iload 7, 99, 0, 7, 0), (99, .imul, 100, 0, 0, 0), (100, .iadd, 101, 0, 0, 0), (101, .iconst 1, 102, 1, 0, 0),
  (102, .invokevirtual 75, 105, 0, 102, 4), (105, .aload 6, 107, 0, 6, 0), (107, .invokevirtual 79, 110, 0, 114, 0), (110, .iinc 7 1, 113, 1, 7, 0), (113, .goto (-61), 116, 0, 52, 0), (116, .iload 4, 118, 0, 4, 0), (118, .ireturn, 119, 0, 0, 0)])
def m_ET_punch : gM := (⟨"ExtentTree", "punch", "(III)I"⟩, prog_1_method_4_code, 6, (Option.some FieldType.int), 7, 175, [], [
  (0, .iload_n 1, 1, 0, 1, 0), (1, .invokestatic 36, 4, 0, 13, 1), (4, .ifCond .eq 11, 7, 0, 15, 0), (7, .iload_n 2, 8, 0, 2, 0), (8, .iload_n 3, 9, 0, 3, 0), (9, .invokestatic 40, 12, 0, 14, 2), (12, .ifCond .ne 13, 15, 0, 25, 0), (15, .new 51, 18, 0, 0, 1),
  (18, .dup, 19, 0, 0, 0), (19, .ldc 92, 21, 0, 4, 1), (21, .invokespecial 55, 24, 2, 0, 0), (24, .athrow, 25, 0, 0, 0), (25, .aload_n 0, 26, 0, 0, 0), (26, .getfield 29, 29, 0, 3, 1), (29, .iload_n 1, 30, 0, 1, 0), (30, .aaload, 31, 0, 0, 0),
  (31, .astore 4, 33, 0, 4, 0), (33, .aload 4, 35, 0, 4, 0), (35, .invokevirtual 66, 38, 0, 86, 0), (38, .ifCond .ne 13, 41, 0, 51, 0), (41, .new 70, 44, 0, 0, 1), (44, .dup, 45, 0, 0, 0), (45, .ldc 72, 47, 0, 2, 1), (47, .invokespecial 74, 50, 2, 0, 0),
  (50, .athrow, 51, 0, 0, 0), (51, .aload 4, 53, 0, 4, 0), (53, .iload_n 2, 54, 0, 2, 0), (54, .iload_n 2, 55, 0, 2, 0), (55, .iload_n 3, 56, 0, 3, 0), (56, .iadd, 57, 0, 0, 0), (57, .invokevirtual 94, 60, 0, 105, 2), (60, .istore 5, 62, 0, 5, 0),
  (62, .aload 4, 64, 0, 4, 0), (64, .invokevirtual 79, 67, 0, 114, 0), (67, .iload 5, 69, 0, 5, 0), (69, .ireturn, 70, 0, 0, 0)])
def m_ET_strip : gM := (⟨"ExtentTree", "strip", "(IIII)I"⟩, prog_1_method_5_code, 9, (Option.some FieldType.int), 7, 175, [], [
  (0, .iload_n 1, 1, 0, 1, 0), (1, .invokestatic 36, 4, 0, 13, 1), (4, .ifCond .eq 13, 7, 0, 17, 0), (7, .iload_n 2, 8, 0, 2, 0), (8, .iload_n 3, 9, 0, 3, 0), (9, .iload 4, 11, 0, 4, 0), (11, .invokestatic 86, 14, 0, 16, 3), (14, .ifCond .ne 13, 17, 0, 27, 0),
  (17, .new 51, 20, 0, 0, 1), (20, .dup, 21, 0, 0, 0), (21, .ldc 97, 23, 0, 5, 1), (23, .invokespecial 55, 26, 2, 0, 0), (26, .athrow, 27, 0, 0, 0), (27, .aload_n 0, 28, 0, 0, 0), (28, .getfield 29, 31, 0, 3, 1), (31, .iload_n 1, 32, 0, 1, 0),
  (32, .aaload, 33, 0, 0, 0), (33, .astore 5, 35, 0, 5, 0), (35, .iconst 0, 36, 0, 0, 0), (36, .istore 6, 38, 0, 6, 0), (38, .iconst 0, 39, 0, 0, 0), (39, .istore 7, 41, 0, 7, 0), (41, .iload 7, 43, 0, 7, 0), (43, .iload 4, 45, 0, 4, 0),
  (45, .if_icmp .ge 46, 48, 0, 91, 0), (48, .aload 5, 50, 0, 5, 0), (50, .invokevirtual 66, 53, 0, 86, 0), (53, .ifCond .eq 38, 56, 0, 91, 0), (56, .iload_n 2, 57, 0, 2, 0), (57, .iload 7, 59, 0, 7, 0), (59, .iload_n 3, 60, 0, 3, 0), (60, .imul, 61, 0, 0, 0),
  (61, .iadd, 62, 0, 0, 0), (62, .istore 8, 64, 0, 8, 0), (64, .iload 6, 66, 0, 6, 0), (66, .aload 5, 68, 0, 5, 0), (68, .iload 8, 70, 0, 8, 0), (70, .iload 8, 72, 0, 8, 0), (72, .iconst 1, 73, 1, 0, 0), (73, .iadd, 74, 0, 0, 0),
  (74, .invokevirtual 94, 77, 0, 105, 2), (77, .iadd, 78, 0, 0, 0), (78, .istore 6, 80, 0, 6, 0), (80, .aload 5, 82, 0, 5, 0), (82, .invokevirtual 79, 85, 0, 114, 0), (85, .iinc 7 1, 88, 1, 7, 0), (88, .goto (-47), 91, 0, 41, 0), (91, .iload 6, 93, 0, 6, 0),
  (93, .ireturn, 94, 0, 0, 0)])
def m_ET_write : gM := (⟨"ExtentTree", "write", "(III)I"⟩, prog_1_method_6_code, 6, (Option.some FieldType.int), 7, 175, [], [
  (0, .iload_n 1, 1, 0, 1, 0), (1, .invokestatic 36, 4, 0, 13, 1), (4, .ifCond .eq 11, 7, 0, 15, 0), (7, .iload_n 2, 8, 0, 2, 0), (8, .iload_n 3, 9, 0, 3, 0), (9, .invokestatic 40, 12, 0, 14, 2), (12, .ifCond .ne 13, 15, 0, 25, 0), (15, .new 51, 18, 0, 0, 1),
  (18, .dup, 19, 0, 0, 0), (19, .ldc 92, 21, 0, 4, 1), (21, .invokespecial 55, 24, 2, 0, 0), (24, .athrow, 25, 0, 0, 0), (25, .aload_n 0, 26, 0, 0, 0), (26, .getfield 29, 29, 0, 3, 1), (29, .iload_n 1, 30, 0, 1, 0), (30, .aaload, 31, 0, 0, 0),
  (31, .astore 4, 33, 0, 4, 0), (33, .aload 4, 35, 0, 4, 0), (35, .iload_n 2, 36, 0, 2, 0), (36, .iload_n 3, 37, 0, 3, 0), (37, .invokevirtual 99, 40, 0, 98, 2), (40, .ifCond .ne 13, 43, 0, 53, 0), (43, .new 61, 46, 0, 0, 1), (46, .dup, 47, 0, 0, 0),
  (47, .ldc 102, 49, 0, 6, 1), (49, .invokespecial 65, 52, 2, 0, 0), (52, .athrow, 53, 0, 0, 0), (53, .aload 4, 55, 0, 4, 0), (55, .invokevirtual 104, 58, 0, 87, 0), (58, .ifCond .ne 13, 61, 0, 71, 0), (61, .new 70, 64, 0, 0, 1), (64, .dup, 65, 0, 0, 0),
  (65, .ldc 72, 67, 0, 2, 1), (67, .invokespecial 74, 70, 2, 0, 0), (70, .athrow, 71, 0, 0, 0), (71, .aload 4, 73, 0, 4, 0), (73, .iload_n 2, 74, 0, 2, 0), (74, .invokevirtual 107, 77, 0, 99, 1), (77, .istore 5, 79, 0, 5, 0), (79, .aload 4, 81, 0, 4, 0),
  (81, .iload_n 2, 82, 0, 2, 0), (82, .iload_n 2, 83, 0, 2, 0), (83, .iload_n 3, 84, 0, 3, 0), (84, .iadd, 85, 0, 0, 0), (85, .invokevirtual 94, 88, 0, 105, 2), (88, .pop, 89, 0, 0, 0), (89, .aload 4, 91, 0, 4, 0), (91, .iload_n 2, 92, 0, 2, 0),
  (92, .iload_n 3, 93, 0, 3, 0), (93, .iload 5, 95, 0, 5, 0), (95, .iconst 1, 96, 1, 0, 0), (96, .invokevirtual 75, 99, 0, 102, 4), (99, .aload 4, 101, 0, 4, 0), (101, .invokevirtual 79, 104, 0, 114, 0), (104, .aload 4, 106, 0, 4, 0), (106, .getfield 82, 109, 0, 2, 1),
  (109, .ireturn, 110, 0, 0, 0)])
def m_ET_look : gM := (⟨"ExtentTree", "look", "(II)I"⟩, prog_1_method_7_code, 3, (Option.some FieldType.int), 6, 133, [], [
  (0, .iload_n 1, 1, 0, 1, 0), (1, .invokestatic 36, 4, 0, 13, 1), (4, .ifCond .eq 11, 7, 0, 15, 0), (7, .iload_n 2, 8, 0, 2, 0), (8, .iconst 1, 9, 1, 0, 0), (9, .invokestatic 40, 12, 0, 14, 2), (12, .ifCond .ne 13, 15, 0, 25, 0), (15, .new 51, 18, 0, 0, 1),
  (18, .dup, 19, 0, 0, 0), (19, .ldc 111, 21, 0, 7, 1), (21, .invokespecial 55, 24, 2, 0, 0), (24, .athrow, 25, 0, 0, 0), (25, .aload_n 0, 26, 0, 0, 0), (26, .getfield 29, 29, 0, 3, 1), (29, .iload_n 1, 30, 0, 1, 0), (30, .aaload, 31, 0, 0, 0),
  (31, .iload_n 2, 32, 0, 2, 0), (32, .invokevirtual 107, 35, 0, 99, 1), (35, .ireturn, 36, 0, 0, 0)])
def m_ET_written : gM := (⟨"ExtentTree", "written", "(II)Z"⟩, prog_1_method_8_code, 3, (Option.some FieldType.boolean), 6, 133, [], [
  (0, .iload_n 1, 1, 0, 1, 0), (1, .invokestatic 36, 4, 0, 13, 1), (4, .ifCond .eq 11, 7, 0, 15, 0), (7, .iload_n 2, 8, 0, 2, 0), (8, .iconst 1, 9, 1, 0, 0), (9, .invokestatic 40, 12, 0, 14, 2), (12, .ifCond .ne 13, 15, 0, 25, 0), (15, .new 51, 18, 0, 0, 1),
  (18, .dup, 19, 0, 0, 0), (19, .ldc 111, 21, 0, 7, 1), (21, .invokespecial 55, 24, 2, 0, 0), (24, .athrow, 25, 0, 0, 0), (25, .aload_n 0, 26, 0, 0, 0), (26, .getfield 29, 29, 0, 3, 1), (29, .iload_n 1, 30, 0, 1, 0), (30, .aaload, 31, 0, 0, 0),
  (31, .iload_n 2, 32, 0, 2, 0), (32, .invokevirtual 113, 35, 0, 100, 1), (35, .ireturn, 36, 0, 0, 0)])
def m_ET_reach : gM := (⟨"ExtentTree", "reach", "(II)I"⟩, prog_1_method_9_code, 3, (Option.some FieldType.int), 6, 133, [], [
  (0, .iload_n 1, 1, 0, 1, 0), (1, .invokestatic 36, 4, 0, 13, 1), (4, .ifCond .eq 11, 7, 0, 15, 0), (7, .iload_n 2, 8, 0, 2, 0), (8, .iconst 1, 9, 1, 0, 0), (9, .invokestatic 40, 12, 0, 14, 2), (12, .ifCond .ne 13, 15, 0, 25, 0), (15, .new 51, 18, 0, 0, 1),
  (18, .dup, 19, 0, 0, 0), (19, .ldc 111, 21, 0, 7, 1), (21, .invokespecial 55, 24, 2, 0, 0), (24, .athrow, 25, 0, 0, 0), (25, .aload_n 0, 26, 0, 0, 0), (26, .getfield 29, 29, 0, 3, 1), (29, .iload_n 1, 30, 0, 1, 0), (30, .aaload, 31, 0, 0, 0),
  (31, .iload_n 2, 32, 0, 2, 0), (32, .invokevirtual 116, 35, 0, 101, 1), (35, .ireturn, 36, 0, 0, 0)])
def m_ET_count : gM := (⟨"ExtentTree", "count", "(II)I"⟩, prog_1_method_10_code, 4, (Option.some FieldType.int), 6, 90, [], [
  (0, .iload_n 1, 1, 0, 1, 0), (1, .invokestatic 36, 4, 0, 13, 1), (4, .ifCond .eq 12, 7, 0, 16, 0), (7, .iload_n 2, 8, 0, 2, 0), (8, .ifCond .lt 8, 11, 0, 16, 0), (11, .iload_n 2, 12, 0, 2, 0), (12, .iconst 5, 13, 5, 0, 0), (13, .if_icmp .le 13, 16, 0, 26, 0),
  (16, .new 51, 19, 0, 0, 1), (19, .dup, 20, 0, 0, 0), (20, .ldc 119, 22, 0, 8, 1), (22, .invokespecial 55, 25, 2, 0, 0), (25, .athrow, 26, 0, 0, 0), (26, .aload_n 0, 27, 0, 0, 0), (27, .getfield 29, 30, 0, 3, 1), (30, .iload_n 1, 31, 0, 1, 0),
  (31, .aaload, 32, 0, 0, 0), (32, .astore_n 3, 33, 0, 3, 0), (33, .iload_n 2, 34, 0, 2, 0), (34, .tableswitch 62 0 4 #[34, 39, 47, 52, 57], 68, 0, 0, 0), (68, .aload_n 3, 69, 0, 3, 0), (69, .getfield 82, 72, 0, 2, 1), (72, .ireturn, 73, 0, 0, 0), (73, .aload_n 3, 74, 0, 3, 0),
  (74, .getfield 121, 77, 0, 2, 0), (77, .getfield 125, 80, 0, 0, 3), (80, .ireturn, 81, 0, 0, 0), (81, .aload_n 3, 82, 0, 3, 0), (82, .getfield 130, 85, 0, 2, 2), (85, .ireturn, 86, 0, 0, 0), (86, .aload_n 3, 87, 0, 3, 0), (87, .getfield 133, 90, 0, 2, 3),
  (90, .ireturn, 91, 0, 0, 0), (91, .aload_n 3, 92, 0, 3, 0), (92, .getfield 136, 95, 0, 2, 4), (95, .ireturn, 96, 0, 0, 0), (96, .aload_n 3, 97, 0, 3, 0), (97, .invokevirtual 139, 100, 0, 85, 0), (100, .ireturn, 101, 0, 0, 0)])
def m_ET_free : gM := (⟨"ExtentTree", "free", "()I"⟩, prog_1_method_11_code, 1, (Option.some FieldType.int), 0, 0, [], [
  (0, .aload_n 0, 1, 0, 0, 0), (1, .getfield 23, 4, 0, 3, 0), (4, .getfield 143, 7, 0, 1, 0), (7, .ireturn, 8, 0, 0, 0)])
def m_ET_rootByte : gM := (⟨"ExtentTree", "rootByte", "(II)I"⟩, prog_1_method_12_code, 3, (Option.some FieldType.int), 6, 90, [], [
  (0, .iload_n 1, 1, 0, 1, 0), (1, .invokestatic 36, 4, 0, 13, 1), (4, .ifCond .ne 13, 7, 0, 17, 0), (7, .new 51, 10, 0, 0, 1), (10, .dup, 11, 0, 0, 0), (11, .ldc 146, 13, 0, 9, 1), (13, .invokespecial 55, 16, 2, 0, 0), (16, .athrow, 17, 0, 0, 0),
  (17, .iload_n 2, 18, 0, 2, 0), (18, .ifCond .lt 9, 21, 0, 27, 0), (21, .iload_n 2, 22, 0, 2, 0), (22, .bipush 60, 24, 60, 0, 0), (24, .if_icmp .lt 13, 27, 0, 37, 0), (27, .new 148, 30, 0, 0, 1), (30, .dup, 31, 0, 0, 0), (31, .ldc 150, 33, 0, 10, 1),
  (33, .invokespecial 152, 36, 2, 0, 0), (36, .athrow, 37, 0, 0, 0), (37, .aload_n 0, 38, 0, 0, 0), (38, .getfield 29, 41, 0, 3, 1), (41, .iload_n 1, 42, 0, 1, 0), (42, .aaload, 43, 0, 0, 0), (43, .getfield 121, 46, 0, 2, 0), (46, .iload_n 2, 47, 0, 2, 0),
  (47, .invokevirtual 153, 50, 0, 77, 1), (50, .ireturn, 51, 0, 0, 0)])
def m_ET_nodeByte : gM := (⟨"ExtentTree", "nodeByte", "(II)I"⟩, prog_1_method_13_code, 3, (Option.some FieldType.int), 6, 90, [], [
  (0, .aload_n 0, 1, 0, 0, 0), (1, .getfield 23, 4, 0, 3, 0), (4, .iload_n 1, 5, 0, 1, 0), (5, .invokevirtual 156, 8, 0, 81, 1), (8, .ifCond .eq 14, 11, 0, 22, 0), (11, .iload_n 2, 12, 0, 2, 0), (12, .ifCond .lt 10, 15, 0, 22, 0), (15, .iload_n 2, 16, 0, 2, 0),
  (16, .sipush 1024, 19, 1024, 0, 0), (19, .if_icmp .lt 13, 22, 0, 32, 0), (22, .new 148, 25, 0, 0, 1), (25, .dup, 26, 0, 0, 0), (26, .ldc 159, 28, 0, 11, 1), (28, .invokespecial 152, 31, 2, 0, 0), (31, .athrow, 32, 0, 0, 0), (32, .aload_n 0, 33, 0, 0, 0),
  (33, .getfield 23, 36, 0, 3, 0), (36, .iload_n 1, 37, 0, 1, 0), (37, .invokevirtual 161, 40, 0, 80, 1), (40, .iload_n 2, 41, 0, 2, 0), (41, .invokevirtual 153, 44, 0, 77, 1), (44, .ireturn, 45, 0, 0, 0)])
def m_ET_isFile : gM := (⟨"ExtentTree", "isFile", "(I)Z"⟩, prog_1_method_14_code, 1, (Option.some FieldType.boolean), 0, 0, [], [
  (0, .iload_n 0, 1, 0, 0, 0), (1, .ifCond .lt 12, 4, 0, 13, 0), (4, .iload_n 0, 5, 0, 0, 0), (5, .iconst 4, 6, 4, 0, 0), (6, .if_icmp .ge 7, 9, 0, 13, 0), (9, .iconst 1, 10, 1, 0, 0), (10, .goto 4, 13, 0, 14, 0), (13, .iconst 0, 14, 0, 0, 0),
  (14, .ireturn, 15, 0, 0, 0)])
def m_ET_areFileBlocks : gM := (⟨"ExtentTree", "areFileBlocks", "(II)Z"⟩, prog_1_method_15_code, 2, (Option.some FieldType.boolean), 0, 0, [], [
  (0, .iload_n 0, 1, 0, 0, 0), (1, .ifCond .lt 26, 4, 0, 27, 0), (4, .iload_n 0, 5, 0, 0, 0), (5, .ldc 165, 7, 65536, 0, 0), (7, .if_icmp .ge 20, 10, 0, 27, 0), (10, .iload_n 1, 11, 0, 1, 0), (11, .iconst 1, 12, 1, 0, 0), (12, .if_icmp .lt 15, 15, 0, 27, 0),
  (15, .iload_n 1, 16, 0, 1, 0), (16, .ldc 165, 18, 65536, 0, 0), (18, .iload_n 0, 19, 0, 0, 0), (19, .isub, 20, 0, 0, 0), (20, .if_icmp .gt 7, 23, 0, 27, 0), (23, .iconst 1, 24, 1, 0, 0), (24, .goto 4, 27, 0, 28, 0), (27, .iconst 0, 28, 0, 0, 0),
  (28, .ireturn, 29, 0, 0, 0)])
def m_ET_areVolumeBlocks : gM := (⟨"ExtentTree", "areVolumeBlocks", "(II)Z"⟩, prog_1_method_16_code, 2, (Option.some FieldType.boolean), 0, 0, [], [
  (0, .iload_n 0, 1, 0, 0, 0), (1, .iconst 1, 2, 1, 0, 0), (2, .if_icmp .lt 23, 5, 0, 25, 0), (5, .iload_n 0, 6, 0, 0, 0), (6, .ldc 166, 8, 16777216, 0, 0), (8, .if_icmp .gt 17, 11, 0, 25, 0), (11, .iload_n 1, 12, 0, 1, 0), (12, .ldc 166, 14, 16777216, 0, 0),
  (14, .iload_n 0, 15, 0, 0, 0), (15, .isub, 16, 0, 0, 0), (16, .iconst 1, 17, 1, 0, 0), (17, .iadd, 18, 0, 0, 0), (18, .if_icmp .gt 7, 21, 0, 25, 0), (21, .iconst 1, 22, 1, 0, 0), (22, .goto 4, 25, 0, 26, 0), (25, .iconst 0, 26, 0, 0, 0),
  (26, .ireturn, 27, 0, 0, 0)])
def m_ET_isSeries : gM := (⟨"ExtentTree", "isSeries", "(III)Z"⟩, prog_1_method_17_code, 3, (Option.some FieldType.boolean), 1, 21, [], [
  (0, .iload_n 1, 1, 0, 1, 0), (1, .iconst 1, 2, 1, 0, 0), (2, .if_icmp .lt 40, 5, 0, 42, 0), (5, .iload_n 1, 6, 0, 1, 0), (6, .sipush 2000, 9, 2000, 0, 0), (9, .if_icmp .gt 33, 12, 0, 42, 0), (12, .iload_n 2, 13, 0, 2, 0), (13, .iconst 1, 14, 1, 0, 0),
  (14, .if_icmp .lt 28, 17, 0, 42, 0), (17, .iload_n 2, 18, 0, 2, 0), (18, .sipush 2000, 21, 2000, 0, 0), (21, .if_icmp .gt 21, 24, 0, 42, 0), (24, .iload_n 0, 25, 0, 0, 0), (25, .iload_n 2, 26, 0, 2, 0), (26, .iconst 1, 27, 1, 0, 0), (27, .isub, 28, 0, 0, 0),
  (28, .iload_n 1, 29, 0, 1, 0), (29, .imul, 30, 0, 0, 0), (30, .iconst 1, 31, 1, 0, 0), (31, .iadd, 32, 0, 0, 0), (32, .invokestatic 40, 35, 0, 14, 2), (35, .ifCond .eq 7, 38, 0, 42, 0), (38, .iconst 1, 39, 1, 0, 0), (39, .goto 4, 42, 0, 43, 0),
  (42, .iconst 0, 43, 0, 0, 0), (43, .ireturn, 44, 0, 0, 0)])
def m_ET_longest : gM := (⟨"ExtentTree", "longest", "(Z)I"⟩, prog_1_method_18_code, 1, (Option.some FieldType.int), 0, 0, [], [
  (0, .iload_n 0, 1, 0, 0, 0), (1, .ifCond .eq 8, 4, 0, 9, 0), (4, .ldc 167, 6, 32768, 0, 0), (6, .goto 6, 9, 0, 12, 0), (9, .sipush 32767, 12, 32767, 0, 0), (12, .ireturn, 13, 0, 0, 0)])
def m_Mod_init : gM := (⟨"ExtentTreeModel", "<init>", "(I)V"⟩, prog_6_method_1_code, 2, (none : Option FieldType), 1, 20, [], [
  (0, .aload_n 0, 1, 0, 0, 0), (1, .invokespecial 1, 4, 1, 0, 0), (4, .aload_n 0, 5, 0, 0, 0), (5, .iconst 5, 6, 5, 0, 0), (6, .newarray .int, 8, 0, 0, 0), (8, .putfield 7, 11, 0, 4, 2), (11, .aload_n 0, 12, 0, 0, 0), (12, .sipush 21600, 15, 21600, 0, 0),
  (15, .newarray .int, 17, 0, 0, 0), (17, .putfield 13, 20, 0, 4, 3), (20, .aload_n 0, 21, 0, 0, 0), (21, .sipush 21600, 24, 21600, 0, 0), (24, .newarray .int, 26, 0, 0, 0), (26, .putfield 16, 29, 0, 4, 4), (29, .aload_n 0, 30, 0, 0, 0), (30, .sipush 21600, 33, 21600, 0, 0),
  (33, .newarray .int, 35, 0, 0, 0), (35, .putfield 19, 38, 0, 4, 5), (38, .aload_n 0, 39, 0, 0, 0), (39, .sipush 21600, 42, 21600, 0, 0), (42, .newarray .boolean, 44, 0, 4, 0), (44, .putfield 22, 47, 0, 4, 6), (47, .aload_n 0, 48, 0, 0, 0), (48, .iconst 4, 49, 4, 0, 0),
  (49, .newarray .int, 51, 0, 0, 0), (51, .putfield 26, 54, 0, 4, 7), (54, .aload_n 0, 55, 0, 0, 0), (55, .iconst 4, 56, 4, 0, 0), (56, .newarray .int, 58, 0, 0, 0), (58, .putfield 29, 61, 0, 4, 8), (61, .aload_n 0, 62, 0, 0, 0), (62, .sipush 1536, 65, 1536, 0, 0),
  (65, .newarray .int, 67, 0, 0, 0), (67, .putfield 32, 70, 0, 4, 9), (70, .aload_n 0, 71, 0, 0, 0), (71, .sipush 1536, 74, 1536, 0, 0), (74, .newarray .int, 76, 0, 0, 0), (76, .putfield 35, 79, 0, 4, 10), (79, .aload_n 0, 80, 0, 0, 0), (80, .bipush 24, 82, 24, 0, 0),
  (82, .newarray .int, 84, 0, 0, 0), (84, .putfield 38, 87, 0, 4, 11), (87, .aload_n 0, 88, 0, 0, 0), (88, .sipush 256, 91, 256, 0, 0), (91, .newarray .boolean, 93, 0, 4, 0), (93, .putfield 41, 96, 0, 4, 12), (96, .aload_n 0, 97, 0, 0, 0), (97, .bipush 8, 99, 8, 0, 0),
  (99, .newarray .int, 101, 0, 0, 0), (101, .putfield 44, 104, 0, 4, 13), (104, .aload_n 0, 105, 0, 0, 0), (105, .bipush 8, 107, 8, 0, 0), (107, .newarray .int, 109, 0, 0, 0), (109, .putfield 47, 112, 0, 4, 14), (112, .aload_n 0, 113, 0, 0, 0), (113, .bipush 8, 115, 8, 0, 0),
  (115, .newarray .int, 117, 0, 0, 0), (117, .putfield 50, 120, 0, 4, 15), (120, .aload_n 0, 121, 0, 0, 0), (121, .iload_n 1, 122, 0, 1, 0), (122, .iconst 5, 123, 5, 0, 0), (123, .if_icmp .ge 7, 126, 0, 130, 0), (126, .iconst 5, 127, 5, 0, 0), (127, .goto 15, 130, 0, 142, 0),
  (130, .iload_n 1, 131, 0, 1, 0), (131, .bipush 84, 133, 84, 0, 0), (133, .if_icmp .le 8, 136, 0, 141, 0), (136, .bipush 84, 138, 84, 0, 0), (138, .goto 4, 141, 0, 142, 0), (141, .iload_n 1, 142, 0, 1, 0), (142, .putfield 53, 145, 0, 4, 1), (145, .aload_n 0, 146, 0, 0, 0),
  (146, .getfield 41, 149, 0, 4, 12), (149, .iconst 0, 150, 0, 0, 0), (150, .iconst 1, 151, 1, 0, 0), (151, .bastore, 152, 0, 0, 0), (152, .return_, 153, 0, 0, 0)])
def m_Mod_thrown : gM := (⟨"ExtentTreeModel", "thrown", "()I"⟩, prog_6_method_2_code, 1, (Option.some FieldType.int), 0, 0, [], [
  (0, .aload_n 0, 1, 0, 0, 0), (1, .getfield 57, 4, 0, 4, 0), (4, .ireturn, 5, 0, 0, 0)])
def m_Mod_takeBlock : gM := (⟨"ExtentTreeModel", "takeBlock", "()I"⟩, prog_6_method_3_code, 2, (Option.some FieldType.int), 0, 0, [], [
  (0, .iconst 0, 1, 0, 0, 0), (1, .istore_n 1, 2, 0, 1, 0), (2, .aload_n 0, 3, 0, 0, 0), (3, .getfield 41, 6, 0, 4, 12), (6, .iload_n 1, 7, 0, 1, 0), (7, .baload, 8, 0, 0, 0), (8, .ifCond .eq 9, 11, 0, 17, 0), (11, .iinc 1 1, 14, 1, 1, 0),
  (14, .goto (-12), 17, 0, 2, 0), (17, .aload_n 0, 18, 0, 0, 0), (18, .getfield 41, 21, 0, 4, 12), (21, .iload_n 1, 22, 0, 1, 0), (22, .iconst 1, 23, 1, 0, 0), (23, .bastore, 24, 0, 0, 0), (24, .iload_n 1, 25, 0, 1, 0), (25, .ireturn, 26, 0, 0, 0)])
def m_Mod_free : gM := (⟨"ExtentTreeModel", "free", "()I"⟩, prog_6_method_4_code, 1, (Option.some FieldType.int), 1, 22, [], [
  (0, .aload_n 0, 1, 0, 0, 0), (1, .iconst 0, 2, 0, 0, 0), (2, .putfield 57, 5, 0, 4, 0), (5, .aload_n 0, 6, 0, 0, 0), (6, .invokevirtual 60, 9, 0, 22, 0), (9, .ireturn, 10, 0, 0, 0)])
def m_Mod_freeBlocks : gM := (⟨"ExtentTreeModel", "freeBlocks", "()I"⟩, prog_6_method_5_code, 3, (Option.some FieldType.int), 0, 0, [], [
  (0, .iconst 0, 1, 0, 0, 0), (1, .istore_n 1, 2, 0, 1, 0), (2, .iconst 0, 3, 0, 0, 0), (3, .istore_n 2, 4, 0, 2, 0), (4, .iload_n 2, 5, 0, 2, 0), (5, .sipush 256, 8, 256, 0, 0), (8, .if_icmp .ge 26, 11, 0, 34, 0), (11, .iload_n 1, 12, 0, 1, 0),
  (12, .aload_n 0, 13, 0, 0, 0), (13, .getfield 41, 16, 0, 4, 12), (16, .iload_n 2, 17, 0, 2, 0), (17, .baload, 18, 0, 0, 0), (18, .ifCond .eq 7, 21, 0, 25, 0), (21, .iconst 0, 22, 0, 0, 0), (22, .goto 4, 25, 0, 26, 0), (25, .iconst 1, 26, 1, 0, 0),
  (26, .iadd, 27, 0, 0, 0), (27, .istore_n 1, 28, 0, 1, 0), (28, .iinc 2 1, 31, 1, 2, 0), (31, .goto (-27), 34, 0, 4, 0), (34, .iload_n 1, 35, 0, 1, 0), (35, .ireturn, 36, 0, 0, 0)])
def m_Mod_levelOf : gM := (⟨"ExtentTreeModel", "levelOf", "(II)I"⟩, prog_6_method_6_code, 5, (Option.some FieldType.int), 0, 0, [], [
  (0, .sipush 256, 3, 256, 0, 0), (3, .iload_n 2, 4, 0, 2, 0), (4, .imul, 5, 0, 0, 0), (5, .istore_n 3, 6, 0, 3, 0), (6, .iconst 0, 7, 0, 0, 0), (7, .istore 4, 9, 0, 4, 0), (9, .iload 4, 11, 0, 4, 0), (11, .iload_n 1, 12, 0, 1, 0),
  (12, .if_icmp .ge 24, 15, 0, 36, 0), (15, .iload_n 3, 16, 0, 3, 0), (16, .aload_n 0, 17, 0, 0, 0), (17, .getfield 38, 20, 0, 4, 11), (20, .bipush 6, 22, 6, 0, 0), (22, .iload 4, 24, 0, 4, 0), (24, .imul, 25, 0, 0, 0), (25, .iload_n 2, 26, 0, 2, 0),
  (26, .iadd, 27, 0, 0, 0), (27, .iaload, 28, 0, 0, 0), (28, .iadd, 29, 0, 0, 0), (29, .istore_n 3, 30, 0, 3, 0), (30, .iinc 4 1, 33, 1, 4, 0), (33, .goto (-24), 36, 0, 9, 0), (36, .iload_n 3, 37, 0, 3, 0), (37, .ireturn, 38, 0, 0, 0)])
def m_Mod_levelEnd : gM := (⟨"ExtentTreeModel", "levelEnd", "(I)I"⟩, prog_6_method_7_code, 2, (Option.some FieldType.int), 1, 24, [], [
  (0, .aload_n 0, 1, 0, 0, 0), (1, .iconst 4, 2, 4, 0, 0), (2, .iload_n 1, 3, 0, 1, 0), (3, .invokevirtual 64, 6, 0, 23, 2), (6, .ireturn, 7, 0, 0, 0)])
def m_Mod_insertNode : gM := (⟨"ExtentTreeModel", "insertNode", "(IIIII)V"⟩, prog_6_method_8_code, 7, (none : Option FieldType), 2, 45, [], [
  (0, .aload_n 0, 1, 0, 0, 0), (1, .iload_n 2, 2, 0, 2, 0), (2, .invokevirtual 68, 5, 0, 24, 1), (5, .istore 6, 7, 0, 6, 0), (7, .iload 6, 9, 0, 6, 0), (9, .iload_n 3, 10, 0, 3, 0), (10, .if_icmp .le 41, 13, 0, 51, 0), (13, .aload_n 0, 14, 0, 0, 0),
  (14, .getfield 32, 17, 0, 4, 9), (17, .iload 6, 19, 0, 6, 0), (19, .aload_n 0, 20, 0, 0, 0), (20, .getfield 32, 23, 0, 4, 9), (23, .iload 6, 25, 0, 6, 0), (25, .iconst 1, 26, 1, 0, 0), (26, .isub, 27, 0, 0, 0), (27, .iaload, 28, 0, 0, 0),
  (28, .iastore, 29, 0, 0, 0), (29, .aload_n 0, 30, 0, 0, 0), (30, .getfield 35, 33, 0, 4, 10), (33, .iload 6, 35, 0, 6, 0), (35, .aload_n 0, 36, 0, 0, 0), (36, .getfield 35, 39, 0, 4, 10), (39, .iload 6, 41, 0, 6, 0), (41, .iconst 1, 42, 1, 0, 0),
  (42, .isub, 43, 0, 0, 0), (43, .iaload, 44, 0, 0, 0), (44, .iastore, 45, 0, 0, 0), (45, .iinc 6 (-1), 48, (-1), 6, 0), (48, .goto (-41), 51, 0, 7, 0), (51, .aload_n 0, 52, 0, 0, 0), (52, .getfield 32, 55, 0, 4, 9), (55, .iload_n 3, 56, 0, 3, 0),
  (56, .iload 4, 58, 0, 4, 0), (58, .iastore, 59, 0, 0, 0), (59, .aload_n 0, 60, 0, 0, 0), (60, .getfield 35, 63, 0, 4, 10), (63, .iload_n 3, 64, 0, 3, 0), (64, .iload 5, 66, 0, 5, 0), (66, .iastore, 67, 0, 0, 0), (67, .aload_n 0, 68, 0, 0, 0),
  (68, .getfield 38, 71, 0, 4, 11), (71, .bipush 6, 73, 6, 0, 0), (73, .iload_n 1, 74, 0, 1, 0), (74, .imul, 75, 0, 0, 0), (75, .iload_n 2, 76, 0, 2, 0), (76, .iadd, 77, 0, 0, 0), (77, .dup2, 78, 0, 0, 0), (78, .iaload, 79, 0, 0, 0),
  (79, .iconst 1, 80, 1, 0, 0), (80, .iadd, 81, 0, 0, 0), (81, .iastore, 82, 0, 0, 0), (82, .return_, 83, 0, 0, 0)])
def m_Mod_removeNode : gM := (⟨"ExtentTreeModel", "removeNode", "(III)V"⟩, prog_6_method_9_code, 6, (none : Option FieldType), 2, 45, [], [
  (0, .aload_n 0, 1, 0, 0, 0), (1, .getfield 41, 4, 0, 4, 12), (4, .aload_n 0, 5, 0, 0, 0), (5, .getfield 32, 8, 0, 4, 9), (8, .iload_n 3, 9, 0, 3, 0), (9, .iaload, 10, 0, 0, 0), (10, .iconst 0, 11, 0, 0, 0), (11, .bastore, 12, 0, 0, 0),
  (12, .aload_n 0, 13, 0, 0, 0), (13, .iload_n 2, 14, 0, 2, 0), (14, .invokevirtual 68, 17, 0, 24, 1), (17, .iconst 1, 18, 1, 0, 0), (18, .isub, 19, 0, 0, 0), (19, .istore 4, 21, 0, 4, 0), (21, .iload_n 3, 22, 0, 3, 0), (22, .istore 5, 24, 0, 5, 0),
  (24, .iload 5, 26, 0, 5, 0), (26, .iload 4, 28, 0, 4, 0), (28, .if_icmp .ge 41, 31, 0, 69, 0), (31, .aload_n 0, 32, 0, 0, 0), (32, .getfield 32, 35, 0, 4, 9), (35, .iload 5, 37, 0, 5, 0), (37, .aload_n 0, 38, 0, 0, 0), (38, .getfield 32, 41, 0, 4, 9),
  (41, .iload 5, 43, 0, 5, 0), (43, .iconst 1, 44, 1, 0, 0), (44, .iadd, 45, 0, 0, 0), (45, .iaload, 46, 0, 0, 0), (46, .iastore, 47, 0, 0, 0), (47, .aload_n 0, 48, 0, 0, 0), (48, .getfield 35, 51, 0, 4, 10), (51, .iload 5, 53, 0, 5, 0),
  (53, .aload_n 0, 54, 0, 0, 0), (54, .getfield 35, 57, 0, 4, 10), (57, .iload 5, 59, 0, 5, 0), (59, .iconst 1, 60, 1, 0, 0), (60, .iadd, 61, 0, 0, 0), (61, .iaload, 62, 0, 0, 0), (62, .iastore, 63, 0, 0, 0), (63, .iinc 5 1, 66, 1, 5, 0),
  (66, .goto (-42), 69, 0, 24, 0), (69, .aload_n 0, 70, 0, 0, 0), (70, .getfield 38, 73, 0, 4, 11), (73, .bipush 6, 75, 6, 0, 0), (75, .iload_n 1, 76, 0, 1, 0), (76, .imul, 77, 0, 0, 0), (77, .iload_n 2, 78, 0, 2, 0), (78, .iadd, 79, 0, 0, 0),
  (79, .dup2, 80, 0, 0, 0), (80, .iaload, 81, 0, 0, 0), (81, .iconst 1, 82, 1, 0, 0), (82, .isub, 83, 0, 0, 0), (83, .iastore, 84, 0, 0, 0), (84, .return_, 85, 0, 0, 0)])
def m_Mod_findWay : gM := (⟨"ExtentTreeModel", "findWay", "(II)V"⟩, prog_6_method_10_code, 7, (none : Option FieldType), 1, 24, [], [
  (0, .iload_n 2, 1, 0, 2, 0), (1, .istore_n 3, 2, 0, 3, 0), (2, .iconst 0, 3, 0, 0, 0), (3, .istore 4, 5, 0, 4, 0), (5, .iload 4, 7, 0, 4, 0), (7, .aload_n 0, 8, 0, 0, 0), (8, .getfield 26, 11, 0, 4, 7), (11, .iload_n 1, 12, 0, 1, 0),
  (12, .iaload, 13, 0, 0, 0), (13, .if_icmp .ge 72, 16, 0, 85, 0), (16, .aload_n 0, 17, 0, 0, 0), (17, .iload_n 1, 18, 0, 1, 0), (18, .iload 4, 20, 0, 4, 0), (20, .invokevirtual 64, 23, 0, 23, 2), (23, .istore 5, 25, 0, 5, 0), (25, .iload 5, 27, 0, 5, 0),
  (27, .istore 6, 29, 0, 6, 0), (29, .iload_n 3, 30, 0, 3, 0), (30, .aload_n 0, 31, 0, 0, 0), (31, .getfield 35, 34, 0, 4, 10), (34, .iload 5, 36, 0, 5, 0), (36, .iaload, 37, 0, 0, 0), (37, .if_icmp .lt 19, 40, 0, 56, 0), (40, .iload_n 3, 41, 0, 3, 0),
  (41, .aload_n 0, 42, 0, 0, 0), (42, .getfield 35, 45, 0, 4, 10), (45, .iload 5, 47, 0, 5, 0), (47, .iaload, 48, 0, 0, 0), (48, .isub, 49, 0, 0, 0), (49, .istore_n 3, 50, 0, 3, 0), (50, .iinc 5 1, 53, 1, 5, 0), (53, .goto (-24), 56, 0, 29, 0),
  (56, .aload_n 0, 57, 0, 0, 0), (57, .getfield 44, 60, 0, 4, 13), (60, .iload 4, 62, 0, 4, 0), (62, .iload 5, 64, 0, 5, 0), (64, .iastore, 65, 0, 0, 0), (65, .aload_n 0, 66, 0, 0, 0), (66, .getfield 47, 69, 0, 4, 14), (69, .iload 4, 71, 0, 4, 0),
  (71, .iload_n 3, 72, 0, 3, 0), (72, .iastore, 73, 0, 0, 0), (73, .iload 5, 75, 0, 5, 0), (75, .iload 6, 77, 0, 6, 0), (77, .isub, 78, 0, 0, 0), (78, .istore_n 3, 79, 0, 3, 0), (79, .iinc 4 1, 82, 1, 4, 0), (82, .goto (-77), 85, 0, 5, 0),
  (85, .aload_n 0, 86, 0, 0, 0), (86, .getfield 47, 89, 0, 4, 14), (89, .aload_n 0, 90, 0, 0, 0), (90, .getfield 26, 93, 0, 4, 7), (93, .iload_n 1, 94, 0, 1, 0), (94, .iaload, 95, 0, 0, 0), (95, .iload_n 3, 96, 0, 3, 0), (96, .iastore, 97, 0, 0, 0),
  (97, .return_, 98, 0, 0, 0)])
def m_Mod_enter : gM := (⟨"ExtentTreeModel", "enter", "(II)V"⟩, prog_6_method_11_code, 8, (none : Option FieldType), 3, 71, [], [
  (0, .aload_n 0, 1, 0, 0, 0), (1, .getfield 26, 4, 0, 4, 7), (4, .iload_n 1, 5, 0, 1, 0), (5, .iaload, 6, 0, 0, 0), (6, .istore_n 3, 7, 0, 3, 0), (7, .aload_n 0, 8, 0, 0, 0), (8, .iload_n 1, 9, 0, 1, 0), (9, .iload_n 2, 10, 0, 2, 0),
  (10, .ifCond .ge 7, 13, 0, 17, 0), (13, .iconst 0, 14, 0, 0, 0), (14, .goto 4, 17, 0, 18, 0), (17, .iload_n 2, 18, 0, 2, 0), (18, .invokevirtual 72, 21, 0, 27, 2), (21, .iconst 0, 22, 0, 0, 0), (22, .istore 4, 24, 0, 4, 0), (24, .iload 4, 26, 0, 4, 0),
  (26, .iload_n 3, 27, 0, 3, 0), (27, .if_icmp .gt 38, 30, 0, 65, 0), (30, .aload_n 0, 31, 0, 0, 0), (31, .getfield 47, 34, 0, 4, 14), (34, .iload 4, 36, 0, 4, 0), (36, .iload 4, 38, 0, 4, 0), (38, .ifCond .ne 11, 41, 0, 49, 0), (41, .iload_n 2, 42, 0, 2, 0),
  (42, .ifCond .ge 7, 45, 0, 49, 0), (45, .iconst 0, 46, 0, 0, 0), (46, .goto 12, 49, 0, 58, 0), (49, .aload_n 0, 50, 0, 0, 0), (50, .getfield 47, 53, 0, 4, 14), (53, .iload 4, 55, 0, 4, 0), (55, .iaload, 56, 0, 0, 0), (56, .iconst 1, 57, 1, 0, 0),
  (57, .iadd, 58, 0, 0, 0), (58, .iastore, 59, 0, 0, 0), (59, .iinc 4 1, 62, 1, 4, 0), (62, .goto (-38), 65, 0, 24, 0), (65, .iconst 0, 66, 0, 0, 0), (66, .istore 4, 68, 0, 4, 0), (68, .iload 4, 70, 0, 4, 0), (70, .iload_n 3, 71, 0, 3, 0),
  (71, .if_icmp .ge 39, 74, 0, 110, 0), (74, .aload_n 0, 75, 0, 0, 0), (75, .getfield 35, 78, 0, 4, 10), (78, .aload_n 0, 79, 0, 0, 0), (79, .getfield 44, 82, 0, 4, 13), (82, .iload 4, 84, 0, 4, 0), (84, .iaload, 85, 0, 0, 0), (85, .iaload, 86, 0, 0, 0),
  (86, .aload_n 0, 87, 0, 0, 0), (87, .getfield 53, 90, 0, 4, 1), (90, .if_icmp .ne 20, 93, 0, 110, 0), (93, .aload_n 0, 94, 0, 0, 0), (94, .getfield 50, 97, 0, 4, 15), (97, .iload 4, 99, 0, 4, 0), (99, .aload_n 0, 100, 0, 0, 0), (100, .invokevirtual 76, 103, 0, 20, 0),
  (103, .iastore, 104, 0, 0, 0), (104, .iinc 4 1, 107, 1, 4, 0), (107, .goto (-39), 110, 0, 68, 0), (110, .iload 4, 112, 0, 4, 0), (112, .iload_n 3, 113, 0, 3, 0), (113, .if_icmp .ge 22, 116, 0, 135, 0), (116, .aload_n 0, 117, 0, 0, 0), (117, .getfield 35, 120, 0, 4, 10),
  (120, .aload_n 0, 121, 0, 0, 0), (121, .getfield 44, 124, 0, 4, 13), (124, .iload 4, 126, 0, 4, 0), (126, .iaload, 127, 0, 0, 0), (127, .dup2, 128, 0, 0, 0), (128, .iaload, 129, 0, 0, 0), (129, .iconst 1, 130, 1, 0, 0), (130, .iadd, 131, 0, 0, 0),
  (131, .iastore, 132, 0, 0, 0), (132, .goto 59, 135, 0, 191, 0), (135, .aload_n 0, 136, 0, 0, 0), (136, .getfield 29, 139, 0, 4, 8), (139, .iload_n 1, 140, 0, 1, 0), (140, .iaload, 141, 0, 0, 0), (141, .iconst 4, 142, 4, 0, 0), (142, .if_icmp .ge 16, 145, 0, 158, 0),
  (145, .aload_n 0, 146, 0, 0, 0), (146, .getfield 29, 149, 0, 4, 8), (149, .iload_n 1, 150, 0, 1, 0), (150, .dup2, 151, 0, 0, 0), (151, .iaload, 152, 0, 0, 0), (152, .iconst 1, 153, 1, 0, 0), (153, .iadd, 154, 0, 0, 0), (154, .iastore, 155, 0, 0, 0),
  (155, .goto 36, 158, 0, 191, 0), (158, .aload_n 0, 159, 0, 0, 0), (159, .iload_n 1, 160, 0, 1, 0), (160, .iload_n 3, 161, 0, 3, 0), (161, .aload_n 0, 162, 0, 0, 0), (162, .iload_n 1, 163, 0, 1, 0), (163, .iload_n 3, 164, 0, 3, 0), (164, .invokevirtual 64, 167, 0, 23, 2),
  (167, .aload_n 0, 168, 0, 0, 0), (168, .invokevirtual 76, 171, 0, 20, 0), (171, .iconst 5, 172, 5, 0, 0), (172, .invokevirtual 79, 175, 0, 25, 5), (175, .aload_n 0, 176, 0, 0, 0), (176, .getfield 26, 179, 0, 4, 7), (179, .iload_n 1, 180, 0, 1, 0), (180, .iload_n 3, 181, 0, 3, 0),
  (181, .iconst 1, 182, 1, 0, 0), (182, .iadd, 183, 0, 0, 0), (183, .iastore, 184, 0, 0, 0), (184, .aload_n 0, 185, 0, 0, 0), (185, .getfield 29, 188, 0, 4, 8), (188, .iload_n 1, 189, 0, 1, 0), (189, .iconst 1, 190, 1, 0, 0), (190, .iastore, 191, 0, 0, 0),
  (191, .iload 4, 193, 0, 4, 0), (193, .iconst 1, 194, 1, 0, 0), (194, .isub, 195, 0, 0, 0), (195, .istore 5, 197, 0, 5, 0), (197, .iload 5, 199, 0, 5, 0), (199, .ifCond .lt 104, 202, 0, 303, 0), (202, .aload_n 0, 203, 0, 0, 0), (203, .getfield 53, 206, 0, 4, 1),
  (206, .iconst 1, 207, 1, 0, 0), (207, .iadd, 208, 0, 0, 0), (208, .iconst 2, 209, 2, 0, 0), (209, .idiv, 210, 0, 0, 0), (210, .istore 6, 212, 0, 6, 0), (212, .aload_n 0, 213, 0, 0, 0), (213, .getfield 47, 216, 0, 4, 14), (216, .iload 5, 218, 0, 5, 0),
  (218, .iaload, 219, 0, 0, 0), (219, .iload 6, 221, 0, 6, 0), (221, .if_icmp .gt 7, 224, 0, 228, 0), (224, .iconst 1, 225, 1, 0, 0), (225, .goto 4, 228, 0, 229, 0), (228, .iconst 0, 229, 0, 0, 0), (229, .istore 7, 231, 0, 7, 0), (231, .aload_n 0, 232, 0, 0, 0),
  (232, .getfield 35, 235, 0, 4, 10), (235, .aload_n 0, 236, 0, 0, 0), (236, .getfield 44, 239, 0, 4, 13), (239, .iload 5, 241, 0, 5, 0), (241, .iaload, 242, 0, 0, 0), (242, .iload 6, 244, 0, 6, 0), (244, .iload 7, 246, 0, 7, 0), (246, .ifCond .eq 7, 249, 0, 253, 0),
  (249, .iconst 1, 250, 1, 0, 0), (250, .goto 4, 253, 0, 254, 0), (253, .iconst 0, 254, 0, 0, 0), (254, .iadd, 255, 0, 0, 0), (255, .iastore, 256, 0, 0, 0), (256, .aload_n 0, 257, 0, 0, 0), (257, .iload_n 1, 258, 0, 1, 0), (258, .iload 5, 260, 0, 5, 0),
  (260, .aload_n 0, 261, 0, 0, 0), (261, .getfield 44, 264, 0, 4, 13), (264, .iload 5, 266, 0, 5, 0), (266, .iaload, 267, 0, 0, 0), (267, .iconst 1, 268, 1, 0, 0), (268, .iadd, 269, 0, 0, 0), (269, .aload_n 0, 270, 0, 0, 0), (270, .getfield 50, 273, 0, 4, 15),
  (273, .iload 5, 275, 0, 5, 0), (275, .iaload, 276, 0, 0, 0), (276, .aload_n 0, 277, 0, 0, 0), (277, .getfield 53, 280, 0, 4, 1), (280, .iload 6, 282, 0, 6, 0), (282, .isub, 283, 0, 0, 0), (283, .iload 7, 285, 0, 7, 0), (285, .ifCond .eq 7, 288, 0, 292, 0),
  (288, .iconst 0, 289, 0, 0, 0), (289, .goto 4, 292, 0, 293, 0), (292, .iconst 1, 293, 1, 0, 0), (293, .iadd, 294, 0, 0, 0), (294, .invokevirtual 79, 297, 0, 25, 5), (297, .iinc 5 (-1), 300, (-1), 5, 0), (300, .goto (-103), 303, 0, 197, 0), (303, .return_, 304, 0, 0, 0)])
def m_Mod_leave : gM := (⟨"ExtentTreeModel", "leave", "(II)V"⟩, prog_6_method_12_code, 6, (none : Option FieldType), 3, 70, [], [
  (0, .aload_n 0, 1, 0, 0, 0), (1, .iload_n 1, 2, 0, 1, 0), (2, .iload_n 2, 3, 0, 2, 0), (3, .invokevirtual 72, 6, 0, 27, 2), (6, .aload_n 0, 7, 0, 0, 0), (7, .getfield 26, 10, 0, 4, 7), (10, .iload_n 1, 11, 0, 1, 0), (11, .iaload, 12, 0, 0, 0),
  (12, .istore_n 3, 13, 0, 3, 0), (13, .iconst 1, 14, 1, 0, 0), (14, .istore 4, 16, 0, 4, 0), (16, .iconst 0, 17, 0, 0, 0), (17, .istore 5, 19, 0, 5, 0), (19, .iload 5, 21, 0, 5, 0), (21, .iload_n 3, 22, 0, 3, 0), (22, .if_icmp .ge 71, 25, 0, 93, 0),
  (25, .iload 4, 27, 0, 4, 0), (27, .ifCond .eq 66, 30, 0, 93, 0), (30, .aload_n 0, 31, 0, 0, 0), (31, .getfield 35, 34, 0, 4, 10), (34, .aload_n 0, 35, 0, 0, 0), (35, .getfield 44, 38, 0, 4, 13), (38, .iload 5, 40, 0, 5, 0), (40, .iaload, 41, 0, 0, 0),
  (41, .dup2, 42, 0, 0, 0), (42, .iaload, 43, 0, 0, 0), (43, .iconst 1, 44, 1, 0, 0), (44, .isub, 45, 0, 0, 0), (45, .iastore, 46, 0, 0, 0), (46, .aload_n 0, 47, 0, 0, 0), (47, .getfield 35, 50, 0, 4, 10), (50, .aload_n 0, 51, 0, 0, 0),
  (51, .getfield 44, 54, 0, 4, 13), (54, .iload 5, 56, 0, 5, 0), (56, .iaload, 57, 0, 0, 0), (57, .iaload, 58, 0, 0, 0), (58, .ifCond .ne 7, 61, 0, 65, 0), (61, .iconst 1, 62, 1, 0, 0), (62, .goto 4, 65, 0, 66, 0), (65, .iconst 0, 66, 0, 0, 0),
  (66, .istore 4, 68, 0, 4, 0), (68, .iload 4, 70, 0, 4, 0), (70, .ifCond .eq 17, 73, 0, 87, 0), (73, .aload_n 0, 74, 0, 0, 0), (74, .iload_n 1, 75, 0, 1, 0), (75, .iload 5, 77, 0, 5, 0), (77, .aload_n 0, 78, 0, 0, 0), (78, .getfield 44, 81, 0, 4, 13),
  (81, .iload 5, 83, 0, 5, 0), (83, .iaload, 84, 0, 0, 0), (84, .invokevirtual 83, 87, 0, 26, 3), (87, .iinc 5 1, 90, 1, 5, 0), (90, .goto (-71), 93, 0, 19, 0), (93, .aload_n 0, 94, 0, 0, 0), (94, .getfield 29, 97, 0, 4, 8), (97, .iload_n 1, 98, 0, 1, 0),
  (98, .dup2, 99, 0, 0, 0), (99, .iaload, 100, 0, 0, 0), (100, .iload 4, 102, 0, 4, 0), (102, .ifCond .eq 7, 105, 0, 109, 0), (105, .iconst 1, 106, 1, 0, 0), (106, .goto 4, 109, 0, 110, 0), (109, .iconst 0, 110, 0, 0, 0), (110, .isub, 111, 0, 0, 0),
  (111, .iastore, 112, 0, 0, 0), (112, .aload_n 0, 113, 0, 0, 0), (113, .getfield 26, 116, 0, 4, 7), (116, .iload_n 1, 117, 0, 1, 0), (117, .aload_n 0, 118, 0, 0, 0), (118, .getfield 29, 121, 0, 4, 8), (121, .iload_n 1, 122, 0, 1, 0), (122, .iaload, 123, 0, 0, 0),
  (123, .ifCond .ne 7, 126, 0, 130, 0), (126, .iconst 0, 127, 0, 0, 0), (127, .goto 4, 130, 0, 131, 0), (130, .iload_n 3, 131, 0, 3, 0), (131, .iastore, 132, 0, 0, 0), (132, .return_, 133, 0, 0, 0)])
def m_Mod_shrink : gM := (⟨"ExtentTreeModel", "shrink", "(I)V"⟩, prog_6_method_13_code, 4, (none : Option FieldType), 3, 70, [], [
  (0, .aload_n 0, 1, 0, 0, 0), (1, .getfield 26, 4, 0, 4, 7), (4, .iload_n 1, 5, 0, 1, 0), (5, .iaload, 6, 0, 0, 0), (6, .ifCond .le 7, 9, 0, 13, 0), (9, .iconst 1, 10, 1, 0, 0), (10, .goto 4, 13, 0, 14, 0), (13, .iconst 0, 14, 0, 0, 0),
  (14, .istore_n 2, 15, 0, 2, 0), (15, .iload_n 2, 16, 0, 2, 0), (16, .ifCond .eq 99, 19, 0, 115, 0), (19, .aload_n 0, 20, 0, 0, 0), (20, .iload_n 1, 21, 0, 1, 0), (21, .aload_n 0, 22, 0, 0, 0), (22, .getfield 26, 25, 0, 4, 7), (25, .iload_n 1, 26, 0, 1, 0),
  (26, .iaload, 27, 0, 0, 0), (27, .iconst 1, 28, 1, 0, 0), (28, .isub, 29, 0, 0, 0), (29, .invokevirtual 64, 32, 0, 23, 2), (32, .istore_n 3, 33, 0, 3, 0), (33, .aload_n 0, 34, 0, 0, 0), (34, .getfield 29, 37, 0, 4, 8), (37, .iload_n 1, 38, 0, 1, 0),
  (38, .iaload, 39, 0, 0, 0), (39, .iconst 1, 40, 1, 0, 0), (40, .if_icmp .ne 17, 43, 0, 57, 0), (43, .aload_n 0, 44, 0, 0, 0), (44, .getfield 35, 47, 0, 4, 10), (47, .iload_n 3, 48, 0, 3, 0), (48, .iaload, 49, 0, 0, 0), (49, .iconst 4, 50, 4, 0, 0),
  (50, .if_icmp .gt 7, 53, 0, 57, 0), (53, .iconst 1, 54, 1, 0, 0), (54, .goto 4, 57, 0, 58, 0), (57, .iconst 0, 58, 0, 0, 0), (58, .istore_n 2, 59, 0, 2, 0), (59, .iload_n 2, 60, 0, 2, 0), (60, .ifCond .eq 52, 63, 0, 112, 0), (63, .aload_n 0, 64, 0, 0, 0),
  (64, .getfield 29, 67, 0, 4, 8), (67, .iload_n 1, 68, 0, 1, 0), (68, .aload_n 0, 69, 0, 0, 0), (69, .getfield 35, 72, 0, 4, 10), (72, .iload_n 3, 73, 0, 3, 0), (73, .iaload, 74, 0, 0, 0), (74, .iastore, 75, 0, 0, 0), (75, .aload_n 0, 76, 0, 0, 0),
  (76, .getfield 26, 79, 0, 4, 7), (79, .iload_n 1, 80, 0, 1, 0), (80, .dup2, 81, 0, 0, 0), (81, .iaload, 82, 0, 0, 0), (82, .iconst 1, 83, 1, 0, 0), (83, .isub, 84, 0, 0, 0), (84, .iastore, 85, 0, 0, 0), (85, .aload_n 0, 86, 0, 0, 0),
  (86, .iload_n 1, 87, 0, 1, 0), (87, .aload_n 0, 88, 0, 0, 0), (88, .getfield 26, 91, 0, 4, 7), (91, .iload_n 1, 92, 0, 1, 0), (92, .iaload, 93, 0, 0, 0), (93, .iload_n 3, 94, 0, 3, 0), (94, .invokevirtual 83, 97, 0, 26, 3), (97, .aload_n 0, 98, 0, 0, 0),
  (98, .getfield 26, 101, 0, 4, 7), (101, .iload_n 1, 102, 0, 1, 0), (102, .iaload, 103, 0, 0, 0), (103, .ifCond .le 7, 106, 0, 110, 0), (106, .iconst 1, 107, 1, 0, 0), (107, .goto 4, 110, 0, 111, 0), (110, .iconst 0, 111, 0, 0, 0), (111, .istore_n 2, 112, 0, 2, 0),
  (112, .goto (-97), 115, 0, 15, 0), (115, .return_, 116, 0, 0, 0)])
def m_Mod_runs : gM := (⟨"ExtentTreeModel", "runs", "(I)I"⟩, prog_6_method_14_code, 2, (Option.some FieldType.int), 0, 0, [], [
  (0, .aload_n 0, 1, 0, 0, 0), (1, .getfield 7, 4, 0, 4, 2), (4, .iload_n 1, 5, 0, 1, 0), (5, .iconst 1, 6, 1, 0, 0), (6, .iadd, 7, 0, 0, 0), (7, .iaload, 8, 0, 0, 0), (8, .aload_n 0, 9, 0, 0, 0), (9, .getfield 7, 12, 0, 4, 2),
  (12, .iload_n 1, 13, 0, 1, 0), (13, .iaload, 14, 0, 0, 0), (14, .isub, 15, 0, 0, 0), (15, .ireturn, 16, 0, 0, 0)])
def m_Mod_insertRun : gM := (⟨"ExtentTreeModel", "insertRun", "(IIIIIZ)V"⟩, prog_6_method_15_code, 8, (none : Option FieldType), 2, 49, [], [
  (0, .aload_n 0, 1, 0, 0, 0), (1, .iload_n 2, 2, 0, 2, 0), (2, .iload_n 2, 3, 0, 2, 0), (3, .iconst 1, 4, 1, 0, 0), (4, .iadd, 5, 0, 0, 0), (5, .invokevirtual 87, 8, 0, 34, 2), (8, .aload_n 0, 9, 0, 0, 0), (9, .getfield 13, 12, 0, 4, 3),
  (12, .iload_n 2, 13, 0, 2, 0), (13, .iload_n 3, 14, 0, 3, 0), (14, .iastore, 15, 0, 0, 0), (15, .aload_n 0, 16, 0, 0, 0), (16, .getfield 16, 19, 0, 4, 4), (19, .iload_n 2, 20, 0, 2, 0), (20, .iload 4, 22, 0, 4, 0), (22, .iastore, 23, 0, 0, 0),
  (23, .aload_n 0, 24, 0, 0, 0), (24, .getfield 19, 27, 0, 4, 5), (27, .iload_n 2, 28, 0, 2, 0), (28, .iload 5, 30, 0, 5, 0), (30, .iastore, 31, 0, 0, 0), (31, .aload_n 0, 32, 0, 0, 0), (32, .getfield 22, 35, 0, 4, 6), (35, .iload_n 2, 36, 0, 2, 0),
  (36, .iload 6, 38, 0, 6, 0), (38, .bastore, 39, 0, 0, 0), (39, .iload_n 1, 40, 0, 1, 0), (40, .iconst 1, 41, 1, 0, 0), (41, .iadd, 42, 0, 0, 0), (42, .istore 7, 44, 0, 7, 0), (44, .iload 7, 46, 0, 7, 0), (46, .iconst 5, 47, 5, 0, 0),
  (47, .if_icmp .ge 20, 50, 0, 67, 0), (50, .aload_n 0, 51, 0, 0, 0), (51, .getfield 7, 54, 0, 4, 2), (54, .iload 7, 56, 0, 7, 0), (56, .dup2, 57, 0, 0, 0), (57, .iaload, 58, 0, 0, 0), (58, .iconst 1, 59, 1, 0, 0), (59, .iadd, 60, 0, 0, 0),
  (60, .iastore, 61, 0, 0, 0), (61, .iinc 7 1, 64, 1, 7, 0), (64, .goto (-20), 67, 0, 44, 0), (67, .return_, 68, 0, 0, 0)])
def m_Mod_removeRun : gM := (⟨"ExtentTreeModel", "removeRun", "(II)V"⟩, prog_6_method_16_code, 4, (none : Option FieldType), 2, 49, [], [
  (0, .aload_n 0, 1, 0, 0, 0), (1, .iload_n 2, 2, 0, 2, 0), (2, .iconst 1, 3, 1, 0, 0), (3, .iadd, 4, 0, 0, 0), (4, .iload_n 2, 5, 0, 2, 0), (5, .invokevirtual 87, 8, 0, 34, 2), (8, .iload_n 1, 9, 0, 1, 0), (9, .iconst 1, 10, 1, 0, 0),
  (10, .iadd, 11, 0, 0, 0), (11, .istore_n 3, 12, 0, 3, 0), (12, .iload_n 3, 13, 0, 3, 0), (13, .iconst 5, 14, 5, 0, 0), (14, .if_icmp .ge 19, 17, 0, 33, 0), (17, .aload_n 0, 18, 0, 0, 0), (18, .getfield 7, 21, 0, 4, 2), (21, .iload_n 3, 22, 0, 3, 0),
  (22, .dup2, 23, 0, 0, 0), (23, .iaload, 24, 0, 0, 0), (24, .iconst 1, 25, 1, 0, 0), (25, .isub, 26, 0, 0, 0), (26, .iastore, 27, 0, 0, 0), (27, .iinc 3 1, 30, 1, 3, 0), (30, .goto (-18), 33, 0, 12, 0), (33, .return_, 34, 0, 0, 0)])
def m_Mod_shift : gM := (⟨"ExtentTreeModel", "shift", "(II)V"⟩, prog_6_method_17_code, 4, (none : Option FieldType), 1, 26, [], [
  (0, .aload_n 0, 1, 0, 0, 0), (1, .getfield 7, 4, 0, 4, 2), (4, .iconst 4, 5, 4, 0, 0), (5, .iaload, 6, 0, 0, 0), (6, .iload_n 1, 7, 0, 1, 0), (7, .isub, 8, 0, 0, 0), (8, .istore_n 3, 9, 0, 3, 0), (9, .aload_n 0, 10, 0, 0, 0),
  (10, .getfield 13, 13, 0, 4, 3), (13, .iload_n 1, 14, 0, 1, 0), (14, .aload_n 0, 15, 0, 0, 0), (15, .getfield 13, 18, 0, 4, 3), (18, .iload_n 2, 19, 0, 2, 0), (19, .iload_n 3, 20, 0, 3, 0), (20, .invokestatic 90, 23, 3, 0, 0), (23, .aload_n 0, 24, 0, 0, 0),
  (24, .getfield 16, 27, 0, 4, 4), (27, .iload_n 1, 28, 0, 1, 0), (28, .aload_n 0, 29, 0, 0, 0), (29, .getfield 16, 32, 0, 4, 4), (32, .iload_n 2, 33, 0, 2, 0), (33, .iload_n 3, 34, 0, 3, 0), (34, .invokestatic 90, 37, 3, 0, 0), (37, .aload_n 0, 38, 0, 0, 0),
  (38, .getfield 19, 41, 0, 4, 5), (41, .iload_n 1, 42, 0, 1, 0), (42, .aload_n 0, 43, 0, 0, 0), (43, .getfield 19, 46, 0, 4, 5), (46, .iload_n 2, 47, 0, 2, 0), (47, .iload_n 3, 48, 0, 3, 0), (48, .invokestatic 90, 51, 3, 0, 0), (51, .aload_n 0, 52, 0, 0, 0),
  (52, .getfield 22, 55, 0, 4, 6), (55, .iload_n 1, 56, 0, 1, 0), (56, .aload_n 0, 57, 0, 0, 0), (57, .getfield 22, 60, 0, 4, 6), (60, .iload_n 2, 61, 0, 2, 0), (61, .iload_n 3, 62, 0, 3, 0), (62, .invokestatic 90, 65, 3, 0, 0), (65, .return_, 66, 0, 0, 0)])
def m_Mod_behind : gM := (⟨"ExtentTreeModel", "behind", "(II)I"⟩, prog_6_method_18_code, 6, (Option.some FieldType.int), 0, 0, [], [
  (0, .aload_n 0, 1, 0, 0, 0), (1, .getfield 7, 4, 0, 4, 2), (4, .iload_n 1, 5, 0, 1, 0), (5, .iaload, 6, 0, 0, 0), (6, .istore_n 3, 7, 0, 3, 0), (7, .aload_n 0, 8, 0, 0, 0), (8, .getfield 7, 11, 0, 4, 2), (11, .iload_n 1, 12, 0, 1, 0),
  (12, .iconst 1, 13, 1, 0, 0), (13, .iadd, 14, 0, 0, 0), (14, .iaload, 15, 0, 0, 0), (15, .istore 4, 17, 0, 4, 0), (17, .iload_n 3, 18, 0, 3, 0), (18, .iload 4, 20, 0, 4, 0), (20, .if_icmp .ge 45, 23, 0, 65, 0), (23, .iload_n 3, 24, 0, 3, 0),
  (24, .iload 4, 26, 0, 4, 0), (26, .iadd, 27, 0, 0, 0), (27, .iconst 2, 28, 2, 0, 0), (28, .idiv, 29, 0, 0, 0), (29, .istore 5, 31, 0, 5, 0), (31, .aload_n 0, 32, 0, 0, 0), (32, .getfield 13, 35, 0, 4, 3), (35, .iload 5, 37, 0, 5, 0),
  (37, .iaload, 38, 0, 0, 0), (38, .aload_n 0, 39, 0, 0, 0), (39, .getfield 16, 42, 0, 4, 4), (42, .iload 5, 44, 0, 5, 0), (44, .iaload, 45, 0, 0, 0), (45, .iadd, 46, 0, 0, 0), (46, .iload_n 2, 47, 0, 2, 0), (47, .if_icmp .gt 11, 50, 0, 58, 0),
  (50, .iload 5, 52, 0, 5, 0), (52, .iconst 1, 53, 1, 0, 0), (53, .iadd, 54, 0, 0, 0), (54, .istore_n 3, 55, 0, 3, 0), (55, .goto 7, 58, 0, 62, 0), (58, .iload 5, 60, 0, 5, 0), (60, .istore 4, 62, 0, 4, 0), (62, .goto (-45), 65, 0, 17, 0),
  (65, .iload_n 3, 66, 0, 3, 0), (66, .ireturn, 67, 0, 0, 0)])
def m_Mod_joins : gM := (⟨"ExtentTreeModel", "joins", "(IIIZIIIZ)Z"⟩, prog_6_method_19_code, 9, (Option.some FieldType.boolean), 0, 0, [], [
  (0, .iload_n 1, 1, 0, 1, 0), (1, .iload_n 2, 2, 0, 2, 0), (2, .iadd, 3, 0, 0, 0), (3, .iload 5, 5, 0, 5, 0), (5, .if_icmp .ne 42, 8, 0, 47, 0), (8, .iload_n 3, 9, 0, 3, 0), (9, .iload_n 2, 10, 0, 2, 0), (10, .iadd, 11, 0, 0, 0),
  (11, .iload 7, 13, 0, 7, 0), (13, .if_icmp .ne 34, 16, 0, 47, 0), (16, .iload 4, 18, 0, 4, 0), (18, .iload 8, 20, 0, 8, 0), (20, .if_icmp .ne 27, 23, 0, 47, 0), (23, .iload_n 2, 24, 0, 2, 0), (24, .iload 6, 26, 0, 6, 0), (26, .iadd, 27, 0, 0, 0),
  (27, .iload 4, 29, 0, 4, 0), (29, .ifCond .eq 8, 32, 0, 37, 0), (32, .ldc 96, 34, 32768, 0, 0), (34, .goto 6, 37, 0, 40, 0), (37, .sipush 32767, 40, 32767, 0, 0), (40, .if_icmp .gt 7, 43, 0, 47, 0), (43, .iconst 1, 44, 1, 0, 0), (44, .goto 4, 47, 0, 48, 0),
  (47, .iconst 0, 48, 0, 0, 0), (48, .ireturn, 49, 0, 0, 0)])
def m_Mod_enterRun : gM := (⟨"ExtentTreeModel", "enterRun", "(IIIIZ)V"⟩, prog_6_method_20_code, 12, (none : Option FieldType), 4, 98, [], [
  (0, .aload_n 0, 1, 0, 0, 0), (1, .iload_n 1, 2, 0, 1, 0), (2, .iload_n 2, 3, 0, 2, 0), (3, .invokevirtual 97, 6, 0, 35, 2), (6, .istore 6, 8, 0, 6, 0), (8, .iload 6, 10, 0, 6, 0), (10, .aload_n 0, 11, 0, 0, 0), (11, .getfield 7, 14, 0, 4, 2),
  (14, .iload_n 1, 15, 0, 1, 0), (15, .iaload, 16, 0, 0, 0), (16, .if_icmp .le 56, 19, 0, 72, 0), (19, .aload_n 0, 20, 0, 0, 0), (20, .aload_n 0, 21, 0, 0, 0), (21, .getfield 13, 24, 0, 4, 3), (24, .iload 6, 26, 0, 6, 0), (26, .iconst 1, 27, 1, 0, 0),
  (27, .isub, 28, 0, 0, 0), (28, .iaload, 29, 0, 0, 0), (29, .aload_n 0, 30, 0, 0, 0), (30, .getfield 16, 33, 0, 4, 4), (33, .iload 6, 35, 0, 6, 0), (35, .iconst 1, 36, 1, 0, 0), (36, .isub, 37, 0, 0, 0), (37, .iaload, 38, 0, 0, 0),
  (38, .aload_n 0, 39, 0, 0, 0), (39, .getfield 19, 42, 0, 4, 5), (42, .iload 6, 44, 0, 6, 0), (44, .iconst 1, 45, 1, 0, 0), (45, .isub, 46, 0, 0, 0), (46, .iaload, 47, 0, 0, 0), (47, .aload_n 0, 48, 0, 0, 0), (48, .getfield 22, 51, 0, 4, 6),
  (51, .iload 6, 53, 0, 6, 0), (53, .iconst 1, 54, 1, 0, 0), (54, .isub, 55, 0, 0, 0), (55, .baload, 56, 0, 0, 0), (56, .iload_n 2, 57, 0, 2, 0), (57, .iload_n 3, 58, 0, 3, 0), (58, .iload 4, 60, 0, 4, 0), (60, .iload 5, 62, 0, 5, 0),
  (62, .invokevirtual 100, 65, 0, 36, 8), (65, .ifCond .eq 7, 68, 0, 72, 0), (68, .iconst 1, 69, 1, 0, 0), (69, .goto 4, 72, 0, 73, 0), (72, .iconst 0, 73, 0, 0, 0), (73, .istore 7, 75, 0, 7, 0), (75, .iload 7, 77, 0, 7, 0), (77, .ifCond .eq 15, 80, 0, 92, 0),
  (80, .aload_n 0, 81, 0, 0, 0), (81, .getfield 13, 84, 0, 4, 3), (84, .iload 6, 86, 0, 6, 0), (86, .iconst 1, 87, 1, 0, 0), (87, .isub, 88, 0, 0, 0), (88, .iaload, 89, 0, 0, 0), (89, .goto 4, 92, 0, 93, 0), (92, .iload_n 2, 93, 0, 2, 0),
  (93, .istore 8, 95, 0, 8, 0), (95, .iload 7, 97, 0, 7, 0), (97, .ifCond .eq 15, 100, 0, 112, 0), (100, .aload_n 0, 101, 0, 0, 0), (101, .getfield 19, 104, 0, 4, 5), (104, .iload 6, 106, 0, 6, 0), (106, .iconst 1, 107, 1, 0, 0), (107, .isub, 108, 0, 0, 0),
  (108, .iaload, 109, 0, 0, 0), (109, .goto 5, 112, 0, 114, 0), (112, .iload 4, 114, 0, 4, 0), (114, .istore 9, 116, 0, 9, 0), (116, .iload 7, 118, 0, 7, 0), (118, .ifCond .eq 17, 121, 0, 135, 0), (121, .aload_n 0, 122, 0, 0, 0), (122, .getfield 16, 125, 0, 4, 4),
  (125, .iload 6, 127, 0, 6, 0), (127, .iconst 1, 128, 1, 0, 0), (128, .isub, 129, 0, 0, 0), (129, .iaload, 130, 0, 0, 0), (130, .iload_n 3, 131, 0, 3, 0), (131, .iadd, 132, 0, 0, 0), (132, .goto 4, 135, 0, 136, 0), (135, .iload_n 3, 136, 0, 3, 0),
  (136, .istore 10, 138, 0, 10, 0), (138, .iload 6, 140, 0, 6, 0), (140, .aload_n 0, 141, 0, 0, 0), (141, .getfield 7, 144, 0, 4, 2), (144, .iload_n 1, 145, 0, 1, 0), (145, .iconst 1, 146, 1, 0, 0), (146, .iadd, 147, 0, 0, 0), (147, .iaload, 148, 0, 0, 0),
  (148, .if_icmp .ge 50, 151, 0, 198, 0), (151, .aload_n 0, 152, 0, 0, 0), (152, .iload 8, 154, 0, 8, 0), (154, .iload 10, 156, 0, 10, 0), (156, .iload 9, 158, 0, 9, 0), (158, .iload 5, 160, 0, 5, 0), (160, .aload_n 0, 161, 0, 0, 0), (161, .getfield 13, 164, 0, 4, 3),
  (164, .iload 6, 166, 0, 6, 0), (166, .iaload, 167, 0, 0, 0), (167, .aload_n 0, 168, 0, 0, 0), (168, .getfield 16, 171, 0, 4, 4), (171, .iload 6, 173, 0, 6, 0), (173, .iaload, 174, 0, 0, 0), (174, .aload_n 0, 175, 0, 0, 0), (175, .getfield 19, 178, 0, 4, 5),
  (178, .iload 6, 180, 0, 6, 0), (180, .iaload, 181, 0, 0, 0), (181, .aload_n 0, 182, 0, 0, 0), (182, .getfield 22, 185, 0, 4, 6), (185, .iload 6, 187, 0, 6, 0), (187, .baload, 188, 0, 0, 0), (188, .invokevirtual 100, 191, 0, 36, 8), (191, .ifCond .eq 7, 194, 0, 198, 0),
  (194, .iconst 1, 195, 1, 0, 0), (195, .goto 4, 198, 0, 199, 0), (198, .iconst 0, 199, 0, 0, 0), (199, .istore 11, 201, 0, 11, 0), (201, .iload 7, 203, 0, 7, 0), (203, .ifCond .eq 60, 206, 0, 263, 0), (206, .aload_n 0, 207, 0, 0, 0), (207, .getfield 16, 210, 0, 4, 4),
  (210, .iload 6, 212, 0, 6, 0), (212, .iconst 1, 213, 1, 0, 0), (213, .isub, 214, 0, 0, 0), (214, .iload 10, 216, 0, 10, 0), (216, .iload 11, 218, 0, 11, 0), (218, .ifCond .eq 13, 221, 0, 231, 0), (221, .aload_n 0, 222, 0, 0, 0), (222, .getfield 16, 225, 0, 4, 4),
  (225, .iload 6, 227, 0, 6, 0), (227, .iaload, 228, 0, 0, 0), (228, .goto 4, 231, 0, 232, 0), (231, .iconst 0, 232, 0, 0, 0), (232, .iadd, 233, 0, 0, 0), (233, .iastore, 234, 0, 0, 0), (234, .iload 11, 236, 0, 11, 0), (236, .ifCond .eq 99, 239, 0, 335, 0),
  (239, .aload_n 0, 240, 0, 0, 0), (240, .iload_n 1, 241, 0, 1, 0), (241, .iload 6, 243, 0, 6, 0), (243, .aload_n 0, 244, 0, 0, 0), (244, .getfield 7, 247, 0, 4, 2), (247, .iload_n 1, 248, 0, 1, 0), (248, .iaload, 249, 0, 0, 0), (249, .isub, 250, 0, 0, 0),
  (250, .invokevirtual 104, 253, 0, 29, 2), (253, .aload_n 0, 254, 0, 0, 0), (254, .iload_n 1, 255, 0, 1, 0), (255, .iload 6, 257, 0, 6, 0), (257, .invokevirtual 107, 260, 0, 33, 2), (260, .goto 75, 263, 0, 335, 0), (263, .iload 11, 265, 0, 11, 0), (265, .ifCond .eq 41, 268, 0, 306, 0),
  (268, .aload_n 0, 269, 0, 0, 0), (269, .getfield 13, 272, 0, 4, 3), (272, .iload 6, 274, 0, 6, 0), (274, .iload 8, 276, 0, 8, 0), (276, .iastore, 277, 0, 0, 0), (277, .aload_n 0, 278, 0, 0, 0), (278, .getfield 19, 281, 0, 4, 5), (281, .iload 6, 283, 0, 6, 0),
  (283, .iload 9, 285, 0, 9, 0), (285, .iastore, 286, 0, 0, 0), (286, .aload_n 0, 287, 0, 0, 0), (287, .getfield 16, 290, 0, 4, 4), (290, .iload 6, 292, 0, 6, 0), (292, .iload 10, 294, 0, 10, 0), (294, .aload_n 0, 295, 0, 0, 0), (295, .getfield 16, 298, 0, 4, 4),
  (298, .iload 6, 300, 0, 6, 0), (300, .iaload, 301, 0, 0, 0), (301, .iadd, 302, 0, 0, 0), (302, .iastore, 303, 0, 0, 0), (303, .goto 32, 306, 0, 335, 0), (306, .aload_n 0, 307, 0, 0, 0), (307, .iload_n 1, 308, 0, 1, 0), (308, .iload 6, 310, 0, 6, 0),
  (310, .aload_n 0, 311, 0, 0, 0), (311, .getfield 7, 314, 0, 4, 2), (314, .iload_n 1, 315, 0, 1, 0), (315, .iaload, 316, 0, 0, 0), (316, .isub, 317, 0, 0, 0), (317, .iconst 1, 318, 1, 0, 0), (318, .isub, 319, 0, 0, 0), (319, .invokevirtual 110, 322, 0, 28, 2),
  (322, .aload_n 0, 323, 0, 0, 0), (323, .iload_n 1, 324, 0, 1, 0), (324, .iload 6, 326, 0, 6, 0), (326, .iload_n 2, 327, 0, 2, 0), (327, .iload_n 3, 328, 0, 3, 0), (328, .iload 4, 330, 0, 4, 0), (330, .iload 5, 332, 0, 5, 0), (332, .invokevirtual 113, 335, 0, 32, 6),
  (335, .return_, 336, 0, 0, 0)])
def m_Mod_takeOut : gM := (⟨"ExtentTreeModel", "takeOut", "(III)I"⟩, prog_6_method_21_code, 11, (Option.some FieldType.int), 4, 98, [], [
  (0, .iload_n 2, 1, 0, 2, 0), (1, .iload_n 3, 2, 0, 3, 0), (2, .iadd, 3, 0, 0, 0), (3, .istore 4, 5, 0, 4, 0), (5, .iconst 0, 6, 0, 0, 0), (6, .istore 5, 8, 0, 5, 0), (8, .aload_n 0, 9, 0, 0, 0), (9, .iload_n 1, 10, 0, 1, 0),
  (10, .iload_n 2, 11, 0, 2, 0), (11, .invokevirtual 97, 14, 0, 35, 2), (14, .istore 6, 16, 0, 6, 0), (16, .iload 6, 18, 0, 6, 0), (18, .aload_n 0, 19, 0, 0, 0), (19, .getfield 7, 22, 0, 4, 2), (22, .iload_n 1, 23, 0, 1, 0), (23, .iconst 1, 24, 1, 0, 0),
  (24, .iadd, 25, 0, 0, 0), (25, .iaload, 26, 0, 0, 0), (26, .if_icmp .ge 291, 29, 0, 317, 0), (29, .aload_n 0, 30, 0, 0, 0), (30, .getfield 13, 33, 0, 4, 3), (33, .iload 6, 35, 0, 6, 0), (35, .iaload, 36, 0, 0, 0), (36, .iload 4, 38, 0, 4, 0),
  (38, .if_icmp .ge 279, 41, 0, 317, 0), (41, .aload_n 0, 42, 0, 0, 0), (42, .getfield 13, 45, 0, 4, 3), (45, .iload 6, 47, 0, 6, 0), (47, .iaload, 48, 0, 0, 0), (48, .iload_n 2, 49, 0, 2, 0), (49, .if_icmp .ge 7, 52, 0, 56, 0), (52, .iload_n 2, 53, 0, 2, 0),
  (53, .goto 10, 56, 0, 63, 0), (56, .aload_n 0, 57, 0, 0, 0), (57, .getfield 13, 60, 0, 4, 3), (60, .iload 6, 62, 0, 6, 0), (62, .iaload, 63, 0, 0, 0), (63, .istore 7, 65, 0, 7, 0), (65, .aload_n 0, 66, 0, 0, 0), (66, .getfield 13, 69, 0, 4, 3),
  (69, .iload 6, 71, 0, 6, 0), (71, .iaload, 72, 0, 0, 0), (72, .aload_n 0, 73, 0, 0, 0), (73, .getfield 16, 76, 0, 4, 4), (76, .iload 6, 78, 0, 6, 0), (78, .iaload, 79, 0, 0, 0), (79, .iadd, 80, 0, 0, 0), (80, .istore 8, 82, 0, 8, 0),
  (82, .iload 8, 84, 0, 8, 0), (84, .iload 4, 86, 0, 4, 0), (86, .if_icmp .ge 8, 89, 0, 94, 0), (89, .iload 8, 91, 0, 8, 0), (91, .goto 5, 94, 0, 96, 0), (94, .iload 4, 96, 0, 4, 0), (96, .istore 9, 98, 0, 9, 0), (98, .iload 5, 100, 0, 5, 0),
  (100, .iload 9, 102, 0, 9, 0), (102, .iload 7, 104, 0, 7, 0), (104, .isub, 105, 0, 0, 0), (105, .iadd, 106, 0, 0, 0), (106, .istore 5, 108, 0, 5, 0), (108, .iload 7, 110, 0, 7, 0), (110, .aload_n 0, 111, 0, 0, 0), (111, .getfield 13, 114, 0, 4, 3),
  (114, .iload 6, 116, 0, 6, 0), (116, .iaload, 117, 0, 0, 0), (117, .if_icmp .le 87, 120, 0, 204, 0), (120, .iload 9, 122, 0, 9, 0), (122, .iload 8, 124, 0, 8, 0), (124, .if_icmp .ge 80, 127, 0, 204, 0), (127, .aload_n 0, 128, 0, 0, 0), (128, .getfield 13, 131, 0, 4, 3),
  (131, .iload 6, 133, 0, 6, 0), (133, .iaload, 134, 0, 0, 0), (134, .istore 10, 136, 0, 10, 0), (136, .aload_n 0, 137, 0, 0, 0), (137, .iload_n 1, 138, 0, 1, 0), (138, .iload 6, 140, 0, 6, 0), (140, .aload_n 0, 141, 0, 0, 0), (141, .getfield 7, 144, 0, 4, 2),
  (144, .iload_n 1, 145, 0, 1, 0), (145, .iaload, 146, 0, 0, 0), (146, .isub, 147, 0, 0, 0), (147, .invokevirtual 110, 150, 0, 28, 2), (150, .aload_n 0, 151, 0, 0, 0), (151, .iload_n 1, 152, 0, 1, 0), (152, .iload 6, 154, 0, 6, 0), (154, .iconst 1, 155, 1, 0, 0),
  (155, .iadd, 156, 0, 0, 0), (156, .iload 9, 158, 0, 9, 0), (158, .iload 8, 160, 0, 8, 0), (160, .iload 9, 162, 0, 9, 0), (162, .isub, 163, 0, 0, 0), (163, .aload_n 0, 164, 0, 0, 0), (164, .getfield 19, 167, 0, 4, 5), (167, .iload 6, 169, 0, 6, 0),
  (169, .iaload, 170, 0, 0, 0), (170, .iload 9, 172, 0, 9, 0), (172, .iadd, 173, 0, 0, 0), (173, .iload 10, 175, 0, 10, 0), (175, .isub, 176, 0, 0, 0), (176, .aload_n 0, 177, 0, 0, 0), (177, .getfield 22, 180, 0, 4, 6), (180, .iload 6, 182, 0, 6, 0),
  (182, .baload, 183, 0, 0, 0), (183, .invokevirtual 113, 186, 0, 32, 6), (186, .aload_n 0, 187, 0, 0, 0), (187, .getfield 16, 190, 0, 4, 4), (190, .iload 6, 192, 0, 6, 0), (192, .iload 7, 194, 0, 7, 0), (194, .iload 10, 196, 0, 10, 0), (196, .isub, 197, 0, 0, 0),
  (197, .iastore, 198, 0, 0, 0), (198, .iinc 6 1, 201, 1, 6, 0), (201, .goto 113, 204, 0, 314, 0), (204, .iload 7, 206, 0, 7, 0), (206, .aload_n 0, 207, 0, 0, 0), (207, .getfield 13, 210, 0, 4, 3), (210, .iload 6, 212, 0, 6, 0), (212, .iaload, 213, 0, 0, 0),
  (213, .if_icmp .le 26, 216, 0, 239, 0), (216, .aload_n 0, 217, 0, 0, 0), (217, .getfield 16, 220, 0, 4, 4), (220, .iload 6, 222, 0, 6, 0), (222, .iload 7, 224, 0, 7, 0), (224, .aload_n 0, 225, 0, 0, 0), (225, .getfield 13, 228, 0, 4, 3), (228, .iload 6, 230, 0, 6, 0),
  (230, .iaload, 231, 0, 0, 0), (231, .isub, 232, 0, 0, 0), (232, .iastore, 233, 0, 0, 0), (233, .iinc 6 1, 236, 1, 6, 0), (236, .goto 78, 239, 0, 314, 0), (239, .iload 9, 241, 0, 9, 0), (241, .iload 8, 243, 0, 8, 0), (243, .if_icmp .ge 50, 246, 0, 293, 0),
  (246, .aload_n 0, 247, 0, 0, 0), (247, .getfield 19, 250, 0, 4, 5), (250, .iload 6, 252, 0, 6, 0), (252, .dup2, 253, 0, 0, 0), (253, .iaload, 254, 0, 0, 0), (254, .iload 9, 256, 0, 9, 0), (256, .aload_n 0, 257, 0, 0, 0), (257, .getfield 13, 260, 0, 4, 3),
  (260, .iload 6, 262, 0, 6, 0), (262, .iaload, 263, 0, 0, 0), (263, .isub, 264, 0, 0, 0), (264, .iadd, 265, 0, 0, 0), (265, .iastore, 266, 0, 0, 0), (266, .aload_n 0, 267, 0, 0, 0), (267, .getfield 13, 270, 0, 4, 3), (270, .iload 6, 272, 0, 6, 0),
  (272, .iload 9, 274, 0, 9, 0), (274, .iastore, 275, 0, 0, 0), (275, .aload_n 0, 276, 0, 0, 0), (276, .getfield 16, 279, 0, 4, 4), (279, .iload 6, 281, 0, 6, 0), (281, .iload 8, 283, 0, 8, 0), (283, .iload 9, 285, 0, 9, 0), (285, .isub, 286, 0, 0, 0),
  (286, .iastore, 287, 0, 0, 0), (287, .iinc 6 1, 290, 1, 6, 0), (290, .goto 24, 293, 0, 314, 0), (293, .aload_n 0, 294, 0, 0, 0), (294, .iload_n 1, 295, 0, 1, 0), (295, .iload 6, 297, 0, 6, 0), (297, .aload_n 0, 298, 0, 0, 0), (298, .getfield 7, 301, 0, 4, 2),
  (301, .iload_n 1, 302, 0, 1, 0), (302, .iaload, 303, 0, 0, 0), (303, .isub, 304, 0, 0, 0), (304, .invokevirtual 104, 307, 0, 29, 2), (307, .aload_n 0, 308, 0, 0, 0), (308, .iload_n 1, 309, 0, 1, 0), (309, .iload 6, 311, 0, 6, 0), (311, .invokevirtual 107, 314, 0, 33, 2),
  (314, .goto (-298), 317, 0, 16, 0), (317, .iload 5, 319, 0, 5, 0), (319, .ireturn, 320, 0, 0, 0)])
def m_Mod_noRange : gM := (⟨"ExtentTreeModel", "noRange", "(IIII)Z"⟩, prog_6_method_22_code, 5, (Option.some FieldType.boolean), 0, 0, [], [
  (0, .iload_n 1, 1, 0, 1, 0), (1, .ifCond .lt 37, 4, 0, 38, 0), (4, .iload_n 1, 5, 0, 1, 0), (5, .iconst 3, 6, 3, 0, 0), (6, .if_icmp .gt 32, 9, 0, 38, 0), (9, .iload_n 2, 10, 0, 2, 0), (10, .ifCond .lt 28, 13, 0, 38, 0), (13, .iload_n 2, 14, 0, 2, 0),
  (14, .ldc 117, 16, 65535, 0, 0), (16, .if_icmp .gt 22, 19, 0, 38, 0), (19, .iload_n 3, 20, 0, 3, 0), (20, .iconst 1, 21, 1, 0, 0), (21, .if_icmp .lt 17, 24, 0, 38, 0), (24, .iload_n 3, 25, 0, 3, 0), (25, .iload 4, 27, 0, 4, 0), (27, .if_icmp .gt 11, 30, 0, 38, 0),
  (30, .iload_n 2, 31, 0, 2, 0), (31, .iload_n 3, 32, 0, 3, 0), (32, .iadd, 33, 0, 0, 0), (33, .ldc 118, 35, 65536, 0, 0), (35, .if_icmp .le 7, 38, 0, 42, 0), (38, .iconst 1, 39, 1, 0, 0), (39, .goto 4, 42, 0, 43, 0), (42, .iconst 0, 43, 0, 0, 0),
  (43, .ireturn, 44, 0, 0, 0)])
def m_Mod_isTight : gM := (⟨"ExtentTreeModel", "isTight", "(IIII)Z"⟩, prog_6_method_23_code, 5, (Option.some FieldType.boolean), 1, 22, [], [
  (0, .aload_n 0, 1, 0, 0, 0), (1, .invokevirtual 60, 4, 0, 22, 0), (4, .iload_n 2, 5, 0, 2, 0), (5, .aload_n 0, 6, 0, 0, 0), (6, .getfield 26, 9, 0, 4, 7), (9, .iload_n 1, 10, 0, 1, 0), (10, .iaload, 11, 0, 0, 0), (11, .imul, 12, 0, 0, 0),
  (12, .iload_n 3, 13, 0, 3, 0), (13, .iadd, 14, 0, 0, 0), (14, .if_icmp .lt 24, 17, 0, 38, 0), (17, .aload_n 0, 18, 0, 0, 0), (18, .getfield 26, 21, 0, 4, 7), (21, .iload_n 1, 22, 0, 1, 0), (22, .iaload, 23, 0, 0, 0), (23, .iload 4, 25, 0, 4, 0),
  (25, .if_icmp .lt 17, 28, 0, 42, 0), (28, .aload_n 0, 29, 0, 0, 0), (29, .getfield 29, 32, 0, 4, 8), (32, .iload_n 1, 33, 0, 1, 0), (33, .iaload, 34, 0, 0, 0), (34, .iconst 4, 35, 4, 0, 0), (35, .if_icmp .ne 7, 38, 0, 42, 0), (38, .iconst 1, 39, 1, 0, 0),
  (39, .goto 4, 42, 0, 43, 0), (42, .iconst 0, 43, 0, 0, 0), (43, .ireturn, 44, 0, 0, 0)])
def m_Mod_noVolume : gM := (⟨"ExtentTreeModel", "noVolume", "(II)Z"⟩, prog_6_method_24_code, 3, (Option.some FieldType.boolean), 0, 0, [], [
  (0, .iload_n 1, 1, 0, 1, 0), (1, .iconst 1, 2, 1, 0, 0), (2, .if_icmp .lt 19, 5, 0, 21, 0), (5, .iload_n 1, 6, 0, 1, 0), (6, .ldc 119, 8, 16777216, 0, 0), (8, .if_icmp .gt 13, 11, 0, 21, 0), (11, .iload_n 1, 12, 0, 1, 0), (12, .iload_n 2, 13, 0, 2, 0),
  (13, .iadd, 14, 0, 0, 0), (14, .iconst 1, 15, 1, 0, 0), (15, .isub, 16, 0, 0, 0), (16, .ldc 119, 18, 16777216, 0, 0), (18, .if_icmp .le 7, 21, 0, 25, 0), (21, .iconst 1, 22, 1, 0, 0), (22, .goto 4, 25, 0, 26, 0), (25, .iconst 0, 26, 0, 0, 0),
  (26, .ireturn, 27, 0, 0, 0)])
def m_Mod_tryPut : gM := (⟨"ExtentTreeModel", "tryPut", "(IIIIZ)I"⟩, prog_6_method_25_code, 9, (Option.some FieldType.int), 5, 129, [], [
  (0, .aload_n 0, 1, 0, 0, 0), (1, .iload_n 1, 2, 0, 1, 0), (2, .iload_n 2, 3, 0, 2, 0), (3, .invokevirtual 97, 6, 0, 35, 2), (6, .istore 6, 8, 0, 6, 0), (8, .iload 6, 10, 0, 6, 0), (10, .aload_n 0, 11, 0, 0, 0), (11, .getfield 7, 14, 0, 4, 2),
  (14, .iload_n 1, 15, 0, 1, 0), (15, .iconst 1, 16, 1, 0, 0), (16, .iadd, 17, 0, 0, 0), (17, .iaload, 18, 0, 0, 0), (18, .if_icmp .ge 20, 21, 0, 38, 0), (21, .aload_n 0, 22, 0, 0, 0), (22, .getfield 13, 25, 0, 4, 3), (25, .iload 6, 27, 0, 6, 0),
  (27, .iaload, 28, 0, 0, 0), (28, .iload_n 2, 29, 0, 2, 0), (29, .iload_n 3, 30, 0, 3, 0), (30, .iadd, 31, 0, 0, 0), (31, .if_icmp .ge 7, 34, 0, 38, 0), (34, .iconst 1, 35, 1, 0, 0), (35, .goto 4, 38, 0, 39, 0), (38, .iconst 0, 39, 0, 0, 0),
  (39, .istore 7, 41, 0, 7, 0), (41, .iload 7, 43, 0, 7, 0), (43, .ifCond .eq 7, 46, 0, 50, 0), (46, .iconst 2, 47, 2, 0, 0), (47, .goto 19, 50, 0, 66, 0), (50, .aload_n 0, 51, 0, 0, 0), (51, .iload_n 1, 52, 0, 1, 0), (52, .iconst 1, 53, 1, 0, 0),
  (53, .iconst 1, 54, 1, 0, 0), (54, .iconst 5, 55, 5, 0, 0), (55, .invokevirtual 120, 58, 0, 40, 4), (58, .ifCond .eq 7, 61, 0, 65, 0), (61, .iconst 3, 62, 3, 0, 0), (62, .goto 4, 65, 0, 66, 0), (65, .iconst 0, 66, 0, 0, 0), (66, .istore 8, 68, 0, 8, 0),
  (68, .iload 8, 70, 0, 8, 0), (70, .ifCond .ne 19, 73, 0, 89, 0), (73, .aload_n 0, 74, 0, 0, 0), (74, .iload_n 1, 75, 0, 1, 0), (75, .iload_n 2, 76, 0, 2, 0), (76, .iload_n 3, 77, 0, 3, 0), (77, .iload 4, 79, 0, 4, 0), (79, .iload 5, 81, 0, 5, 0),
  (81, .invokevirtual 124, 84, 0, 37, 5), (84, .aload_n 0, 85, 0, 0, 0), (85, .iload_n 1, 86, 0, 1, 0), (86, .invokevirtual 128, 89, 0, 30, 1), (89, .iload 8, 91, 0, 8, 0), (91, .ireturn, 92, 0, 0, 0)])
def m_Mod_put : gM := (⟨"ExtentTreeModel", "put", "(IIIIZ)I"⟩, prog_6_method_26_code, 6, (Option.some FieldType.int), 6, 157, [], [
  (0, .aload_n 0, 1, 0, 0, 0), (1, .aload_n 0, 2, 0, 0, 0), (2, .iload_n 1, 3, 0, 1, 0), (3, .iload_n 2, 4, 0, 2, 0), (4, .iload_n 3, 5, 0, 3, 0), (5, .iload 5, 7, 0, 5, 0), (7, .ifCond .eq 8, 10, 0, 15, 0), (10, .ldc 96, 12, 32768, 0, 0),
  (12, .goto 6, 15, 0, 18, 0), (15, .sipush 32767, 18, 32767, 0, 0), (18, .invokevirtual 132, 21, 0, 39, 4), (21, .ifCond .ne 13, 24, 0, 34, 0), (24, .aload_n 0, 25, 0, 0, 0), (25, .iload 4, 27, 0, 4, 0), (27, .iload_n 3, 28, 0, 3, 0), (28, .invokevirtual 135, 31, 0, 41, 2),
  (31, .ifCond .eq 7, 34, 0, 38, 0), (34, .iconst 1, 35, 1, 0, 0), (35, .goto 4, 38, 0, 39, 0), (38, .iconst 0, 39, 0, 0, 0), (39, .putfield 57, 42, 0, 4, 0), (42, .aload_n 0, 43, 0, 0, 0), (43, .aload_n 0, 44, 0, 0, 0), (44, .getfield 57, 47, 0, 4, 0),
  (47, .ifCond .eq 7, 50, 0, 54, 0), (50, .iconst 1, 51, 1, 0, 0), (51, .goto 14, 54, 0, 65, 0), (54, .aload_n 0, 55, 0, 0, 0), (55, .iload_n 1, 56, 0, 1, 0), (56, .iload_n 2, 57, 0, 2, 0), (57, .iload_n 3, 58, 0, 3, 0), (58, .iload 4, 60, 0, 4, 0),
  (60, .iload 5, 62, 0, 5, 0), (62, .invokevirtual 139, 65, 0, 42, 5), (65, .putfield 57, 68, 0, 4, 0), (68, .aload_n 0, 69, 0, 0, 0), (69, .getfield 57, 72, 0, 4, 0), (72, .ifCond .eq 7, 75, 0, 79, 0), (75, .iconst 0, 76, 0, 0, 0), (76, .goto 8, 79, 0, 84, 0),
  (79, .aload_n 0, 80, 0, 0, 0), (80, .iload_n 1, 81, 0, 1, 0), (81, .invokevirtual 143, 84, 0, 31, 1), (84, .ireturn, 85, 0, 0, 0)])
def m_Mod_noSteps : gM := (⟨"ExtentTreeModel", "noSteps", "(IIII)Z"⟩, prog_6_method_27_code, 5, (Option.some FieldType.boolean), 0, 0, [], [
  (0, .iload_n 1, 1, 0, 1, 0), (1, .ifCond .lt 57, 4, 0, 58, 0), (4, .iload_n 1, 5, 0, 1, 0), (5, .iconst 3, 6, 3, 0, 0), (6, .if_icmp .gt 52, 9, 0, 58, 0), (9, .iload_n 2, 10, 0, 2, 0), (10, .ifCond .lt 48, 13, 0, 58, 0), (13, .iload_n 3, 14, 0, 3, 0),
  (14, .iconst 1, 15, 1, 0, 0), (15, .if_icmp .lt 43, 18, 0, 58, 0), (18, .iload_n 3, 19, 0, 3, 0), (19, .sipush 2000, 22, 2000, 0, 0), (22, .if_icmp .gt 36, 25, 0, 58, 0), (25, .iload 4, 27, 0, 4, 0), (27, .iconst 1, 28, 1, 0, 0), (28, .if_icmp .lt 30, 31, 0, 58, 0),
  (31, .iload 4, 33, 0, 4, 0), (33, .sipush 2000, 36, 2000, 0, 0), (36, .if_icmp .gt 22, 39, 0, 58, 0), (39, .iload_n 2, 40, 0, 2, 0), (40, .ldc 117, 42, 65535, 0, 0), (42, .if_icmp .gt 16, 45, 0, 58, 0), (45, .iload_n 2, 46, 0, 2, 0), (46, .iload_n 3, 47, 0, 3, 0),
  (47, .iload 4, 49, 0, 4, 0), (49, .iconst 1, 50, 1, 0, 0), (50, .isub, 51, 0, 0, 0), (51, .imul, 52, 0, 0, 0), (52, .iadd, 53, 0, 0, 0), (53, .ldc 117, 55, 65535, 0, 0), (55, .if_icmp .le 7, 58, 0, 62, 0), (58, .iconst 1, 59, 1, 0, 0),
  (59, .goto 4, 62, 0, 63, 0), (62, .iconst 0, 63, 0, 0, 0), (63, .ireturn, 64, 0, 0, 0)])
def m_Mod_spread : gM := (⟨"ExtentTreeModel", "spread", "(IIIII)I"⟩, prog_6_method_28_code, 8, (Option.some FieldType.int), 6, 157, [], [
  (0, .aload_n 0, 1, 0, 0, 0), (1, .iload_n 1, 2, 0, 1, 0), (2, .iload_n 2, 3, 0, 2, 0), (3, .iload_n 3, 4, 0, 3, 0), (4, .iload 4, 6, 0, 4, 0), (6, .invokevirtual 146, 9, 0, 44, 4), (9, .ifCond .ne 16, 12, 0, 25, 0), (12, .iload 5, 14, 0, 5, 0),
  (14, .iconst 1, 15, 1, 0, 0), (15, .if_icmp .lt 10, 18, 0, 25, 0), (18, .iload 5, 20, 0, 5, 0), (20, .ldc 119, 22, 16777216, 0, 0), (22, .if_icmp .le 7, 25, 0, 29, 0), (25, .iconst 1, 26, 1, 0, 0), (26, .goto 4, 29, 0, 30, 0), (29, .iconst 0, 30, 0, 0, 0),
  (30, .istore 6, 32, 0, 6, 0), (32, .aload_n 0, 33, 0, 0, 0), (33, .iload 6, 35, 0, 6, 0), (35, .ifCond .ne 17, 38, 0, 52, 0), (38, .iload 5, 40, 0, 5, 0), (40, .iconst 2, 41, 2, 0, 0), (41, .iload 4, 43, 0, 4, 0), (43, .iconst 1, 44, 1, 0, 0),
  (44, .isub, 45, 0, 0, 0), (45, .imul, 46, 0, 0, 0), (46, .iadd, 47, 0, 0, 0), (47, .ldc 119, 49, 16777216, 0, 0), (49, .if_icmp .le 7, 52, 0, 56, 0), (52, .iconst 1, 53, 1, 0, 0), (53, .goto 4, 56, 0, 57, 0), (56, .iconst 0, 57, 0, 0, 0),
  (57, .putfield 57, 60, 0, 4, 0), (60, .iconst 0, 61, 0, 0, 0), (61, .istore 7, 63, 0, 7, 0), (63, .aload_n 0, 64, 0, 0, 0), (64, .getfield 57, 67, 0, 4, 0), (67, .ifCond .ne 39, 70, 0, 106, 0), (70, .iload 7, 72, 0, 7, 0), (72, .iload 4, 74, 0, 4, 0),
  (74, .if_icmp .ge 32, 77, 0, 106, 0), (77, .aload_n 0, 78, 0, 0, 0), (78, .iload_n 1, 79, 0, 1, 0), (79, .iload_n 2, 80, 0, 2, 0), (80, .iload_n 3, 81, 0, 3, 0), (81, .iload 7, 83, 0, 7, 0), (83, .imul, 84, 0, 0, 0), (84, .iadd, 85, 0, 0, 0),
  (85, .iconst 1, 86, 1, 0, 0), (86, .iload 5, 88, 0, 5, 0), (88, .iconst 2, 89, 2, 0, 0), (89, .iload 7, 91, 0, 7, 0), (91, .imul, 92, 0, 0, 0), (92, .iadd, 93, 0, 0, 0), (93, .iconst 1, 94, 1, 0, 0), (94, .invokevirtual 139, 97, 0, 42, 5),
  (97, .ifCond .ne 9, 100, 0, 106, 0), (100, .iinc 7 1, 103, 1, 7, 0), (103, .goto (-40), 106, 0, 63, 0), (106, .iload 7, 108, 0, 7, 0), (108, .ireturn, 109, 0, 0, 0)])
def m_Mod_punch : gM := (⟨"ExtentTreeModel", "punch", "(III)I"⟩, prog_6_method_29_code, 5, (Option.some FieldType.int), 5, 128, [], [
  (0, .aload_n 0, 1, 0, 0, 0), (1, .aload_n 0, 2, 0, 0, 0), (2, .iload_n 1, 3, 0, 1, 0), (3, .iload_n 2, 4, 0, 2, 0), (4, .iload_n 3, 5, 0, 3, 0), (5, .ldc 118, 7, 65536, 0, 0), (7, .invokevirtual 132, 10, 0, 39, 4), (10, .ifCond .eq 7, 13, 0, 17, 0),
  (13, .iconst 1, 14, 1, 0, 0), (14, .goto 4, 17, 0, 18, 0), (17, .iconst 0, 18, 0, 0, 0), (18, .putfield 57, 21, 0, 4, 0), (21, .aload_n 0, 22, 0, 0, 0), (22, .aload_n 0, 23, 0, 0, 0), (23, .getfield 57, 26, 0, 4, 0), (26, .ifCond .eq 7, 29, 0, 33, 0),
  (29, .iconst 1, 30, 1, 0, 0), (30, .goto 19, 33, 0, 49, 0), (33, .aload_n 0, 34, 0, 0, 0), (34, .iload_n 1, 35, 0, 1, 0), (35, .iconst 1, 36, 1, 0, 0), (36, .iconst 1, 37, 1, 0, 0), (37, .iconst 5, 38, 5, 0, 0), (38, .invokevirtual 120, 41, 0, 40, 4),
  (41, .ifCond .eq 7, 44, 0, 48, 0), (44, .iconst 2, 45, 2, 0, 0), (45, .goto 4, 48, 0, 49, 0), (48, .iconst 0, 49, 0, 0, 0), (49, .putfield 57, 52, 0, 4, 0), (52, .aload_n 0, 53, 0, 0, 0), (53, .getfield 57, 56, 0, 4, 0), (56, .ifCond .eq 5, 59, 0, 61, 0),
  (59, .iconst 0, 60, 0, 0, 0), (60, .ireturn, 61, 0, 0, 0), (61, .aload_n 0, 62, 0, 0, 0), (62, .iload_n 1, 63, 0, 1, 0), (63, .iload_n 2, 64, 0, 2, 0), (64, .iload_n 3, 65, 0, 3, 0), (65, .invokevirtual 149, 68, 0, 38, 3), (68, .istore 4, 70, 0, 4, 0),
  (70, .aload_n 0, 71, 0, 0, 0), (71, .iload_n 1, 72, 0, 1, 0), (72, .invokevirtual 128, 75, 0, 30, 1), (75, .iload 4, 77, 0, 4, 0), (77, .ireturn, 78, 0, 0, 0)])
def m_Mod_strip : gM := (⟨"ExtentTreeModel", "strip", "(IIII)I"⟩, prog_6_method_30_code, 7, (Option.some FieldType.int), 5, 128, [], [
  (0, .aload_n 0, 1, 0, 0, 0), (1, .aload_n 0, 2, 0, 0, 0), (2, .iload_n 1, 3, 0, 1, 0), (3, .iload_n 2, 4, 0, 2, 0), (4, .iload_n 3, 5, 0, 3, 0), (5, .iload 4, 7, 0, 4, 0), (7, .invokevirtual 146, 10, 0, 44, 4), (10, .ifCond .eq 7, 13, 0, 17, 0),
  (13, .iconst 1, 14, 1, 0, 0), (14, .goto 4, 17, 0, 18, 0), (17, .iconst 0, 18, 0, 0, 0), (18, .putfield 57, 21, 0, 4, 0), (21, .iconst 0, 22, 0, 0, 0), (22, .istore 5, 24, 0, 5, 0), (24, .iconst 0, 25, 0, 0, 0), (25, .istore 6, 27, 0, 6, 0),
  (27, .aload_n 0, 28, 0, 0, 0), (28, .getfield 57, 31, 0, 4, 0), (31, .ifCond .ne 49, 34, 0, 80, 0), (34, .iload 6, 36, 0, 6, 0), (36, .iload 4, 38, 0, 4, 0), (38, .if_icmp .ge 42, 41, 0, 80, 0), (41, .aload_n 0, 42, 0, 0, 0), (42, .iload_n 1, 43, 0, 1, 0),
  (43, .iconst 1, 44, 1, 0, 0), (44, .iconst 1, 45, 1, 0, 0), (45, .iconst 5, 46, 5, 0, 0), (46, .invokevirtual 120, 49, 0, 40, 4), (49, .ifCond .ne 31, 52, 0, 80, 0), (52, .iload 5, 54, 0, 5, 0), (54, .aload_n 0, 55, 0, 0, 0), (55, .iload_n 1, 56, 0, 1, 0),
  (56, .iload_n 2, 57, 0, 2, 0), (57, .iload_n 3, 58, 0, 3, 0), (58, .iload 6, 60, 0, 6, 0), (60, .imul, 61, 0, 0, 0), (61, .iadd, 62, 0, 0, 0), (62, .iconst 1, 63, 1, 0, 0), (63, .invokevirtual 149, 66, 0, 38, 3), (66, .iadd, 67, 0, 0, 0),
  (67, .istore 5, 69, 0, 5, 0), (69, .aload_n 0, 70, 0, 0, 0), (70, .iload_n 1, 71, 0, 1, 0), (71, .invokevirtual 128, 74, 0, 30, 1), (74, .iinc 6 1, 77, 1, 6, 0), (77, .goto (-50), 80, 0, 27, 0), (80, .iload 5, 82, 0, 5, 0), (82, .ireturn, 83, 0, 0, 0)])
def m_Mod_write : gM := (⟨"ExtentTreeModel", "write", "(III)I"⟩, prog_6_method_31_code, 8, (Option.some FieldType.int), 5, 129, [], [
  (0, .aload_n 0, 1, 0, 0, 0), (1, .aload_n 0, 2, 0, 0, 0), (2, .iload_n 1, 3, 0, 1, 0), (3, .iload_n 2, 4, 0, 2, 0), (4, .iload_n 3, 5, 0, 3, 0), (5, .ldc 118, 7, 65536, 0, 0), (7, .invokevirtual 132, 10, 0, 39, 4), (10, .ifCond .eq 7, 13, 0, 17, 0),
  (13, .iconst 1, 14, 1, 0, 0), (14, .goto 4, 17, 0, 18, 0), (17, .iconst 0, 18, 0, 0, 0), (18, .putfield 57, 21, 0, 4, 0), (21, .aload_n 0, 22, 0, 0, 0), (22, .getfield 57, 25, 0, 4, 0), (25, .ifCond .eq 5, 28, 0, 30, 0), (28, .iconst 0, 29, 0, 0, 0),
  (29, .ireturn, 30, 0, 0, 0), (30, .aload_n 0, 31, 0, 0, 0), (31, .iload_n 1, 32, 0, 1, 0), (32, .iload_n 2, 33, 0, 2, 0), (33, .invokevirtual 97, 36, 0, 35, 2), (36, .istore 4, 38, 0, 4, 0), (38, .iload 4, 40, 0, 4, 0), (40, .aload_n 0, 41, 0, 0, 0),
  (41, .getfield 7, 44, 0, 4, 2), (44, .iload_n 1, 45, 0, 1, 0), (45, .iconst 1, 46, 1, 0, 0), (46, .iadd, 47, 0, 0, 0), (47, .iaload, 48, 0, 0, 0), (48, .if_icmp .ge 49, 51, 0, 97, 0), (51, .aload_n 0, 52, 0, 0, 0), (52, .getfield 13, 55, 0, 4, 3),
  (55, .iload 4, 57, 0, 4, 0), (57, .iaload, 58, 0, 0, 0), (58, .iload_n 2, 59, 0, 2, 0), (59, .if_icmp .gt 38, 62, 0, 97, 0), (62, .aload_n 0, 63, 0, 0, 0), (63, .getfield 13, 66, 0, 4, 3), (66, .iload 4, 68, 0, 4, 0), (68, .iaload, 69, 0, 0, 0),
  (69, .aload_n 0, 70, 0, 0, 0), (70, .getfield 16, 73, 0, 4, 4), (73, .iload 4, 75, 0, 4, 0), (75, .iaload, 76, 0, 0, 0), (76, .iadd, 77, 0, 0, 0), (77, .iload_n 2, 78, 0, 2, 0), (78, .iload_n 3, 79, 0, 3, 0), (79, .iadd, 80, 0, 0, 0),
  (80, .if_icmp .lt 17, 83, 0, 97, 0), (83, .aload_n 0, 84, 0, 0, 0), (84, .getfield 22, 87, 0, 4, 6), (87, .iload 4, 89, 0, 4, 0), (89, .baload, 90, 0, 0, 0), (90, .ifCond .ne 7, 93, 0, 97, 0), (93, .iconst 1, 94, 1, 0, 0), (94, .goto 4, 97, 0, 98, 0),
  (97, .iconst 0, 98, 0, 0, 0), (98, .istore 5, 100, 0, 5, 0), (100, .aload_n 0, 101, 0, 0, 0), (101, .iload 5, 103, 0, 5, 0), (103, .ifCond .ne 7, 106, 0, 110, 0), (106, .iconst 2, 107, 2, 0, 0), (107, .goto 19, 110, 0, 126, 0), (110, .aload_n 0, 111, 0, 0, 0),
  (111, .iload_n 1, 112, 0, 1, 0), (112, .iconst 2, 113, 2, 0, 0), (113, .iconst 3, 114, 3, 0, 0), (114, .iconst 4, 115, 4, 0, 0), (115, .invokevirtual 120, 118, 0, 40, 4), (118, .ifCond .eq 7, 121, 0, 125, 0), (121, .iconst 3, 122, 3, 0, 0), (122, .goto 4, 125, 0, 126, 0),
  (125, .iconst 0, 126, 0, 0, 0), (126, .putfield 57, 129, 0, 4, 0), (129, .aload_n 0, 130, 0, 0, 0), (130, .getfield 57, 133, 0, 4, 0), (133, .ifCond .eq 5, 136, 0, 138, 0), (136, .iconst 0, 137, 0, 0, 0), (137, .ireturn, 138, 0, 0, 0), (138, .aload_n 0, 139, 0, 0, 0),
  (139, .getfield 19, 142, 0, 4, 5), (142, .iload 4, 144, 0, 4, 0), (144, .iaload, 145, 0, 0, 0), (145, .iload_n 2, 146, 0, 2, 0), (146, .iadd, 147, 0, 0, 0), (147, .aload_n 0, 148, 0, 0, 0), (148, .getfield 13, 151, 0, 4, 3), (151, .iload 4, 153, 0, 4, 0),
  (153, .iaload, 154, 0, 0, 0), (154, .isub, 155, 0, 0, 0), (155, .istore 6, 157, 0, 6, 0), (157, .aload_n 0, 158, 0, 0, 0), (158, .iload_n 1, 159, 0, 1, 0), (159, .iload_n 2, 160, 0, 2, 0), (160, .iload_n 3, 161, 0, 3, 0), (161, .invokevirtual 149, 164, 0, 38, 3),
  (164, .istore 7, 166, 0, 7, 0), (166, .aload_n 0, 167, 0, 0, 0), (167, .iload_n 1, 168, 0, 1, 0), (168, .iload_n 2, 169, 0, 2, 0), (169, .iload 7, 171, 0, 7, 0), (171, .iload 6, 173, 0, 6, 0), (173, .iconst 1, 174, 1, 0, 0), (174, .invokevirtual 124, 177, 0, 37, 5),
  (177, .aload_n 0, 178, 0, 0, 0), (178, .iload_n 1, 179, 0, 1, 0), (179, .invokevirtual 128, 182, 0, 30, 1), (182, .aload_n 0, 183, 0, 0, 0), (183, .iload_n 1, 184, 0, 1, 0), (184, .invokevirtual 143, 187, 0, 31, 1), (187, .ireturn, 188, 0, 0, 0)])
def m_Mod_noBlock : gM := (⟨"ExtentTreeModel", "noBlock", "(II)Z"⟩, prog_6_method_32_code, 3, (Option.some FieldType.boolean), 0, 0, [], [
  (0, .iload_n 1, 1, 0, 1, 0), (1, .ifCond .lt 18, 4, 0, 19, 0), (4, .iload_n 1, 5, 0, 1, 0), (5, .iconst 3, 6, 3, 0, 0), (6, .if_icmp .gt 13, 9, 0, 19, 0), (9, .iload_n 2, 10, 0, 2, 0), (10, .ifCond .lt 9, 13, 0, 19, 0), (13, .iload_n 2, 14, 0, 2, 0),
  (14, .ldc 117, 16, 65535, 0, 0), (16, .if_icmp .le 7, 19, 0, 23, 0), (19, .iconst 1, 20, 1, 0, 0), (20, .goto 4, 23, 0, 24, 0), (23, .iconst 0, 24, 0, 0, 0), (24, .ireturn, 25, 0, 0, 0)])
def m_Mod_look : gM := (⟨"ExtentTreeModel", "look", "(II)I"⟩, prog_6_method_33_code, 4, (Option.some FieldType.int), 1, 25, [], [
  (0, .aload_n 0, 1, 0, 0, 0), (1, .aload_n 0, 2, 0, 0, 0), (2, .iload_n 1, 3, 0, 1, 0), (3, .iload_n 2, 4, 0, 2, 0), (4, .invokevirtual 153, 7, 0, 49, 2), (7, .ifCond .eq 7, 10, 0, 14, 0), (10, .iconst 1, 11, 1, 0, 0), (11, .goto 4, 14, 0, 15, 0),
  (14, .iconst 0, 15, 0, 0, 0), (15, .putfield 57, 18, 0, 4, 0), (18, .aload_n 0, 19, 0, 0, 0), (19, .getfield 57, 22, 0, 4, 0), (22, .ifCond .eq 5, 25, 0, 27, 0), (25, .iconst 0, 26, 0, 0, 0), (26, .ireturn, 27, 0, 0, 0), (27, .aload_n 0, 28, 0, 0, 0),
  (28, .iload_n 1, 29, 0, 1, 0), (29, .iload_n 2, 30, 0, 2, 0), (30, .invokevirtual 97, 33, 0, 35, 2), (33, .istore_n 3, 34, 0, 3, 0), (34, .iload_n 3, 35, 0, 3, 0), (35, .aload_n 0, 36, 0, 0, 0), (36, .getfield 7, 39, 0, 4, 2), (39, .iload_n 1, 40, 0, 1, 0),
  (40, .iconst 1, 41, 1, 0, 0), (41, .iadd, 42, 0, 0, 0), (42, .iaload, 43, 0, 0, 0), (43, .if_icmp .ge 31, 46, 0, 74, 0), (46, .aload_n 0, 47, 0, 0, 0), (47, .getfield 13, 50, 0, 4, 3), (50, .iload_n 3, 51, 0, 3, 0), (51, .iaload, 52, 0, 0, 0),
  (52, .iload_n 2, 53, 0, 2, 0), (53, .if_icmp .gt 21, 56, 0, 74, 0), (56, .aload_n 0, 57, 0, 0, 0), (57, .getfield 19, 60, 0, 4, 5), (60, .iload_n 3, 61, 0, 3, 0), (61, .iaload, 62, 0, 0, 0), (62, .iload_n 2, 63, 0, 2, 0), (63, .iadd, 64, 0, 0, 0),
  (64, .aload_n 0, 65, 0, 0, 0), (65, .getfield 13, 68, 0, 4, 3), (68, .iload_n 3, 69, 0, 3, 0), (69, .iaload, 70, 0, 0, 0), (70, .isub, 71, 0, 0, 0), (71, .goto 4, 74, 0, 75, 0), (74, .iconst (-1), 75, (-1), 0, 0), (75, .ireturn, 76, 0, 0, 0)])
def m_Mod_written : gM := (⟨"ExtentTreeModel", "written", "(II)Z"⟩, prog_6_method_34_code, 4, (Option.some FieldType.boolean), 1, 25, [], [
  (0, .aload_n 0, 1, 0, 0, 0), (1, .aload_n 0, 2, 0, 0, 0), (2, .iload_n 1, 3, 0, 1, 0), (3, .iload_n 2, 4, 0, 2, 0), (4, .invokevirtual 153, 7, 0, 49, 2), (7, .ifCond .eq 7, 10, 0, 14, 0), (10, .iconst 1, 11, 1, 0, 0), (11, .goto 4, 14, 0, 15, 0),
  (14, .iconst 0, 15, 0, 0, 0), (15, .putfield 57, 18, 0, 4, 0), (18, .aload_n 0, 19, 0, 0, 0), (19, .getfield 57, 22, 0, 4, 0), (22, .ifCond .eq 5, 25, 0, 27, 0), (25, .iconst 0, 26, 0, 0, 0), (26, .ireturn, 27, 0, 0, 0), (27, .aload_n 0, 28, 0, 0, 0),
  (28, .iload_n 1, 29, 0, 1, 0), (29, .iload_n 2, 30, 0, 2, 0), (30, .invokevirtual 97, 33, 0, 35, 2), (33, .istore_n 3, 34, 0, 3, 0), (34, .iload_n 3, 35, 0, 3, 0), (35, .aload_n 0, 36, 0, 0, 0), (36, .getfield 7, 39, 0, 4, 2), (39, .iload_n 1, 40, 0, 1, 0),
  (40, .iconst 1, 41, 1, 0, 0), (41, .iadd, 42, 0, 0, 0), (42, .iaload, 43, 0, 0, 0), (43, .if_icmp .ge 26, 46, 0, 69, 0), (46, .aload_n 0, 47, 0, 0, 0), (47, .getfield 13, 50, 0, 4, 3), (50, .iload_n 3, 51, 0, 3, 0), (51, .iaload, 52, 0, 0, 0),
  (52, .iload_n 2, 53, 0, 2, 0), (53, .if_icmp .gt 16, 56, 0, 69, 0), (56, .aload_n 0, 57, 0, 0, 0), (57, .getfield 22, 60, 0, 4, 6), (60, .iload_n 3, 61, 0, 3, 0), (61, .baload, 62, 0, 0, 0), (62, .ifCond .eq 7, 65, 0, 69, 0), (65, .iconst 1, 66, 1, 0, 0),
  (66, .goto 4, 69, 0, 70, 0), (69, .iconst 0, 70, 0, 0, 0), (70, .ireturn, 71, 0, 0, 0)])
def m_Mod_reach : gM := (⟨"ExtentTreeModel", "reach", "(II)I"⟩, prog_6_method_35_code, 5, (Option.some FieldType.int), 1, 25, [], [
  (0, .aload_n 0, 1, 0, 0, 0), (1, .aload_n 0, 2, 0, 0, 0), (2, .iload_n 1, 3, 0, 1, 0), (3, .iload_n 2, 4, 0, 2, 0), (4, .invokevirtual 153, 7, 0, 49, 2), (7, .ifCond .eq 7, 10, 0, 14, 0), (10, .iconst 1, 11, 1, 0, 0), (11, .goto 4, 14, 0, 15, 0),
  (14, .iconst 0, 15, 0, 0, 0), (15, .putfield 57, 18, 0, 4, 0), (18, .aload_n 0, 19, 0, 0, 0), (19, .getfield 57, 22, 0, 4, 0), (22, .ifCond .eq 5, 25, 0, 27, 0), (25, .iconst 0, 26, 0, 0, 0), (26, .ireturn, 27, 0, 0, 0), (27, .aload_n 0, 28, 0, 0, 0),
  (28, .iload_n 1, 29, 0, 1, 0), (29, .iload_n 2, 30, 0, 2, 0), (30, .invokevirtual 97, 33, 0, 35, 2), (33, .istore_n 3, 34, 0, 3, 0), (34, .iload_n 3, 35, 0, 3, 0), (35, .aload_n 0, 36, 0, 0, 0), (36, .getfield 7, 39, 0, 4, 2), (39, .iload_n 1, 40, 0, 1, 0),
  (40, .iconst 1, 41, 1, 0, 0), (41, .iadd, 42, 0, 0, 0), (42, .iaload, 43, 0, 0, 0), (43, .if_icmp .ne 8, 46, 0, 51, 0), (46, .ldc 118, 48, 65536, 0, 0), (48, .goto 35, 51, 0, 83, 0), (51, .aload_n 0, 52, 0, 0, 0), (52, .getfield 13, 55, 0, 4, 3),
  (55, .iload_n 3, 56, 0, 3, 0), (56, .iaload, 57, 0, 0, 0), (57, .iload_n 2, 58, 0, 2, 0), (58, .if_icmp .gt 19, 61, 0, 77, 0), (61, .aload_n 0, 62, 0, 0, 0), (62, .getfield 13, 65, 0, 4, 3), (65, .iload_n 3, 66, 0, 3, 0), (66, .iaload, 67, 0, 0, 0),
  (67, .aload_n 0, 68, 0, 0, 0), (68, .getfield 16, 71, 0, 4, 4), (71, .iload_n 3, 72, 0, 3, 0), (72, .iaload, 73, 0, 0, 0), (73, .iadd, 74, 0, 0, 0), (74, .goto 9, 77, 0, 83, 0), (77, .aload_n 0, 78, 0, 0, 0), (78, .getfield 13, 81, 0, 4, 3),
  (81, .iload_n 3, 82, 0, 3, 0), (82, .iaload, 83, 0, 0, 0), (83, .istore 4, 85, 0, 4, 0), (85, .iload 4, 87, 0, 4, 0), (87, .iload_n 2, 88, 0, 2, 0), (88, .isub, 89, 0, 0, 0), (89, .ireturn, 90, 0, 0, 0)])
def m_Mod_count : gM := (⟨"ExtentTreeModel", "count", "(II)I"⟩, prog_6_method_36_code, 7, (Option.some FieldType.int), 1, 21, [], [
  (0, .aload_n 0, 1, 0, 0, 0), (1, .iload_n 1, 2, 0, 1, 0), (2, .ifCond .lt 17, 5, 0, 19, 0), (5, .iload_n 1, 6, 0, 1, 0), (6, .iconst 3, 7, 3, 0, 0), (7, .if_icmp .gt 12, 10, 0, 19, 0), (10, .iload_n 2, 11, 0, 2, 0), (11, .ifCond .lt 8, 14, 0, 19, 0),
  (14, .iload_n 2, 15, 0, 2, 0), (15, .iconst 5, 16, 5, 0, 0), (16, .if_icmp .le 7, 19, 0, 23, 0), (19, .iconst 1, 20, 1, 0, 0), (20, .goto 4, 23, 0, 24, 0), (23, .iconst 0, 24, 0, 0, 0), (24, .putfield 57, 27, 0, 4, 0), (27, .aload_n 0, 28, 0, 0, 0),
  (28, .getfield 57, 31, 0, 4, 0), (31, .ifCond .eq 5, 34, 0, 36, 0), (34, .iconst 0, 35, 0, 0, 0), (35, .ireturn, 36, 0, 0, 0), (36, .iconst 0, 37, 0, 0, 0), (37, .istore_n 3, 38, 0, 3, 0), (38, .iconst 0, 39, 0, 0, 0), (39, .istore 4, 41, 0, 4, 0),
  (41, .iconst 0, 42, 0, 0, 0), (42, .istore 5, 44, 0, 5, 0), (44, .aload_n 0, 45, 0, 0, 0), (45, .getfield 7, 48, 0, 4, 2), (48, .iload_n 1, 49, 0, 1, 0), (49, .iaload, 50, 0, 0, 0), (50, .istore 6, 52, 0, 6, 0), (52, .iload 6, 54, 0, 6, 0),
  (54, .aload_n 0, 55, 0, 0, 0), (55, .getfield 7, 58, 0, 4, 2), (58, .iload_n 1, 59, 0, 1, 0), (59, .iconst 1, 60, 1, 0, 0), (60, .iadd, 61, 0, 0, 0), (61, .iaload, 62, 0, 0, 0), (62, .if_icmp .ge 45, 65, 0, 107, 0), (65, .iload_n 3, 66, 0, 3, 0),
  (66, .aload_n 0, 67, 0, 0, 0), (67, .getfield 16, 70, 0, 4, 4), (70, .iload 6, 72, 0, 6, 0), (72, .iaload, 73, 0, 0, 0), (73, .iadd, 74, 0, 0, 0), (74, .istore_n 3, 75, 0, 3, 0), (75, .iload 4, 77, 0, 4, 0), (77, .aload_n 0, 78, 0, 0, 0),
  (78, .getfield 22, 81, 0, 4, 6), (81, .iload 6, 83, 0, 6, 0), (83, .baload, 84, 0, 0, 0), (84, .ifCond .eq 13, 87, 0, 97, 0), (87, .aload_n 0, 88, 0, 0, 0), (88, .getfield 16, 91, 0, 4, 4), (91, .iload 6, 93, 0, 6, 0), (93, .iaload, 94, 0, 0, 0),
  (94, .goto 4, 97, 0, 98, 0), (97, .iconst 0, 98, 0, 0, 0), (98, .iadd, 99, 0, 0, 0), (99, .istore 4, 101, 0, 4, 0), (101, .iinc 6 1, 104, 1, 6, 0), (104, .goto (-52), 107, 0, 52, 0), (107, .iconst 0, 108, 0, 0, 0), (108, .istore 6, 110, 0, 6, 0),
  (110, .iload 6, 112, 0, 6, 0), (112, .bipush 6, 114, 6, 0, 0), (114, .if_icmp .ge 26, 117, 0, 140, 0), (117, .iload 5, 119, 0, 5, 0), (119, .aload_n 0, 120, 0, 0, 0), (120, .getfield 38, 123, 0, 4, 11), (123, .bipush 6, 125, 6, 0, 0), (125, .iload_n 1, 126, 0, 1, 0),
  (126, .imul, 127, 0, 0, 0), (127, .iload 6, 129, 0, 6, 0), (129, .iadd, 130, 0, 0, 0), (130, .iaload, 131, 0, 0, 0), (131, .iadd, 132, 0, 0, 0), (132, .istore 5, 134, 0, 5, 0), (134, .iinc 6 1, 137, 1, 6, 0), (137, .goto (-27), 140, 0, 110, 0),
  (140, .iload_n 2, 141, 0, 2, 0), (141, .tableswitch 56 0 4 #[35, 41, 48, 51, 53], 176, 0, 0, 0), (176, .aload_n 0, 177, 0, 0, 0), (177, .iload_n 1, 178, 0, 1, 0), (178, .invokevirtual 143, 181, 0, 31, 1), (181, .ireturn, 182, 0, 0, 0), (182, .aload_n 0, 183, 0, 0, 0), (183, .getfield 26, 186, 0, 4, 7),
  (186, .iload_n 1, 187, 0, 1, 0), (187, .iaload, 188, 0, 0, 0), (188, .ireturn, 189, 0, 0, 0), (189, .iload 5, 191, 0, 5, 0), (191, .ireturn, 192, 0, 0, 0), (192, .iload_n 3, 193, 0, 3, 0), (193, .ireturn, 194, 0, 0, 0), (194, .iload 4, 196, 0, 4, 0),
  (196, .ireturn, 197, 0, 0, 0), (197, .aload_n 0, 198, 0, 0, 0), (198, .getfield 26, 201, 0, 4, 7), (201, .iload_n 1, 202, 0, 1, 0), (202, .iaload, 203, 0, 0, 0), (203, .ifCond .ne 7, 206, 0, 210, 0), (206, .iconst 1, 207, 1, 0, 0), (207, .goto 12, 210, 0, 219, 0),
  (210, .aload_n 0, 211, 0, 0, 0), (211, .getfield 38, 214, 0, 4, 11), (214, .bipush 6, 216, 6, 0, 0), (216, .iload_n 1, 217, 0, 1, 0), (217, .imul, 218, 0, 0, 0), (218, .iaload, 219, 0, 0, 0), (219, .ireturn, 220, 0, 0, 0)])
def m_Mod_byteIn : gM := (⟨"ExtentTreeModel", "byteIn", "(II)I"⟩, prog_6_method_37_code, 3, (Option.some FieldType.int), 0, 0, [], [
  (0, .iload_n 1, 1, 0, 1, 0), (1, .bipush 8, 3, 8, 0, 0), (3, .iload_n 2, 4, 0, 2, 0), (4, .imul, 5, 0, 0, 0), (5, .ishr, 6, 0, 0, 0), (6, .sipush 255, 9, 255, 0, 0), (9, .iand, 10, 0, 0, 0), (10, .ireturn, 11, 0, 0, 0)])
def m_Mod_headByte : gM := (⟨"ExtentTreeModel", "headByte", "(IIII)I"⟩, prog_6_method_38_code, 6, (Option.some FieldType.int), 1, 22, [], [
  (0, .iload_n 1, 1, 0, 1, 0), (1, .iconst 2, 2, 2, 0, 0), (2, .if_icmp .ge 8, 5, 0, 10, 0), (5, .ldc 156, 7, 62218, 0, 0), (7, .goto 24, 10, 0, 31, 0), (10, .iload_n 1, 11, 0, 1, 0), (11, .iconst 4, 12, 4, 0, 0), (12, .if_icmp .ge 7, 15, 0, 19, 0),
  (15, .iload_n 2, 16, 0, 2, 0), (16, .goto 15, 19, 0, 31, 0), (19, .iload_n 1, 20, 0, 1, 0), (20, .bipush 6, 22, 6, 0, 0), (22, .if_icmp .ge 7, 25, 0, 29, 0), (25, .iload_n 3, 26, 0, 3, 0), (26, .goto 5, 29, 0, 31, 0), (29, .iload 4, 31, 0, 4, 0),
  (31, .istore 5, 33, 0, 5, 0), (33, .aload_n 0, 34, 0, 0, 0), (34, .iload 5, 36, 0, 5, 0), (36, .iload_n 1, 37, 0, 1, 0), (37, .iconst 2, 38, 2, 0, 0), (38, .irem, 39, 0, 0, 0), (39, .invokevirtual 157, 42, 0, 54, 2), (42, .ireturn, 43, 0, 0, 0)])
def m_Mod_firstRun : gM := (⟨"ExtentTreeModel", "firstRun", "(III)I"⟩, prog_6_method_39_code, 8, (Option.some FieldType.int), 1, 24, [], [
  (0, .iload_n 3, 1, 0, 3, 0), (1, .istore 4, 3, 0, 4, 0), (3, .iload_n 2, 4, 0, 2, 0), (4, .istore 5, 6, 0, 5, 0), (6, .iload 5, 8, 0, 5, 0), (8, .ifCond .le 58, 11, 0, 66, 0), (11, .aload_n 0, 12, 0, 0, 0), (12, .iload_n 1, 13, 0, 1, 0),
  (13, .iload 5, 15, 0, 5, 0), (15, .iconst 1, 16, 1, 0, 0), (16, .isub, 17, 0, 0, 0), (17, .invokevirtual 64, 20, 0, 23, 2), (20, .istore 6, 22, 0, 6, 0), (22, .aload_n 0, 23, 0, 0, 0), (23, .iload_n 1, 24, 0, 1, 0), (24, .iload 5, 26, 0, 5, 0),
  (26, .invokevirtual 64, 29, 0, 23, 2), (29, .istore 7, 31, 0, 7, 0), (31, .iload 7, 33, 0, 7, 0), (33, .iload 4, 35, 0, 4, 0), (35, .if_icmp .ge 21, 38, 0, 56, 0), (38, .iload 6, 40, 0, 6, 0), (40, .aload_n 0, 41, 0, 0, 0), (41, .getfield 35, 44, 0, 4, 10),
  (44, .iload 7, 46, 0, 7, 0), (46, .iaload, 47, 0, 0, 0), (47, .iadd, 48, 0, 0, 0), (48, .istore 6, 50, 0, 6, 0), (50, .iinc 7 1, 53, 1, 7, 0), (53, .goto (-22), 56, 0, 31, 0), (56, .iload 6, 58, 0, 6, 0), (58, .istore 4, 60, 0, 4, 0),
  (60, .iinc 5 (-1), 63, (-1), 5, 0), (63, .goto (-57), 66, 0, 6, 0), (66, .aload_n 0, 67, 0, 0, 0), (67, .getfield 7, 70, 0, 4, 2), (70, .iload_n 1, 71, 0, 1, 0), (71, .iaload, 72, 0, 0, 0), (72, .istore 5, 74, 0, 5, 0), (74, .aload_n 0, 75, 0, 0, 0),
  (75, .iload_n 1, 76, 0, 1, 0), (76, .iconst 0, 77, 0, 0, 0), (77, .invokevirtual 64, 80, 0, 23, 2), (80, .istore 6, 82, 0, 6, 0), (82, .iload 6, 84, 0, 6, 0), (84, .iload 4, 86, 0, 4, 0), (86, .if_icmp .ge 21, 89, 0, 107, 0), (89, .iload 5, 91, 0, 5, 0),
  (91, .aload_n 0, 92, 0, 0, 0), (92, .getfield 35, 95, 0, 4, 10), (95, .iload 6, 97, 0, 6, 0), (97, .iaload, 98, 0, 0, 0), (98, .iadd, 99, 0, 0, 0), (99, .istore 5, 101, 0, 5, 0), (101, .iinc 6 1, 104, 1, 6, 0), (104, .goto (-22), 107, 0, 82, 0),
  (107, .iload 5, 109, 0, 5, 0), (109, .ireturn, 110, 0, 0, 0)])
def m_Mod_runByte : gM := (⟨"ExtentTreeModel", "runByte", "(II)I"⟩, prog_6_method_40_code, 3, (Option.some FieldType.int), 1, 22, [], [
  (0, .iload_n 2, 1, 0, 2, 0), (1, .iconst 4, 2, 4, 0, 0), (2, .if_icmp .ge 17, 5, 0, 19, 0), (5, .aload_n 0, 6, 0, 0, 0), (6, .aload_n 0, 7, 0, 0, 0), (7, .getfield 13, 10, 0, 4, 3), (10, .iload_n 1, 11, 0, 1, 0), (11, .iaload, 12, 0, 0, 0),
  (12, .iload_n 2, 13, 0, 2, 0), (13, .invokevirtual 157, 16, 0, 54, 2), (16, .goto 65, 19, 0, 81, 0), (19, .iload_n 2, 20, 0, 2, 0), (20, .bipush 6, 22, 6, 0, 0), (22, .if_icmp .ge 35, 25, 0, 57, 0), (25, .aload_n 0, 26, 0, 0, 0), (26, .aload_n 0, 27, 0, 0, 0),
  (27, .getfield 16, 30, 0, 4, 4), (30, .iload_n 1, 31, 0, 1, 0), (31, .iaload, 32, 0, 0, 0), (32, .aload_n 0, 33, 0, 0, 0), (33, .getfield 22, 36, 0, 4, 6), (36, .iload_n 1, 37, 0, 1, 0), (37, .baload, 38, 0, 0, 0), (38, .ifCond .eq 7, 41, 0, 45, 0),
  (41, .iconst 0, 42, 0, 0, 0), (42, .goto 5, 45, 0, 47, 0), (45, .ldc 96, 47, 32768, 0, 0), (47, .iadd, 48, 0, 0, 0), (48, .iload_n 2, 49, 0, 2, 0), (49, .iconst 4, 50, 4, 0, 0), (50, .isub, 51, 0, 0, 0), (51, .invokevirtual 157, 54, 0, 54, 2),
  (54, .goto 27, 57, 0, 81, 0), (57, .iload_n 2, 58, 0, 2, 0), (58, .bipush 8, 60, 8, 0, 0), (60, .if_icmp .ge 7, 63, 0, 67, 0), (63, .iconst 0, 64, 0, 0, 0), (64, .goto 17, 67, 0, 81, 0), (67, .aload_n 0, 68, 0, 0, 0), (68, .aload_n 0, 69, 0, 0, 0),
  (69, .getfield 19, 72, 0, 4, 5), (72, .iload_n 1, 73, 0, 1, 0), (73, .iaload, 74, 0, 0, 0), (74, .iload_n 2, 75, 0, 2, 0), (75, .bipush 8, 77, 8, 0, 0), (77, .isub, 78, 0, 0, 0), (78, .invokevirtual 157, 81, 0, 54, 2), (81, .ireturn, 82, 0, 0, 0)])
def m_Mod_nodeEntryByte : gM := (⟨"ExtentTreeModel", "nodeEntryByte", "(IIII)I"⟩, prog_6_method_41_code, 5, (Option.some FieldType.int), 2, 51, [], [
  (0, .iload 4, 2, 0, 4, 0), (2, .iconst 4, 3, 4, 0, 0), (3, .if_icmp .ge 24, 6, 0, 27, 0), (6, .aload_n 0, 7, 0, 0, 0), (7, .aload_n 0, 8, 0, 0, 0), (8, .getfield 13, 11, 0, 4, 3), (11, .aload_n 0, 12, 0, 0, 0), (12, .iload_n 1, 13, 0, 1, 0),
  (13, .iload_n 2, 14, 0, 2, 0), (14, .iload_n 3, 15, 0, 3, 0), (15, .invokevirtual 160, 18, 0, 56, 3), (18, .iaload, 19, 0, 0, 0), (19, .iload 4, 21, 0, 4, 0), (21, .invokevirtual 157, 24, 0, 54, 2), (24, .goto 28, 27, 0, 52, 0), (27, .iload 4, 29, 0, 4, 0),
  (29, .bipush 8, 31, 8, 0, 0), (31, .if_icmp .ge 20, 34, 0, 51, 0), (34, .aload_n 0, 35, 0, 0, 0), (35, .aload_n 0, 36, 0, 0, 0), (36, .getfield 32, 39, 0, 4, 9), (39, .iload_n 3, 40, 0, 3, 0), (40, .iaload, 41, 0, 0, 0), (41, .iload 4, 43, 0, 4, 0),
  (43, .iconst 4, 44, 4, 0, 0), (44, .isub, 45, 0, 0, 0), (45, .invokevirtual 157, 48, 0, 54, 2), (48, .goto 4, 51, 0, 52, 0), (51, .iconst 0, 52, 0, 0, 0), (52, .ireturn, 53, 0, 0, 0)])
def m_Mod_bytesOf : gM := (⟨"ExtentTreeModel", "bytesOf", "(IIIIII)I"⟩, prog_6_method_42_code, 8, (Option.some FieldType.int), 3, 75, [], [
  (0, .iload_n 2, 1, 0, 2, 0), (1, .bipush 8, 3, 8, 0, 0), (3, .if_icmp .ge 14, 6, 0, 17, 0), (6, .aload_n 0, 7, 0, 0, 0), (7, .iload_n 2, 8, 0, 2, 0), (8, .iload_n 3, 9, 0, 3, 0), (9, .iload 4, 11, 0, 4, 0), (11, .iload 5, 13, 0, 5, 0),
  (13, .invokevirtual 163, 16, 0, 55, 4), (16, .ireturn, 17, 0, 0, 0), (17, .iload_n 2, 18, 0, 2, 0), (18, .bipush 12, 20, 12, 0, 0), (20, .if_icmp .ge 7, 23, 0, 27, 0), (23, .iload_n 3, 24, 0, 3, 0), (24, .goto 10, 27, 0, 34, 0), (27, .iload_n 2, 28, 0, 2, 0),
  (28, .bipush 12, 30, 12, 0, 0), (30, .isub, 31, 0, 0, 0), (31, .bipush 12, 33, 12, 0, 0), (33, .idiv, 34, 0, 0, 0), (34, .istore 7, 36, 0, 7, 0), (36, .iload 7, 38, 0, 7, 0), (38, .iload_n 3, 39, 0, 3, 0), (39, .if_icmp .lt 5, 42, 0, 44, 0),
  (42, .iconst 0, 43, 0, 0, 0), (43, .ireturn, 44, 0, 0, 0), (44, .iload 5, 46, 0, 5, 0), (46, .ifCond .ne 22, 49, 0, 68, 0), (49, .aload_n 0, 50, 0, 0, 0), (50, .iload 6, 52, 0, 6, 0), (52, .iload 7, 54, 0, 7, 0), (54, .iadd, 55, 0, 0, 0),
  (55, .iload_n 2, 56, 0, 2, 0), (56, .bipush 12, 58, 12, 0, 0), (58, .isub, 59, 0, 0, 0), (59, .bipush 12, 61, 12, 0, 0), (61, .irem, 62, 0, 0, 0), (62, .invokevirtual 167, 65, 0, 57, 2), (65, .goto 24, 68, 0, 89, 0), (68, .aload_n 0, 69, 0, 0, 0),
  (69, .iload_n 1, 70, 0, 1, 0), (70, .iload 5, 72, 0, 5, 0), (72, .iconst 1, 73, 1, 0, 0), (73, .isub, 74, 0, 0, 0), (74, .iload 6, 76, 0, 6, 0), (76, .iload 7, 78, 0, 7, 0), (78, .iadd, 79, 0, 0, 0), (79, .iload_n 2, 80, 0, 2, 0),
  (80, .bipush 12, 82, 12, 0, 0), (82, .isub, 83, 0, 0, 0), (83, .bipush 12, 85, 12, 0, 0), (85, .irem, 86, 0, 0, 0), (86, .invokevirtual 170, 89, 0, 58, 4), (89, .ireturn, 90, 0, 0, 0)])
def m_Mod_rootByte : gM := (⟨"ExtentTreeModel", "rootByte", "(II)I"⟩, prog_6_method_43_code, 4, (Option.some FieldType.int), 4, 102, [], [
  (0, .aload_n 0, 1, 0, 0, 0), (1, .iload_n 1, 2, 0, 1, 0), (2, .ifCond .lt 8, 5, 0, 10, 0), (5, .iload_n 1, 6, 0, 1, 0), (6, .iconst 3, 7, 3, 0, 0), (7, .if_icmp .le 7, 10, 0, 14, 0), (10, .iconst 1, 11, 1, 0, 0), (11, .goto 18, 14, 0, 29, 0),
  (14, .iload_n 2, 15, 0, 2, 0), (15, .ifCond .lt 9, 18, 0, 24, 0), (18, .iload_n 2, 19, 0, 2, 0), (19, .bipush 59, 21, 59, 0, 0), (21, .if_icmp .le 7, 24, 0, 28, 0), (24, .iconst 2, 25, 2, 0, 0), (25, .goto 4, 28, 0, 29, 0), (28, .iconst 0, 29, 0, 0, 0),
  (29, .putfield 57, 32, 0, 4, 0), (32, .aload_n 0, 33, 0, 0, 0), (33, .getfield 57, 36, 0, 4, 0), (36, .ifCond .eq 5, 39, 0, 41, 0), (39, .iconst 0, 40, 0, 0, 0), (40, .ireturn, 41, 0, 0, 0), (41, .aload_n 0, 42, 0, 0, 0), (42, .getfield 26, 45, 0, 4, 7),
  (45, .iload_n 1, 46, 0, 1, 0), (46, .iaload, 47, 0, 0, 0), (47, .istore_n 3, 48, 0, 3, 0), (48, .aload_n 0, 49, 0, 0, 0), (49, .iload_n 1, 50, 0, 1, 0), (50, .iload_n 2, 51, 0, 2, 0), (51, .aload_n 0, 52, 0, 0, 0), (52, .getfield 29, 55, 0, 4, 8),
  (55, .iload_n 1, 56, 0, 1, 0), (56, .iaload, 57, 0, 0, 0), (57, .iconst 4, 58, 4, 0, 0), (58, .iload_n 3, 59, 0, 3, 0), (59, .iload_n 3, 60, 0, 3, 0), (60, .ifCond .ne 12, 63, 0, 72, 0), (63, .aload_n 0, 64, 0, 0, 0), (64, .getfield 7, 67, 0, 4, 2),
  (67, .iload_n 1, 68, 0, 1, 0), (68, .iaload, 69, 0, 0, 0), (69, .goto 11, 72, 0, 80, 0), (72, .aload_n 0, 73, 0, 0, 0), (73, .iload_n 1, 74, 0, 1, 0), (74, .iload_n 3, 75, 0, 3, 0), (75, .iconst 1, 76, 1, 0, 0), (76, .isub, 77, 0, 0, 0),
  (77, .invokevirtual 64, 80, 0, 23, 2), (80, .invokevirtual 173, 83, 0, 59, 6), (83, .ireturn, 84, 0, 0, 0)])
def m_Mod_nodeByte : gM := (⟨"ExtentTreeModel", "nodeByte", "(II)I"⟩, prog_6_method_44_code, 8, (Option.some FieldType.int), 4, 102, [], [
  (0, .aload_n 0, 1, 0, 0, 0), (1, .iload_n 1, 2, 0, 1, 0), (2, .iconst 1, 3, 1, 0, 0), (3, .if_icmp .lt 21, 6, 0, 24, 0), (6, .iload_n 1, 7, 0, 1, 0), (7, .sipush 256, 10, 256, 0, 0), (10, .if_icmp .ge 14, 13, 0, 24, 0), (13, .iload_n 2, 14, 0, 2, 0),
  (14, .ifCond .lt 10, 17, 0, 24, 0), (17, .iload_n 2, 18, 0, 2, 0), (18, .sipush 1023, 21, 1023, 0, 0), (21, .if_icmp .le 7, 24, 0, 28, 0), (24, .iconst 1, 25, 1, 0, 0), (25, .goto 17, 28, 0, 42, 0), (28, .aload_n 0, 29, 0, 0, 0), (29, .getfield 41, 32, 0, 4, 12),
  (32, .iload_n 1, 33, 0, 1, 0), (33, .baload, 34, 0, 0, 0), (34, .ifCond .ne 7, 37, 0, 41, 0), (37, .iconst 1, 38, 1, 0, 0), (38, .goto 4, 41, 0, 42, 0), (41, .iconst 0, 42, 0, 0, 0), (42, .putfield 57, 45, 0, 4, 0), (45, .aload_n 0, 46, 0, 0, 0),
  (46, .getfield 57, 49, 0, 4, 0), (49, .ifCond .eq 5, 52, 0, 54, 0), (52, .iconst 0, 53, 0, 0, 0), (53, .ireturn, 54, 0, 0, 0), (54, .iconst 0, 55, 0, 0, 0), (55, .istore_n 3, 56, 0, 3, 0), (56, .iload_n 3, 57, 0, 3, 0), (57, .iconst 4, 58, 4, 0, 0),
  (58, .if_icmp .ge 138, 61, 0, 196, 0), (61, .iconst 0, 62, 0, 0, 0), (62, .istore 4, 64, 0, 4, 0), (64, .iload 4, 66, 0, 4, 0), (66, .aload_n 0, 67, 0, 0, 0), (67, .getfield 26, 70, 0, 4, 7), (70, .iload_n 3, 71, 0, 3, 0), (71, .iaload, 72, 0, 0, 0),
  (72, .if_icmp .ge 118, 75, 0, 190, 0), (75, .aload_n 0, 76, 0, 0, 0), (76, .iload_n 3, 77, 0, 3, 0), (77, .iload 4, 79, 0, 4, 0), (79, .invokevirtual 64, 82, 0, 23, 2), (82, .istore 5, 84, 0, 5, 0), (84, .iload 4, 86, 0, 4, 0), (86, .ifCond .ne 12, 89, 0, 98, 0),
  (89, .aload_n 0, 90, 0, 0, 0), (90, .getfield 7, 93, 0, 4, 2), (93, .iload_n 3, 94, 0, 3, 0), (94, .iaload, 95, 0, 0, 0), (95, .goto 12, 98, 0, 107, 0), (98, .aload_n 0, 99, 0, 0, 0), (99, .iload_n 3, 100, 0, 3, 0), (100, .iload 4, 102, 0, 4, 0),
  (102, .iconst 1, 103, 1, 0, 0), (103, .isub, 104, 0, 0, 0), (104, .invokevirtual 64, 107, 0, 23, 2), (107, .istore 6, 109, 0, 6, 0), (109, .iload 5, 111, 0, 5, 0), (111, .istore 7, 113, 0, 7, 0), (113, .iload 7, 115, 0, 7, 0), (115, .iload 5, 117, 0, 5, 0),
  (117, .aload_n 0, 118, 0, 0, 0), (118, .getfield 38, 121, 0, 4, 11), (121, .bipush 6, 123, 6, 0, 0), (123, .iload_n 3, 124, 0, 3, 0), (124, .imul, 125, 0, 0, 0), (125, .iload 4, 127, 0, 4, 0), (127, .iadd, 128, 0, 0, 0), (128, .iaload, 129, 0, 0, 0),
  (129, .iadd, 130, 0, 0, 0), (130, .if_icmp .ge 54, 133, 0, 184, 0), (133, .aload_n 0, 134, 0, 0, 0), (134, .getfield 32, 137, 0, 4, 9), (137, .iload 7, 139, 0, 7, 0), (139, .iaload, 140, 0, 0, 0), (140, .iload_n 1, 141, 0, 1, 0), (141, .if_icmp .ne 25, 144, 0, 166, 0),
  (144, .aload_n 0, 145, 0, 0, 0), (145, .iload_n 3, 146, 0, 3, 0), (146, .iload_n 2, 147, 0, 2, 0), (147, .aload_n 0, 148, 0, 0, 0), (148, .getfield 35, 151, 0, 4, 10), (151, .iload 7, 153, 0, 7, 0), (153, .iaload, 154, 0, 0, 0), (154, .aload_n 0, 155, 0, 0, 0),
  (155, .getfield 53, 158, 0, 4, 1), (158, .iload 4, 160, 0, 4, 0), (160, .iload 6, 162, 0, 6, 0), (162, .invokevirtual 173, 165, 0, 59, 6), (165, .ireturn, 166, 0, 0, 0), (166, .iload 6, 168, 0, 6, 0), (168, .aload_n 0, 169, 0, 0, 0), (169, .getfield 35, 172, 0, 4, 10),
  (172, .iload 7, 174, 0, 7, 0), (174, .iaload, 175, 0, 0, 0), (175, .iadd, 176, 0, 0, 0), (176, .istore 6, 178, 0, 6, 0), (178, .iinc 7 1, 181, 1, 7, 0), (181, .goto (-68), 184, 0, 113, 0), (184, .iinc 4 1, 187, 1, 4, 0), (187, .goto (-123), 190, 0, 64, 0),
  (190, .iinc 3 1, 193, 1, 3, 0), (193, .goto (-137), 196, 0, 56, 0), (196, .iconst 0, 197, 0, 0, 0), (197, .ireturn, 198, 0, 0, 0)])
def m_Node_init : gM := (⟨"ExtentTree$Node", "<init>", "(II)V"⟩, prog_2_method_1_code, 3, (none : Option FieldType), 1, 21, [], [
  (0, .aload_n 0, 1, 0, 0, 0), (1, .invokespecial 3, 4, 1, 0, 0), (4, .aload_n 0, 5, 0, 0, 0), (5, .iload_n 1, 6, 0, 1, 0), (6, .putfield 9, 9, 0, 0, 0), (9, .aload_n 0, 10, 0, 0, 0), (10, .iconst 4, 11, 4, 0, 0), (11, .bipush 84, 13, 84, 0, 0),
  (13, .iload_n 2, 14, 0, 2, 0), (14, .invokestatic 15, 17, 2, 0, 0), (17, .invokestatic 21, 20, 1, 0, 0), (20, .putfield 24, 23, 0, 0, 1), (23, .aload_n 0, 24, 0, 0, 0), (24, .aload_n 0, 25, 0, 0, 0), (25, .getfield 24, 28, 0, 0, 1), (28, .iconst 3, 29, 3, 0, 0),
  (29, .imul, 30, 0, 0, 0), (30, .newarray .int, 32, 0, 0, 0), (32, .putfield 27, 35, 0, 0, 5), (35, .return_, 36, 0, 0, 0)])
def m_Node_isFull : gM := (⟨"ExtentTree$Node", "isFull", "()Z"⟩, prog_2_method_2_code, 1, (Option.some FieldType.boolean), 0, 0, [], [
  (0, .aload_n 0, 1, 0, 0, 0), (1, .getfield 31, 4, 0, 0, 4), (4, .aload_n 0, 5, 0, 0, 0), (5, .getfield 24, 8, 0, 0, 1), (8, .if_icmp .lt 7, 11, 0, 15, 0), (11, .iconst 1, 12, 1, 0, 0), (12, .goto 4, 15, 0, 16, 0), (15, .iconst 0, 16, 0, 0, 0),
  (16, .ireturn, 17, 0, 0, 0)])
def m_Node_hasEntry : gM := (⟨"ExtentTree$Node", "hasEntry", "(I)Z"⟩, prog_2_method_3_code, 2, (Option.some FieldType.boolean), 0, 0, [], [
  (0, .iload_n 1, 1, 0, 1, 0), (1, .ifCond .lt 23, 4, 0, 24, 0), (4, .iload_n 1, 5, 0, 1, 0), (5, .aload_n 0, 6, 0, 0, 0), (6, .getfield 31, 9, 0, 0, 4), (9, .if_icmp .ge 15, 12, 0, 24, 0), (12, .iload_n 1, 13, 0, 1, 0), (13, .aload_n 0, 14, 0, 0, 0),
  (14, .getfield 24, 17, 0, 0, 1), (17, .if_icmp .ge 7, 20, 0, 24, 0), (20, .iconst 1, 21, 1, 0, 0), (21, .goto 4, 24, 0, 25, 0), (24, .iconst 0, 25, 0, 0, 0), (25, .ireturn, 26, 0, 0, 0)])
def m_Node_word : gM := (⟨"ExtentTree$Node", "word", "(II)I"⟩, prog_2_method_4_code, 3, (Option.some FieldType.int), 1, 21, [], [
  (0, .aload_n 0, 1, 0, 0, 0), (1, .iload_n 1, 2, 0, 1, 0), (2, .invokevirtual 34, 5, 0, 64, 1), (5, .ifCond .eq 16, 8, 0, 21, 0), (8, .aload_n 0, 9, 0, 0, 0), (9, .getfield 27, 12, 0, 0, 5), (12, .iload_n 1, 13, 0, 1, 0), (13, .iconst 3, 14, 3, 0, 0),
  (14, .imul, 15, 0, 0, 0), (15, .iload_n 2, 16, 0, 2, 0), (16, .iadd, 17, 0, 0, 0), (17, .iaload, 18, 0, 0, 0), (18, .goto 4, 21, 0, 22, 0), (21, .iconst 0, 22, 0, 0, 0), (22, .ireturn, 23, 0, 0, 0)])
def m_Node_firstAt : gM := (⟨"ExtentTree$Node", "firstAt", "(I)I"⟩, prog_2_method_5_code, 2, (Option.some FieldType.int), 2, 43, [], [
  (0, .aload_n 0, 1, 0, 0, 0), (1, .iload_n 1, 2, 0, 1, 0), (2, .iconst 0, 3, 0, 0, 0), (3, .invokevirtual 38, 6, 0, 65, 2), (6, .ireturn, 7, 0, 0, 0)])
def m_Node_belowAt : gM := (⟨"ExtentTree$Node", "belowAt", "(I)I"⟩, prog_2_method_6_code, 2, (Option.some FieldType.int), 2, 43, [], [
  (0, .aload_n 0, 1, 0, 0, 0), (1, .iload_n 1, 2, 0, 1, 0), (2, .iconst 1, 3, 1, 0, 0), (3, .invokevirtual 38, 6, 0, 65, 2), (6, .ireturn, 7, 0, 0, 0)])
def m_Node_lengthAt : gM := (⟨"ExtentTree$Node", "lengthAt", "(I)I"⟩, prog_2_method_7_code, 3, (Option.some FieldType.int), 2, 43, [], [
  (0, .aload_n 0, 1, 0, 0, 0), (1, .iload_n 1, 2, 0, 1, 0), (2, .iconst 1, 3, 1, 0, 0), (3, .invokevirtual 38, 6, 0, 65, 2), (6, .istore_n 2, 7, 0, 2, 0), (7, .iload_n 2, 8, 0, 2, 0), (8, .ldc 41, 10, 32768, 0, 0), (10, .if_icmp .le 10, 13, 0, 20, 0),
  (13, .iload_n 2, 14, 0, 2, 0), (14, .ldc 41, 16, 32768, 0, 0), (16, .isub, 17, 0, 0, 0), (17, .goto 4, 20, 0, 21, 0), (20, .iload_n 2, 21, 0, 2, 0), (21, .ireturn, 22, 0, 0, 0)])
def m_Node_isWrittenAt : gM := (⟨"ExtentTree$Node", "isWrittenAt", "(I)Z"⟩, prog_2_method_8_code, 2, (Option.some FieldType.boolean), 2, 43, [], [
  (0, .aload_n 0, 1, 0, 0, 0), (1, .iload_n 1, 2, 0, 1, 0), (2, .invokevirtual 34, 5, 0, 64, 1), (5, .ifCond .eq 18, 8, 0, 23, 0), (8, .aload_n 0, 9, 0, 0, 0), (9, .iload_n 1, 10, 0, 1, 0), (10, .iconst 1, 11, 1, 0, 0), (11, .invokevirtual 38, 14, 0, 65, 2),
  (14, .ldc 41, 16, 32768, 0, 0), (16, .if_icmp .gt 7, 19, 0, 23, 0), (19, .iconst 1, 20, 1, 0, 0), (20, .goto 4, 23, 0, 24, 0), (23, .iconst 0, 24, 0, 0, 0), (24, .ireturn, 25, 0, 0, 0)])
def m_Node_volumeAt : gM := (⟨"ExtentTree$Node", "volumeAt", "(I)I"⟩, prog_2_method_9_code, 2, (Option.some FieldType.int), 2, 43, [], [
  (0, .aload_n 0, 1, 0, 0, 0), (1, .iload_n 1, 2, 0, 1, 0), (2, .iconst 2, 3, 2, 0, 0), (3, .invokevirtual 38, 6, 0, 65, 2), (6, .ireturn, 7, 0, 0, 0)])
def m_Node_setFirst : gM := (⟨"ExtentTree$Node", "setFirst", "(II)V"⟩, prog_2_method_10_code, 3, (none : Option FieldType), 1, 21, [], [
  (0, .aload_n 0, 1, 0, 0, 0), (1, .iload_n 1, 2, 0, 1, 0), (2, .invokevirtual 34, 5, 0, 64, 1), (5, .ifCond .eq 12, 8, 0, 17, 0), (8, .aload_n 0, 9, 0, 0, 0), (9, .getfield 27, 12, 0, 0, 5), (12, .iload_n 1, 13, 0, 1, 0), (13, .iconst 3, 14, 3, 0, 0),
  (14, .imul, 15, 0, 0, 0), (15, .iload_n 2, 16, 0, 2, 0), (16, .iastore, 17, 0, 0, 0), (17, .return_, 18, 0, 0, 0)])
def m_Node_setEntry : gM := (⟨"ExtentTree$Node", "setEntry", "(IIII)V"⟩, prog_2_method_11_code, 6, (none : Option FieldType), 1, 21, [], [
  (0, .aload_n 0, 1, 0, 0, 0), (1, .iload_n 1, 2, 0, 1, 0), (2, .invokevirtual 34, 5, 0, 64, 1), (5, .ifCond .eq 37, 8, 0, 42, 0), (8, .iload_n 1, 9, 0, 1, 0), (9, .iconst 3, 10, 3, 0, 0), (10, .imul, 11, 0, 0, 0), (11, .istore 5, 13, 0, 5, 0),
  (13, .aload_n 0, 14, 0, 0, 0), (14, .getfield 27, 17, 0, 0, 5), (17, .iload 5, 19, 0, 5, 0), (19, .iload_n 2, 20, 0, 2, 0), (20, .iastore, 21, 0, 0, 0), (21, .aload_n 0, 22, 0, 0, 0), (22, .getfield 27, 25, 0, 0, 5), (25, .iload 5, 27, 0, 5, 0),
  (27, .iconst 1, 28, 1, 0, 0), (28, .iadd, 29, 0, 0, 0), (29, .iload_n 3, 30, 0, 3, 0), (30, .iastore, 31, 0, 0, 0), (31, .aload_n 0, 32, 0, 0, 0), (32, .getfield 27, 35, 0, 0, 5), (35, .iload 5, 37, 0, 5, 0), (37, .iconst 2, 38, 2, 0, 0),
  (38, .iadd, 39, 0, 0, 0), (39, .iload 4, 41, 0, 4, 0), (41, .iastore, 42, 0, 0, 0), (42, .return_, 43, 0, 0, 0)])
def m_Node_lastUpTo : gM := (⟨"ExtentTree$Node", "lastUpTo", "(I)I"⟩, prog_2_method_12_code, 5, (Option.some FieldType.int), 3, 64, [], [
  (0, .iconst 0, 1, 0, 0, 0), (1, .istore_n 2, 2, 0, 2, 0), (2, .aload_n 0, 3, 0, 0, 0), (3, .getfield 31, 6, 0, 0, 4), (6, .istore_n 3, 7, 0, 3, 0), (7, .iload_n 2, 8, 0, 2, 0), (8, .iload_n 3, 9, 0, 3, 0), (9, .if_icmp .ge 34, 12, 0, 43, 0),
  (12, .iload_n 2, 13, 0, 2, 0), (13, .iload_n 3, 14, 0, 3, 0), (14, .iadd, 15, 0, 0, 0), (15, .iconst 2, 16, 2, 0, 0), (16, .idiv, 17, 0, 0, 0), (17, .istore 4, 19, 0, 4, 0), (19, .aload_n 0, 20, 0, 0, 0), (20, .iload 4, 22, 0, 4, 0),
  (22, .invokevirtual 42, 25, 0, 66, 1), (25, .iload_n 1, 26, 0, 1, 0), (26, .if_icmp .gt 11, 29, 0, 37, 0), (29, .iload 4, 31, 0, 4, 0), (31, .iconst 1, 32, 1, 0, 0), (32, .iadd, 33, 0, 0, 0), (33, .istore_n 2, 34, 0, 2, 0), (34, .goto 6, 37, 0, 40, 0),
  (37, .iload 4, 39, 0, 4, 0), (39, .istore_n 3, 40, 0, 3, 0), (40, .goto (-33), 43, 0, 7, 0), (43, .iload_n 2, 44, 0, 2, 0), (44, .iconst 1, 45, 1, 0, 0), (45, .isub, 46, 0, 0, 0), (46, .ireturn, 47, 0, 0, 0)])
def m_Node_insert : gM := (⟨"ExtentTree$Node", "insert", "(IIII)V"⟩, prog_2_method_13_code, 7, (none : Option FieldType), 2, 46, [], [
  (0, .aload_n 0, 1, 0, 0, 0), (1, .invokevirtual 46, 4, 0, 63, 0), (4, .ifCond .ne 15, 7, 0, 19, 0), (7, .iload_n 1, 8, 0, 1, 0), (8, .ifCond .lt 11, 11, 0, 19, 0), (11, .iload_n 1, 12, 0, 1, 0), (12, .aload_n 0, 13, 0, 0, 0), (13, .getfield 31, 16, 0, 0, 4),
  (16, .if_icmp .le 4, 19, 0, 20, 0), (19, .return_, 20, 0, 0, 0), (20, .iload_n 1, 21, 0, 1, 0), (21, .iconst 3, 22, 3, 0, 0), (22, .imul, 23, 0, 0, 0), (23, .istore 5, 25, 0, 5, 0), (25, .aload_n 0, 26, 0, 0, 0), (26, .getfield 31, 29, 0, 0, 4),
  (29, .iload_n 1, 30, 0, 1, 0), (30, .isub, 31, 0, 0, 0), (31, .iconst 3, 32, 3, 0, 0), (32, .imul, 33, 0, 0, 0), (33, .istore 6, 35, 0, 6, 0), (35, .aload_n 0, 36, 0, 0, 0), (36, .getfield 27, 39, 0, 0, 5), (39, .iload 5, 41, 0, 5, 0),
  (41, .aload_n 0, 42, 0, 0, 0), (42, .getfield 27, 45, 0, 0, 5), (45, .iload 5, 47, 0, 5, 0), (47, .iconst 3, 48, 3, 0, 0), (48, .iadd, 49, 0, 0, 0), (49, .iload 6, 51, 0, 6, 0), (51, .invokestatic 50, 54, 3, 0, 0), (54, .aload_n 0, 55, 0, 0, 0),
  (55, .dup, 56, 0, 0, 0), (56, .getfield 31, 59, 0, 0, 4), (59, .iconst 1, 60, 1, 0, 0), (60, .iadd, 61, 0, 0, 0), (61, .putfield 31, 64, 0, 0, 4), (64, .aload_n 0, 65, 0, 0, 0), (65, .iload_n 1, 66, 0, 1, 0), (66, .iload_n 2, 67, 0, 2, 0),
  (67, .iload_n 3, 68, 0, 3, 0), (68, .iload 4, 70, 0, 4, 0), (70, .invokevirtual 56, 73, 0, 72, 4), (73, .return_, 74, 0, 0, 0)])
def m_Node_remove : gM := (⟨"ExtentTree$Node", "remove", "(I)V"⟩, prog_2_method_14_code, 4, (none : Option FieldType), 1, 26, [], [
  (0, .aload_n 0, 1, 0, 0, 0), (1, .iload_n 1, 2, 0, 1, 0), (2, .invokevirtual 34, 5, 0, 64, 1), (5, .ifCond .ne 4, 8, 0, 9, 0), (8, .return_, 9, 0, 0, 0), (9, .iload_n 1, 10, 0, 1, 0), (10, .iconst 3, 11, 3, 0, 0), (11, .imul, 12, 0, 0, 0),
  (12, .istore_n 2, 13, 0, 2, 0), (13, .aload_n 0, 14, 0, 0, 0), (14, .getfield 31, 17, 0, 0, 4), (17, .iload_n 1, 18, 0, 1, 0), (18, .isub, 19, 0, 0, 0), (19, .iconst 1, 20, 1, 0, 0), (20, .isub, 21, 0, 0, 0), (21, .iconst 3, 22, 3, 0, 0),
  (22, .imul, 23, 0, 0, 0), (23, .istore_n 3, 24, 0, 3, 0), (24, .aload_n 0, 25, 0, 0, 0), (25, .getfield 27, 28, 0, 0, 5), (28, .iload_n 2, 29, 0, 2, 0), (29, .iconst 3, 30, 3, 0, 0), (30, .iadd, 31, 0, 0, 0), (31, .aload_n 0, 32, 0, 0, 0),
  (32, .getfield 27, 35, 0, 0, 5), (35, .iload_n 2, 36, 0, 2, 0), (36, .iload_n 3, 37, 0, 3, 0), (37, .invokestatic 50, 40, 3, 0, 0), (40, .aload_n 0, 41, 0, 0, 0), (41, .dup, 42, 0, 0, 0), (42, .getfield 31, 45, 0, 0, 4), (45, .iconst 1, 46, 1, 0, 0),
  (46, .isub, 47, 0, 0, 0), (47, .putfield 31, 50, 0, 0, 4), (50, .return_, 51, 0, 0, 0)])
def m_Node_moveTail : gM := (⟨"ExtentTree$Node", "moveTail", "(ILExtentTree$Node;)V"⟩, prog_2_method_15_code, 4, (none : Option FieldType), 1, 26, [], [
  (0, .aload_n 0, 1, 0, 0, 0), (1, .getfield 31, 4, 0, 0, 4), (4, .iload_n 1, 5, 0, 1, 0), (5, .isub, 6, 0, 0, 0), (6, .istore_n 3, 7, 0, 3, 0), (7, .iload_n 1, 8, 0, 1, 0), (8, .ifCond .lt 15, 11, 0, 23, 0), (11, .iload_n 3, 12, 0, 3, 0),
  (12, .ifCond .lt 11, 15, 0, 23, 0), (15, .iload_n 3, 16, 0, 3, 0), (16, .aload_n 2, 17, 0, 2, 0), (17, .getfield 24, 20, 0, 0, 1), (20, .if_icmp .le 4, 23, 0, 24, 0), (23, .return_, 24, 0, 0, 0), (24, .aload_n 0, 25, 0, 0, 0), (25, .getfield 27, 28, 0, 0, 5),
  (28, .iload_n 1, 29, 0, 1, 0), (29, .iconst 3, 30, 3, 0, 0), (30, .imul, 31, 0, 0, 0), (31, .aload_n 2, 32, 0, 2, 0), (32, .getfield 27, 35, 0, 0, 5), (35, .iconst 0, 36, 0, 0, 0), (36, .iload_n 3, 37, 0, 3, 0), (37, .iconst 3, 38, 3, 0, 0),
  (38, .imul, 39, 0, 0, 0), (39, .invokestatic 50, 42, 3, 0, 0), (42, .aload_n 2, 43, 0, 2, 0), (43, .iload_n 3, 44, 0, 3, 0), (44, .putfield 31, 47, 0, 0, 4), (47, .aload_n 2, 48, 0, 2, 0), (48, .aload_n 0, 49, 0, 0, 0), (49, .getfield 60, 52, 0, 0, 3),
  (52, .putfield 60, 55, 0, 0, 3), (55, .aload_n 0, 56, 0, 0, 0), (56, .iload_n 1, 57, 0, 1, 0), (57, .putfield 31, 60, 0, 0, 4), (60, .return_, 61, 0, 0, 0)])
def m_Node_byteAt : gM := (⟨"ExtentTree$Node", "byteAt", "(I)I"⟩, prog_2_method_16_code, 3, (Option.some FieldType.int), 1, 22, [], [
  (0, .iload_n 1, 1, 0, 1, 0), (1, .iconst 3, 2, 3, 0, 0), (2, .iand, 3, 0, 0, 0), (3, .bipush 8, 5, 8, 0, 0), (5, .imul, 6, 0, 0, 0), (6, .istore_n 2, 7, 0, 2, 0), (7, .aload_n 0, 8, 0, 0, 0), (8, .iload_n 1, 9, 0, 1, 0),
  (9, .iconst 4, 10, 4, 0, 0), (10, .idiv, 11, 0, 0, 0), (11, .invokevirtual 63, 14, 0, 78, 1), (14, .iload_n 2, 15, 0, 2, 0), (15, .iushr, 16, 0, 0, 0), (16, .sipush 255, 19, 255, 0, 0), (19, .iand, 20, 0, 0, 0), (20, .ireturn, 21, 0, 0, 0)])
def m_Node_wordOfBytes : gM := (⟨"ExtentTree$Node", "wordOfBytes", "(I)I"⟩, prog_2_method_17_code, 3, (Option.some FieldType.int), 0, 0, [], [
  (0, .iload_n 1, 1, 0, 1, 0), (1, .ifCond .ne 14, 4, 0, 15, 0), (4, .ldc 66, 6, 62218, 0, 0), (6, .aload_n 0, 7, 0, 0, 0), (7, .getfield 31, 10, 0, 0, 4), (10, .bipush 16, 12, 16, 0, 0), (12, .ishl, 13, 0, 0, 0), (13, .ior, 14, 0, 0, 0),
  (14, .ireturn, 15, 0, 0, 0), (15, .iload_n 1, 16, 0, 1, 0), (16, .iconst 1, 17, 1, 0, 0), (17, .if_icmp .ne 16, 20, 0, 33, 0), (20, .aload_n 0, 21, 0, 0, 0), (21, .getfield 24, 24, 0, 0, 1), (24, .aload_n 0, 25, 0, 0, 0), (25, .getfield 60, 28, 0, 0, 3),
  (28, .bipush 16, 30, 16, 0, 0), (30, .ishl, 31, 0, 0, 0), (31, .ior, 32, 0, 0, 0), (32, .ireturn, 33, 0, 0, 0), (33, .iload_n 1, 34, 0, 1, 0), (34, .iconst 3, 35, 3, 0, 0), (35, .isub, 36, 0, 0, 0), (36, .istore_n 2, 37, 0, 2, 0),
  (37, .iload_n 2, 38, 0, 2, 0), (38, .ifCond .lt 31, 41, 0, 69, 0), (41, .iload_n 2, 42, 0, 2, 0), (42, .aload_n 0, 43, 0, 0, 0), (43, .getfield 31, 46, 0, 0, 4), (46, .iconst 3, 47, 3, 0, 0), (47, .imul, 48, 0, 0, 0), (48, .if_icmp .ge 21, 51, 0, 69, 0),
  (51, .iload_n 2, 52, 0, 2, 0), (52, .aload_n 0, 53, 0, 0, 0), (53, .getfield 27, 56, 0, 0, 5), (56, .arraylength, 57, 0, 0, 0), (57, .if_icmp .ge 12, 60, 0, 69, 0), (60, .aload_n 0, 61, 0, 0, 0), (61, .getfield 27, 64, 0, 0, 5), (64, .iload_n 2, 65, 0, 2, 0),
  (65, .iaload, 66, 0, 0, 0), (66, .goto 4, 69, 0, 70, 0), (69, .iconst 0, 70, 0, 0, 0), (70, .ireturn, 71, 0, 0, 0)])
def m_Pool_init : gM := (⟨"ExtentTree$Pool", "<init>", "(I)V"⟩, prog_3_method_1_code, 3, (none : Option FieldType), 2, 43, [], [
  (0, .aload_n 0, 1, 0, 0, 0), (1, .invokespecial 3, 4, 1, 0, 0), (4, .aload_n 0, 5, 0, 0, 0), (5, .sipush 255, 8, 255, 0, 0), (8, .putfield 9, 11, 0, 1, 0), (11, .aload_n 0, 12, 0, 0, 0), (12, .sipush 256, 15, 256, 0, 0), (15, .anewarray 15, 18, 0, 2, 0),
  (18, .putfield 17, 21, 0, 1, 1), (21, .iconst 0, 22, 0, 0, 0), (22, .istore_n 2, 23, 0, 2, 0), (23, .iload_n 2, 24, 0, 2, 0), (24, .sipush 256, 27, 256, 0, 0), (27, .if_icmp .ge 24, 30, 0, 51, 0), (30, .aload_n 0, 31, 0, 0, 0), (31, .getfield 17, 34, 0, 1, 1),
  (34, .iload_n 2, 35, 0, 2, 0), (35, .new 15, 38, 0, 0, 0), (38, .dup, 39, 0, 0, 0), (39, .iload_n 2, 40, 0, 2, 0), (40, .iload_n 1, 41, 0, 1, 0), (41, .invokespecial 21, 44, 0, 62, 2), (44, .aastore, 45, 0, 0, 0), (45, .iinc 2 1, 48, 1, 2, 0),
  (48, .goto (-25), 51, 0, 23, 0), (51, .return_, 52, 0, 0, 0)])
def m_Pool_node : gM := (⟨"ExtentTree$Pool", "node", "(I)LExtentTree$Node;"⟩, prog_3_method_2_code, 2, (Option.some (FieldType.object "ExtentTree$Node")), 0, 0, [], [
  (0, .iload_n 1, 1, 0, 1, 0), (1, .ifCond .lt 19, 4, 0, 20, 0), (4, .iload_n 1, 5, 0, 1, 0), (5, .sipush 256, 8, 256, 0, 0), (8, .if_icmp .ge 12, 11, 0, 20, 0), (11, .aload_n 0, 12, 0, 0, 0), (12, .getfield 17, 15, 0, 1, 1), (15, .iload_n 1, 16, 0, 1, 0),
  (16, .aaload, 17, 0, 0, 0), (17, .goto 9, 20, 0, 26, 0), (20, .aload_n 0, 21, 0, 0, 0), (21, .getfield 17, 24, 0, 1, 1), (24, .iconst 0, 25, 0, 0, 0), (25, .aaload, 26, 0, 0, 0), (26, .areturn, 27, 0, 0, 0)])
def m_Pool_isTaken : gM := (⟨"ExtentTree$Pool", "isTaken", "(I)Z"⟩, prog_3_method_3_code, 2, (Option.some FieldType.boolean), 1, 21, [], [
  (0, .aload_n 0, 1, 0, 0, 0), (1, .iload_n 1, 2, 0, 1, 0), (2, .invokevirtual 24, 5, 0, 80, 1), (5, .getfield 28, 8, 0, 0, 2), (8, .ireturn, 9, 0, 0, 0)])
def m_Pool_takeLeast : gM := (⟨"ExtentTree$Pool", "takeLeast", "()LExtentTree$Node;"⟩, prog_3_method_4_code, 3, (Option.some (FieldType.object "ExtentTree$Node")), 0, 0, [], [
  (0, .iconst 1, 1, 1, 0, 0), (1, .istore_n 1, 2, 0, 1, 0), (2, .iload_n 1, 3, 0, 1, 0), (3, .sipush 256, 6, 256, 0, 0), (6, .if_icmp .ge 40, 9, 0, 46, 0), (9, .aload_n 0, 10, 0, 0, 0), (10, .getfield 17, 13, 0, 1, 1), (13, .iload_n 1, 14, 0, 1, 0),
  (14, .aaload, 15, 0, 0, 0), (15, .astore_n 2, 16, 0, 2, 0), (16, .aload_n 2, 17, 0, 2, 0), (17, .getfield 28, 20, 0, 0, 2), (20, .ifCond .ne 20, 23, 0, 40, 0), (23, .aload_n 2, 24, 0, 2, 0), (24, .iconst 1, 25, 1, 0, 0), (25, .putfield 28, 28, 0, 0, 2),
  (28, .aload_n 0, 29, 0, 0, 0), (29, .dup, 30, 0, 0, 0), (30, .getfield 9, 33, 0, 1, 0), (33, .iconst 1, 34, 1, 0, 0), (34, .isub, 35, 0, 0, 0), (35, .putfield 9, 38, 0, 1, 0), (38, .aload_n 2, 39, 0, 2, 0), (39, .areturn, 40, 0, 0, 0),
  (40, .iinc 1 1, 43, 1, 1, 0), (43, .goto (-41), 46, 0, 2, 0), (46, .aload_n 0, 47, 0, 0, 0), (47, .getfield 17, 50, 0, 1, 1), (50, .iconst 0, 51, 0, 0, 0), (51, .aaload, 52, 0, 0, 0), (52, .areturn, 53, 0, 0, 0)])
def m_Pool_giveBack : gM := (⟨"ExtentTree$Pool", "giveBack", "(LExtentTree$Node;)V"⟩, prog_3_method_5_code, 2, (none : Option FieldType), 0, 0, [], [
  (0, .aload_n 1, 1, 0, 1, 0), (1, .getfield 28, 4, 0, 0, 2), (4, .ifCond .eq 23, 7, 0, 27, 0), (7, .aload_n 1, 8, 0, 1, 0), (8, .iconst 0, 9, 0, 0, 0), (9, .putfield 28, 12, 0, 0, 2), (12, .aload_n 1, 13, 0, 1, 0), (13, .iconst 0, 14, 0, 0, 0),
  (14, .putfield 32, 17, 0, 0, 4), (17, .aload_n 0, 18, 0, 0, 0), (18, .dup, 19, 0, 0, 0), (19, .getfield 9, 22, 0, 1, 0), (22, .iconst 1, 23, 1, 0, 0), (23, .iadd, 24, 0, 0, 0), (24, .putfield 9, 27, 0, 1, 0), (27, .return_, 28, 0, 0, 0)])
def m_Tree_init : gM := (⟨"ExtentTree$Tree", "<init>", "(LExtentTree$Pool;)V"⟩, prog_4_method_1_code, 3, (none : Option FieldType), 2, 43, [], [
  (0, .aload_n 0, 1, 0, 0, 0), (1, .invokespecial 3, 4, 1, 0, 0), (4, .aload_n 0, 5, 0, 0, 0), (5, .aload_n 1, 6, 0, 1, 0), (6, .putfield 9, 9, 0, 2, 6), (9, .aload_n 0, 10, 0, 0, 0), (10, .new 15, 13, 0, 0, 0), (13, .dup, 14, 0, 0, 0),
  (14, .iconst 0, 15, 0, 0, 0), (15, .iconst 4, 16, 4, 0, 0), (16, .invokespecial 17, 19, 0, 62, 2), (19, .putfield 20, 22, 0, 2, 0), (22, .aload_n 0, 23, 0, 0, 0), (23, .bipush 6, 25, 6, 0, 0), (25, .anewarray 15, 28, 0, 2, 0), (28, .putfield 24, 31, 0, 2, 7),
  (31, .aload_n 0, 32, 0, 0, 0), (32, .bipush 6, 34, 6, 0, 0), (34, .newarray .int, 36, 0, 0, 0), (36, .putfield 28, 39, 0, 2, 8), (39, .aload_n 0, 40, 0, 0, 0), (40, .bipush 6, 42, 6, 0, 0), (42, .anewarray 15, 45, 0, 2, 0), (45, .putfield 32, 48, 0, 2, 10),
  (48, .iconst 0, 49, 0, 0, 0), (49, .istore_n 2, 50, 0, 2, 0), (50, .iload_n 2, 51, 0, 2, 0), (51, .bipush 6, 53, 6, 0, 0), (53, .if_icmp .ge 29, 56, 0, 82, 0), (56, .aload_n 0, 57, 0, 0, 0), (57, .getfield 24, 60, 0, 2, 7), (60, .iload_n 2, 61, 0, 2, 0),
  (61, .aload_n 0, 62, 0, 0, 0), (62, .getfield 20, 65, 0, 2, 0), (65, .aastore, 66, 0, 0, 0), (66, .aload_n 0, 67, 0, 0, 0), (67, .getfield 32, 70, 0, 2, 10), (70, .iload_n 2, 71, 0, 2, 0), (71, .aload_n 0, 72, 0, 0, 0), (72, .getfield 20, 75, 0, 2, 0),
  (75, .aastore, 76, 0, 0, 0), (76, .iinc 2 1, 79, 1, 2, 0), (79, .goto (-29), 82, 0, 50, 0), (82, .return_, 83, 0, 0, 0)])
def m_Tree_leaves : gM := (⟨"ExtentTree$Tree", "leaves", "()I"⟩, prog_4_method_2_code, 1, (Option.some FieldType.int), 0, 0, [], [
  (0, .aload_n 0, 1, 0, 0, 0), (1, .getfield 20, 4, 0, 2, 0), (4, .getfield 35, 7, 0, 0, 3), (7, .ifCond .ne 7, 10, 0, 14, 0), (10, .iconst 1, 11, 1, 0, 0), (11, .goto 7, 14, 0, 18, 0), (14, .aload_n 0, 15, 0, 0, 0), (15, .getfield 39, 18, 0, 2, 5),
  (18, .ireturn, 19, 0, 0, 0)])
def m_Tree_roomForOne : gM := (⟨"ExtentTree$Tree", "roomForOne", "()Z"⟩, prog_4_method_3_code, 1, (Option.some FieldType.boolean), 1, 20, [], [
  (0, .aload_n 0, 1, 0, 0, 0), (1, .getfield 9, 4, 0, 2, 6), (4, .getfield 42, 7, 0, 1, 0), (7, .aload_n 0, 8, 0, 0, 0), (8, .getfield 20, 11, 0, 2, 0), (11, .getfield 35, 14, 0, 0, 3), (14, .iconst 1, 15, 1, 0, 0), (15, .iadd, 16, 0, 0, 0),
  (16, .if_icmp .lt 28, 19, 0, 44, 0), (19, .aload_n 0, 20, 0, 0, 0), (20, .getfield 20, 23, 0, 2, 0), (23, .getfield 35, 26, 0, 0, 3), (26, .iconst 5, 27, 5, 0, 0), (27, .if_icmp .lt 13, 30, 0, 40, 0), (30, .aload_n 0, 31, 0, 0, 0), (31, .getfield 20, 34, 0, 2, 0),
  (34, .invokevirtual 47, 37, 0, 63, 0), (37, .ifCond .ne 7, 40, 0, 44, 0), (40, .iconst 1, 41, 1, 0, 0), (41, .goto 4, 44, 0, 45, 0), (44, .iconst 0, 45, 0, 0, 0), (45, .ireturn, 46, 0, 0, 0)])
def m_Tree_roomForTwo : gM := (⟨"ExtentTree$Tree", "roomForTwo", "()Z"⟩, prog_4_method_4_code, 1, (Option.some FieldType.boolean), 1, 20, [], [
  (0, .aload_n 0, 1, 0, 0, 0), (1, .getfield 9, 4, 0, 2, 6), (4, .getfield 42, 7, 0, 1, 0), (7, .iconst 2, 8, 2, 0, 0), (8, .aload_n 0, 9, 0, 0, 0), (9, .getfield 20, 12, 0, 2, 0), (12, .getfield 35, 15, 0, 0, 3), (15, .imul, 16, 0, 0, 0),
  (16, .iconst 3, 17, 3, 0, 0), (17, .iadd, 18, 0, 0, 0), (18, .if_icmp .lt 28, 21, 0, 46, 0), (21, .aload_n 0, 22, 0, 0, 0), (22, .getfield 20, 25, 0, 2, 0), (25, .getfield 35, 28, 0, 0, 3), (28, .iconst 4, 29, 4, 0, 0), (29, .if_icmp .lt 13, 32, 0, 42, 0),
  (32, .aload_n 0, 33, 0, 0, 0), (33, .getfield 20, 36, 0, 2, 0), (36, .invokevirtual 47, 39, 0, 63, 0), (39, .ifCond .ne 7, 42, 0, 46, 0), (42, .iconst 1, 43, 1, 0, 0), (43, .goto 4, 46, 0, 47, 0), (46, .iconst 0, 47, 0, 0, 0), (47, .ireturn, 48, 0, 0, 0)])
def m_Tree_find : gM := (⟨"ExtentTree$Tree", "find", "(I)V"⟩, prog_4_method_5_code, 5, (none : Option FieldType), 4, 88, [], [
  (0, .aload_n 0, 1, 0, 0, 0), (1, .getfield 20, 4, 0, 2, 0), (4, .astore_n 2, 5, 0, 2, 0), (5, .iconst 0, 6, 0, 0, 0), (6, .istore_n 3, 7, 0, 3, 0), (7, .iload_n 3, 8, 0, 3, 0), (8, .bipush 6, 10, 6, 0, 0), (10, .if_icmp .ge 74, 13, 0, 84, 0),
  (13, .aload_n 2, 14, 0, 2, 0), (14, .iload_n 1, 15, 0, 1, 0), (15, .invokevirtual 51, 18, 0, 73, 1), (18, .istore 4, 20, 0, 4, 0), (20, .aload_n 0, 21, 0, 0, 0), (21, .getfield 24, 24, 0, 2, 7), (24, .iload_n 3, 25, 0, 3, 0), (25, .aload_n 2, 26, 0, 2, 0),
  (26, .aastore, 27, 0, 0, 0), (27, .aload_n 0, 28, 0, 0, 0), (28, .getfield 28, 31, 0, 2, 8), (31, .iload_n 3, 32, 0, 3, 0), (32, .iload 4, 34, 0, 4, 0), (34, .iastore, 35, 0, 0, 0), (35, .aload_n 0, 36, 0, 0, 0), (36, .iload_n 3, 37, 0, 3, 0),
  (37, .putfield 55, 40, 0, 2, 9), (40, .aload_n 2, 41, 0, 2, 0), (41, .getfield 35, 44, 0, 0, 3), (44, .ifCond .ne 4, 47, 0, 48, 0), (47, .return_, 48, 0, 0, 0), (48, .aload_n 0, 49, 0, 0, 0), (49, .getfield 28, 52, 0, 2, 8), (52, .iload_n 3, 53, 0, 3, 0),
  (53, .iconst 0, 54, 0, 0, 0), (54, .iload 4, 56, 0, 4, 0), (56, .invokestatic 58, 59, 1, 0, 0), (59, .iastore, 60, 0, 0, 0), (60, .aload_n 0, 61, 0, 0, 0), (61, .getfield 9, 64, 0, 2, 6), (64, .aload_n 2, 65, 0, 2, 0), (65, .aload_n 0, 66, 0, 0, 0),
  (66, .getfield 28, 69, 0, 2, 8), (69, .iload_n 3, 70, 0, 3, 0), (70, .iaload, 71, 0, 0, 0), (71, .invokevirtual 64, 74, 0, 67, 1), (74, .invokevirtual 67, 77, 0, 80, 1), (77, .astore_n 2, 78, 0, 2, 0), (78, .iinc 3 1, 81, 1, 3, 0), (81, .goto (-74), 84, 0, 7, 0),
  (84, .return_, 85, 0, 0, 0)])
def m_Tree_runFirst : gM := (⟨"ExtentTree$Tree", "runFirst", "()I"⟩, prog_4_method_6_code, 1, (Option.some FieldType.int), 3, 64, [], [
  (0, .aload_n 0, 1, 0, 0, 0), (1, .getfield 24, 4, 0, 2, 7), (4, .aload_n 0, 5, 0, 0, 0), (5, .getfield 55, 8, 0, 2, 9), (8, .aaload, 9, 0, 0, 0), (9, .aload_n 0, 10, 0, 0, 0), (10, .getfield 28, 13, 0, 2, 8), (13, .aload_n 0, 14, 0, 0, 0),
  (14, .getfield 55, 17, 0, 2, 9), (17, .iaload, 18, 0, 0, 0), (18, .invokevirtual 71, 21, 0, 66, 1), (21, .ireturn, 22, 0, 0, 0)])
def m_Tree_runLength : gM := (⟨"ExtentTree$Tree", "runLength", "()I"⟩, prog_4_method_7_code, 1, (Option.some FieldType.int), 3, 65, [], [
  (0, .aload_n 0, 1, 0, 0, 0), (1, .getfield 24, 4, 0, 2, 7), (4, .aload_n 0, 5, 0, 0, 0), (5, .getfield 55, 8, 0, 2, 9), (8, .aaload, 9, 0, 0, 0), (9, .aload_n 0, 10, 0, 0, 0), (10, .getfield 28, 13, 0, 2, 8), (13, .aload_n 0, 14, 0, 0, 0),
  (14, .getfield 55, 17, 0, 2, 9), (17, .iaload, 18, 0, 0, 0), (18, .invokevirtual 74, 21, 0, 68, 1), (21, .ireturn, 22, 0, 0, 0)])
def m_Tree_runEnd : gM := (⟨"ExtentTree$Tree", "runEnd", "()I"⟩, prog_4_method_8_code, 1, (Option.some FieldType.int), 4, 85, [], [
  (0, .aload_n 0, 1, 0, 0, 0), (1, .invokevirtual 77, 4, 0, 89, 0), (4, .aload_n 0, 5, 0, 0, 0), (5, .invokevirtual 81, 8, 0, 90, 0), (8, .iadd, 9, 0, 0, 0), (9, .ireturn, 10, 0, 0, 0)])
def m_Tree_runVolume : gM := (⟨"ExtentTree$Tree", "runVolume", "()I"⟩, prog_4_method_9_code, 1, (Option.some FieldType.int), 3, 64, [], [
  (0, .aload_n 0, 1, 0, 0, 0), (1, .getfield 24, 4, 0, 2, 7), (4, .aload_n 0, 5, 0, 0, 0), (5, .getfield 55, 8, 0, 2, 9), (8, .aaload, 9, 0, 0, 0), (9, .aload_n 0, 10, 0, 0, 0), (10, .getfield 28, 13, 0, 2, 8), (13, .aload_n 0, 14, 0, 0, 0),
  (14, .getfield 55, 17, 0, 2, 9), (17, .iaload, 18, 0, 0, 0), (18, .invokevirtual 84, 21, 0, 70, 1), (21, .ireturn, 22, 0, 0, 0)])
def m_Tree_runIsWritten : gM := (⟨"ExtentTree$Tree", "runIsWritten", "()Z"⟩, prog_4_method_10_code, 1, (Option.some FieldType.boolean), 3, 64, [], [
  (0, .aload_n 0, 1, 0, 0, 0), (1, .getfield 24, 4, 0, 2, 7), (4, .aload_n 0, 5, 0, 0, 0), (5, .getfield 55, 8, 0, 2, 9), (8, .aaload, 9, 0, 0, 0), (9, .aload_n 0, 10, 0, 0, 0), (10, .getfield 28, 13, 0, 2, 8), (13, .aload_n 0, 14, 0, 0, 0),
  (14, .getfield 55, 17, 0, 2, 9), (17, .iaload, 18, 0, 0, 0), (18, .invokevirtual 87, 21, 0, 69, 1), (21, .ireturn, 22, 0, 0, 0)])
def m_Tree_setRun : gM := (⟨"ExtentTree$Tree", "setRun", "(IIIZ)V"⟩, prog_4_method_11_code, 5, (none : Option FieldType), 4, 86, [], [
  (0, .aload_n 0, 1, 0, 0, 0), (1, .getfield 24, 4, 0, 2, 7), (4, .aload_n 0, 5, 0, 0, 0), (5, .getfield 55, 8, 0, 2, 9), (8, .aaload, 9, 0, 0, 0), (9, .aload_n 0, 10, 0, 0, 0), (10, .getfield 28, 13, 0, 2, 8), (13, .aload_n 0, 14, 0, 0, 0),
  (14, .getfield 55, 17, 0, 2, 9), (17, .iaload, 18, 0, 0, 0), (18, .iload_n 1, 19, 0, 1, 0), (19, .iload_n 2, 20, 0, 2, 0), (20, .iload 4, 22, 0, 4, 0), (22, .invokestatic 91, 25, 0, 95, 2), (25, .iload_n 3, 26, 0, 3, 0), (26, .invokevirtual 95, 29, 0, 72, 4),
  (29, .aload_n 0, 30, 0, 0, 0), (30, .aload_n 0, 31, 0, 0, 0), (31, .getfield 55, 34, 0, 2, 9), (34, .invokevirtual 99, 37, 0, 113, 1), (37, .return_, 38, 0, 0, 0)])
def m_Tree_marked : gM := (⟨"ExtentTree$Tree", "marked", "(IZ)I"⟩, prog_4_method_12_code, 2, (Option.some FieldType.int), 0, 0, [], [
  (0, .iload_n 1, 1, 0, 1, 0), (1, .ifCond .eq 7, 4, 0, 8, 0), (4, .iload_n 0, 5, 0, 0, 0), (5, .goto 7, 8, 0, 12, 0), (8, .iload_n 0, 9, 0, 0, 0), (9, .ldc 103, 11, 32768, 0, 0), (11, .iadd, 12, 0, 0, 0), (12, .ireturn, 13, 0, 0, 0)])
def m_Tree_nextFirst : gM := (⟨"ExtentTree$Tree", "nextFirst", "()I"⟩, prog_4_method_13_code, 3, (Option.some FieldType.int), 3, 64, [], [
  (0, .aload_n 0, 1, 0, 0, 0), (1, .getfield 55, 4, 0, 2, 9), (4, .istore_n 1, 5, 0, 1, 0), (5, .iload_n 1, 6, 0, 1, 0), (6, .ifCond .lt 42, 9, 0, 48, 0), (9, .aload_n 0, 10, 0, 0, 0), (10, .getfield 28, 13, 0, 2, 8), (13, .iload_n 1, 14, 0, 1, 0),
  (14, .iaload, 15, 0, 0, 0), (15, .iconst 1, 16, 1, 0, 0), (16, .iadd, 17, 0, 0, 0), (17, .istore_n 2, 18, 0, 2, 0), (18, .aload_n 0, 19, 0, 0, 0), (19, .getfield 24, 22, 0, 2, 7), (22, .iload_n 1, 23, 0, 1, 0), (23, .aaload, 24, 0, 0, 0),
  (24, .iload_n 2, 25, 0, 2, 0), (25, .invokevirtual 104, 28, 0, 64, 1), (28, .ifCond .eq 14, 31, 0, 42, 0), (31, .aload_n 0, 32, 0, 0, 0), (32, .getfield 24, 35, 0, 2, 7), (35, .iload_n 1, 36, 0, 1, 0), (36, .aaload, 37, 0, 0, 0), (37, .iload_n 2, 38, 0, 2, 0),
  (38, .invokevirtual 71, 41, 0, 66, 1), (41, .ireturn, 42, 0, 0, 0), (42, .iinc 1 (-1), 45, (-1), 1, 0), (45, .goto (-40), 48, 0, 5, 0), (48, .ldc 107, 50, 65536, 0, 0), (50, .ireturn, 51, 0, 0, 0)])
def m_Tree_hasAny : gM := (⟨"ExtentTree$Tree", "hasAny", "(II)Z"⟩, prog_4_method_14_code, 3, (Option.some FieldType.boolean), 5, 112, [], [
  (0, .aload_n 0, 1, 0, 0, 0), (1, .iload_n 1, 2, 0, 1, 0), (2, .iload_n 2, 3, 0, 2, 0), (3, .iadd, 4, 0, 0, 0), (4, .iconst 1, 5, 1, 0, 0), (5, .isub, 6, 0, 0, 0), (6, .invokevirtual 108, 9, 0, 88, 1), (9, .aload_n 0, 10, 0, 0, 0),
  (10, .invokevirtual 111, 13, 0, 91, 0), (13, .iload_n 1, 14, 0, 1, 0), (14, .if_icmp .le 7, 17, 0, 21, 0), (17, .iconst 1, 18, 1, 0, 0), (18, .goto 4, 21, 0, 22, 0), (21, .iconst 0, 22, 0, 0, 0), (22, .ireturn, 23, 0, 0, 0)])
def m_Tree_hasUnwritten : gM := (⟨"ExtentTree$Tree", "hasUnwritten", "(II)Z"⟩, prog_4_method_15_code, 3, (Option.some FieldType.boolean), 5, 112, [], [
  (0, .aload_n 0, 1, 0, 0, 0), (1, .iload_n 1, 2, 0, 1, 0), (2, .invokevirtual 108, 5, 0, 88, 1), (5, .aload_n 0, 6, 0, 0, 0), (6, .invokevirtual 111, 9, 0, 91, 0), (9, .iload_n 1, 10, 0, 1, 0), (10, .iload_n 2, 11, 0, 2, 0), (11, .iadd, 12, 0, 0, 0),
  (12, .if_icmp .lt 14, 15, 0, 26, 0), (15, .aload_n 0, 16, 0, 0, 0), (16, .invokevirtual 114, 19, 0, 93, 0), (19, .ifCond .ne 7, 22, 0, 26, 0), (22, .iconst 1, 23, 1, 0, 0), (23, .goto 4, 26, 0, 27, 0), (26, .iconst 0, 27, 0, 0, 0), (27, .ireturn, 28, 0, 0, 0)])
def m_Tree_volumeOf : gM := (⟨"ExtentTree$Tree", "volumeOf", "(I)I"⟩, prog_4_method_16_code, 2, (Option.some FieldType.int), 5, 112, [], [
  (0, .aload_n 0, 1, 0, 0, 0), (1, .iload_n 1, 2, 0, 1, 0), (2, .invokevirtual 108, 5, 0, 88, 1), (5, .aload_n 0, 6, 0, 0, 0), (6, .invokevirtual 111, 9, 0, 91, 0), (9, .iload_n 1, 10, 0, 1, 0), (10, .if_icmp .le 17, 13, 0, 27, 0), (13, .aload_n 0, 14, 0, 0, 0),
  (14, .invokevirtual 117, 17, 0, 92, 0), (17, .iload_n 1, 18, 0, 1, 0), (18, .aload_n 0, 19, 0, 0, 0), (19, .invokevirtual 77, 22, 0, 89, 0), (22, .isub, 23, 0, 0, 0), (23, .iadd, 24, 0, 0, 0), (24, .goto 4, 27, 0, 28, 0), (27, .iconst (-1), 28, (-1), 0, 0),
  (28, .ireturn, 29, 0, 0, 0)])
def m_Tree_isWritten : gM := (⟨"ExtentTree$Tree", "isWritten", "(I)Z"⟩, prog_4_method_17_code, 2, (Option.some FieldType.boolean), 5, 112, [], [
  (0, .aload_n 0, 1, 0, 0, 0), (1, .iload_n 1, 2, 0, 1, 0), (2, .invokevirtual 108, 5, 0, 88, 1), (5, .aload_n 0, 6, 0, 0, 0), (6, .invokevirtual 111, 9, 0, 91, 0), (9, .iload_n 1, 10, 0, 1, 0), (10, .if_icmp .le 14, 13, 0, 24, 0), (13, .aload_n 0, 14, 0, 0, 0),
  (14, .invokevirtual 114, 17, 0, 93, 0), (17, .ifCond .eq 7, 20, 0, 24, 0), (20, .iconst 1, 21, 1, 0, 0), (21, .goto 4, 24, 0, 25, 0), (24, .iconst 0, 25, 0, 0, 0), (25, .ireturn, 26, 0, 0, 0)])
def m_Tree_alikeFrom : gM := (⟨"ExtentTree$Tree", "alikeFrom", "(I)I"⟩, prog_4_method_18_code, 2, (Option.some FieldType.int), 5, 112, [], [
  (0, .aload_n 0, 1, 0, 0, 0), (1, .iload_n 1, 2, 0, 1, 0), (2, .invokevirtual 108, 5, 0, 88, 1), (5, .aload_n 0, 6, 0, 0, 0), (6, .invokevirtual 111, 9, 0, 91, 0), (9, .iload_n 1, 10, 0, 1, 0), (10, .if_icmp .le 10, 13, 0, 20, 0), (13, .aload_n 0, 14, 0, 0, 0),
  (14, .invokevirtual 111, 17, 0, 91, 0), (17, .goto 7, 20, 0, 24, 0), (20, .aload_n 0, 21, 0, 0, 0), (21, .invokevirtual 120, 24, 0, 96, 0), (24, .iload_n 1, 25, 0, 1, 0), (25, .isub, 26, 0, 0, 0), (26, .ireturn, 27, 0, 0, 0)])
def m_Tree_putIn : gM := (⟨"ExtentTree$Tree", "putIn", "(IIIZ)V"⟩, prog_4_method_19_code, 7, (none : Option FieldType), 6, 139, [], [
  (0, .aload_n 0, 1, 0, 0, 0), (1, .iload_n 2, 2, 0, 2, 0), (2, .iload 4, 4, 0, 4, 0), (4, .invokevirtual 123, 7, 0, 107, 2), (7, .aload_n 0, 8, 0, 0, 0), (8, .iload_n 1, 9, 0, 1, 0), (9, .iload_n 2, 10, 0, 2, 0), (10, .iload_n 3, 11, 0, 3, 0),
  (11, .iload 4, 13, 0, 4, 0), (13, .invokevirtual 127, 16, 0, 103, 4), (16, .istore 5, 18, 0, 5, 0), (18, .aload_n 0, 19, 0, 0, 0), (19, .iload_n 1, 20, 0, 1, 0), (20, .iload_n 2, 21, 0, 2, 0), (21, .iload_n 3, 22, 0, 3, 0), (22, .iload 4, 24, 0, 4, 0),
  (24, .iload 5, 26, 0, 5, 0), (26, .invokevirtual 131, 29, 0, 104, 5), (29, .istore 6, 31, 0, 6, 0), (31, .iload 5, 33, 0, 5, 0), (33, .ifCond .ne 21, 36, 0, 54, 0), (36, .iload 6, 38, 0, 6, 0), (38, .ifCond .le 16, 41, 0, 54, 0), (41, .aload_n 0, 42, 0, 0, 0),
  (42, .iload_n 1, 43, 0, 1, 0), (43, .iload_n 2, 44, 0, 2, 0), (44, .iload 6, 46, 0, 6, 0), (46, .iadd, 47, 0, 0, 0), (47, .iload_n 3, 48, 0, 3, 0), (48, .iload 4, 50, 0, 4, 0), (50, .invokevirtual 135, 53, 0, 94, 4), (53, .return_, 54, 0, 0, 0),
  (54, .iload 6, 56, 0, 6, 0), (56, .ifCond .le 7, 59, 0, 63, 0), (59, .aload_n 0, 60, 0, 0, 0), (60, .invokevirtual 139, 63, 0, 112, 0), (63, .aload_n 0, 64, 0, 0, 0), (64, .iload_n 1, 65, 0, 1, 0), (65, .invokevirtual 108, 68, 0, 88, 1), (68, .iload 5, 70, 0, 5, 0),
  (70, .ifCond .le 27, 73, 0, 97, 0), (73, .aload_n 0, 74, 0, 0, 0), (74, .aload_n 0, 75, 0, 0, 0), (75, .invokevirtual 77, 78, 0, 89, 0), (78, .iload 5, 80, 0, 5, 0), (80, .iload_n 2, 81, 0, 2, 0), (81, .iadd, 82, 0, 0, 0), (82, .iload 6, 84, 0, 6, 0),
  (84, .iadd, 85, 0, 0, 0), (85, .aload_n 0, 86, 0, 0, 0), (86, .invokevirtual 117, 89, 0, 92, 0), (89, .iload 4, 91, 0, 4, 0), (91, .invokevirtual 135, 94, 0, 94, 4), (94, .goto 12, 97, 0, 106, 0), (97, .aload_n 0, 98, 0, 0, 0), (98, .iload_n 1, 99, 0, 1, 0),
  (99, .iload_n 2, 100, 0, 2, 0), (100, .iload_n 3, 101, 0, 3, 0), (101, .iload 4, 103, 0, 4, 0), (103, .invokevirtual 142, 106, 0, 108, 4), (106, .return_, 107, 0, 0, 0)])
def m_Tree_lengthToJoinBefore : gM := (⟨"ExtentTree$Tree", "lengthToJoinBefore", "(IIIZ)I"⟩, prog_4_method_20_code, 7, (Option.some FieldType.int), 5, 112, [], [
  (0, .aload_n 0, 1, 0, 0, 0), (1, .iload_n 1, 2, 0, 1, 0), (2, .invokevirtual 108, 5, 0, 88, 1), (5, .aload_n 0, 6, 0, 0, 0), (6, .invokevirtual 81, 9, 0, 90, 0), (9, .istore 5, 11, 0, 5, 0), (11, .iload 5, 13, 0, 5, 0), (13, .ifCond .le 26, 16, 0, 39, 0),
  (16, .aload_n 0, 17, 0, 0, 0), (17, .invokevirtual 111, 20, 0, 91, 0), (20, .iload_n 1, 21, 0, 1, 0), (21, .if_icmp .ne 18, 24, 0, 39, 0), (24, .aload_n 0, 25, 0, 0, 0), (25, .invokevirtual 117, 28, 0, 92, 0), (28, .iload 5, 30, 0, 5, 0), (30, .iadd, 31, 0, 0, 0),
  (31, .iload_n 3, 32, 0, 3, 0), (32, .if_icmp .ne 7, 35, 0, 39, 0), (35, .iconst 1, 36, 1, 0, 0), (36, .goto 4, 39, 0, 40, 0), (39, .iconst 0, 40, 0, 0, 0), (40, .istore 6, 42, 0, 6, 0), (42, .iload 6, 44, 0, 6, 0), (44, .ifCond .eq 29, 47, 0, 73, 0),
  (47, .aload_n 0, 48, 0, 0, 0), (48, .invokevirtual 114, 51, 0, 93, 0), (51, .iload 4, 53, 0, 4, 0), (53, .if_icmp .ne 20, 56, 0, 73, 0), (56, .iload 5, 58, 0, 5, 0), (58, .iload_n 2, 59, 0, 2, 0), (59, .iadd, 60, 0, 0, 0), (60, .iload 4, 62, 0, 4, 0),
  (62, .invokestatic 145, 65, 4, 17, 1), (65, .if_icmp .gt 8, 68, 0, 73, 0), (68, .iload 5, 70, 0, 5, 0), (70, .goto 4, 73, 0, 74, 0), (73, .iconst 0, 74, 0, 0, 0), (74, .ireturn, 75, 0, 0, 0)])
def m_Tree_lengthToJoinBehind : gM := (⟨"ExtentTree$Tree", "lengthToJoinBehind", "(IIIZI)I"⟩, prog_4_method_21_code, 8, (Option.some FieldType.int), 5, 112, [], [
  (0, .aload_n 0, 1, 0, 0, 0), (1, .iload_n 1, 2, 0, 1, 0), (2, .iload_n 2, 3, 0, 2, 0), (3, .iadd, 4, 0, 0, 0), (4, .invokevirtual 108, 7, 0, 88, 1), (7, .aload_n 0, 8, 0, 0, 0), (8, .invokevirtual 81, 11, 0, 90, 0), (11, .istore 6, 13, 0, 6, 0),
  (13, .iload 6, 15, 0, 6, 0), (15, .ifCond .le 27, 18, 0, 42, 0), (18, .aload_n 0, 19, 0, 0, 0), (19, .invokevirtual 77, 22, 0, 89, 0), (22, .iload_n 1, 23, 0, 1, 0), (23, .iload_n 2, 24, 0, 2, 0), (24, .iadd, 25, 0, 0, 0), (25, .if_icmp .ne 17, 28, 0, 42, 0),
  (28, .aload_n 0, 29, 0, 0, 0), (29, .invokevirtual 117, 32, 0, 92, 0), (32, .iload_n 3, 33, 0, 3, 0), (33, .iload_n 2, 34, 0, 2, 0), (34, .iadd, 35, 0, 0, 0), (35, .if_icmp .ne 7, 38, 0, 42, 0), (38, .iconst 1, 39, 1, 0, 0), (39, .goto 4, 42, 0, 43, 0),
  (42, .iconst 0, 43, 0, 0, 0), (43, .istore 7, 45, 0, 7, 0), (45, .iload 7, 47, 0, 7, 0), (47, .ifCond .eq 32, 50, 0, 79, 0), (50, .aload_n 0, 51, 0, 0, 0), (51, .invokevirtual 114, 54, 0, 93, 0), (54, .iload 4, 56, 0, 4, 0), (56, .if_icmp .ne 23, 59, 0, 79, 0),
  (59, .iload 5, 61, 0, 5, 0), (61, .iload_n 2, 62, 0, 2, 0), (62, .iadd, 63, 0, 0, 0), (63, .iload 6, 65, 0, 6, 0), (65, .iadd, 66, 0, 0, 0), (66, .iload 4, 68, 0, 4, 0), (68, .invokestatic 145, 71, 4, 17, 1), (71, .if_icmp .gt 8, 74, 0, 79, 0),
  (74, .iload 6, 76, 0, 6, 0), (76, .goto 4, 79, 0, 80, 0), (79, .iconst 0, 80, 0, 0, 0), (80, .ireturn, 81, 0, 0, 0)])
def m_Tree_takeOutAll : gM := (⟨"ExtentTree$Tree", "takeOutAll", "(II)I"⟩, prog_4_method_22_code, 7, (Option.some FieldType.int), 6, 149, [], [
  (0, .iconst 0, 1, 0, 0, 0), (1, .istore_n 3, 2, 0, 3, 0), (2, .iload_n 1, 3, 0, 1, 0), (3, .istore 4, 5, 0, 4, 0), (5, .iconst 0, 6, 0, 0, 0), (6, .istore 5, 8, 0, 5, 0), (8, .iload 5, 10, 0, 5, 0), (10, .ldc 107, 12, 65536, 0, 0),
  (12, .if_icmp .ge 72, 15, 0, 84, 0), (15, .iload 4, 17, 0, 4, 0), (17, .iload_n 2, 18, 0, 2, 0), (18, .if_icmp .ge 66, 21, 0, 84, 0), (21, .aload_n 0, 22, 0, 0, 0), (22, .iload 4, 24, 0, 4, 0), (24, .invokevirtual 108, 27, 0, 88, 1), (27, .aload_n 0, 28, 0, 0, 0),
  (28, .invokevirtual 111, 31, 0, 91, 0), (31, .iload 4, 33, 0, 4, 0), (33, .if_icmp .gt 12, 36, 0, 45, 0), (36, .aload_n 0, 37, 0, 0, 0), (37, .invokevirtual 120, 40, 0, 96, 0), (40, .istore 4, 42, 0, 4, 0), (42, .goto 36, 45, 0, 78, 0), (45, .iload_n 2, 46, 0, 2, 0),
  (46, .aload_n 0, 47, 0, 0, 0), (47, .invokevirtual 111, 50, 0, 91, 0), (50, .invokestatic 149, 53, 2, 0, 0), (53, .iload 4, 55, 0, 4, 0), (55, .isub, 56, 0, 0, 0), (56, .istore 6, 58, 0, 6, 0), (58, .aload_n 0, 59, 0, 0, 0), (59, .iload 4, 61, 0, 4, 0),
  (61, .iload 6, 63, 0, 6, 0), (63, .invokevirtual 152, 66, 0, 106, 2), (66, .iload_n 3, 67, 0, 3, 0), (67, .iload 6, 69, 0, 6, 0), (69, .iadd, 70, 0, 0, 0), (70, .istore_n 3, 71, 0, 3, 0), (71, .iload 4, 73, 0, 4, 0), (73, .iload 6, 75, 0, 6, 0),
  (75, .iadd, 76, 0, 0, 0), (76, .istore 4, 78, 0, 4, 0), (78, .iinc 5 1, 81, 1, 5, 0), (81, .goto (-73), 84, 0, 8, 0), (84, .iload_n 3, 85, 0, 3, 0), (85, .ireturn, 86, 0, 0, 0)])
def m_Tree_takeOutOfRun : gM := (⟨"ExtentTree$Tree", "takeOutOfRun", "(II)V"⟩, prog_4_method_23_code, 8, (none : Option FieldType), 5, 122, [], [
  (0, .aload_n 0, 1, 0, 0, 0), (1, .invokevirtual 114, 4, 0, 93, 0), (4, .istore_n 3, 5, 0, 3, 0), (5, .iload_n 1, 6, 0, 1, 0), (6, .aload_n 0, 7, 0, 0, 0), (7, .invokevirtual 77, 10, 0, 89, 0), (10, .isub, 11, 0, 0, 0), (11, .istore 4, 13, 0, 4, 0),
  (13, .aload_n 0, 14, 0, 0, 0), (14, .invokevirtual 111, 17, 0, 91, 0), (17, .iload_n 1, 18, 0, 1, 0), (18, .isub, 19, 0, 0, 0), (19, .iload_n 2, 20, 0, 2, 0), (20, .isub, 21, 0, 0, 0), (21, .istore 5, 23, 0, 5, 0), (23, .aload_n 0, 24, 0, 0, 0),
  (24, .invokevirtual 117, 27, 0, 92, 0), (27, .istore 6, 29, 0, 6, 0), (29, .iload 6, 31, 0, 6, 0), (31, .iload 4, 33, 0, 4, 0), (33, .iadd, 34, 0, 0, 0), (34, .iload_n 2, 35, 0, 2, 0), (35, .iadd, 36, 0, 0, 0), (36, .istore 7, 38, 0, 7, 0),
  (38, .aload_n 0, 39, 0, 0, 0), (39, .iload_n 2, 40, 0, 2, 0), (40, .ineg, 41, 0, 0, 0), (41, .iload_n 3, 42, 0, 3, 0), (42, .invokevirtual 123, 45, 0, 107, 2), (45, .iload 4, 47, 0, 4, 0), (47, .ifCond .ne 15, 50, 0, 62, 0), (50, .iload 5, 52, 0, 5, 0),
  (52, .ifCond .ne 10, 55, 0, 62, 0), (55, .aload_n 0, 56, 0, 0, 0), (56, .invokevirtual 139, 59, 0, 112, 0), (59, .goto 53, 62, 0, 112, 0), (62, .iload 4, 64, 0, 4, 0), (64, .ifCond .ne 18, 67, 0, 82, 0), (67, .aload_n 0, 68, 0, 0, 0), (68, .iload_n 1, 69, 0, 1, 0),
  (69, .iload_n 2, 70, 0, 2, 0), (70, .iadd, 71, 0, 0, 0), (71, .iload 5, 73, 0, 5, 0), (73, .iload 7, 75, 0, 7, 0), (75, .iload_n 3, 76, 0, 3, 0), (76, .invokevirtual 135, 79, 0, 94, 4), (79, .goto 33, 82, 0, 112, 0), (82, .aload_n 0, 83, 0, 0, 0),
  (83, .aload_n 0, 84, 0, 0, 0), (84, .invokevirtual 77, 87, 0, 89, 0), (87, .iload 4, 89, 0, 4, 0), (89, .iload 6, 91, 0, 6, 0), (91, .iload_n 3, 92, 0, 3, 0), (92, .invokevirtual 135, 95, 0, 94, 4), (95, .iload 5, 97, 0, 5, 0), (97, .ifCond .le 15, 100, 0, 112, 0),
  (100, .aload_n 0, 101, 0, 0, 0), (101, .iload_n 1, 102, 0, 1, 0), (102, .iload_n 2, 103, 0, 2, 0), (103, .iadd, 104, 0, 0, 0), (104, .iload 5, 106, 0, 5, 0), (106, .iload 7, 108, 0, 7, 0), (108, .iload_n 3, 109, 0, 3, 0), (109, .invokevirtual 142, 112, 0, 108, 4),
  (112, .return_, 113, 0, 0, 0)])
def m_Tree_countMapped : gM := (⟨"ExtentTree$Tree", "countMapped", "(IZ)V"⟩, prog_4_method_24_code, 3, (none : Option FieldType), 0, 0, [], [
  (0, .aload_n 0, 1, 0, 0, 0), (1, .dup, 2, 0, 0, 0), (2, .getfield 155, 5, 0, 2, 3), (5, .iload_n 1, 6, 0, 1, 0), (6, .iadd, 7, 0, 0, 0), (7, .putfield 155, 10, 0, 2, 3), (10, .iload_n 2, 11, 0, 2, 0), (11, .ifCond .eq 13, 14, 0, 24, 0),
  (14, .aload_n 0, 15, 0, 0, 0), (15, .dup, 16, 0, 0, 0), (16, .getfield 158, 19, 0, 2, 4), (19, .iload_n 1, 20, 0, 1, 0), (20, .iadd, 21, 0, 0, 0), (21, .putfield 158, 24, 0, 2, 4), (24, .return_, 25, 0, 0, 0)])
def m_Tree_insertRun : gM := (⟨"ExtentTree$Tree", "insertRun", "(IIIZ)V"⟩, prog_4_method_25_code, 7, (none : Option FieldType), 4, 96, [], [
  (0, .aload_n 0, 1, 0, 0, 0), (1, .invokevirtual 161, 4, 0, 109, 0), (4, .istore 5, 6, 0, 5, 0), (6, .iload 5, 8, 0, 5, 0), (8, .ifCond .ge 15, 11, 0, 23, 0), (11, .aload_n 0, 12, 0, 0, 0), (12, .getfield 55, 15, 0, 2, 9), (15, .iconst 1, 16, 1, 0, 0),
  (16, .iadd, 17, 0, 0, 0), (17, .bipush 6, 19, 6, 0, 0), (19, .if_icmp .lt 4, 22, 0, 23, 0), (22, .return_, 23, 0, 0, 0), (23, .aload_n 0, 24, 0, 0, 0), (24, .getfield 55, 27, 0, 2, 9), (27, .istore 6, 29, 0, 6, 0), (29, .iload 6, 31, 0, 6, 0),
  (31, .iload 5, 33, 0, 5, 0), (33, .if_icmp .le 23, 36, 0, 56, 0), (36, .aload_n 0, 37, 0, 0, 0), (37, .getfield 32, 40, 0, 2, 10), (40, .iload 6, 42, 0, 6, 0), (42, .aload_n 0, 43, 0, 0, 0), (43, .getfield 9, 46, 0, 2, 6), (46, .invokevirtual 164, 49, 0, 82, 0),
  (49, .aastore, 50, 0, 0, 0), (50, .iinc 6 (-1), 53, (-1), 6, 0), (53, .goto (-24), 56, 0, 29, 0), (56, .iload 5, 58, 0, 5, 0), (58, .ifCond .ge 10, 61, 0, 68, 0), (61, .aload_n 0, 62, 0, 0, 0), (62, .invokevirtual 168, 65, 0, 110, 0), (65, .iconst 1, 66, 1, 0, 0),
  (66, .istore 5, 68, 0, 5, 0), (68, .iload 5, 70, 0, 5, 0), (70, .iconst 1, 71, 1, 0, 0), (71, .iadd, 72, 0, 0, 0), (72, .istore 6, 74, 0, 6, 0), (74, .iload 6, 76, 0, 6, 0), (76, .aload_n 0, 77, 0, 0, 0), (77, .getfield 55, 80, 0, 2, 9),
  (80, .if_icmp .gt 15, 83, 0, 95, 0), (83, .aload_n 0, 84, 0, 0, 0), (84, .iload 6, 86, 0, 6, 0), (86, .invokevirtual 171, 89, 0, 111, 1), (89, .iinc 6 1, 92, 1, 6, 0), (92, .goto (-18), 95, 0, 74, 0), (95, .aload_n 0, 96, 0, 0, 0), (96, .getfield 24, 99, 0, 2, 7),
  (99, .aload_n 0, 100, 0, 0, 0), (100, .getfield 55, 103, 0, 2, 9), (103, .aaload, 104, 0, 0, 0), (104, .aload_n 0, 105, 0, 0, 0), (105, .getfield 28, 108, 0, 2, 8), (108, .aload_n 0, 109, 0, 0, 0), (109, .getfield 55, 112, 0, 2, 9), (112, .iaload, 113, 0, 0, 0),
  (113, .iconst 1, 114, 1, 0, 0), (114, .iadd, 115, 0, 0, 0), (115, .iload_n 1, 116, 0, 1, 0), (116, .iload_n 2, 117, 0, 2, 0), (117, .iload 4, 119, 0, 4, 0), (119, .invokestatic 91, 122, 0, 95, 2), (122, .iload_n 3, 123, 0, 3, 0), (123, .invokevirtual 174, 126, 0, 74, 4),
  (126, .aload_n 0, 127, 0, 0, 0), (127, .aload_n 0, 128, 0, 0, 0), (128, .getfield 55, 131, 0, 2, 9), (131, .invokevirtual 99, 134, 0, 113, 1), (134, .aload_n 0, 135, 0, 0, 0), (135, .dup, 136, 0, 0, 0), (136, .getfield 177, 139, 0, 2, 1), (139, .iconst 1, 140, 1, 0, 0),
  (140, .iadd, 141, 0, 0, 0), (141, .putfield 177, 144, 0, 2, 1), (144, .return_, 145, 0, 0, 0)])
def m_Tree_levelWithRoom : gM := (⟨"ExtentTree$Tree", "levelWithRoom", "()I"⟩, prog_4_method_26_code, 2, (Option.some FieldType.int), 1, 20, [], [
  (0, .aload_n 0, 1, 0, 0, 0), (1, .getfield 55, 4, 0, 2, 9), (4, .istore_n 1, 5, 0, 1, 0), (5, .iload_n 1, 6, 0, 1, 0), (6, .ifCond .lt 21, 9, 0, 27, 0), (9, .aload_n 0, 10, 0, 0, 0), (10, .getfield 24, 13, 0, 2, 7), (13, .iload_n 1, 14, 0, 1, 0),
  (14, .aaload, 15, 0, 0, 0), (15, .invokevirtual 47, 18, 0, 63, 0), (18, .ifCond .eq 9, 21, 0, 27, 0), (21, .iinc 1 (-1), 24, (-1), 1, 0), (24, .goto (-19), 27, 0, 5, 0), (27, .iload_n 1, 28, 0, 1, 0), (28, .ireturn, 29, 0, 0, 0)])
def m_Tree_growRoot : gM := (⟨"ExtentTree$Tree", "growRoot", "()V"⟩, prog_4_method_27_code, 3, (none : Option FieldType), 3, 72, [], [
  (0, .aload_n 0, 1, 0, 0, 0), (1, .getfield 32, 4, 0, 2, 10), (4, .iconst 0, 5, 0, 0, 0), (5, .aaload, 6, 0, 0, 0), (6, .astore_n 1, 7, 0, 1, 0), (7, .aload_n 0, 8, 0, 0, 0), (8, .getfield 20, 11, 0, 2, 0), (11, .iconst 0, 12, 0, 0, 0),
  (12, .aload_n 1, 13, 0, 1, 0), (13, .invokevirtual 180, 16, 0, 76, 2), (16, .aload_n 0, 17, 0, 0, 0), (17, .aload_n 1, 18, 0, 1, 0), (18, .iconst 1, 19, 1, 0, 0), (19, .invokevirtual 184, 22, 0, 116, 2), (22, .aload_n 0, 23, 0, 0, 0), (23, .getfield 20, 26, 0, 2, 0),
  (26, .aload_n 1, 27, 0, 1, 0), (27, .getfield 35, 30, 0, 0, 3), (30, .iconst 1, 31, 1, 0, 0), (31, .iadd, 32, 0, 0, 0), (32, .putfield 35, 35, 0, 0, 3), (35, .aload_n 0, 36, 0, 0, 0), (36, .getfield 20, 39, 0, 2, 0), (39, .iconst 0, 40, 0, 0, 0),
  (40, .aload_n 1, 41, 0, 1, 0), (41, .iconst 0, 42, 0, 0, 0), (42, .invokevirtual 71, 45, 0, 66, 1), (45, .aload_n 1, 46, 0, 1, 0), (46, .getfield 188, 49, 0, 0, 0), (49, .iconst 0, 50, 0, 0, 0), (50, .invokevirtual 174, 53, 0, 74, 4), (53, .aload_n 0, 54, 0, 0, 0),
  (54, .getfield 55, 57, 0, 2, 9), (57, .istore_n 2, 58, 0, 2, 0), (58, .iload_n 2, 59, 0, 2, 0), (59, .ifCond .le 51, 62, 0, 110, 0), (62, .aload_n 0, 63, 0, 0, 0), (63, .getfield 24, 66, 0, 2, 7), (66, .iload_n 2, 67, 0, 2, 0), (67, .iconst 1, 68, 1, 0, 0),
  (68, .iadd, 69, 0, 0, 0), (69, .aload_n 0, 70, 0, 0, 0), (70, .getfield 24, 73, 0, 2, 7), (73, .iload_n 2, 74, 0, 2, 0), (74, .aaload, 75, 0, 0, 0), (75, .aastore, 76, 0, 0, 0), (76, .aload_n 0, 77, 0, 0, 0), (77, .getfield 28, 80, 0, 2, 8),
  (80, .iload_n 2, 81, 0, 2, 0), (81, .iconst 1, 82, 1, 0, 0), (82, .iadd, 83, 0, 0, 0), (83, .aload_n 0, 84, 0, 0, 0), (84, .getfield 28, 87, 0, 2, 8), (87, .iload_n 2, 88, 0, 2, 0), (88, .iaload, 89, 0, 0, 0), (89, .iastore, 90, 0, 0, 0),
  (90, .aload_n 0, 91, 0, 0, 0), (91, .getfield 32, 94, 0, 2, 10), (94, .iload_n 2, 95, 0, 2, 0), (95, .iconst 1, 96, 1, 0, 0), (96, .iadd, 97, 0, 0, 0), (97, .aload_n 0, 98, 0, 0, 0), (98, .getfield 32, 101, 0, 2, 10), (101, .iload_n 2, 102, 0, 2, 0),
  (102, .aaload, 103, 0, 0, 0), (103, .aastore, 104, 0, 0, 0), (104, .iinc 2 (-1), 107, (-1), 2, 0), (107, .goto (-49), 110, 0, 58, 0), (110, .aload_n 0, 111, 0, 0, 0), (111, .getfield 24, 114, 0, 2, 7), (114, .iconst 1, 115, 1, 0, 0), (115, .aload_n 1, 116, 0, 1, 0),
  (116, .aastore, 117, 0, 0, 0), (117, .aload_n 0, 118, 0, 0, 0), (118, .getfield 28, 121, 0, 2, 8), (121, .iconst 1, 122, 1, 0, 0), (122, .aload_n 0, 123, 0, 0, 0), (123, .getfield 28, 126, 0, 2, 8), (126, .iconst 0, 127, 0, 0, 0), (127, .iaload, 128, 0, 0, 0),
  (128, .iastore, 129, 0, 0, 0), (129, .aload_n 0, 130, 0, 0, 0), (130, .getfield 28, 133, 0, 2, 8), (133, .iconst 0, 134, 0, 0, 0), (134, .iconst 0, 135, 0, 0, 0), (135, .iastore, 136, 0, 0, 0), (136, .aload_n 0, 137, 0, 0, 0), (137, .dup, 138, 0, 0, 0),
  (138, .getfield 55, 141, 0, 2, 9), (141, .iconst 1, 142, 1, 0, 0), (142, .iadd, 143, 0, 0, 0), (143, .putfield 55, 146, 0, 2, 9), (146, .return_, 147, 0, 0, 0)])
def m_Tree_splitBlock : gM := (⟨"ExtentTree$Tree", "splitBlock", "(I)V"⟩, prog_4_method_28_code, 5, (none : Option FieldType), 3, 72, [], [
  (0, .aload_n 0, 1, 0, 0, 0), (1, .getfield 24, 4, 0, 2, 7), (4, .iload_n 1, 5, 0, 1, 0), (5, .aaload, 6, 0, 0, 0), (6, .astore_n 2, 7, 0, 2, 0), (7, .aload_n 0, 8, 0, 0, 0), (8, .getfield 32, 11, 0, 2, 10), (11, .iload_n 1, 12, 0, 1, 0),
  (12, .aaload, 13, 0, 0, 0), (13, .astore_n 3, 14, 0, 3, 0), (14, .aload_n 2, 15, 0, 2, 0), (15, .getfield 191, 18, 0, 0, 1), (18, .iconst 1, 19, 1, 0, 0), (19, .iadd, 20, 0, 0, 0), (20, .iconst 2, 21, 2, 0, 0), (21, .idiv, 22, 0, 0, 0),
  (22, .istore 4, 24, 0, 4, 0), (24, .aload_n 2, 25, 0, 2, 0), (25, .iload 4, 27, 0, 4, 0), (27, .aload_n 3, 28, 0, 3, 0), (28, .invokevirtual 180, 31, 0, 76, 2), (31, .aload_n 0, 32, 0, 0, 0), (32, .aload_n 3, 33, 0, 3, 0), (33, .iconst 1, 34, 1, 0, 0),
  (34, .invokevirtual 184, 37, 0, 116, 2), (37, .aload_n 0, 38, 0, 0, 0), (38, .getfield 24, 41, 0, 2, 7), (41, .iload_n 1, 42, 0, 1, 0), (42, .iconst 1, 43, 1, 0, 0), (43, .isub, 44, 0, 0, 0), (44, .aaload, 45, 0, 0, 0), (45, .aload_n 0, 46, 0, 0, 0),
  (46, .getfield 28, 49, 0, 2, 8), (49, .iload_n 1, 50, 0, 1, 0), (50, .iconst 1, 51, 1, 0, 0), (51, .isub, 52, 0, 0, 0), (52, .iaload, 53, 0, 0, 0), (53, .iconst 1, 54, 1, 0, 0), (54, .iadd, 55, 0, 0, 0), (55, .aload_n 3, 56, 0, 3, 0),
  (56, .iconst 0, 57, 0, 0, 0), (57, .invokevirtual 71, 60, 0, 66, 1), (60, .aload_n 3, 61, 0, 3, 0), (61, .getfield 188, 64, 0, 0, 0), (64, .iconst 0, 65, 0, 0, 0), (65, .invokevirtual 174, 68, 0, 74, 4), (68, .aload_n 0, 69, 0, 0, 0), (69, .getfield 28, 72, 0, 2, 8),
  (72, .iload_n 1, 73, 0, 1, 0), (73, .iaload, 74, 0, 0, 0), (74, .iconst 1, 75, 1, 0, 0), (75, .iadd, 76, 0, 0, 0), (76, .iload 4, 78, 0, 4, 0), (78, .if_icmp .le 33, 81, 0, 111, 0), (81, .aload_n 0, 82, 0, 0, 0), (82, .getfield 24, 85, 0, 2, 7),
  (85, .iload_n 1, 86, 0, 1, 0), (86, .aload_n 3, 87, 0, 3, 0), (87, .aastore, 88, 0, 0, 0), (88, .aload_n 0, 89, 0, 0, 0), (89, .getfield 28, 92, 0, 2, 8), (92, .iload_n 1, 93, 0, 1, 0), (93, .dup2, 94, 0, 0, 0), (94, .iaload, 95, 0, 0, 0),
  (95, .iload 4, 97, 0, 4, 0), (97, .isub, 98, 0, 0, 0), (98, .iastore, 99, 0, 0, 0), (99, .aload_n 0, 100, 0, 0, 0), (100, .getfield 28, 103, 0, 2, 8), (103, .iload_n 1, 104, 0, 1, 0), (104, .iconst 1, 105, 1, 0, 0), (105, .isub, 106, 0, 0, 0),
  (106, .dup2, 107, 0, 0, 0), (107, .iaload, 108, 0, 0, 0), (108, .iconst 1, 109, 1, 0, 0), (109, .iadd, 110, 0, 0, 0), (110, .iastore, 111, 0, 0, 0), (111, .return_, 112, 0, 0, 0)])
def m_Tree_removeRun : gM := (⟨"ExtentTree$Tree", "removeRun", "()V"⟩, prog_4_method_29_code, 2, (none : Option FieldType), 4, 86, [], [
  (0, .aload_n 0, 1, 0, 0, 0), (1, .getfield 55, 4, 0, 2, 9), (4, .istore_n 1, 5, 0, 1, 0), (5, .aload_n 0, 6, 0, 0, 0), (6, .getfield 24, 9, 0, 2, 7), (9, .iload_n 1, 10, 0, 1, 0), (10, .aaload, 11, 0, 0, 0), (11, .aload_n 0, 12, 0, 0, 0),
  (12, .getfield 28, 15, 0, 2, 8), (15, .iload_n 1, 16, 0, 1, 0), (16, .iaload, 17, 0, 0, 0), (17, .invokevirtual 194, 20, 0, 75, 1), (20, .iload_n 1, 21, 0, 1, 0), (21, .ifCond .le 46, 24, 0, 67, 0), (24, .aload_n 0, 25, 0, 0, 0), (25, .getfield 24, 28, 0, 2, 7),
  (28, .iload_n 1, 29, 0, 1, 0), (29, .aaload, 30, 0, 0, 0), (30, .getfield 197, 33, 0, 0, 4), (33, .ifCond .ne 34, 36, 0, 67, 0), (36, .aload_n 0, 37, 0, 0, 0), (37, .aload_n 0, 38, 0, 0, 0), (38, .getfield 24, 41, 0, 2, 7), (41, .iload_n 1, 42, 0, 1, 0),
  (42, .aaload, 43, 0, 0, 0), (43, .invokevirtual 200, 46, 0, 115, 1), (46, .iinc 1 (-1), 49, (-1), 1, 0), (49, .aload_n 0, 50, 0, 0, 0), (50, .getfield 24, 53, 0, 2, 7), (53, .iload_n 1, 54, 0, 1, 0), (54, .aaload, 55, 0, 0, 0), (55, .aload_n 0, 56, 0, 0, 0),
  (56, .getfield 28, 59, 0, 2, 8), (59, .iload_n 1, 60, 0, 1, 0), (60, .iaload, 61, 0, 0, 0), (61, .invokevirtual 194, 64, 0, 75, 1), (64, .goto (-44), 67, 0, 20, 0), (67, .aload_n 0, 68, 0, 0, 0), (68, .getfield 20, 71, 0, 2, 0), (71, .getfield 197, 74, 0, 0, 4),
  (74, .ifCond .ne 11, 77, 0, 85, 0), (77, .aload_n 0, 78, 0, 0, 0), (78, .getfield 20, 81, 0, 2, 0), (81, .iconst 0, 82, 0, 0, 0), (82, .putfield 35, 85, 0, 0, 3), (85, .aload_n 0, 86, 0, 0, 0), (86, .iload_n 1, 87, 0, 1, 0), (87, .invokevirtual 99, 90, 0, 113, 1),
  (90, .aload_n 0, 91, 0, 0, 0), (91, .dup, 92, 0, 0, 0), (92, .getfield 177, 95, 0, 2, 1), (95, .iconst 1, 96, 1, 0, 0), (96, .isub, 97, 0, 0, 0), (97, .putfield 177, 100, 0, 2, 1), (100, .return_, 101, 0, 0, 0)])
def m_Tree_refreshFirsts : gM := (⟨"ExtentTree$Tree", "refreshFirsts", "(I)V"⟩, prog_4_method_30_code, 3, (none : Option FieldType), 3, 64, [], [
  (0, .iload_n 1, 1, 0, 1, 0), (1, .istore_n 2, 2, 0, 2, 0), (2, .iload_n 2, 3, 0, 2, 0), (3, .ifCond .le 38, 6, 0, 41, 0), (6, .aload_n 0, 7, 0, 0, 0), (7, .getfield 24, 10, 0, 2, 7), (10, .iload_n 2, 11, 0, 2, 0), (11, .iconst 1, 12, 1, 0, 0),
  (12, .isub, 13, 0, 0, 0), (13, .aaload, 14, 0, 0, 0), (14, .aload_n 0, 15, 0, 0, 0), (15, .getfield 28, 18, 0, 2, 8), (18, .iload_n 2, 19, 0, 2, 0), (19, .iconst 1, 20, 1, 0, 0), (20, .isub, 21, 0, 0, 0), (21, .iaload, 22, 0, 0, 0),
  (22, .aload_n 0, 23, 0, 0, 0), (23, .getfield 24, 26, 0, 2, 7), (26, .iload_n 2, 27, 0, 2, 0), (27, .aaload, 28, 0, 0, 0), (28, .iconst 0, 29, 0, 0, 0), (29, .invokevirtual 71, 32, 0, 66, 1), (32, .invokevirtual 204, 35, 0, 71, 2), (35, .iinc 2 (-1), 38, (-1), 2, 0),
  (38, .goto (-36), 41, 0, 2, 0), (41, .return_, 42, 0, 0, 0)])
def m_Tree_settle : gM := (⟨"ExtentTree$Tree", "settle", "()V"⟩, prog_4_method_31_code, 3, (none : Option FieldType), 3, 64, [], [
  (0, .aload_n 0, 1, 0, 0, 0), (1, .getfield 20, 4, 0, 2, 0), (4, .getfield 35, 7, 0, 0, 3), (7, .istore_n 1, 8, 0, 1, 0), (8, .iload_n 1, 9, 0, 1, 0), (9, .ifCond .le 65, 12, 0, 74, 0), (12, .aload_n 0, 13, 0, 0, 0), (13, .getfield 20, 16, 0, 2, 0),
  (16, .getfield 197, 19, 0, 0, 4), (19, .iconst 1, 20, 1, 0, 0), (20, .if_icmp .ne 54, 23, 0, 74, 0), (23, .aload_n 0, 24, 0, 0, 0), (24, .getfield 9, 27, 0, 2, 6), (27, .aload_n 0, 28, 0, 0, 0), (28, .getfield 20, 31, 0, 2, 0), (31, .iconst 0, 32, 0, 0, 0),
  (32, .invokevirtual 64, 35, 0, 67, 1), (35, .invokevirtual 67, 38, 0, 80, 1), (38, .astore_n 2, 39, 0, 2, 0), (39, .aload_n 2, 40, 0, 2, 0), (40, .getfield 197, 43, 0, 0, 4), (43, .aload_n 0, 44, 0, 0, 0), (44, .getfield 20, 47, 0, 2, 0), (47, .getfield 191, 50, 0, 0, 1),
  (50, .if_icmp .le 4, 53, 0, 54, 0), (53, .return_, 54, 0, 0, 0), (54, .aload_n 2, 55, 0, 2, 0), (55, .iconst 0, 56, 0, 0, 0), (56, .aload_n 0, 57, 0, 0, 0), (57, .getfield 20, 60, 0, 2, 0), (60, .invokevirtual 180, 63, 0, 76, 2), (63, .aload_n 0, 64, 0, 0, 0),
  (64, .aload_n 2, 65, 0, 2, 0), (65, .invokevirtual 200, 68, 0, 115, 1), (68, .iinc 1 (-1), 71, (-1), 1, 0), (71, .goto (-63), 74, 0, 8, 0), (74, .return_, 75, 0, 0, 0)])
def m_Tree_giveBack : gM := (⟨"ExtentTree$Tree", "giveBack", "(LExtentTree$Node;)V"⟩, prog_4_method_32_code, 2, (none : Option FieldType), 1, 22, [], [
  (0, .aload_n 0, 1, 0, 0, 0), (1, .aload_n 1, 2, 0, 1, 0), (2, .iconst (-1), 3, (-1), 0, 0), (3, .invokevirtual 184, 6, 0, 116, 2), (6, .aload_n 0, 7, 0, 0, 0), (7, .getfield 9, 10, 0, 2, 6), (10, .aload_n 1, 11, 0, 1, 0), (11, .invokevirtual 207, 14, 0, 83, 1),
  (14, .return_, 15, 0, 0, 0)])
def m_Tree_countBlock : gM := (⟨"ExtentTree$Tree", "countBlock", "(LExtentTree$Node;I)V"⟩, prog_4_method_33_code, 3, (none : Option FieldType), 0, 0, [], [
  (0, .aload_n 0, 1, 0, 0, 0), (1, .dup, 2, 0, 0, 0), (2, .getfield 208, 5, 0, 2, 2), (5, .iload_n 2, 6, 0, 2, 0), (6, .iadd, 7, 0, 0, 0), (7, .putfield 208, 10, 0, 2, 2), (10, .aload_n 1, 11, 0, 1, 0), (11, .getfield 35, 14, 0, 0, 3),
  (14, .ifCond .ne 13, 17, 0, 27, 0), (17, .aload_n 0, 18, 0, 0, 0), (18, .dup, 19, 0, 0, 0), (19, .getfield 39, 22, 0, 2, 5), (22, .iload_n 2, 23, 0, 2, 0), (23, .iadd, 24, 0, 0, 0), (24, .putfield 39, 27, 0, 2, 5), (27, .return_, 28, 0, 0, 0)])
def m_Law_cell : gM := (⟨"ExtentTreeLaw", "cell", "([II)I"⟩, method_2_code, 2, (Option.some FieldType.int), 0, 0, [], [
  (0, .iload_n 1, 1, 0, 1, 0), (1, .aload_n 0, 2, 0, 0, 0), (2, .arraylength, 3, 0, 0, 0), (3, .if_icmp .ge 9, 6, 0, 12, 0), (6, .aload_n 0, 7, 0, 0, 0), (7, .iload_n 1, 8, 0, 1, 0), (8, .iaload, 9, 0, 0, 0), (9, .goto 4, 12, 0, 13, 0),
  (12, .iconst 0, 13, 0, 0, 0), (13, .ireturn, 14, 0, 0, 0)])
def m_Law_put : gM := (⟨"ExtentTreeLaw", "put", "(LExtentTree;IIIIZ[J)I"⟩, method_3_code, 8, (Option.some FieldType.int), 8, 191, [(0, 16, 19, 13), (0, 16, 23, 15), (0, 16, 27, 17)], [
  (0, .aload 6, 2, 0, 6, 0), (2, .iconst 0, 3, 0, 0, 0), (3, .aload_n 0, 4, 0, 0, 0), (4, .iload_n 1, 5, 0, 1, 0), (5, .iload_n 2, 6, 0, 2, 0), (6, .iload_n 3, 7, 0, 3, 0), (7, .iload 4, 9, 0, 4, 0), (9, .iload 5, 11, 0, 5, 0),
  (11, .invokevirtual 7, 14, 0, 1, 5), (14, .i2l, 15, 0, 0, 0), (15, .lastore, 16, 0, 0, 0), (16, .goto 15, 19, 0, 31, 0), (19, .astore 7, 21, 0, 7, 0), (21, .iconst 1, 22, 1, 0, 0), (22, .ireturn, 23, 0, 0, 0), (23, .astore 7, 25, 0, 7, 0),
  (25, .iconst 2, 26, 2, 0, 0), (26, .ireturn, 27, 0, 0, 0), (27, .astore 7, 29, 0, 7, 0), (29, .iconst 3, 30, 3, 0, 0), (30, .ireturn, 31, 0, 0, 0), (31, .iconst 0, 32, 0, 0, 0), (32, .ireturn, 33, 0, 0, 0)])
def m_Law_spread : gM := (⟨"ExtentTreeLaw", "spread", "(LExtentTree;IIIII[J)I"⟩, method_4_code, 8, (Option.some FieldType.int), 8, 193, [(0, 16, 19, 13)], [
  (0, .aload 6, 2, 0, 6, 0), (2, .iconst 0, 3, 0, 0, 0), (3, .aload_n 0, 4, 0, 0, 0), (4, .iload_n 1, 5, 0, 1, 0), (5, .iload_n 2, 6, 0, 2, 0), (6, .iload_n 3, 7, 0, 3, 0), (7, .iload 4, 9, 0, 4, 0), (9, .iload 5, 11, 0, 5, 0),
  (11, .invokevirtual 19, 14, 0, 2, 5), (14, .i2l, 15, 0, 0, 0), (15, .lastore, 16, 0, 0, 0), (16, .goto 7, 19, 0, 23, 0), (19, .astore 7, 21, 0, 7, 0), (21, .iconst 1, 22, 1, 0, 0), (22, .ireturn, 23, 0, 0, 0), (23, .iconst 0, 24, 0, 0, 0),
  (24, .ireturn, 25, 0, 0, 0)])
def m_Law_punch : gM := (⟨"ExtentTreeLaw", "punch", "(LExtentTree;III[J)I"⟩, method_5_code, 6, (Option.some FieldType.int), 8, 200, [(0, 12, 15, 13), (0, 12, 19, 17)], [
  (0, .aload 4, 2, 0, 4, 0), (2, .iconst 0, 3, 0, 0, 0), (3, .aload_n 0, 4, 0, 0, 0), (4, .iload_n 1, 5, 0, 1, 0), (5, .iload_n 2, 6, 0, 2, 0), (6, .iload_n 3, 7, 0, 3, 0), (7, .invokevirtual 23, 10, 0, 3, 3), (10, .i2l, 11, 0, 0, 0),
  (11, .lastore, 12, 0, 0, 0), (12, .goto 11, 15, 0, 23, 0), (15, .astore 5, 17, 0, 5, 0), (17, .iconst 1, 18, 1, 0, 0), (18, .ireturn, 19, 0, 0, 0), (19, .astore 5, 21, 0, 5, 0), (21, .iconst 2, 22, 2, 0, 0), (22, .ireturn, 23, 0, 0, 0),
  (23, .iconst 0, 24, 0, 0, 0), (24, .ireturn, 25, 0, 0, 0)])
def m_Law_strip : gM := (⟨"ExtentTreeLaw", "strip", "(LExtentTree;IIII[J)I"⟩, method_6_code, 7, (Option.some FieldType.int), 8, 203, [(0, 14, 17, 13)], [
  (0, .aload 5, 2, 0, 5, 0), (2, .iconst 0, 3, 0, 0, 0), (3, .aload_n 0, 4, 0, 0, 0), (4, .iload_n 1, 5, 0, 1, 0), (5, .iload_n 2, 6, 0, 2, 0), (6, .iload_n 3, 7, 0, 3, 0), (7, .iload 4, 9, 0, 4, 0), (9, .invokevirtual 27, 12, 0, 4, 4),
  (12, .i2l, 13, 0, 0, 0), (13, .lastore, 14, 0, 0, 0), (14, .goto 7, 17, 0, 21, 0), (17, .astore 6, 19, 0, 6, 0), (19, .iconst 1, 20, 1, 0, 0), (20, .ireturn, 21, 0, 0, 0), (21, .iconst 0, 22, 0, 0, 0), (22, .ireturn, 23, 0, 0, 0)])
def m_Law_write : gM := (⟨"ExtentTreeLaw", "write", "(LExtentTree;III[J)I"⟩, method_7_code, 6, (Option.some FieldType.int), 8, 200, [(0, 12, 15, 13), (0, 12, 19, 15), (0, 12, 23, 17)], [
  (0, .aload 4, 2, 0, 4, 0), (2, .iconst 0, 3, 0, 0, 0), (3, .aload_n 0, 4, 0, 0, 0), (4, .iload_n 1, 5, 0, 1, 0), (5, .iload_n 2, 6, 0, 2, 0), (6, .iload_n 3, 7, 0, 3, 0), (7, .invokevirtual 31, 10, 0, 5, 3), (10, .i2l, 11, 0, 0, 0),
  (11, .lastore, 12, 0, 0, 0), (12, .goto 15, 15, 0, 27, 0), (15, .astore 5, 17, 0, 5, 0), (17, .iconst 1, 18, 1, 0, 0), (18, .ireturn, 19, 0, 0, 0), (19, .astore 5, 21, 0, 5, 0), (21, .iconst 2, 22, 2, 0, 0), (22, .ireturn, 23, 0, 0, 0),
  (23, .astore 5, 25, 0, 5, 0), (25, .iconst 3, 26, 3, 0, 0), (26, .ireturn, 27, 0, 0, 0), (27, .iconst 0, 28, 0, 0, 0), (28, .ireturn, 29, 0, 0, 0)])
def m_Law_look : gM := (⟨"ExtentTreeLaw", "look", "(LExtentTree;II[J)I"⟩, method_8_code, 5, (Option.some FieldType.int), 7, 155, [(0, 10, 13, 13)], [
  (0, .aload_n 3, 1, 0, 3, 0), (1, .iconst 0, 2, 0, 0, 0), (2, .aload_n 0, 3, 0, 0, 0), (3, .iload_n 1, 4, 0, 1, 0), (4, .iload_n 2, 5, 0, 2, 0), (5, .invokevirtual 34, 8, 0, 6, 2), (8, .i2l, 9, 0, 0, 0), (9, .lastore, 10, 0, 0, 0),
  (10, .goto 7, 13, 0, 17, 0), (13, .astore 4, 15, 0, 4, 0), (15, .iconst 1, 16, 1, 0, 0), (16, .ireturn, 17, 0, 0, 0), (17, .iconst 0, 18, 0, 0, 0), (18, .ireturn, 19, 0, 0, 0)])
def m_Law_written : gM := (⟨"ExtentTreeLaw", "written", "(LExtentTree;II[J)I"⟩, method_9_code, 5, (Option.some FieldType.int), 7, 155, [(0, 17, 20, 13)], [
  (0, .aload_n 3, 1, 0, 3, 0), (1, .iconst 0, 2, 0, 0, 0), (2, .aload_n 0, 3, 0, 0, 0), (3, .iload_n 1, 4, 0, 1, 0), (4, .iload_n 2, 5, 0, 2, 0), (5, .invokevirtual 38, 8, 0, 7, 2), (8, .ifCond .eq 7, 11, 0, 15, 0), (11, .lconst 1, 12, 1, 0, 0),
  (12, .goto 4, 15, 0, 16, 0), (15, .lconst 0, 16, 0, 0, 0), (16, .lastore, 17, 0, 0, 0), (17, .goto 7, 20, 0, 24, 0), (20, .astore 4, 22, 0, 4, 0), (22, .iconst 1, 23, 1, 0, 0), (23, .ireturn, 24, 0, 0, 0), (24, .iconst 0, 25, 0, 0, 0),
  (25, .ireturn, 26, 0, 0, 0)])
def m_Law_reach : gM := (⟨"ExtentTreeLaw", "reach", "(LExtentTree;II[J)I"⟩, method_10_code, 5, (Option.some FieldType.int), 7, 155, [(0, 10, 13, 13)], [
  (0, .aload_n 3, 1, 0, 3, 0), (1, .iconst 0, 2, 0, 0, 0), (2, .aload_n 0, 3, 0, 0, 0), (3, .iload_n 1, 4, 0, 1, 0), (4, .iload_n 2, 5, 0, 2, 0), (5, .invokevirtual 42, 8, 0, 8, 2), (8, .i2l, 9, 0, 0, 0), (9, .lastore, 10, 0, 0, 0),
  (10, .goto 7, 13, 0, 17, 0), (13, .astore 4, 15, 0, 4, 0), (15, .iconst 1, 16, 1, 0, 0), (16, .ireturn, 17, 0, 0, 0), (17, .iconst 0, 18, 0, 0, 0), (18, .ireturn, 19, 0, 0, 0)])
def m_Law_count : gM := (⟨"ExtentTreeLaw", "count", "(LExtentTree;II[J)I"⟩, method_11_code, 5, (Option.some FieldType.int), 7, 113, [(0, 10, 13, 13)], [
  (0, .aload_n 3, 1, 0, 3, 0), (1, .iconst 0, 2, 0, 0, 0), (2, .aload_n 0, 3, 0, 0, 0), (3, .iload_n 1, 4, 0, 1, 0), (4, .iload_n 2, 5, 0, 2, 0), (5, .invokevirtual 45, 8, 0, 9, 2), (8, .i2l, 9, 0, 0, 0), (9, .lastore, 10, 0, 0, 0),
  (10, .goto 7, 13, 0, 17, 0), (13, .astore 4, 15, 0, 4, 0), (15, .iconst 1, 16, 1, 0, 0), (16, .ireturn, 17, 0, 0, 0), (17, .iconst 0, 18, 0, 0, 0), (18, .ireturn, 19, 0, 0, 0)])
def m_Law_rootByte : gM := (⟨"ExtentTreeLaw", "rootByte", "(LExtentTree;II[J)I"⟩, method_12_code, 5, (Option.some FieldType.int), 7, 112, [(0, 10, 13, 13), (0, 10, 17, 51)], [
  (0, .aload_n 3, 1, 0, 3, 0), (1, .iconst 0, 2, 0, 0, 0), (2, .aload_n 0, 3, 0, 0, 0), (3, .iload_n 1, 4, 0, 1, 0), (4, .iload_n 2, 5, 0, 2, 0), (5, .invokevirtual 48, 8, 0, 11, 2), (8, .i2l, 9, 0, 0, 0), (9, .lastore, 10, 0, 0, 0),
  (10, .goto 11, 13, 0, 21, 0), (13, .astore 4, 15, 0, 4, 0), (15, .iconst 1, 16, 1, 0, 0), (16, .ireturn, 17, 0, 0, 0), (17, .astore 4, 19, 0, 4, 0), (19, .iconst 2, 20, 2, 0, 0), (20, .ireturn, 21, 0, 0, 0), (21, .iconst 0, 22, 0, 0, 0),
  (22, .ireturn, 23, 0, 0, 0)])
def m_Law_nodeByte : gM := (⟨"ExtentTreeLaw", "nodeByte", "(LExtentTree;II[J)I"⟩, method_13_code, 5, (Option.some FieldType.int), 7, 112, [(0, 10, 13, 51)], [
  (0, .aload_n 3, 1, 0, 3, 0), (1, .iconst 0, 2, 0, 0, 0), (2, .aload_n 0, 3, 0, 0, 0), (3, .iload_n 1, 4, 0, 1, 0), (4, .iload_n 2, 5, 0, 2, 0), (5, .invokevirtual 53, 8, 0, 12, 2), (8, .i2l, 9, 0, 0, 0), (9, .lastore, 10, 0, 0, 0),
  (10, .goto 7, 13, 0, 17, 0), (13, .astore 4, 15, 0, 4, 0), (15, .iconst 1, 16, 1, 0, 0), (16, .ireturn, 17, 0, 0, 0), (17, .iconst 0, 18, 0, 0, 0), (18, .ireturn, 19, 0, 0, 0)])
def m_Law_law : gM := (x, code, maxLocals, ret, 9, 229, [], [
  (0, .new 8, 3, 0, 3, 0), (3, .dup, 4, 0, 0, 0), (4, .aload_n 0, 5, 0, 0, 0), (5, .iconst 0, 6, 0, 0, 0), (6, .invokestatic 56, 9, 0, 117, 2), (9, .invokespecial 62, 12, 0, 0, 1), (12, .astore_n 1, 13, 0, 1, 0), (13, .new 65, 16, 0, 4, 0),
  (16, .dup, 17, 0, 0, 0), (17, .aload_n 0, 18, 0, 0, 0), (18, .iconst 0, 19, 0, 0, 0), (19, .invokestatic 56, 22, 0, 117, 2), (22, .invokespecial 67, 25, 0, 18, 1), (25, .astore_n 2, 26, 0, 2, 0), (26, .iconst 1, 27, 1, 0, 0), (27, .newarray .long, 29, 0, 1, 0),
  (29, .astore_n 3, 30, 0, 3, 0), (30, .iconst 1, 31, 1, 0, 0), (31, .istore 4, 33, 0, 4, 0), (33, .iload 4, 35, 0, 4, 0), (35, .aload_n 0, 36, 0, 0, 0), (36, .arraylength, 37, 0, 0, 0), (37, .bipush 6, 39, 6, 0, 0), (39, .isub, 40, 0, 0, 0),
  (40, .if_icmp .gt 982, 43, 0, 1022, 0), (43, .aload_n 0, 44, 0, 0, 0), (44, .iload 4, 46, 0, 4, 0), (46, .iaload, 47, 0, 0, 0), (47, .bipush 15, 49, 15, 0, 0), (49, .iand, 50, 0, 0, 0), (50, .tableswitch 966 0 11 #[62, 182, 286, 366, 458, 538, 606, 681, 749, 817, 830, 898], 112, 0, 0, 0), (112, .aload_n 1, 113, 0, 1, 0),
  (113, .aload_n 0, 114, 0, 0, 0), (114, .iload 4, 116, 0, 4, 0), (116, .iconst 1, 117, 1, 0, 0), (117, .iadd, 118, 0, 0, 0), (118, .iaload, 119, 0, 0, 0), (119, .aload_n 0, 120, 0, 0, 0), (120, .iload 4, 122, 0, 4, 0), (122, .iconst 2, 123, 2, 0, 0),
  (123, .iadd, 124, 0, 0, 0), (124, .iaload, 125, 0, 0, 0), (125, .aload_n 0, 126, 0, 0, 0), (126, .iload 4, 128, 0, 4, 0), (128, .iconst 3, 129, 3, 0, 0), (129, .iadd, 130, 0, 0, 0), (130, .iaload, 131, 0, 0, 0), (131, .aload_n 0, 132, 0, 0, 0),
  (132, .iload 4, 134, 0, 4, 0), (134, .iconst 4, 135, 4, 0, 0), (135, .iadd, 136, 0, 0, 0), (136, .iaload, 137, 0, 0, 0), (137, .aload_n 0, 138, 0, 0, 0), (138, .iload 4, 140, 0, 4, 0), (140, .iconst 5, 141, 5, 0, 0), (141, .iadd, 142, 0, 0, 0),
  (142, .iaload, 143, 0, 0, 0), (143, .ifCond .eq 7, 146, 0, 150, 0), (146, .iconst 1, 147, 1, 0, 0), (147, .goto 4, 150, 0, 151, 0), (150, .iconst 0, 151, 0, 0, 0), (151, .aload_n 3, 152, 0, 3, 0), (152, .invokestatic 68, 155, 5, 118, 7), (155, .istore 5, 157, 0, 5, 0),
  (157, .aload_n 2, 158, 0, 2, 0), (158, .aload_n 0, 159, 0, 0, 0), (159, .iload 4, 161, 0, 4, 0), (161, .iconst 1, 162, 1, 0, 0), (162, .iadd, 163, 0, 0, 0), (163, .iaload, 164, 0, 0, 0), (164, .aload_n 0, 165, 0, 0, 0), (165, .iload 4, 167, 0, 4, 0),
  (167, .iconst 2, 168, 2, 0, 0), (168, .iadd, 169, 0, 0, 0), (169, .iaload, 170, 0, 0, 0), (170, .aload_n 0, 171, 0, 0, 0), (171, .iload 4, 173, 0, 4, 0), (173, .iconst 3, 174, 3, 0, 0), (174, .iadd, 175, 0, 0, 0), (175, .iaload, 176, 0, 0, 0),
  (176, .aload_n 0, 177, 0, 0, 0), (177, .iload 4, 179, 0, 4, 0), (179, .iconst 4, 180, 4, 0, 0), (180, .iadd, 181, 0, 0, 0), (181, .iaload, 182, 0, 0, 0), (182, .aload_n 0, 183, 0, 0, 0), (183, .iload 4, 185, 0, 4, 0), (185, .iconst 5, 186, 5, 0, 0),
  (186, .iadd, 187, 0, 0, 0), (187, .iaload, 188, 0, 0, 0), (188, .ifCond .eq 7, 191, 0, 195, 0), (191, .iconst 1, 192, 1, 0, 0), (192, .goto 4, 195, 0, 196, 0), (195, .iconst 0, 196, 0, 0, 0), (196, .invokevirtual 71, 199, 0, 43, 5), (199, .istore 6, 201, 0, 6, 0),
  (201, .aload_n 2, 202, 0, 2, 0), (202, .invokevirtual 72, 205, 0, 19, 0), (205, .iload 5, 207, 0, 5, 0), (207, .if_icmp .eq 5, 210, 0, 212, 0), (210, .iconst 0, 211, 0, 0, 0), (211, .ireturn, 212, 0, 0, 0), (212, .iload 5, 214, 0, 5, 0), (214, .ifCond .ne 15, 217, 0, 229, 0),
  (217, .aload_n 3, 218, 0, 3, 0), (218, .iconst 0, 219, 0, 0, 0), (219, .laload, 220, 0, 0, 0), (220, .iload 6, 222, 0, 6, 0), (222, .i2l, 223, 0, 0, 0), (223, .lcmp, 224, 0, 0, 0), (224, .ifCond .eq 5, 227, 0, 229, 0), (227, .iconst 0, 228, 0, 0, 0),
  (228, .ireturn, 229, 0, 0, 0), (229, .goto 787, 232, 0, 1016, 0), (232, .aload_n 1, 233, 0, 1, 0), (233, .aload_n 0, 234, 0, 0, 0), (234, .iload 4, 236, 0, 4, 0), (236, .iconst 1, 237, 1, 0, 0), (237, .iadd, 238, 0, 0, 0), (238, .iaload, 239, 0, 0, 0),
  (239, .aload_n 0, 240, 0, 0, 0), (240, .iload 4, 242, 0, 4, 0), (242, .iconst 2, 243, 2, 0, 0), (243, .iadd, 244, 0, 0, 0), (244, .iaload, 245, 0, 0, 0), (245, .aload_n 0, 246, 0, 0, 0), (246, .iload 4, 248, 0, 4, 0), (248, .iconst 3, 249, 3, 0, 0),
  (249, .iadd, 250, 0, 0, 0), (250, .iaload, 251, 0, 0, 0), (251, .aload_n 0, 252, 0, 0, 0), (252, .iload 4, 254, 0, 4, 0), (254, .iconst 4, 255, 4, 0, 0), (255, .iadd, 256, 0, 0, 0), (256, .iaload, 257, 0, 0, 0), (257, .aload_n 0, 258, 0, 0, 0),
  (258, .iload 4, 260, 0, 4, 0), (260, .iconst 5, 261, 5, 0, 0), (261, .iadd, 262, 0, 0, 0), (262, .iaload, 263, 0, 0, 0), (263, .aload_n 3, 264, 0, 3, 0), (264, .invokestatic 76, 267, 5, 119, 7), (267, .istore 5, 269, 0, 5, 0), (269, .aload_n 2, 270, 0, 2, 0),
  (270, .aload_n 0, 271, 0, 0, 0), (271, .iload 4, 273, 0, 4, 0), (273, .iconst 1, 274, 1, 0, 0), (274, .iadd, 275, 0, 0, 0), (275, .iaload, 276, 0, 0, 0), (276, .aload_n 0, 277, 0, 0, 0), (277, .iload 4, 279, 0, 4, 0), (279, .iconst 2, 280, 2, 0, 0),
  (280, .iadd, 281, 0, 0, 0), (281, .iaload, 282, 0, 0, 0), (282, .aload_n 0, 283, 0, 0, 0), (283, .iload 4, 285, 0, 4, 0), (285, .iconst 3, 286, 3, 0, 0), (286, .iadd, 287, 0, 0, 0), (287, .iaload, 288, 0, 0, 0), (288, .aload_n 0, 289, 0, 0, 0),
  (289, .iload 4, 291, 0, 4, 0), (291, .iconst 4, 292, 4, 0, 0), (292, .iadd, 293, 0, 0, 0), (293, .iaload, 294, 0, 0, 0), (294, .aload_n 0, 295, 0, 0, 0), (295, .iload 4, 297, 0, 4, 0), (297, .iconst 5, 298, 5, 0, 0), (298, .iadd, 299, 0, 0, 0),
  (299, .iaload, 300, 0, 0, 0), (300, .invokevirtual 79, 303, 0, 45, 5), (303, .istore 6, 305, 0, 6, 0), (305, .aload_n 2, 306, 0, 2, 0), (306, .invokevirtual 72, 309, 0, 19, 0), (309, .iload 5, 311, 0, 5, 0), (311, .if_icmp .eq 5, 314, 0, 316, 0), (314, .iconst 0, 315, 0, 0, 0),
  (315, .ireturn, 316, 0, 0, 0), (316, .iload 5, 318, 0, 5, 0), (318, .ifCond .ne 15, 321, 0, 333, 0), (321, .aload_n 3, 322, 0, 3, 0), (322, .iconst 0, 323, 0, 0, 0), (323, .laload, 324, 0, 0, 0), (324, .iload 6, 326, 0, 6, 0), (326, .i2l, 327, 0, 0, 0),
  (327, .lcmp, 328, 0, 0, 0), (328, .ifCond .eq 5, 331, 0, 333, 0), (331, .iconst 0, 332, 0, 0, 0), (332, .ireturn, 333, 0, 0, 0), (333, .goto 683, 336, 0, 1016, 0), (336, .aload_n 1, 337, 0, 1, 0), (337, .aload_n 0, 338, 0, 0, 0), (338, .iload 4, 340, 0, 4, 0),
  (340, .iconst 1, 341, 1, 0, 0), (341, .iadd, 342, 0, 0, 0), (342, .iaload, 343, 0, 0, 0), (343, .aload_n 0, 344, 0, 0, 0), (344, .iload 4, 346, 0, 4, 0), (346, .iconst 2, 347, 2, 0, 0), (347, .iadd, 348, 0, 0, 0), (348, .iaload, 349, 0, 0, 0),
  (349, .aload_n 0, 350, 0, 0, 0), (350, .iload 4, 352, 0, 4, 0), (352, .iconst 3, 353, 3, 0, 0), (353, .iadd, 354, 0, 0, 0), (354, .iaload, 355, 0, 0, 0), (355, .aload_n 3, 356, 0, 3, 0), (356, .invokestatic 80, 359, 5, 120, 5), (359, .istore 5, 361, 0, 5, 0),
  (361, .aload_n 2, 362, 0, 2, 0), (362, .aload_n 0, 363, 0, 0, 0), (363, .iload 4, 365, 0, 4, 0), (365, .iconst 1, 366, 1, 0, 0), (366, .iadd, 367, 0, 0, 0), (367, .iaload, 368, 0, 0, 0), (368, .aload_n 0, 369, 0, 0, 0), (369, .iload 4, 371, 0, 4, 0),
  (371, .iconst 2, 372, 2, 0, 0), (372, .iadd, 373, 0, 0, 0), (373, .iaload, 374, 0, 0, 0), (374, .aload_n 0, 375, 0, 0, 0), (375, .iload 4, 377, 0, 4, 0), (377, .iconst 3, 378, 3, 0, 0), (378, .iadd, 379, 0, 0, 0), (379, .iaload, 380, 0, 0, 0),
  (380, .invokevirtual 83, 383, 0, 46, 3), (383, .istore 6, 385, 0, 6, 0), (385, .aload_n 2, 386, 0, 2, 0), (386, .invokevirtual 72, 389, 0, 19, 0), (389, .iload 5, 391, 0, 5, 0), (391, .if_icmp .eq 5, 394, 0, 396, 0), (394, .iconst 0, 395, 0, 0, 0), (395, .ireturn, 396, 0, 0, 0),
  (396, .iload 5, 398, 0, 5, 0), (398, .ifCond .ne 15, 401, 0, 413, 0), (401, .aload_n 3, 402, 0, 3, 0), (402, .iconst 0, 403, 0, 0, 0), (403, .laload, 404, 0, 0, 0), (404, .iload 6, 406, 0, 6, 0), (406, .i2l, 407, 0, 0, 0), (407, .lcmp, 408, 0, 0, 0),
  (408, .ifCond .eq 5, 411, 0, 413, 0), (411, .iconst 0, 412, 0, 0, 0), (412, .ireturn, 413, 0, 0, 0), (413, .goto 603, 416, 0, 1016, 0), (416, .aload_n 1, 417, 0, 1, 0), (417, .aload_n 0, 418, 0, 0, 0), (418, .iload 4, 420, 0, 4, 0), (420, .iconst 1, 421, 1, 0, 0),
  (421, .iadd, 422, 0, 0, 0), (422, .iaload, 423, 0, 0, 0), (423, .aload_n 0, 424, 0, 0, 0), (424, .iload 4, 426, 0, 4, 0), (426, .iconst 2, 427, 2, 0, 0), (427, .iadd, 428, 0, 0, 0), (428, .iaload, 429, 0, 0, 0), (429, .aload_n 0, 430, 0, 0, 0),
  (430, .iload 4, 432, 0, 4, 0), (432, .iconst 3, 433, 3, 0, 0), (433, .iadd, 434, 0, 0, 0), (434, .iaload, 435, 0, 0, 0), (435, .aload_n 0, 436, 0, 0, 0), (436, .iload 4, 438, 0, 4, 0), (438, .iconst 4, 439, 4, 0, 0), (439, .iadd, 440, 0, 0, 0),
  (440, .iaload, 441, 0, 0, 0), (441, .aload_n 3, 442, 0, 3, 0), (442, .invokestatic 84, 445, 5, 121, 6), (445, .istore 5, 447, 0, 5, 0), (447, .aload_n 2, 448, 0, 2, 0), (448, .aload_n 0, 449, 0, 0, 0), (449, .iload 4, 451, 0, 4, 0), (451, .iconst 1, 452, 1, 0, 0),
  (452, .iadd, 453, 0, 0, 0), (453, .iaload, 454, 0, 0, 0), (454, .aload_n 0, 455, 0, 0, 0), (455, .iload 4, 457, 0, 4, 0), (457, .iconst 2, 458, 2, 0, 0), (458, .iadd, 459, 0, 0, 0), (459, .iaload, 460, 0, 0, 0), (460, .aload_n 0, 461, 0, 0, 0),
  (461, .iload 4, 463, 0, 4, 0), (463, .iconst 3, 464, 3, 0, 0), (464, .iadd, 465, 0, 0, 0), (465, .iaload, 466, 0, 0, 0), (466, .aload_n 0, 467, 0, 0, 0), (467, .iload 4, 469, 0, 4, 0), (469, .iconst 4, 470, 4, 0, 0), (470, .iadd, 471, 0, 0, 0),
  (471, .iaload, 472, 0, 0, 0), (472, .invokevirtual 87, 475, 0, 47, 4), (475, .istore 6, 477, 0, 6, 0), (477, .aload_n 2, 478, 0, 2, 0), (478, .invokevirtual 72, 481, 0, 19, 0), (481, .iload 5, 483, 0, 5, 0), (483, .if_icmp .eq 5, 486, 0, 488, 0), (486, .iconst 0, 487, 0, 0, 0),
  (487, .ireturn, 488, 0, 0, 0), (488, .iload 5, 490, 0, 5, 0), (490, .ifCond .ne 15, 493, 0, 505, 0), (493, .aload_n 3, 494, 0, 3, 0), (494, .iconst 0, 495, 0, 0, 0), (495, .laload, 496, 0, 0, 0), (496, .iload 6, 498, 0, 6, 0), (498, .i2l, 499, 0, 0, 0),
  (499, .lcmp, 500, 0, 0, 0), (500, .ifCond .eq 5, 503, 0, 505, 0), (503, .iconst 0, 504, 0, 0, 0), (504, .ireturn, 505, 0, 0, 0), (505, .goto 511, 508, 0, 1016, 0), (508, .aload_n 1, 509, 0, 1, 0), (509, .aload_n 0, 510, 0, 0, 0), (510, .iload 4, 512, 0, 4, 0),
  (512, .iconst 1, 513, 1, 0, 0), (513, .iadd, 514, 0, 0, 0), (514, .iaload, 515, 0, 0, 0), (515, .aload_n 0, 516, 0, 0, 0), (516, .iload 4, 518, 0, 4, 0), (518, .iconst 2, 519, 2, 0, 0), (519, .iadd, 520, 0, 0, 0), (520, .iaload, 521, 0, 0, 0),
  (521, .aload_n 0, 522, 0, 0, 0), (522, .iload 4, 524, 0, 4, 0), (524, .iconst 3, 525, 3, 0, 0), (525, .iadd, 526, 0, 0, 0), (526, .iaload, 527, 0, 0, 0), (527, .aload_n 3, 528, 0, 3, 0), (528, .invokestatic 88, 531, 5, 122, 5), (531, .istore 5, 533, 0, 5, 0),
  (533, .aload_n 2, 534, 0, 2, 0), (534, .aload_n 0, 535, 0, 0, 0), (535, .iload 4, 537, 0, 4, 0), (537, .iconst 1, 538, 1, 0, 0), (538, .iadd, 539, 0, 0, 0), (539, .iaload, 540, 0, 0, 0), (540, .aload_n 0, 541, 0, 0, 0), (541, .iload 4, 543, 0, 4, 0),
  (543, .iconst 2, 544, 2, 0, 0), (544, .iadd, 545, 0, 0, 0), (545, .iaload, 546, 0, 0, 0), (546, .aload_n 0, 547, 0, 0, 0), (547, .iload 4, 549, 0, 4, 0), (549, .iconst 3, 550, 3, 0, 0), (550, .iadd, 551, 0, 0, 0), (551, .iaload, 552, 0, 0, 0),
  (552, .invokevirtual 90, 555, 0, 48, 3), (555, .istore 6, 557, 0, 6, 0), (557, .aload_n 2, 558, 0, 2, 0), (558, .invokevirtual 72, 561, 0, 19, 0), (561, .iload 5, 563, 0, 5, 0), (563, .if_icmp .eq 5, 566, 0, 568, 0), (566, .iconst 0, 567, 0, 0, 0), (567, .ireturn, 568, 0, 0, 0),
  (568, .iload 5, 570, 0, 5, 0), (570, .ifCond .ne 15, 573, 0, 585, 0), (573, .aload_n 3, 574, 0, 3, 0), (574, .iconst 0, 575, 0, 0, 0), (575, .laload, 576, 0, 0, 0), (576, .iload 6, 578, 0, 6, 0), (578, .i2l, 579, 0, 0, 0), (579, .lcmp, 580, 0, 0, 0),
  (580, .ifCond .eq 5, 583, 0, 585, 0), (583, .iconst 0, 584, 0, 0, 0), (584, .ireturn, 585, 0, 0, 0), (585, .goto 431, 588, 0, 1016, 0), (588, .aload_n 1, 589, 0, 1, 0), (589, .aload_n 0, 590, 0, 0, 0), (590, .iload 4, 592, 0, 4, 0), (592, .iconst 1, 593, 1, 0, 0),
  (593, .iadd, 594, 0, 0, 0), (594, .iaload, 595, 0, 0, 0), (595, .aload_n 0, 596, 0, 0, 0), (596, .iload 4, 598, 0, 4, 0), (598, .iconst 2, 599, 2, 0, 0), (599, .iadd, 600, 0, 0, 0), (600, .iaload, 601, 0, 0, 0), (601, .aload_n 3, 602, 0, 3, 0),
  (602, .invokestatic 91, 605, 5, 123, 4), (605, .istore 5, 607, 0, 5, 0), (607, .aload_n 2, 608, 0, 2, 0), (608, .aload_n 0, 609, 0, 0, 0), (609, .iload 4, 611, 0, 4, 0), (611, .iconst 1, 612, 1, 0, 0), (612, .iadd, 613, 0, 0, 0), (613, .iaload, 614, 0, 0, 0),
  (614, .aload_n 0, 615, 0, 0, 0), (615, .iload 4, 617, 0, 4, 0), (617, .iconst 2, 618, 2, 0, 0), (618, .iadd, 619, 0, 0, 0), (619, .iaload, 620, 0, 0, 0), (620, .invokevirtual 94, 623, 0, 50, 2), (623, .istore 6, 625, 0, 6, 0), (625, .aload_n 2, 626, 0, 2, 0),
  (626, .invokevirtual 72, 629, 0, 19, 0), (629, .iload 5, 631, 0, 5, 0), (631, .if_icmp .eq 5, 634, 0, 636, 0), (634, .iconst 0, 635, 0, 0, 0), (635, .ireturn, 636, 0, 0, 0), (636, .iload 5, 638, 0, 5, 0), (638, .ifCond .ne 15, 641, 0, 653, 0), (641, .aload_n 3, 642, 0, 3, 0),
  (642, .iconst 0, 643, 0, 0, 0), (643, .laload, 644, 0, 0, 0), (644, .iload 6, 646, 0, 6, 0), (646, .i2l, 647, 0, 0, 0), (647, .lcmp, 648, 0, 0, 0), (648, .ifCond .eq 5, 651, 0, 653, 0), (651, .iconst 0, 652, 0, 0, 0), (652, .ireturn, 653, 0, 0, 0),
  (653, .goto 363, 656, 0, 1016, 0), (656, .aload_n 1, 657, 0, 1, 0), (657, .aload_n 0, 658, 0, 0, 0), (658, .iload 4, 660, 0, 4, 0), (660, .iconst 1, 661, 1, 0, 0), (661, .iadd, 662, 0, 0, 0), (662, .iaload, 663, 0, 0, 0), (663, .aload_n 0, 664, 0, 0, 0),
  (664, .iload 4, 666, 0, 4, 0), (666, .iconst 2, 667, 2, 0, 0), (667, .iadd, 668, 0, 0, 0), (668, .iaload, 669, 0, 0, 0), (669, .aload_n 3, 670, 0, 3, 0), (670, .invokestatic 95, 673, 5, 124, 4), (673, .istore 5, 675, 0, 5, 0), (675, .aload_n 2, 676, 0, 2, 0),
  (676, .aload_n 0, 677, 0, 0, 0), (677, .iload 4, 679, 0, 4, 0), (679, .iconst 1, 680, 1, 0, 0), (680, .iadd, 681, 0, 0, 0), (681, .iaload, 682, 0, 0, 0), (682, .aload_n 0, 683, 0, 0, 0), (683, .iload 4, 685, 0, 4, 0), (685, .iconst 2, 686, 2, 0, 0),
  (686, .iadd, 687, 0, 0, 0), (687, .iaload, 688, 0, 0, 0), (688, .invokevirtual 97, 691, 0, 51, 2), (691, .istore 6, 693, 0, 6, 0), (693, .aload_n 2, 694, 0, 2, 0), (694, .invokevirtual 72, 697, 0, 19, 0), (697, .iload 5, 699, 0, 5, 0), (699, .if_icmp .eq 5, 702, 0, 704, 0),
  (702, .iconst 0, 703, 0, 0, 0), (703, .ireturn, 704, 0, 0, 0), (704, .iload 5, 706, 0, 5, 0), (706, .ifCond .ne 22, 709, 0, 728, 0), (709, .aload_n 3, 710, 0, 3, 0), (710, .iconst 0, 711, 0, 0, 0), (711, .laload, 712, 0, 0, 0), (712, .iload 6, 714, 0, 6, 0),
  (714, .ifCond .eq 7, 717, 0, 721, 0), (717, .lconst 1, 718, 1, 0, 0), (718, .goto 4, 721, 0, 722, 0), (721, .lconst 0, 722, 0, 0, 0), (722, .lcmp, 723, 0, 0, 0), (723, .ifCond .eq 5, 726, 0, 728, 0), (726, .iconst 0, 727, 0, 0, 0), (727, .ireturn, 728, 0, 0, 0),
  (728, .goto 288, 731, 0, 1016, 0), (731, .aload_n 1, 732, 0, 1, 0), (732, .aload_n 0, 733, 0, 0, 0), (733, .iload 4, 735, 0, 4, 0), (735, .iconst 1, 736, 1, 0, 0), (736, .iadd, 737, 0, 0, 0), (737, .iaload, 738, 0, 0, 0), (738, .aload_n 0, 739, 0, 0, 0),
  (739, .iload 4, 741, 0, 4, 0), (741, .iconst 2, 742, 2, 0, 0), (742, .iadd, 743, 0, 0, 0), (743, .iaload, 744, 0, 0, 0), (744, .aload_n 3, 745, 0, 3, 0), (745, .invokestatic 98, 748, 5, 125, 4), (748, .istore 5, 750, 0, 5, 0), (750, .aload_n 2, 751, 0, 2, 0),
  (751, .aload_n 0, 752, 0, 0, 0), (752, .iload 4, 754, 0, 4, 0), (754, .iconst 1, 755, 1, 0, 0), (755, .iadd, 756, 0, 0, 0), (756, .iaload, 757, 0, 0, 0), (757, .aload_n 0, 758, 0, 0, 0), (758, .iload 4, 760, 0, 4, 0), (760, .iconst 2, 761, 2, 0, 0),
  (761, .iadd, 762, 0, 0, 0), (762, .iaload, 763, 0, 0, 0), (763, .invokevirtual 100, 766, 0, 52, 2), (766, .istore 6, 768, 0, 6, 0), (768, .aload_n 2, 769, 0, 2, 0), (769, .invokevirtual 72, 772, 0, 19, 0), (772, .iload 5, 774, 0, 5, 0), (774, .if_icmp .eq 5, 777, 0, 779, 0),
  (777, .iconst 0, 778, 0, 0, 0), (778, .ireturn, 779, 0, 0, 0), (779, .iload 5, 781, 0, 5, 0), (781, .ifCond .ne 15, 784, 0, 796, 0), (784, .aload_n 3, 785, 0, 3, 0), (785, .iconst 0, 786, 0, 0, 0), (786, .laload, 787, 0, 0, 0), (787, .iload 6, 789, 0, 6, 0),
  (789, .i2l, 790, 0, 0, 0), (790, .lcmp, 791, 0, 0, 0), (791, .ifCond .eq 5, 794, 0, 796, 0), (794, .iconst 0, 795, 0, 0, 0), (795, .ireturn, 796, 0, 0, 0), (796, .goto 220, 799, 0, 1016, 0), (799, .aload_n 1, 800, 0, 1, 0), (800, .aload_n 0, 801, 0, 0, 0),
  (801, .iload 4, 803, 0, 4, 0), (803, .iconst 1, 804, 1, 0, 0), (804, .iadd, 805, 0, 0, 0), (805, .iaload, 806, 0, 0, 0), (806, .aload_n 0, 807, 0, 0, 0), (807, .iload 4, 809, 0, 4, 0), (809, .iconst 2, 810, 2, 0, 0), (810, .iadd, 811, 0, 0, 0),
  (811, .iaload, 812, 0, 0, 0), (812, .aload_n 3, 813, 0, 3, 0), (813, .invokestatic 101, 816, 5, 126, 4), (816, .istore 5, 818, 0, 5, 0), (818, .aload_n 2, 819, 0, 2, 0), (819, .aload_n 0, 820, 0, 0, 0), (820, .iload 4, 822, 0, 4, 0), (822, .iconst 1, 823, 1, 0, 0),
  (823, .iadd, 824, 0, 0, 0), (824, .iaload, 825, 0, 0, 0), (825, .aload_n 0, 826, 0, 0, 0), (826, .iload 4, 828, 0, 4, 0), (828, .iconst 2, 829, 2, 0, 0), (829, .iadd, 830, 0, 0, 0), (830, .iaload, 831, 0, 0, 0), (831, .invokevirtual 103, 834, 0, 53, 2),
  (834, .istore 6, 836, 0, 6, 0), (836, .aload_n 2, 837, 0, 2, 0), (837, .invokevirtual 72, 840, 0, 19, 0), (840, .iload 5, 842, 0, 5, 0), (842, .if_icmp .eq 5, 845, 0, 847, 0), (845, .iconst 0, 846, 0, 0, 0), (846, .ireturn, 847, 0, 0, 0), (847, .iload 5, 849, 0, 5, 0),
  (849, .ifCond .ne 15, 852, 0, 864, 0), (852, .aload_n 3, 853, 0, 3, 0), (853, .iconst 0, 854, 0, 0, 0), (854, .laload, 855, 0, 0, 0), (855, .iload 6, 857, 0, 6, 0), (857, .i2l, 858, 0, 0, 0), (858, .lcmp, 859, 0, 0, 0), (859, .ifCond .eq 5, 862, 0, 864, 0),
  (862, .iconst 0, 863, 0, 0, 0), (863, .ireturn, 864, 0, 0, 0), (864, .goto 152, 867, 0, 1016, 0), (867, .aload_n 1, 868, 0, 1, 0), (868, .invokevirtual 104, 871, 0, 10, 0), (871, .aload_n 2, 872, 0, 2, 0), (872, .invokevirtual 107, 875, 0, 21, 0), (875, .if_icmp .eq 141, 878, 0, 1016, 0),
  (878, .iconst 0, 879, 0, 0, 0), (879, .ireturn, 880, 0, 0, 0), (880, .aload_n 1, 881, 0, 1, 0), (881, .aload_n 0, 882, 0, 0, 0), (882, .iload 4, 884, 0, 4, 0), (884, .iconst 1, 885, 1, 0, 0), (885, .iadd, 886, 0, 0, 0), (886, .iaload, 887, 0, 0, 0),
  (887, .aload_n 0, 888, 0, 0, 0), (888, .iload 4, 890, 0, 4, 0), (890, .iconst 2, 891, 2, 0, 0), (891, .iadd, 892, 0, 0, 0), (892, .iaload, 893, 0, 0, 0), (893, .aload_n 3, 894, 0, 3, 0), (894, .invokestatic 108, 897, 5, 127, 4), (897, .istore 5, 899, 0, 5, 0),
  (899, .aload_n 2, 900, 0, 2, 0), (900, .aload_n 0, 901, 0, 0, 0), (901, .iload 4, 903, 0, 4, 0), (903, .iconst 1, 904, 1, 0, 0), (904, .iadd, 905, 0, 0, 0), (905, .iaload, 906, 0, 0, 0), (906, .aload_n 0, 907, 0, 0, 0), (907, .iload 4, 909, 0, 4, 0),
  (909, .iconst 2, 910, 2, 0, 0), (910, .iadd, 911, 0, 0, 0), (911, .iaload, 912, 0, 0, 0), (912, .invokevirtual 110, 915, 0, 60, 2), (915, .istore 6, 917, 0, 6, 0), (917, .aload_n 2, 918, 0, 2, 0), (918, .invokevirtual 72, 921, 0, 19, 0), (921, .iload 5, 923, 0, 5, 0),
  (923, .if_icmp .eq 5, 926, 0, 928, 0), (926, .iconst 0, 927, 0, 0, 0), (927, .ireturn, 928, 0, 0, 0), (928, .iload 5, 930, 0, 5, 0), (930, .ifCond .ne 15, 933, 0, 945, 0), (933, .aload_n 3, 934, 0, 3, 0), (934, .iconst 0, 935, 0, 0, 0), (935, .laload, 936, 0, 0, 0),
  (936, .iload 6, 938, 0, 6, 0), (938, .i2l, 939, 0, 0, 0), (939, .lcmp, 940, 0, 0, 0), (940, .ifCond .eq 5, 943, 0, 945, 0), (943, .iconst 0, 944, 0, 0, 0), (944, .ireturn, 945, 0, 0, 0), (945, .goto 71, 948, 0, 1016, 0), (948, .aload_n 1, 949, 0, 1, 0),
  (949, .aload_n 0, 950, 0, 0, 0), (950, .iload 4, 952, 0, 4, 0), (952, .iconst 1, 953, 1, 0, 0), (953, .iadd, 954, 0, 0, 0), (954, .iaload, 955, 0, 0, 0), (955, .aload_n 0, 956, 0, 0, 0), (956, .iload 4, 958, 0, 4, 0), (958, .iconst 2, 959, 2, 0, 0),
  (959, .iadd, 960, 0, 0, 0), (960, .iaload, 961, 0, 0, 0), (961, .aload_n 3, 962, 0, 3, 0), (962, .invokestatic 111, 965, 5, 128, 4), (965, .istore 5, 967, 0, 5, 0), (967, .aload_n 2, 968, 0, 2, 0), (968, .aload_n 0, 969, 0, 0, 0), (969, .iload 4, 971, 0, 4, 0),
  (971, .iconst 1, 972, 1, 0, 0), (972, .iadd, 973, 0, 0, 0), (973, .iaload, 974, 0, 0, 0), (974, .aload_n 0, 975, 0, 0, 0), (975, .iload 4, 977, 0, 4, 0), (977, .iconst 2, 978, 2, 0, 0), (978, .iadd, 979, 0, 0, 0), (979, .iaload, 980, 0, 0, 0),
  (980, .invokevirtual 113, 983, 0, 61, 2), (983, .istore 6, 985, 0, 6, 0), (985, .aload_n 2, 986, 0, 2, 0), (986, .invokevirtual 72, 989, 0, 19, 0), (989, .iload 5, 991, 0, 5, 0), (991, .if_icmp .eq 5, 994, 0, 996, 0), (994, .iconst 0, 995, 0, 0, 0), (995, .ireturn, 996, 0, 0, 0),
  (996, .iload 5, 998, 0, 5, 0), (998, .ifCond .ne 15, 1001, 0, 1013, 0), (1001, .aload_n 3, 1002, 0, 3, 0), (1002, .iconst 0, 1003, 0, 0, 0), (1003, .laload, 1004, 0, 0, 0), (1004, .iload 6, 1006, 0, 6, 0), (1006, .i2l, 1007, 0, 0, 0), (1007, .lcmp, 1008, 0, 0, 0),
  (1008, .ifCond .eq 5, 1011, 0, 1013, 0), (1011, .iconst 0, 1012, 0, 0, 0), (1012, .ireturn, 1013, 0, 0, 0), (1013, .goto 3, 1016, 0, 1016, 0), (1016, .iinc 4 6, 1019, 6, 4, 0), (1019, .goto (-986), 1022, 0, 33, 0), (1022, .iconst 1, 1023, 1, 0, 0), (1023, .ireturn, 1024, 0, 0, 0)])
def gMs : List gM := [m_ET_init, m_ET_put, m_ET_spread, m_ET_punch, m_ET_strip, m_ET_write, m_ET_look, m_ET_written, m_ET_reach, m_ET_count, m_ET_free, m_ET_rootByte, m_ET_nodeByte, m_ET_isFile, m_ET_areFileBlocks, m_ET_areVolumeBlocks, m_ET_isSeries, m_ET_longest, m_Mod_init, m_Mod_thrown, m_Mod_takeBlock, m_Mod_free, m_Mod_freeBlocks, m_Mod_levelOf, m_Mod_levelEnd, m_Mod_insertNode, m_Mod_removeNode, m_Mod_findWay, m_Mod_enter, m_Mod_leave, m_Mod_shrink, m_Mod_runs, m_Mod_insertRun, m_Mod_removeRun, m_Mod_shift, m_Mod_behind, m_Mod_joins, m_Mod_enterRun, m_Mod_takeOut, m_Mod_noRange, m_Mod_isTight, m_Mod_noVolume, m_Mod_tryPut, m_Mod_put, m_Mod_noSteps, m_Mod_spread, m_Mod_punch, m_Mod_strip, m_Mod_write, m_Mod_noBlock, m_Mod_look, m_Mod_written, m_Mod_reach, m_Mod_count, m_Mod_byteIn, m_Mod_headByte, m_Mod_firstRun, m_Mod_runByte, m_Mod_nodeEntryByte, m_Mod_bytesOf, m_Mod_rootByte, m_Mod_nodeByte, m_Node_init, m_Node_isFull, m_Node_hasEntry, m_Node_word, m_Node_firstAt, m_Node_belowAt, m_Node_lengthAt, m_Node_isWrittenAt, m_Node_volumeAt, m_Node_setFirst, m_Node_setEntry, m_Node_lastUpTo, m_Node_insert, m_Node_remove, m_Node_moveTail, m_Node_byteAt, m_Node_wordOfBytes, m_Pool_init, m_Pool_node, m_Pool_isTaken, m_Pool_takeLeast, m_Pool_giveBack, m_Tree_init, m_Tree_leaves, m_Tree_roomForOne, m_Tree_roomForTwo, m_Tree_find, m_Tree_runFirst, m_Tree_runLength, m_Tree_runEnd, m_Tree_runVolume, m_Tree_runIsWritten, m_Tree_setRun, m_Tree_marked, m_Tree_nextFirst, m_Tree_hasAny, m_Tree_hasUnwritten, m_Tree_volumeOf, m_Tree_isWritten, m_Tree_alikeFrom, m_Tree_putIn, m_Tree_lengthToJoinBefore, m_Tree_lengthToJoinBehind, m_Tree_takeOutAll, m_Tree_takeOutOfRun, m_Tree_countMapped, m_Tree_insertRun, m_Tree_levelWithRoom, m_Tree_growRoot, m_Tree_splitBlock, m_Tree_removeRun, m_Tree_refreshFirsts, m_Tree_settle, m_Tree_giveBack, m_Tree_countBlock, m_Law_cell, m_Law_put, m_Law_spread, m_Law_punch, m_Law_strip, m_Law_write, m_Law_look, m_Law_written, m_Law_reach, m_Law_count, m_Law_rootByte, m_Law_nodeByte]
end
section
/-! the heads of the methods among the words: by program (wip/whole/asm.py) -/
def gHd (M : gM) : Cond := match mH M with
  | [] => .code (mN M) (mB M) (mL M) (mR M)
  | hh => .codeWith (mN M) (mB M) (mL M) (mR M) hh
set_option maxRecDepth 20000 in
theorem gH0 : gHd m_ET_init ∈ gT := gT_of (List.mem_append_right _ (List.mem_of_getElem? (i := 19) rfl)) rfl
set_option maxRecDepth 20000 in
theorem gH1 : gHd m_ET_put ∈ gT := gT_of (List.mem_append_right _ (List.mem_of_getElem? (i := 150) rfl)) rfl
set_option maxRecDepth 20000 in
theorem gH2 : gHd m_ET_spread ∈ gT := gT_of (List.mem_append_right _ (List.mem_of_getElem? (i := 442) rfl)) rfl
set_option maxRecDepth 20000 in
theorem gH3 : gHd m_ET_punch ∈ gT := gT_of (List.mem_append_right _ (List.mem_of_getElem? (i := 453) rfl)) rfl
set_option maxRecDepth 20000 in
theorem gH4 : gHd m_ET_strip ∈ gT := gT_of (List.mem_append_right _ (List.mem_of_getElem? (i := 476) rfl)) rfl
set_option maxRecDepth 20000 in
theorem gH5 : gHd m_ET_write ∈ gT := gT_of (List.mem_append_right _ (List.mem_of_getElem? (i := 484) rfl)) rfl
set_option maxRecDepth 20000 in
theorem gH6 : gHd m_ET_look ∈ gT := gT_of (List.mem_append_right _ (List.mem_of_getElem? (i := 504) rfl)) rfl
set_option maxRecDepth 20000 in
theorem gH7 : gHd m_ET_written ∈ gT := gT_of (List.mem_append_right _ (List.mem_of_getElem? (i := 512) rfl)) rfl
set_option maxRecDepth 20000 in
theorem gH8 : gHd m_ET_reach ∈ gT := gT_of (List.mem_append_right _ (List.mem_of_getElem? (i := 523) rfl)) rfl
set_option maxRecDepth 20000 in
theorem gH9 : gHd m_ET_count ∈ gT := gT_of (List.mem_append_right _ (List.mem_of_getElem? (i := 534) rfl)) rfl
set_option maxRecDepth 20000 in
theorem gH10 : gHd m_ET_free ∈ gT := gT_of (List.mem_append_right _ (List.mem_of_getElem? (i := 137) rfl)) rfl
set_option maxRecDepth 20000 in
theorem gH11 : gHd m_ET_rootByte ∈ gT := gT_of (List.mem_append_right _ (List.mem_of_getElem? (i := 547) rfl)) rfl
set_option maxRecDepth 20000 in
theorem gH12 : gHd m_ET_nodeByte ∈ gT := gT_of (List.mem_append_right _ (List.mem_of_getElem? (i := 580) rfl)) rfl
set_option maxRecDepth 20000 in
theorem gH13 : gHd m_ET_isFile ∈ gT := gT_of (List.mem_append_right _ (List.mem_of_getElem? (i := 153) rfl)) rfl
set_option maxRecDepth 20000 in
theorem gH14 : gHd m_ET_areFileBlocks ∈ gT := gT_of (List.mem_append_right _ (List.mem_of_getElem? (i := 156) rfl)) rfl
set_option maxRecDepth 20000 in
theorem gH15 : gHd m_ET_areVolumeBlocks ∈ gT := gT_of (List.mem_append_right _ (List.mem_of_getElem? (i := 164) rfl)) rfl
set_option maxRecDepth 20000 in
theorem gH16 : gHd m_ET_isSeries ∈ gT := gT_of (List.mem_append_right _ (List.mem_of_getElem? (i := 445) rfl)) rfl
set_option maxRecDepth 20000 in
theorem gH17 : gHd m_ET_longest ∈ gT := gT_of (List.mem_append_right _ (List.mem_of_getElem? (i := 160) rfl)) rfl
set_option maxRecDepth 20000 in
theorem gH18 : gHd m_Mod_init ∈ gT := gT_of (List.mem_append_right _ (List.mem_of_getElem? (i := 592) rfl)) rfl
set_option maxRecDepth 20000 in
theorem gH19 : gHd m_Mod_thrown ∈ gT := gT_of (List.mem_append_right _ (List.mem_of_getElem? (i := 647) rfl)) rfl
set_option maxRecDepth 20000 in
theorem gH20 : gHd m_Mod_takeBlock ∈ gT := gT_of (List.mem_append_right _ (List.mem_of_getElem? (i := 728) rfl)) rfl
set_option maxRecDepth 20000 in
theorem gH21 : gHd m_Mod_free ∈ gT := gT_of (List.mem_append_right _ (List.mem_of_getElem? (i := 651) rfl)) rfl
set_option maxRecDepth 20000 in
theorem gH22 : gHd m_Mod_freeBlocks ∈ gT := gT_of (List.mem_append_right _ (List.mem_of_getElem? (i := 655) rfl)) rfl
set_option maxRecDepth 20000 in
theorem gH23 : gHd m_Mod_levelOf ∈ gT := gT_of (List.mem_append_right _ (List.mem_of_getElem? (i := 703) rfl)) rfl
set_option maxRecDepth 20000 in
theorem gH24 : gHd m_Mod_levelEnd ∈ gT := gT_of (List.mem_append_right _ (List.mem_of_getElem? (i := 711) rfl)) rfl
set_option maxRecDepth 20000 in
theorem gH25 : gHd m_Mod_insertNode ∈ gT := gT_of (List.mem_append_right _ (List.mem_of_getElem? (i := 732) rfl)) rfl
set_option maxRecDepth 20000 in
theorem gH26 : gHd m_Mod_removeNode ∈ gT := gT_of (List.mem_append_right _ (List.mem_of_getElem? (i := 707) rfl)) rfl
set_option maxRecDepth 20000 in
theorem gH27 : gHd m_Mod_findWay ∈ gT := gT_of (List.mem_append_right _ (List.mem_of_getElem? (i := 699) rfl)) rfl
set_option maxRecDepth 20000 in
theorem gH28 : gHd m_Mod_enter ∈ gT := gT_of (List.mem_append_right _ (List.mem_of_getElem? (i := 724) rfl)) rfl
set_option maxRecDepth 20000 in
theorem gH29 : gHd m_Mod_leave ∈ gT := gT_of (List.mem_append_right _ (List.mem_of_getElem? (i := 695) rfl)) rfl
set_option maxRecDepth 20000 in
theorem gH30 : gHd m_Mod_shrink ∈ gT := gT_of (List.mem_append_right _ (List.mem_of_getElem? (i := 740) rfl)) rfl
set_option maxRecDepth 20000 in
theorem gH31 : gHd m_Mod_runs ∈ gT := gT_of (List.mem_append_right _ (List.mem_of_getElem? (i := 744) rfl)) rfl
set_option maxRecDepth 20000 in
theorem gH32 : gHd m_Mod_insertRun ∈ gT := gT_of (List.mem_append_right _ (List.mem_of_getElem? (i := 736) rfl)) rfl
set_option maxRecDepth 20000 in
theorem gH33 : gHd m_Mod_removeRun ∈ gT := gT_of (List.mem_append_right _ (List.mem_of_getElem? (i := 715) rfl)) rfl
set_option maxRecDepth 20000 in
theorem gH34 : gHd m_Mod_shift ∈ gT := gT_of (List.mem_append_right _ (List.mem_of_getElem? (i := 719) rfl)) rfl
set_option maxRecDepth 20000 in
theorem gH35 : gHd m_Mod_behind ∈ gT := gT_of (List.mem_append_right _ (List.mem_of_getElem? (i := 679) rfl)) rfl
set_option maxRecDepth 20000 in
theorem gH36 : gHd m_Mod_joins ∈ gT := gT_of (List.mem_append_right _ (List.mem_of_getElem? (i := 691) rfl)) rfl
set_option maxRecDepth 20000 in
theorem gH37 : gHd m_Mod_enterRun ∈ gT := gT_of (List.mem_append_right _ (List.mem_of_getElem? (i := 687) rfl)) rfl
set_option maxRecDepth 20000 in
theorem gH38 : gHd m_Mod_takeOut ∈ gT := gT_of (List.mem_append_right _ (List.mem_of_getElem? (i := 760) rfl)) rfl
set_option maxRecDepth 20000 in
theorem gH39 : gHd m_Mod_noRange ∈ gT := gT_of (List.mem_append_right _ (List.mem_of_getElem? (i := 664) rfl)) rfl
set_option maxRecDepth 20000 in
theorem gH40 : gHd m_Mod_isTight ∈ gT := gT_of (List.mem_append_right _ (List.mem_of_getElem? (i := 683) rfl)) rfl
set_option maxRecDepth 20000 in
theorem gH41 : gHd m_Mod_noVolume ∈ gT := gT_of (List.mem_append_right _ (List.mem_of_getElem? (i := 670) rfl)) rfl
set_option maxRecDepth 20000 in
theorem gH42 : gHd m_Mod_tryPut ∈ gT := gT_of (List.mem_append_right _ (List.mem_of_getElem? (i := 675) rfl)) rfl
set_option maxRecDepth 20000 in
theorem gH43 : gHd m_Mod_put ∈ gT := gT_of (List.mem_append_right _ (List.mem_of_getElem? (i := 659) rfl)) rfl
set_option maxRecDepth 20000 in
theorem gH44 : gHd m_Mod_noSteps ∈ gT := gT_of (List.mem_append_right _ (List.mem_of_getElem? (i := 752) rfl)) rfl
set_option maxRecDepth 20000 in
theorem gH45 : gHd m_Mod_spread ∈ gT := gT_of (List.mem_append_right _ (List.mem_of_getElem? (i := 748) rfl)) rfl
set_option maxRecDepth 20000 in
theorem gH46 : gHd m_Mod_punch ∈ gT := gT_of (List.mem_append_right _ (List.mem_of_getElem? (i := 756) rfl)) rfl
set_option maxRecDepth 20000 in
theorem gH47 : gHd m_Mod_strip ∈ gT := gT_of (List.mem_append_right _ (List.mem_of_getElem? (i := 764) rfl)) rfl
set_option maxRecDepth 20000 in
theorem gH48 : gHd m_Mod_write ∈ gT := gT_of (List.mem_append_right _ (List.mem_of_getElem? (i := 768) rfl)) rfl
set_option maxRecDepth 20000 in
theorem gH49 : gHd m_Mod_noBlock ∈ gT := gT_of (List.mem_append_right _ (List.mem_of_getElem? (i := 776) rfl)) rfl
set_option maxRecDepth 20000 in
theorem gH50 : gHd m_Mod_look ∈ gT := gT_of (List.mem_append_right _ (List.mem_of_getElem? (i := 772) rfl)) rfl
set_option maxRecDepth 20000 in
theorem gH51 : gHd m_Mod_written ∈ gT := gT_of (List.mem_append_right _ (List.mem_of_getElem? (i := 780) rfl)) rfl
set_option maxRecDepth 20000 in
theorem gH52 : gHd m_Mod_reach ∈ gT := gT_of (List.mem_append_right _ (List.mem_of_getElem? (i := 784) rfl)) rfl
set_option maxRecDepth 20000 in
theorem gH53 : gHd m_Mod_count ∈ gT := gT_of (List.mem_append_right _ (List.mem_of_getElem? (i := 788) rfl)) rfl
set_option maxRecDepth 20000 in
theorem gH54 : gHd m_Mod_byteIn ∈ gT := gT_of (List.mem_append_right _ (List.mem_of_getElem? (i := 805) rfl)) rfl
set_option maxRecDepth 20000 in
theorem gH55 : gHd m_Mod_headByte ∈ gT := gT_of (List.mem_append_right _ (List.mem_of_getElem? (i := 800) rfl)) rfl
set_option maxRecDepth 20000 in
theorem gH56 : gHd m_Mod_firstRun ∈ gT := gT_of (List.mem_append_right _ (List.mem_of_getElem? (i := 817) rfl)) rfl
set_option maxRecDepth 20000 in
theorem gH57 : gHd m_Mod_runByte ∈ gT := gT_of (List.mem_append_right _ (List.mem_of_getElem? (i := 809) rfl)) rfl
set_option maxRecDepth 20000 in
theorem gH58 : gHd m_Mod_nodeEntryByte ∈ gT := gT_of (List.mem_append_right _ (List.mem_of_getElem? (i := 813) rfl)) rfl
set_option maxRecDepth 20000 in
theorem gH59 : gHd m_Mod_bytesOf ∈ gT := gT_of (List.mem_append_right _ (List.mem_of_getElem? (i := 796) rfl)) rfl
set_option maxRecDepth 20000 in
theorem gH60 : gHd m_Mod_rootByte ∈ gT := gT_of (List.mem_append_right _ (List.mem_of_getElem? (i := 792) rfl)) rfl
set_option maxRecDepth 20000 in
theorem gH61 : gHd m_Mod_nodeByte ∈ gT := gT_of (List.mem_append_right _ (List.mem_of_getElem? (i := 821) rfl)) rfl
set_option maxRecDepth 20000 in
theorem gH62 : gHd m_Node_init ∈ gT := gT_of (List.mem_append_right _ (List.mem_of_getElem? (i := 40) rfl)) rfl
set_option maxRecDepth 20000 in
theorem gH63 : gHd m_Node_isFull ∈ gT := gT_of (List.mem_append_right _ (List.mem_of_getElem? (i := 309) rfl)) rfl
set_option maxRecDepth 20000 in
theorem gH64 : gHd m_Node_hasEntry ∈ gT := gT_of (List.mem_append_right _ (List.mem_of_getElem? (i := 258) rfl)) rfl
set_option maxRecDepth 20000 in
theorem gH65 : gHd m_Node_word ∈ gT := gT_of (List.mem_append_right _ (List.mem_of_getElem? (i := 254) rfl)) rfl
set_option maxRecDepth 20000 in
theorem gH66 : gHd m_Node_firstAt ∈ gT := gT_of (List.mem_append_right _ (List.mem_of_getElem? (i := 250) rfl)) rfl
set_option maxRecDepth 20000 in
theorem gH67 : gHd m_Node_belowAt ∈ gT := gT_of (List.mem_append_right _ (List.mem_of_getElem? (i := 263) rfl)) rfl
set_option maxRecDepth 20000 in
theorem gH68 : gHd m_Node_lengthAt ∈ gT := gT_of (List.mem_append_right _ (List.mem_of_getElem? (i := 284) rfl)) rfl
set_option maxRecDepth 20000 in
theorem gH69 : gHd m_Node_isWrittenAt ∈ gT := gT_of (List.mem_append_right _ (List.mem_of_getElem? (i := 353) rfl)) rfl
set_option maxRecDepth 20000 in
theorem gH70 : gHd m_Node_volumeAt ∈ gT := gT_of (List.mem_append_right _ (List.mem_of_getElem? (i := 345) rfl)) rfl
set_option maxRecDepth 20000 in
theorem gH71 : gHd m_Node_setFirst ∈ gT := gT_of (List.mem_append_right _ (List.mem_of_getElem? (i := 378) rfl)) rfl
set_option maxRecDepth 20000 in
theorem gH72 : gHd m_Node_setEntry ∈ gT := gT_of (List.mem_append_right _ (List.mem_of_getElem? (i := 370) rfl)) rfl
set_option maxRecDepth 20000 in
theorem gH73 : gHd m_Node_lastUpTo ∈ gT := gT_of (List.mem_append_right _ (List.mem_of_getElem? (i := 246) rfl)) rfl
set_option maxRecDepth 20000 in
theorem gH74 : gHd m_Node_insert ∈ gT := gT_of (List.mem_append_right _ (List.mem_of_getElem? (i := 425) rfl)) rfl
set_option maxRecDepth 20000 in
theorem gH75 : gHd m_Node_remove ∈ gT := gT_of (List.mem_append_right _ (List.mem_of_getElem? (i := 386) rfl)) rfl
set_option maxRecDepth 20000 in
theorem gH76 : gHd m_Node_moveTail ∈ gT := gT_of (List.mem_append_right _ (List.mem_of_getElem? (i := 421) rfl)) rfl
set_option maxRecDepth 20000 in
theorem gH77 : gHd m_Node_byteAt ∈ gT := gT_of (List.mem_append_right _ (List.mem_of_getElem? (i := 568) rfl)) rfl
set_option maxRecDepth 20000 in
theorem gH78 : gHd m_Node_wordOfBytes ∈ gT := gT_of (List.mem_append_right _ (List.mem_of_getElem? (i := 572) rfl)) rfl
set_option maxRecDepth 20000 in
theorem gH79 : gHd m_Pool_init ∈ gT := gT_of (List.mem_append_right _ (List.mem_of_getElem? (i := 33) rfl)) rfl
set_option maxRecDepth 20000 in
theorem gH80 : gHd m_Pool_node ∈ gT := gT_of (List.mem_append_right _ (List.mem_of_getElem? (i := 267) rfl)) rfl
set_option maxRecDepth 20000 in
theorem gH81 : gHd m_Pool_isTaken ∈ gT := gT_of (List.mem_append_right _ (List.mem_of_getElem? (i := 584) rfl)) rfl
set_option maxRecDepth 20000 in
theorem gH82 : gHd m_Pool_takeLeast ∈ gT := gT_of (List.mem_append_right _ (List.mem_of_getElem? (i := 413) rfl)) rfl
set_option maxRecDepth 20000 in
theorem gH83 : gHd m_Pool_giveBack ∈ gT := gT_of (List.mem_append_right _ (List.mem_of_getElem? (i := 401) rfl)) rfl
set_option maxRecDepth 20000 in
theorem gH84 : gHd m_Tree_init ∈ gT := gT_of (List.mem_append_right _ (List.mem_of_getElem? (i := 84) rfl)) rfl
set_option maxRecDepth 20000 in
theorem gH85 : gHd m_Tree_leaves ∈ gT := gT_of (List.mem_append_right _ (List.mem_of_getElem? (i := 539) rfl)) rfl
set_option maxRecDepth 20000 in
theorem gH86 : gHd m_Tree_roomForOne ∈ gT := gT_of (List.mem_append_right _ (List.mem_of_getElem? (i := 305) rfl)) rfl
set_option maxRecDepth 20000 in
theorem gH87 : gHd m_Tree_roomForTwo ∈ gT := gT_of (List.mem_append_right _ (List.mem_of_getElem? (i := 493) rfl)) rfl
set_option maxRecDepth 20000 in
theorem gH88 : gHd m_Tree_find ∈ gT := gT_of (List.mem_append_right _ (List.mem_of_getElem? (i := 242) rfl)) rfl
set_option maxRecDepth 20000 in
theorem gH89 : gHd m_Tree_runFirst ∈ gT := gT_of (List.mem_append_right _ (List.mem_of_getElem? (i := 275) rfl)) rfl
set_option maxRecDepth 20000 in
theorem gH90 : gHd m_Tree_runLength ∈ gT := gT_of (List.mem_append_right _ (List.mem_of_getElem? (i := 280) rfl)) rfl
set_option maxRecDepth 20000 in
theorem gH91 : gHd m_Tree_runEnd ∈ gT := gT_of (List.mem_append_right _ (List.mem_of_getElem? (i := 271) rfl)) rfl
set_option maxRecDepth 20000 in
theorem gH92 : gHd m_Tree_runVolume ∈ gT := gT_of (List.mem_append_right _ (List.mem_of_getElem? (i := 341) rfl)) rfl
set_option maxRecDepth 20000 in
theorem gH93 : gHd m_Tree_runIsWritten ∈ gT := gT_of (List.mem_append_right _ (List.mem_of_getElem? (i := 349) rfl)) rfl
set_option maxRecDepth 20000 in
theorem gH94 : gHd m_Tree_setRun ∈ gT := gT_of (List.mem_append_right _ (List.mem_of_getElem? (i := 362) rfl)) rfl
set_option maxRecDepth 20000 in
theorem gH95 : gHd m_Tree_marked ∈ gT := gT_of (List.mem_append_right _ (List.mem_of_getElem? (i := 365) rfl)) rfl
set_option maxRecDepth 20000 in
theorem gH96 : gHd m_Tree_nextFirst ∈ gT := gT_of (List.mem_append_right _ (List.mem_of_getElem? (i := 463) rfl)) rfl
set_option maxRecDepth 20000 in
theorem gH97 : gHd m_Tree_hasAny ∈ gT := gT_of (List.mem_append_right _ (List.mem_of_getElem? (i := 238) rfl)) rfl
set_option maxRecDepth 20000 in
theorem gH98 : gHd m_Tree_hasUnwritten ∈ gT := gT_of (List.mem_append_right _ (List.mem_of_getElem? (i := 488) rfl)) rfl
set_option maxRecDepth 20000 in
theorem gH99 : gHd m_Tree_volumeOf ∈ gT := gT_of (List.mem_append_right _ (List.mem_of_getElem? (i := 497) rfl)) rfl
set_option maxRecDepth 20000 in
theorem gH100 : gHd m_Tree_isWritten ∈ gT := gT_of (List.mem_append_right _ (List.mem_of_getElem? (i := 516) rfl)) rfl
set_option maxRecDepth 20000 in
theorem gH101 : gHd m_Tree_alikeFrom ∈ gT := gT_of (List.mem_append_right _ (List.mem_of_getElem? (i := 527) rfl)) rfl
set_option maxRecDepth 20000 in
theorem gH102 : gHd m_Tree_putIn ∈ gT := gT_of (List.mem_append_right _ (List.mem_of_getElem? (i := 329) rfl)) rfl
set_option maxRecDepth 20000 in
theorem gH103 : gHd m_Tree_lengthToJoinBefore ∈ gT := gT_of (List.mem_append_right _ (List.mem_of_getElem? (i := 337) rfl)) rfl
set_option maxRecDepth 20000 in
theorem gH104 : gHd m_Tree_lengthToJoinBehind ∈ gT := gT_of (List.mem_append_right _ (List.mem_of_getElem? (i := 358) rfl)) rfl
set_option maxRecDepth 20000 in
theorem gH105 : gHd m_Tree_takeOutAll ∈ gT := gT_of (List.mem_append_right _ (List.mem_of_getElem? (i := 458) rfl)) rfl
set_option maxRecDepth 20000 in
theorem gH106 : gHd m_Tree_takeOutOfRun ∈ gT := gT_of (List.mem_append_right _ (List.mem_of_getElem? (i := 469) rfl)) rfl
set_option maxRecDepth 20000 in
theorem gH107 : gHd m_Tree_countMapped ∈ gT := gT_of (List.mem_append_right _ (List.mem_of_getElem? (i := 333) rfl)) rfl
set_option maxRecDepth 20000 in
theorem gH108 : gHd m_Tree_insertRun ∈ gT := gT_of (List.mem_append_right _ (List.mem_of_getElem? (i := 405) rfl)) rfl
set_option maxRecDepth 20000 in
theorem gH109 : gHd m_Tree_levelWithRoom ∈ gT := gT_of (List.mem_append_right _ (List.mem_of_getElem? (i := 409) rfl)) rfl
set_option maxRecDepth 20000 in
theorem gH110 : gHd m_Tree_growRoot ∈ gT := gT_of (List.mem_append_right _ (List.mem_of_getElem? (i := 417) rfl)) rfl
set_option maxRecDepth 20000 in
theorem gH111 : gHd m_Tree_splitBlock ∈ gT := gT_of (List.mem_append_right _ (List.mem_of_getElem? (i := 431) rfl)) rfl
set_option maxRecDepth 20000 in
theorem gH112 : gHd m_Tree_removeRun ∈ gT := gT_of (List.mem_append_right _ (List.mem_of_getElem? (i := 382) rfl)) rfl
set_option maxRecDepth 20000 in
theorem gH113 : gHd m_Tree_refreshFirsts ∈ gT := gT_of (List.mem_append_right _ (List.mem_of_getElem? (i := 374) rfl)) rfl
set_option maxRecDepth 20000 in
theorem gH114 : gHd m_Tree_settle ∈ gT := gT_of (List.mem_append_right _ (List.mem_of_getElem? (i := 435) rfl)) rfl
set_option maxRecDepth 20000 in
theorem gH115 : gHd m_Tree_giveBack ∈ gT := gT_of (List.mem_append_right _ (List.mem_of_getElem? (i := 393) rfl)) rfl
set_option maxRecDepth 20000 in
theorem gH116 : gHd m_Tree_countBlock ∈ gT := gT_of (List.mem_append_right _ (List.mem_of_getElem? (i := 397) rfl)) rfl
set_option maxRecDepth 20000 in
theorem gH117 : gHd m_Law_cell ∈ gT := gT_of (List.mem_append_right _ (List.mem_of_getElem? (i := 140) rfl)) rfl
set_option maxRecDepth 20000 in
theorem gH118 : gHd m_Law_put ∈ gT := gT_of (List.mem_append_right _ (List.mem_of_getElem? (i := 143) rfl)) rfl
set_option maxRecDepth 20000 in
theorem gH119 : gHd m_Law_spread ∈ gT := gT_of (List.mem_append_right _ (List.mem_of_getElem? (i := 438) rfl)) rfl
set_option maxRecDepth 20000 in
theorem gH120 : gHd m_Law_punch ∈ gT := gT_of (List.mem_append_right _ (List.mem_of_getElem? (i := 449) rfl)) rfl
set_option maxRecDepth 20000 in
theorem gH121 : gHd m_Law_strip ∈ gT := gT_of (List.mem_append_right _ (List.mem_of_getElem? (i := 472) rfl)) rfl
set_option maxRecDepth 20000 in
theorem gH122 : gHd m_Law_write ∈ gT := gT_of (List.mem_append_right _ (List.mem_of_getElem? (i := 480) rfl)) rfl
set_option maxRecDepth 20000 in
theorem gH123 : gHd m_Law_look ∈ gT := gT_of (List.mem_append_right _ (List.mem_of_getElem? (i := 500) rfl)) rfl
set_option maxRecDepth 20000 in
theorem gH124 : gHd m_Law_written ∈ gT := gT_of (List.mem_append_right _ (List.mem_of_getElem? (i := 508) rfl)) rfl
set_option maxRecDepth 20000 in
theorem gH125 : gHd m_Law_reach ∈ gT := gT_of (List.mem_append_right _ (List.mem_of_getElem? (i := 519) rfl)) rfl
set_option maxRecDepth 20000 in
theorem gH126 : gHd m_Law_count ∈ gT := gT_of (List.mem_append_right _ (List.mem_of_getElem? (i := 530) rfl)) rfl
set_option maxRecDepth 20000 in
theorem gH127 : gHd m_Law_rootByte ∈ gT := gT_of (List.mem_append_right _ (List.mem_of_getElem? (i := 542) rfl)) rfl
set_option maxRecDepth 20000 in
theorem gH128 : gHd m_Law_nodeByte ∈ gT := gT_of (List.mem_append_right _ (List.mem_of_getElem? (i := 576) rfl)) rfl
set_option maxRecDepth 100000 in
theorem gHd_in : ∀ (k : Nat) (M : gM), gMs[k]? = some M → gHd M ∈ gT := by
  intro k M h
  match k, h with
  | 0, h => cases h; exact gH0
  | 1, h => cases h; exact gH1
  | 2, h => cases h; exact gH2
  | 3, h => cases h; exact gH3
  | 4, h => cases h; exact gH4
  | 5, h => cases h; exact gH5
  | 6, h => cases h; exact gH6
  | 7, h => cases h; exact gH7
  | 8, h => cases h; exact gH8
  | 9, h => cases h; exact gH9
  | 10, h => cases h; exact gH10
  | 11, h => cases h; exact gH11
  | 12, h => cases h; exact gH12
  | 13, h => cases h; exact gH13
  | 14, h => cases h; exact gH14
  | 15, h => cases h; exact gH15
  | 16, h => cases h; exact gH16
  | 17, h => cases h; exact gH17
  | 18, h => cases h; exact gH18
  | 19, h => cases h; exact gH19
  | 20, h => cases h; exact gH20
  | 21, h => cases h; exact gH21
  | 22, h => cases h; exact gH22
  | 23, h => cases h; exact gH23
  | 24, h => cases h; exact gH24
  | 25, h => cases h; exact gH25
  | 26, h => cases h; exact gH26
  | 27, h => cases h; exact gH27
  | 28, h => cases h; exact gH28
  | 29, h => cases h; exact gH29
  | 30, h => cases h; exact gH30
  | 31, h => cases h; exact gH31
  | 32, h => cases h; exact gH32
  | 33, h => cases h; exact gH33
  | 34, h => cases h; exact gH34
  | 35, h => cases h; exact gH35
  | 36, h => cases h; exact gH36
  | 37, h => cases h; exact gH37
  | 38, h => cases h; exact gH38
  | 39, h => cases h; exact gH39
  | 40, h => cases h; exact gH40
  | 41, h => cases h; exact gH41
  | 42, h => cases h; exact gH42
  | 43, h => cases h; exact gH43
  | 44, h => cases h; exact gH44
  | 45, h => cases h; exact gH45
  | 46, h => cases h; exact gH46
  | 47, h => cases h; exact gH47
  | 48, h => cases h; exact gH48
  | 49, h => cases h; exact gH49
  | 50, h => cases h; exact gH50
  | 51, h => cases h; exact gH51
  | 52, h => cases h; exact gH52
  | 53, h => cases h; exact gH53
  | 54, h => cases h; exact gH54
  | 55, h => cases h; exact gH55
  | 56, h => cases h; exact gH56
  | 57, h => cases h; exact gH57
  | 58, h => cases h; exact gH58
  | 59, h => cases h; exact gH59
  | 60, h => cases h; exact gH60
  | 61, h => cases h; exact gH61
  | 62, h => cases h; exact gH62
  | 63, h => cases h; exact gH63
  | 64, h => cases h; exact gH64
  | 65, h => cases h; exact gH65
  | 66, h => cases h; exact gH66
  | 67, h => cases h; exact gH67
  | 68, h => cases h; exact gH68
  | 69, h => cases h; exact gH69
  | 70, h => cases h; exact gH70
  | 71, h => cases h; exact gH71
  | 72, h => cases h; exact gH72
  | 73, h => cases h; exact gH73
  | 74, h => cases h; exact gH74
  | 75, h => cases h; exact gH75
  | 76, h => cases h; exact gH76
  | 77, h => cases h; exact gH77
  | 78, h => cases h; exact gH78
  | 79, h => cases h; exact gH79
  | 80, h => cases h; exact gH80
  | 81, h => cases h; exact gH81
  | 82, h => cases h; exact gH82
  | 83, h => cases h; exact gH83
  | 84, h => cases h; exact gH84
  | 85, h => cases h; exact gH85
  | 86, h => cases h; exact gH86
  | 87, h => cases h; exact gH87
  | 88, h => cases h; exact gH88
  | 89, h => cases h; exact gH89
  | 90, h => cases h; exact gH90
  | 91, h => cases h; exact gH91
  | 92, h => cases h; exact gH92
  | 93, h => cases h; exact gH93
  | 94, h => cases h; exact gH94
  | 95, h => cases h; exact gH95
  | 96, h => cases h; exact gH96
  | 97, h => cases h; exact gH97
  | 98, h => cases h; exact gH98
  | 99, h => cases h; exact gH99
  | 100, h => cases h; exact gH100
  | 101, h => cases h; exact gH101
  | 102, h => cases h; exact gH102
  | 103, h => cases h; exact gH103
  | 104, h => cases h; exact gH104
  | 105, h => cases h; exact gH105
  | 106, h => cases h; exact gH106
  | 107, h => cases h; exact gH107
  | 108, h => cases h; exact gH108
  | 109, h => cases h; exact gH109
  | 110, h => cases h; exact gH110
  | 111, h => cases h; exact gH111
  | 112, h => cases h; exact gH112
  | 113, h => cases h; exact gH113
  | 114, h => cases h; exact gH114
  | 115, h => cases h; exact gH115
  | 116, h => cases h; exact gH116
  | 117, h => cases h; exact gH117
  | 118, h => cases h; exact gH118
  | 119, h => cases h; exact gH119
  | 120, h => cases h; exact gH120
  | 121, h => cases h; exact gH121
  | 122, h => cases h; exact gH122
  | 123, h => cases h; exact gH123
  | 124, h => cases h; exact gH124
  | 125, h => cases h; exact gH125
  | 126, h => cases h; exact gH126
  | 127, h => cases h; exact gH127
  | 128, h => cases h; exact gH128
  | k + 129, h => simp [gMs] at h
end
section
/-! the judgement 'Go': from this pc, with these locals, stack and cells, the method comes to its end as F says -/
def gCat (v : gV) : Nat := match v with
  | .inr (.inl _) => 2
  | _ => 1
theorem gz_cat (G : gG) (v : gV) : (gz G v).category = gCat v := by
  rcases v with z | x | r
  · rfl
  · rfl
  · cases r <;> rfl
theorem gz_cats (G : gG) (st : List gV) : ((st.map (gz G)).map fun v => v.category) = st.map gCat := by
  rw [List.map_map]
  exact List.map_congr_left (fun v _ => gz_cat G v)
theorem gSet_spec : ∀ (lv : List (Option gV)) (k : Nat) (v : Option gV) (lv' : List (Option gV)), gSet lv k v = some lv' → k < lv.length ∧ lv' = lv.set k v := by
  intro lv
  induction lv with
  | nil => intro k v lv' h; simp [gSet] at h
  | cons x t ih =>
    intro k v lv' h
    cases k with
    | zero => simp [gSet] at h; subst h; simp
    | succ k =>
      simp only [gSet] at h
      cases h1 : gSet t k v with
      | none => rw [h1] at h; simp at h
      | some t' =>
        rw [h1] at h
        obtain ⟨e1, e2⟩ := ih k v t' h1
        simp at h
        subst h
        subst e2
        simp
        omega
theorem gSetF_spec : ∀ (lv : List gV) (k : Nat) (v : gV) (lv' : List gV), gSetF lv k v = some lv' → k < lv.length ∧ lv' = lv.set k v := by
  intro lv
  induction lv with
  | nil => intro k v lv' h; simp [gSetF] at h
  | cons x t ih =>
    intro k v lv' h
    cases k with
    | zero => simp [gSetF] at h; subst h; simp
    | succ k =>
      simp only [gSetF] at h
      cases h1 : gSetF t k v with
      | none => rw [h1] at h; simp at h
      | some t' =>
        rw [h1] at h
        obtain ⟨e1, e2⟩ := ih k v t' h1
        simp at h
        subst h
        subst e2
        simp
        omega
theorem gGet_spec : ∀ (lv : List (Option gV)) (k : Nat) (v : gV), gGet lv k = some v → lv[k]? = some (some v) := by
  intro lv
  induction lv with
  | nil => intro k v h; simp [gGet] at h
  | cons x t ih =>
    intro k v h
    cases k with
    | zero => simp [gGet] at h; subst h; simp
    | succ k => simp [gGet] at h; simpa using ih k v h
theorem gAt_spec : ∀ (t : List gI) (pc : Nat) (q : gI), gAt t pc = some q → q ∈ t ∧ q.1 = pc := by
  intro t
  induction t with
  | nil => intro pc q h; simp [gAt] at h
  | cons x t ih =>
    intro pc q h
    simp only [gAt] at h
    cases hb : Nat.beq x.1 pc with
    | true =>
      rw [hb] at h
      simp at h
      subst h
      exact ⟨List.mem_cons_self, Nat.eq_of_beq_eq_true hb⟩
    | false =>
      rw [hb] at h
      simp at h
      obtain ⟨e1, e2⟩ := ih pc q h
      exact ⟨List.mem_cons_of_mem _ e1, e2⟩
theorem gPop_spec : ∀ (n : Nat) (acc st As rest : List gV), gPop n acc st = some (As, rest) → ∃ l : List gV, As = l ++ acc ∧ l.length = n ∧ st = l.reverse ++ rest := by
  intro n
  induction n with
  | zero => intro acc st As rest h; simp [gPop] at h; exact ⟨[], by simp [h.1], rfl, by simp [h.2]⟩
  | succ n ih =>
    intro acc st As rest h
    cases st with
    | nil => simp [gPop] at h
    | cons v st =>
      simp only [gPop] at h
      obtain ⟨l, e1, e2, e3⟩ := ih _ _ _ _ h
      exact ⟨l ++ [v], by simp [e1], by simp [e2], by simp [e3]⟩
/-- the locals -/
def lvh (G : gG) (nL : Nat) (lv : List (Option gV)) (ls : Array Slot) : Prop := ls.size = nL ∧ lv_wf ls ∧ lv.length ≤ nL ∧ ∀ (i : Nat) (v : gV), lv[i]? = some (some v) → gCat v = 1 ∧ ls[i]? = some (Slot.val (gz G v))
def gPr (G : gG) (lv : List (Option gV)) : List (Nat × Value) := (List.range lv.length).filterMap (fun i => (lv[i]?.join).map (fun v => (i, gz G v)))
theorem gPr_mem (G : gG) (lv : List (Option gV)) (i : Nat) (w : Value) : (i, w) ∈ gPr G lv ↔ ∃ v, lv[i]? = some (some v) ∧ w = gz G v := by
  unfold gPr
  rw [List.mem_filterMap]
  constructor
  · rintro ⟨j, hj, h⟩
    cases hl : lv[j]? with
    | none => rw [hl] at h; simp at h
    | some x =>
      cases x with
      | none => rw [hl] at h; simp at h
      | some v =>
        rw [hl] at h
        simp at h
        obtain ⟨rfl, rfl⟩ := h
        exact ⟨v, hl, rfl⟩
  · rintro ⟨v, h, rfl⟩
    exact ⟨i, List.mem_range.mpr (List.getElem?_eq_some_iff.mp h).1, by rw [h]; rfl⟩
theorem lvh.has {G : gG} {nL : Nat} {lv : List (Option gV)} {ls : Array Slot} (h : lvh G nL lv ls) : lv_has ls nL (gPr G lv) := by
  refine ⟨h.1, h.2.1, fun q hq => ?_⟩
  obtain ⟨i, w⟩ := q
  obtain ⟨v, h1, rfl⟩ := (gPr_mem G lv i w).mp hq
  exact (h.2.2.2 i v h1).2
theorem lvh.get {G : gG} {nL : Nat} {lv : List (Option gV)} {ls : Array Slot} (h : lvh G nL lv ls) {k : Nat} {v : gV} (hk : gGet lv k = some v) : ls[k]? = some (.val (gz G v)) := (h.2.2.2 k v (gGet_spec _ _ _ hk)).2
theorem lvh.set {G : gG} {nL : Nat} {lv lv' : List (Option gV)} {ls ls' : Array Slot} {k : Nat} {v : gV} (h : lvh G nL lv ls) (hs : gSet lv k (some v) = some lv') (hc : gCat v = 1) (h' : lv_has ls' nL ((k, gz G v) :: (gPr G lv).filter (fun q => !(q.1 == k) && !(q.1 + 1 == k && q.2.category == 2)))) : lvh G nL lv' ls' := by
  obtain ⟨hk, rfl⟩ := gSet_spec _ _ _ _ hs
  refine ⟨h'.1, h'.2.1, by rw [List.length_set]; exact h.2.2.1, fun i w hw => ?_⟩
  by_cases hi : i = k
  · subst hi
    rw [List.getElem?_set_self hk] at hw
    cases hw
    exact ⟨hc, h'.2.2 (i, gz G v) List.mem_cons_self⟩
  · rw [List.getElem?_set_ne (Ne.symm hi)] at hw
    refine ⟨(h.2.2.2 i w hw).1, h'.2.2 (i, gz G w) (List.mem_cons_of_mem _ (List.mem_filter.mpr ⟨(gPr_mem G lv i _).mpr ⟨w, hw, rfl⟩, ?_⟩))⟩
    have h1 := (h.2.2.2 i w hw).1
    rw [← gz_cat G] at h1
    simp [hi, h1]
theorem lvh.drop {G : gG} {nL : Nat} {lv lv' : List (Option gV)} {ls ls' : Array Slot} {k : Nat} {x : Nat} (h : lvh G nL lv ls) (hs : gSet lv k none = some lv') (h' : lv_has ls' nL ((k, Value.ref x) :: (gPr G lv).filter (fun q => !(q.1 == k) && !(q.1 + 1 == k && q.2.category == 2)))) : lvh G nL lv' ls' := by
  obtain ⟨hk, rfl⟩ := gSet_spec _ _ _ _ hs
  refine ⟨h'.1, h'.2.1, by rw [List.length_set]; exact h.2.2.1, fun i w hw => ?_⟩
  by_cases hi : i = k
  · subst hi
    rw [List.getElem?_set_self hk] at hw
    cases hw
  · rw [List.getElem?_set_ne (Ne.symm hi)] at hw
    refine ⟨(h.2.2.2 i w hw).1, h'.2.2 (i, gz G w) (List.mem_cons_of_mem _ (List.mem_filter.mpr ⟨(gPr_mem G lv i _).mpr ⟨w, hw, rfl⟩, ?_⟩))⟩
    have h1 := (h.2.2.2 i w hw).1
    rw [← gz_cat G] at h1
    simp [hi, h1]
/-- which cells may change -/
def gA (G : gG) : Nat → Prop := fun q => gZ G < q
def gRp (G : gG) (h : gH) (H : Heap) : Prop := ∀ (i : Nat) (e : gE), h i = some e → 0 < i ∧ va_at (gD G) gCl (gZ G + i, gzE G e) H
def gN (G : gG) (N : Option Nat) (H : Heap) : Prop := ∀ n, N = some n → H.size = gZ G + n
/-- what stays, from the law's start on -/
def gEnv (G : gG) (U : State) : Prop :=
  va_K (gD G) gCl [] U ∧ (∀ (k : Nat) (ty : FieldType), gTy[k]? = some ty → ArrOfT U (gdA G k) ty ∧ va_RA U (gdA G k) ty) ∧
  vx_Zq Bundle.tN "UNASSIGNED_STACK" Bundle.steD (gA G) U U.heap ∧ vx_Zq Bundle.tN "SUPPRESSED_SENTINEL" Bundle.listD (gA G) U U.heap ∧
  (∀ (k : Nat) (q : String × Nat × String), gSt[k]? = some q → vk_R q.1 q.2.1 q.2.2 (gsa G k) U) ∧
  va_X (gb G) (gL G) (gxs G) U U.heap ∧ gb G ≤ gZ G ∧ gZ G < U.heap.size ∧
  (∀ C ∈ gAo, va_AO C U) ∧ (∀ q ∈ gNl, va_Nw (.methodLinkNest q.1 q.2.1 q.2.2.1 q.2.2.2) U) ∧ (∀ q ∈ gNc, va_Nc q.1 q.2 U) ∧
  (∀ q ∈ gCa, va_Nw (.castable q.1 q.2) U) ∧ ∀ y ∈ gDe, va_Nw (.declares y) U
theorem gEnv.move {G : gG} {s U : State} {locs : List Loc} (h : gEnv G s) (hS : va_S (gA G) s.heap U.heap locs) (hW : s.WarmedH U.vm) : gEnv G U := by
  obtain ⟨h1, h2, h3, h4, h5, h6, h7, h8, h9, h10, h11, h12, h13⟩ := h
  have hq : ∀ a : Nat, a < s.heap.size → ¬ gA G a → U.heap[a]? = s.heap[a]? := hS.2.1
  exact ⟨va_K.moved hW.alike h1, fun k ty hk => ⟨arrOfT_moved hW.alike (h2 k ty hk).1, (h2 k ty hk).2.moved hW.alike⟩, vx_Zq.moved hW.alike (vx_Zq.kept h3 hq), vx_Zq.moved hW.alike (vx_Zq.kept h4 hq), fun k q hk => vk_R.warm hW (h5 k q hk), va_X.moved hW.alike (va_X.kept h6 (hq _ (Nat.lt_of_le_of_lt h7 h8) (Nat.not_lt.mpr h7))), h7, Nat.lt_of_lt_of_le h8 hS.1, fun C hC => (h9 C hC).moved hW.alike, fun q hq => va_Nw.warmM hW (h10 q hq), fun q hq => (h11 q hq).moved hW.alike, fun q hq => va_Nw.warmC hW (h12 q hq), fun y hy => va_Nw.warmD hW (h13 y hy)⟩
theorem gEnv.blind {G : gG} {U : State} {g : JFrame} {mk : MethodId} {a : Array Value} (h : gEnv G U) : gEnv G (U.calling g mk a) := by
  obtain ⟨h1, h2, h3, h4, h5, h6, h7, h8, h9, h10, h11, h12, h13⟩ := h
  have hW : U.vm.Alike (U.calling g mk a).vm := Vm.Alike.refl U.vm
  exact ⟨va_K.moved hW h1, fun k ty hk => ⟨arrOfT_moved hW (h2 k ty hk).1, (h2 k ty hk).2.moved hW⟩, vx_Zq.moved hW h3, vx_Zq.moved hW h4, fun k q hk => vk_R.same rfl (h5 k q hk), va_X.moved hW h6, h7, h8, fun C hC => (h9 C hC).moved hW, fun q hq => va_Nw.same rfl rfl (h10 q hq), fun q hq => (h11 q hq).moved hW, fun q hq => va_Nw.same rfl rfl (h12 q hq), fun y hy => va_Nw.same rfl rfl (h13 y hy)⟩
/-- a method's words -/
def gWs (M : gM) : List Cond := gHd M :: gT
def gCx (G : gG) (M : gM) (κ : gK) : Prop := match κ with
  | (p, _, R, s, m, args, _, meth, c) => (gl G).stackTraces = false ∧ p.tables.exec = Jvm.exec ∧ c.code = mB M ∧ meth.sig.returnType = mR M ∧ c.maxLocals = mL M ∧ s.vm.findClass (mN M).cls = some m.cls ∧ (∀ w ∈ gT, w.before args s = true) ∧ meth.locks = false ∧ meth.name = (mN M).name ∧ mF M ≤ R.frames ∧ mO M ≤ R.locals ∧ c.exceptionTable.toList = tableOf (mH M) ∧ gEnv G s
def gHp (G : gG) (κ : gK) (N : Option Nat) (h : gH) (H : Heap) (locs : List Loc) : Prop := match κ with
  | (_, _, _, s, _, _, _, _, _) => gRp G h H ∧ gN G N H ∧ va_S (gA G) s.heap H locs
def gWk (G : gG) (κ : gK) (F : gK → State → Prop) (H : Heap) (locs : List Loc) (cells slots pc : Nat) (ls : Array Slot) (st : List Value) : Prop := match κ with
  | (p, e, R, s, m, args, below, meth, c) => W p (gl G) e R s m args below meth c H locs cells slots (F (p, e, R, s, m, args, below, meth, c)) (F0 m pc ls st)
def gRm (κ : gK) (cells slots c s : Nat) : Prop := match κ with
  | (_, _, R, _, _, _, _, _, _) => cells + c ≤ R.cells ∧ slots + s ≤ R.slots
def Go (G : gG) (M : gM) (F : gK → State → Prop) (pc : Nat) (lv : List (Option gV)) (st : List gV) (N : Option Nat) (h : gH) (c s : Nat) : Prop :=
  ∀ (κ : gK) (H : Heap) (locs : List Loc) (ls : Array Slot) (cells slots : Nat), gCx G M κ → gHp G κ N h H locs → lvh G (mL M) lv ls → gRm κ cells slots c s → gWk G κ F H locs cells slots pc ls (st.map (gz G))
end
section
/-! what a row of a method's table says, and how it is held against the bytes and the words -/
def gOkF (own : String) (idx k j : Nat) : Bool := match gCl[k]? with
  | some q => decide (j < q.2.2) && decide ((q.2.1 j).1 = q.1) && gIn (Cond.fieldLink own idx q.1 (q.2.1 j).2.1 (q.2.1 j).2.2.1)
  | none => false
def gOkP (M : gM) (k j : Nat) : Bool := match gCl[k]? with
  | some q => decide ((q.2.1 j).2.2.2 = false) || (decide ((mN M).name = "<init>") && decide ((mN M).cls = q.1))
  | none => false
def gOkN (own : String) (idx k : Nat) : Bool := match gCl[k]? with
  | some q => gIn (Cond.classLink own idx q.1) && gIn (Cond.instantiable q.1 q.2.2) && gIn (Cond.initialized q.1)
  | none => false
/-- what the tables must say of a call -/
def gOkC (M : gM) (k j : Nat) : Bool := match gMs[k]? with
  | some M' => decide (mH M' = []) && decide (mF M' + 1 ≤ mF M) && decide (8 + (mL M' + 11) + mO M' ≤ mO M) && decide ((mN M').cls ≠ "java/lang/invoke/MethodHandle") && decide ((mN M').cls ≠ "java/lang/invoke/VarHandle") && decide ((parseMethodDescriptor (mN M').desc).map (fun d => d.parameters.length) = some j) && gIn (Cond.initialized (mN M').cls)
  | none => false
def gOkV (M : gM) (idx k : Nat) : Bool := match gMs[k]? with
  | some M' => gIn (Cond.methodLink (mN M).cls idx (mN M')) && gIn (Cond.instanceMethod (mN M')) && gIn (Cond.selects (mN M').cls (mN M') (mN M'))
  | none => false
def gOkS (M : gM) (idx k : Nat) : Bool := match gMs[k]? with
  | some M' => gIn (Cond.methodLink (mN M).cls idx (mN M')) && gIn (Cond.static (mN M'))
  | none => false
def gOkSp (M : gM) (idx k : Nat) : Bool := match gMs[k]? with
  | some M' => gIn (Cond.methodLink (mN M).cls idx (mN M')) && gIn (Cond.instanceMethod (mN M')) && decide ((mN M').name = "<init>") && decide (mR M' = none)
  | none => false
def gMx (own : String) (idx : Nat) : List Cond := [.methodLink own idx Lib.Math.max.name, .static Lib.Math.max.name, .initialized "java/lang/Math", .code Lib.Math.max.name Lib.Math.max.code 2 (some .int)]
def gMn (own : String) (idx : Nat) : List Cond := [.methodLink own idx Lib.Math.min.name, .static Lib.Math.min.name, .initialized "java/lang/Math", .code Lib.Math.min.name Lib.Math.min.code 2 (some .int)]
def gCpy (own : String) (idx : Nat) : List Cond := [.methodLink own idx arraycopyName, .native arraycopyName, .static arraycopyName, .initialized "java/lang/System"]
def gObj (own : String) (idx : Nat) : List Cond := [.methodLink own idx Lib.objectInit, .instanceMethod Lib.objectInit, .code Lib.objectInit ⟨#[0xb1]⟩ 1 none]
def gOkW (ws : List Cond) : Bool := ws.all gIn
theorem gOkW_spec {ws : List Cond} (h : gOkW ws = true) {w : Cond} (hw : w ∈ ws) : w ∈ gT := gIn_spec (List.all_eq_true.mp h w hw)
def gOkNl (M : gM) (idx k : Nat) : Bool := match gMs[k]? with
  | some M' => gNl.any (fun q => decide (q.1 = (mN M).cls) && decide (q.2.1 = idx) && decide (q.2.2.1 = mN M')) && gIn (Cond.static (mN M'))
  | none => false
def gOkI (M : gM) (q : gI) : Bool := match q with
  | (pc, i, _, z, k, j) => match i with
    | .iconst n => decide (n = z)
    | .bipush n => decide ((Int8.ofInt n).toInt32 = Int32.ofInt z)
    | .sipush n => decide ((Int16.ofInt n).toInt32 = Int32.ofInt z)
    | .ldc idx => decide (j = 1) || gIn (Cond.constant (mN M).cls idx (Int32.ofInt z))
    | .iload_n n => decide (n.val = k)
    | .aload_n n => decide (n.val = k)
    | .istore_n n => decide (n.val = k)
    | .astore_n n => decide (n.val = k)
    | .iload n => decide (n = k)
    | .aload n => decide (n = k)
    | .istore n => decide (n = k)
    | .astore n => decide (n = k)
    | .iinc n d => decide (n = k) && decide (d = z)
    | .ifCond _ off => decide ((pc : Int) + off = k)
    | .if_icmp _ off => decide ((pc : Int) + off = k)
    | .goto off => decide ((pc : Int) + off = k)
    | .getfield idx => gOkF (mN M).cls idx k j
    | .putfield idx => gOkF (mN M).cls idx k j && gOkP M k j
    | .new idx => decide (j = 1) || gOkN (mN M).cls idx k
    | .newarray t => (match gTy[k]? with | some ty => decide (newarray.typeOf t = ty) && gIn (Cond.arrayClass ty) | none => false)
    | .anewarray idx => (match gTy[k]? with | some (.object C) => gIn (Cond.classLink (mN M).cls idx C) && decide (C ∈ gAo) | _ => false)
    | .invokevirtual idx => gOkC M k j && gOkV M idx k
    | .invokespecial idx => decide (z = 2) || (if z = 1 then gOkW (gObj (mN M).cls idx) && decide (1 ≤ mF M) && decide (20 ≤ mO M) else gOkC M k j && gOkSp M idx k)
    | .invokestatic idx => if z = 0 then gOkC M k j && gOkS M idx k && (match gMs[k]? with | some M' => decide ((mN M').cls = (mN M).cls) | none => false)
        else if z = 1 then gOkW (gMx (mN M).cls idx) && decide (1 ≤ mF M) && decide (21 ≤ mO M)
        else if z = 2 then gOkW (gMn (mN M).cls idx) && decide (1 ≤ mF M) && decide (21 ≤ mO M)
        else if z = 3 then gOkW (gCpy (mN M).cls idx) && decide (1 ≤ mF M) && decide (8 + (nativeFrameWords "java/lang/System" "arraycopy" 5 + 11) ≤ mO M)
        else if z = 4 then gOkC M k j && gOkNl M idx k
        else true
    | _ => true
def gOkQ (M : gM) (q : gI) : Bool := decide (decode (mB M) q.1 = .ok (q.2.1, q.2.2.1 - q.1)) && (decide (gLen q.2.1 = 0) || decide (q.2.2.1 = q.1 + gLen q.2.1)) && decide (q.1 < q.2.2.1) && gOkI M q
def gOk (M : gM) : Prop := ∀ q ∈ mT M, gOkQ M q = true
theorem gdec {M : gM} {pc pc0 nx k j : Nat} {i : Instr} {z : Int} (hM : gOk M) (hq : gAt (mT M) pc = some (pc0, i, nx, z, k, j)) : pc0 = pc ∧ decode (mB M) pc = .ok (i, nx - pc) ∧ (gLen i = 0 ∨ nx = pc + gLen i) ∧ pc < nx ∧ gOkI M (pc, i, nx, z, k, j) = true := by
  obtain ⟨h1, h2⟩ := gAt_spec _ _ _ hq
  dsimp only at h2
  subst h2
  have h3 := hM _ h1
  simp only [gOkQ, Bool.and_eq_true, Bool.or_eq_true, decide_eq_true_eq] at h3
  exact ⟨rfl, h3.1.1.1, h3.1.1.2, h3.1.2, h3.2⟩
theorem gdec' {M : gM} {pc pc0 nx k j len : Nat} {i : Instr} {z : Int} (hM : gOk M) (hq : gAt (mT M) pc = some (pc0, i, nx, z, k, j)) (hl : gLen i = len) (h0 : 0 < len) : decode (mB M) pc = .ok (i, len) ∧ nx = pc + len ∧ gOkI M (pc, i, nx, z, k, j) = true := by
  obtain ⟨h1, h2, h3, h4, h5⟩ := gdec hM hq
  rw [hl] at h3
  have e : nx = pc + len := h3.resolve_left (by omega)
  exact ⟨by rw [h2, e]; congr 2; omega, e, h5⟩
/-- one step that needs no cell -/
def gStep1 (q : gI) (lv : List (Option gV)) (st : List gV) : Option (Nat × List (Option gV) × List gV) := match q with
  | (_, i, nx, z, k, _) => match i with
    | .iconst _ => some (nx, lv, .inl z :: st)
    | .bipush _ => some (nx, lv, .inl z :: st)
    | .sipush _ => some (nx, lv, .inl z :: st)
    | .iload_n _ => (match gGet lv k with | some (.inl a) => some (nx, lv, .inl a :: st) | _ => none)
    | .iload _ => (match gGet lv k with | some (.inl a) => some (nx, lv, .inl a :: st) | _ => none)
    | .aload_n _ => (match gGet lv k with | some (.inr (.inr (some a))) => some (nx, lv, .inr (.inr (some a)) :: st) | _ => none)
    | .aload _ => (match gGet lv k with | some (.inr (.inr (some a))) => some (nx, lv, .inr (.inr (some a)) :: st) | _ => none)
    | .istore_n _ => (match st with | .inl a :: r => (match gSet lv k (some (.inl a)) with | some lv' => some (nx, lv', r) | none => none) | _ => none)
    | .istore _ => (match st with | .inl a :: r => (match gSet lv k (some (.inl a)) with | some lv' => some (nx, lv', r) | none => none) | _ => none)
    | .astore_n _ => (match st with | .inr (.inr (some a)) :: r => (match gSet lv k (some (.inr (.inr (some a)))) with | some lv' => some (nx, lv', r) | none => none) | _ => none)
    | .astore _ => (match st with | .inr (.inr (some a)) :: r => (match gSet lv k (some (.inr (.inr (some a)))) with | some lv' => some (nx, lv', r) | none => none) | _ => none)
    | .iinc _ _ => (match gGet lv k with | some (.inl a) => (match gSet lv k (some (.inl (a + z))) with | some lv' => some (nx, lv', st) | none => none) | _ => none)
    | .iadd => (match st with | .inl b :: .inl a :: r => some (nx, lv, .inl (a + b) :: r) | _ => none)
    | .isub => (match st with | .inl b :: .inl a :: r => some (nx, lv, .inl (a - b) :: r) | _ => none)
    | .imul => (match st with | .inl b :: .inl a :: r => some (nx, lv, .inl (a * b) :: r) | _ => none)
    | .ineg => (match st with | .inl a :: r => some (nx, lv, .inl (-a) :: r) | _ => none)
    | .dup => (match st with | .inl a :: r => some (nx, lv, .inl a :: .inl a :: r) | .inr (.inr a) :: r => some (nx, lv, .inr (.inr a) :: .inr (.inr a) :: r) | _ => none)
    | .pop => (match st with | .inl _ :: r => some (nx, lv, r) | .inr (.inr _) :: r => some (nx, lv, r) | _ => none)
    | .goto _ => some (k, lv, st)
    | _ => none
def gStep (M : gM) (pc : Nat) (lv : List (Option gV)) (st : List gV) : Option (Nat × List (Option gV) × List gV) := match gAt (mT M) pc with
  | some q => gStep1 q lv st
  | none => none
theorem gI_inj {a b : Int} (ha : -2147483648 ≤ a ∧ a ≤ 2147483647) (hb : -2147483648 ≤ b ∧ b ≤ 2147483647) : Int32.ofInt a = Int32.ofInt b ↔ a = b := by
  rw [← Int32.toInt_inj, Int32.toInt_ofInt_of_le (by omega) (by omega), Int32.toInt_ofInt_of_le (by omega) (by omega)]
theorem gI_lt {a b : Int} (ha : -2147483648 ≤ a ∧ a ≤ 2147483647) (hb : -2147483648 ≤ b ∧ b ≤ 2147483647) : Int32.ofInt a < Int32.ofInt b ↔ a < b := by
  rw [Int32.lt_iff_toInt_lt, Int32.toInt_ofInt_of_le (by omega) (by omega), Int32.toInt_ofInt_of_le (by omega) (by omega)]
theorem gI_le {a b : Int} (ha : -2147483648 ≤ a ∧ a ≤ 2147483647) (hb : -2147483648 ≤ b ∧ b ≤ 2147483647) : Int32.ofInt a ≤ Int32.ofInt b ↔ a ≤ b := by
  rw [Int32.le_iff_toInt_le, Int32.toInt_ofInt_of_le (by omega) (by omega), Int32.toInt_ofInt_of_le (by omega) (by omega)]
theorem gI_cl {a : Int} (h0 : 0 ≤ a) (h1 : a ≤ 2147483647) : (Int32.ofInt a).toNatClampNeg = a.toNat := by
  rw [Int32.toNatClampNeg_ofInt_of_le (by omega) (by omega)]
theorem gI_in {a : Int} {n : Nat} (h0 : 0 ≤ a) (h1 : a < n) (hn : n ≤ 2147483647) : vp_in (Int32.ofInt a) n := by
  unfold vp_in
  rw [gI_cl h0 (by omega)]
  rintro (h | h)
  · have := (gI_lt (b := 0) (by omega) (by omega)).mp h
    omega
  · omega
section
variable {G : gG} {M : gM} {F : gK → State → Prop} {pc pc' : Nat} {lv lv' : List (Option gV)} {st st' : List gV} {N : Option Nat} {h : gH} {c s : Nat}
set_option maxHeartbeats 4000000 in
theorem go_pure (hM : gOk M) (hs : gStep M pc lv st = some (pc', lv', st')) (kk : Go G M F pc' lv' st' N h c s) : Go G M F pc lv st N h c s := by
  intro κ H locs ls cells slots hC hH hl hr
  obtain ⟨p, e, R, s0, m, args, below, meth, cd⟩ := κ
  have K : ∀ ls, lvh G (mL M) lv' ls → W p (gl G) e R s0 m args below meth cd H locs cells slots (F (p, e, R, s0, m, args, below, meth, cd)) (F0 m pc' ls (st'.map (gz G))) := fun ls hl => kk _ H locs ls cells slots hC hH hl hr
  show W p (gl G) e R s0 m args below meth cd H locs cells slots (F (p, e, R, s0, m, args, below, meth, cd)) (F0 m pc ls (st.map (gz G)))
  obtain ⟨-, hx, hb, hrt, hml, hown, hts, -⟩ := hC
  have hnL : ∀ k v lv2, gSet lv k v = some lv2 → k < mL M := fun k v lv2 h9 => Nat.lt_of_lt_of_le (gSet_spec _ _ _ _ h9).1 hl.2.2.1
  unfold gStep at hs
  cases hq : gAt (mT M) pc with
  | none => rw [hq] at hs; cases hs
  | some q =>
    rw [hq] at hs
    obtain ⟨pc0, i, nx, z, k, j⟩ := q
    dsimp only at hs
    have D := fun len (h9 : gLen i = len) (h0 : 0 < len) => gdec' hM hq h9 h0
    cases i
    case iconst n =>
      obtain ⟨hd, rfl, ho⟩ := D 1 rfl (by decide)
      simp only [gStep1] at hs
      cases hs
      exact lv_iconst hx hb hd (by rw [show n = z by simpa [gOkI] using ho]) (K ls hl)
    case bipush n =>
      obtain ⟨hd, rfl, ho⟩ := D 2 rfl (by decide)
      simp only [gStep1] at hs
      cases hs
      exact lv_bipush hx hb hd (by simpa [gOkI] using ho) (K ls hl)
    case sipush n =>
      obtain ⟨hd, rfl, ho⟩ := D 3 rfl (by decide)
      simp only [gStep1] at hs
      cases hs
      exact lv_sipush hx hb hd (by simpa [gOkI] using ho) (K ls hl)
    case iload_n n =>
      obtain ⟨hd, rfl, ho⟩ := D 1 rfl (by decide)
      simp only [gStep1] at hs
      split at hs
      next a hg =>
        cases hs
        exact lv_iload_n hx hb hd (by simpa [gOkI] using ho) (hl.get hg) (K ls hl)
      next => cases hs
    case iload n =>
      obtain ⟨hd, rfl, ho⟩ := D 2 rfl (by decide)
      have ho : n = k := by simpa [gOkI] using ho
      subst ho
      simp only [gStep1] at hs
      split at hs
      next a hg =>
        cases hs
        exact lv_iload hx hb hd (hl.get hg) (K ls hl)
      next => cases hs
    case aload_n n =>
      obtain ⟨hd, rfl, ho⟩ := D 1 rfl (by decide)
      simp only [gStep1] at hs
      split at hs
      next a hg =>
        cases hs
        exact lv_aload_n hx hb hd (by simpa [gOkI] using ho) (hl.get hg) (K ls hl)
      next => cases hs
    case aload n =>
      obtain ⟨hd, rfl, ho⟩ := D 2 rfl (by decide)
      have ho : n = k := by simpa [gOkI] using ho
      subst ho
      simp only [gStep1] at hs
      split at hs
      next a hg =>
        cases hs
        exact lv_aload hx hb hd (hl.get hg) (K ls hl)
      next => cases hs
    case istore_n n =>
      obtain ⟨hd, rfl, ho⟩ := D 1 rfl (by decide)
      have ho : n.val = k := by simpa [gOkI] using ho
      simp only [gStep1] at hs
      split at hs
      next a r =>
        split at hs
        next lv2 hg =>
          cases hs
          exact lv_istore_n hx hb hd ho hl.has (hnL _ _ _ hg) rfl (fun ls' h' => K ls' (hl.set hg rfl h'))
        next => cases hs
      next => cases hs
    case istore n =>
      obtain ⟨hd, rfl, ho⟩ := D 2 rfl (by decide)
      have ho : n = k := by simpa [gOkI] using ho
      subst ho
      simp only [gStep1] at hs
      split at hs
      next a r =>
        split at hs
        next lv2 hg =>
          cases hs
          exact lv_istore hx hb hd hl.has (hnL _ _ _ hg) rfl (fun ls' h' => K ls' (hl.set hg rfl h'))
        next => cases hs
      next => cases hs
    case astore_n n =>
      obtain ⟨hd, rfl, ho⟩ := D 1 rfl (by decide)
      have ho : n.val = k := by simpa [gOkI] using ho
      simp only [gStep1] at hs
      split at hs
      next a r =>
        split at hs
        next lv2 hg =>
          cases hs
          exact lv_astore_n hx hb hd ho hl.has (hnL _ _ _ hg) rfl (fun ls' h' => K ls' (hl.set hg rfl h'))
        next => cases hs
      next => cases hs
    case astore n =>
      obtain ⟨hd, rfl, ho⟩ := D 2 rfl (by decide)
      have ho : n = k := by simpa [gOkI] using ho
      subst ho
      simp only [gStep1] at hs
      split at hs
      next a r =>
        split at hs
        next lv2 hg =>
          cases hs
          exact lv_astore hx hb hd hl.has (hnL _ _ _ hg) rfl (fun ls' h' => K ls' (hl.set hg rfl h'))
        next => cases hs
      next => cases hs
    case iinc n d =>
      obtain ⟨hd, rfl, ho⟩ := D 3 rfl (by decide)
      have ho : n = k ∧ d = z := by simpa [gOkI] using ho
      obtain ⟨rfl, rfl⟩ := ho
      simp only [gStep1] at hs
      split at hs
      next a hg =>
        split at hs
        next lv2 hg2 =>
          cases hs
          obtain ⟨n9, h9⟩ := List.getElem?_of_mem ((gPr_mem G lv n _).mpr ⟨_, gGet_spec _ _ _ hg, rfl⟩)
          exact lv_iinc (v := Int32.ofInt (a + d)) hx hb hd hl.has h9 (by rw [Int32.ofInt_add]) (hnL _ _ _ hg2) rfl (fun ls' h' => K ls' (hl.set hg2 rfl h'))
        next => cases hs
      next => cases hs
    case iadd =>
      obtain ⟨hd, rfl, ho⟩ := D 1 rfl (by decide)
      simp only [gStep1] at hs
      split at hs
      next b a r =>
        cases hs
        refine lv_iadd hx hb hd ?_
        rw [← Int32.ofInt_add]
        exact K ls hl
      next => cases hs
    case isub =>
      obtain ⟨hd, rfl, ho⟩ := D 1 rfl (by decide)
      simp only [gStep1] at hs
      split at hs
      next b a r =>
        cases hs
        refine lv_isub hx hb hd ?_
        rw [← Int32.ofInt_sub]
        exact K ls hl
      next => cases hs
    case imul =>
      obtain ⟨hd, rfl, ho⟩ := D 1 rfl (by decide)
      simp only [gStep1] at hs
      split at hs
      next b a r =>
        cases hs
        refine lv_imul hx hb hd ?_
        rw [← Int32.ofInt_mul]
        exact K ls hl
      next => cases hs
    case ineg =>
      obtain ⟨hd, rfl, ho⟩ := D 1 rfl (by decide)
      simp only [gStep1] at hs
      split at hs
      next a r =>
        cases hs
        refine lv_ineg hx hb hd ?_
        rw [← Int32.ofInt_neg]
        exact K ls hl
      next => cases hs
    case dup =>
      obtain ⟨hd, rfl, ho⟩ := D 1 rfl (by decide)
      simp only [gStep1] at hs
      split at hs
      next a r =>
        cases hs
        exact lv_dup hx hb hd rfl (K ls hl)
      next a r =>
        cases hs
        exact lv_dup hx hb hd (by cases a <;> rfl) (K ls hl)
      next => cases hs
    case pop =>
      obtain ⟨hd, rfl, ho⟩ := D 1 rfl (by decide)
      simp only [gStep1] at hs
      split at hs
      next a r =>
        cases hs
        exact lv_pop hx hb hd rfl (K ls hl)
      next a r =>
        cases hs
        exact lv_pop hx hb hd (by cases a <;> rfl) (K ls hl)
      next => cases hs
    case goto off =>
      obtain ⟨hd, rfl, ho⟩ := D 3 rfl (by decide)
      simp only [gStep1] at hs
      cases hs
      exact lv_goto hx hb hd (by simpa [gOkI] using ho) (K ls hl)
    all_goals (simp [gStep1] at hs)
end
end
section
/-! rules with branches and cells -/
theorem gI_0 : (0 : Int32) = Int32.ofInt 0 := by decide
def gGetF : List gV → Nat → Option gV
  | [], _ => none
  | x :: _, 0 => some x
  | _ :: t, i + 1 => gGetF t i
theorem gGetF_spec : ∀ (fs : List gV) (k : Nat) (v : gV), gGetF fs k = some v → fs[k]? = some v := by
  intro fs
  induction fs with
  | nil => intro k v h; simp [gGetF] at h
  | cons x t ih =>
    intro k v h
    cases k with
    | zero => simp [gGetF] at h; subst h; simp
    | succ k => simp [gGetF] at h; simpa using ih k v h
theorem ga_pos {G : gG} {i : Nat} (h : 0 < i) : ga G i = gZ G + i := by
  unfold ga
  rw [if_neg (by omega)]
theorem gRp.at {G : gG} {h : gH} {H : Heap} (hR : gRp G h H) {a : Nat} {e : gE} (hh : h a = some e) : ga G a = gZ G + a ∧ va_at (gD G) gCl (gZ G + a, gzE G e) H := ⟨ga_pos (hR a e hh).1, (hR a e hh).2⟩
theorem gP1 {D : va_G} {q : Nat × va_E} {H : Heap} (h : va_at D gCl q H) : va_P D gCl [q] H := by
  intro k q' hk
  cases k with
  | zero => simp at hk; subst hk; exact h
  | succ k => simp at hk
theorem gK1 {G : gG} {s : State} (hE : gEnv G s) {k : Nat} {ty : FieldType} (hk : gTy[k]? = some ty) : va_K (gD G) gCl [(gdA G k, ty)] s := by
  refine ⟨hE.1.1, fun i q hi => ?_⟩
  cases i with
  | zero => simp at hi; subst hi; exact hE.2.1 k ty hk
  | succ i => simp at hi
/-- a cell is another one then -/
theorem gRp.upd {G : gG} {h : gH} {H H1 : Heap} (hR : gRp G h H) {a : Nat} {e0 e : gE} (hh : h a = some e0) (he : va_at (gD G) gCl (gZ G + a, gzE G e) H1) (oq : ∀ q : Nat, q ≠ gZ G + a → H1[q]? = H[q]?) : gRp G (gU h a e) H1 := by
  intro i e9 hi
  unfold gU at hi
  by_cases hia : i = a
  · subst hia
    simp at hi
    subst hi
    exact ⟨(hR i e0 hh).1, he⟩
  · rw [if_neg hia] at hi
    exact ⟨(hR i e9 hi).1, (hR i e9 hi).2.kept (oq _ (by show gZ G + i ≠ gZ G + a; omega))⟩
/-- a new cell -/
theorem gRp.push {G : gG} {h : gH} {H H1 : Heap} {n : Nat} (hR : gRp G h H) {e : gE} (hn : 0 < n) (hz : H.size = gZ G + n) (he : va_at (gD G) gCl (gZ G + n, gzE G e) H1) (oq : ∀ q : Nat, q < H.size → H1[q]? = H[q]?) : gRp G (gU h n e) H1 := by
  intro i e9 hi
  unfold gU at hi
  by_cases hia : i = n
  · subst hia
    simp at hi
    subst hi
    exact ⟨hn, he⟩
  · rw [if_neg hia] at hi
    exact ⟨(hR i e9 hi).1, (hR i e9 hi).2.kept (oq _ (hR i e9 hi).2.lt)⟩
theorem gS1 {A : Nat → Prop} {H0 H H1 : Heap} {locs : List Loc} {a : Nat} (h : va_S A H0 H locs) (z : H1.size = H.size) (oq : ∀ q : Nat, q ≠ a → H1[q]? = H[q]?) (ha : A a) (k : Nat) : va_S A H0 H1 (locs ++ [⟨a, k⟩]) := h.put z oq ha
theorem gA_in {G : gG} {a : Nat} (h : 0 < a) : gA G (gZ G + a) := by
  show gZ G < gZ G + a
  omega
section
variable {G : gG} {M : gM} {F : gK → State → Prop} {pc : Nat} {lv lv' : List (Option gV)} {st st' : List gV} {N : Option Nat} {h : gH} {c s : Nat} {pc0 nx k j : Nat} {z : Int}
theorem go_if_eq {off : Int} {a : Int} (hM : gOk M) (hi : gAt (mT M) pc = some (pc0, .ifCond .eq off, nx, z, k, j)) (hr1 : -2147483648 ≤ a ∧ a ≤ 2147483647) (kt : a = 0 → Go G M F k lv st N h c s) (kf : ¬ a = 0 → Go G M F nx lv st N h c s) : Go G M F pc lv (vI a :: st) N h c s := by
  intro κ H locs ls cells slots hC hH hl hr
  obtain ⟨p, e, R, s0, m, args, below, meth, cd⟩ := κ
  obtain ⟨hd, rfl, ho⟩ := gdec' (len := 3) hM hi rfl (by decide)
  obtain ⟨-, hx, hb, hrt, hml, hown, hts, hlk, hnm, hfr, hlo, het, hE⟩ := id hC
  have ho : (pc : Int) + off = k := by simpa [gOkI] using ho
  have hI := (gI_inj (b := 0) hr1 (by omega))
  rw [← gI_0] at hI
  exact lv_if_eq hx hb hd ho (fun hc => kt (hI.mp hc) _ H locs ls cells slots hC hH hl hr) (fun hc => kf (fun h9 => hc (hI.mpr h9)) _ H locs ls cells slots hC hH hl hr)
theorem go_if_ne {off : Int} {a : Int} (hM : gOk M) (hi : gAt (mT M) pc = some (pc0, .ifCond .ne off, nx, z, k, j)) (hr1 : -2147483648 ≤ a ∧ a ≤ 2147483647) (kt : ¬ a = 0 → Go G M F k lv st N h c s) (kf : a = 0 → Go G M F nx lv st N h c s) : Go G M F pc lv (vI a :: st) N h c s := by
  intro κ H locs ls cells slots hC hH hl hr
  obtain ⟨p, e, R, s0, m, args, below, meth, cd⟩ := κ
  obtain ⟨hd, rfl, ho⟩ := gdec' (len := 3) hM hi rfl (by decide)
  obtain ⟨-, hx, hb, hrt, hml, hown, hts, hlk, hnm, hfr, hlo, het, hE⟩ := id hC
  have ho : (pc : Int) + off = k := by simpa [gOkI] using ho
  have hI := (gI_inj (b := 0) hr1 (by omega))
  rw [← gI_0] at hI
  exact lv_if_ne hx hb hd ho (fun hc => kt (fun h9 => hc (hI.mpr h9)) _ H locs ls cells slots hC hH hl hr) (fun hc => kf (hI.mp hc) _ H locs ls cells slots hC hH hl hr)
theorem go_if_lt {off : Int} {a : Int} (hM : gOk M) (hi : gAt (mT M) pc = some (pc0, .ifCond .lt off, nx, z, k, j)) (hr1 : -2147483648 ≤ a ∧ a ≤ 2147483647) (kt : a < 0 → Go G M F k lv st N h c s) (kf : ¬ a < 0 → Go G M F nx lv st N h c s) : Go G M F pc lv (vI a :: st) N h c s := by
  intro κ H locs ls cells slots hC hH hl hr
  obtain ⟨p, e, R, s0, m, args, below, meth, cd⟩ := κ
  obtain ⟨hd, rfl, ho⟩ := gdec' (len := 3) hM hi rfl (by decide)
  obtain ⟨-, hx, hb, hrt, hml, hown, hts, hlk, hnm, hfr, hlo, het, hE⟩ := id hC
  have ho : (pc : Int) + off = k := by simpa [gOkI] using ho
  have hI := (gI_lt (b := 0) hr1 (by omega))
  rw [← gI_0] at hI
  exact lv_if_lt hx hb hd ho (fun hc => kt (hI.mp hc) _ H locs ls cells slots hC hH hl hr) (fun hc => kf (fun h9 => hc (hI.mpr h9)) _ H locs ls cells slots hC hH hl hr)
theorem go_if_ge {off : Int} {a : Int} (hM : gOk M) (hi : gAt (mT M) pc = some (pc0, .ifCond .ge off, nx, z, k, j)) (hr1 : -2147483648 ≤ a ∧ a ≤ 2147483647) (kt : 0 ≤ a → Go G M F k lv st N h c s) (kf : ¬ 0 ≤ a → Go G M F nx lv st N h c s) : Go G M F pc lv (vI a :: st) N h c s := by
  intro κ H locs ls cells slots hC hH hl hr
  obtain ⟨p, e, R, s0, m, args, below, meth, cd⟩ := κ
  obtain ⟨hd, rfl, ho⟩ := gdec' (len := 3) hM hi rfl (by decide)
  obtain ⟨-, hx, hb, hrt, hml, hown, hts, hlk, hnm, hfr, hlo, het, hE⟩ := id hC
  have ho : (pc : Int) + off = k := by simpa [gOkI] using ho
  have hI := (gI_le (a := 0) (by omega) hr1)
  rw [← gI_0] at hI
  exact lv_if_ge hx hb hd ho (fun hc => kt (hI.mp hc) _ H locs ls cells slots hC hH hl hr) (fun hc => kf (fun h9 => hc (hI.mpr h9)) _ H locs ls cells slots hC hH hl hr)
theorem go_if_gt {off : Int} {a : Int} (hM : gOk M) (hi : gAt (mT M) pc = some (pc0, .ifCond .gt off, nx, z, k, j)) (hr1 : -2147483648 ≤ a ∧ a ≤ 2147483647) (kt : 0 < a → Go G M F k lv st N h c s) (kf : ¬ 0 < a → Go G M F nx lv st N h c s) : Go G M F pc lv (vI a :: st) N h c s := by
  intro κ H locs ls cells slots hC hH hl hr
  obtain ⟨p, e, R, s0, m, args, below, meth, cd⟩ := κ
  obtain ⟨hd, rfl, ho⟩ := gdec' (len := 3) hM hi rfl (by decide)
  obtain ⟨-, hx, hb, hrt, hml, hown, hts, hlk, hnm, hfr, hlo, het, hE⟩ := id hC
  have ho : (pc : Int) + off = k := by simpa [gOkI] using ho
  have hI := (gI_lt (a := 0) (by omega) hr1)
  rw [← gI_0] at hI
  exact lv_if_gt hx hb hd ho (fun hc => kt (hI.mp hc) _ H locs ls cells slots hC hH hl hr) (fun hc => kf (fun h9 => hc (hI.mpr h9)) _ H locs ls cells slots hC hH hl hr)
theorem go_if_le {off : Int} {a : Int} (hM : gOk M) (hi : gAt (mT M) pc = some (pc0, .ifCond .le off, nx, z, k, j)) (hr1 : -2147483648 ≤ a ∧ a ≤ 2147483647) (kt : a ≤ 0 → Go G M F k lv st N h c s) (kf : ¬ a ≤ 0 → Go G M F nx lv st N h c s) : Go G M F pc lv (vI a :: st) N h c s := by
  intro κ H locs ls cells slots hC hH hl hr
  obtain ⟨p, e, R, s0, m, args, below, meth, cd⟩ := κ
  obtain ⟨hd, rfl, ho⟩ := gdec' (len := 3) hM hi rfl (by decide)
  obtain ⟨-, hx, hb, hrt, hml, hown, hts, hlk, hnm, hfr, hlo, het, hE⟩ := id hC
  have ho : (pc : Int) + off = k := by simpa [gOkI] using ho
  have hI := (gI_le (b := 0) hr1 (by omega))
  rw [← gI_0] at hI
  exact lv_if_le hx hb hd ho (fun hc => kt (hI.mp hc) _ H locs ls cells slots hC hH hl hr) (fun hc => kf (fun h9 => hc (hI.mpr h9)) _ H locs ls cells slots hC hH hl hr)
theorem go_icmp_eq {off : Int} {a b : Int} (hM : gOk M) (hi : gAt (mT M) pc = some (pc0, .if_icmp .eq off, nx, z, k, j)) (hr1 : -2147483648 ≤ a ∧ a ≤ 2147483647) (hr2 : -2147483648 ≤ b ∧ b ≤ 2147483647) (kt : a = b → Go G M F k lv st N h c s) (kf : ¬ a = b → Go G M F nx lv st N h c s) : Go G M F pc lv (vI b :: vI a :: st) N h c s := by
  intro κ H locs ls cells slots hC hH hl hr
  obtain ⟨p, e, R, s0, m, args, below, meth, cd⟩ := κ
  obtain ⟨hd, rfl, ho⟩ := gdec' (len := 3) hM hi rfl (by decide)
  obtain ⟨-, hx, hb, hrt, hml, hown, hts, hlk, hnm, hfr, hlo, het, hE⟩ := id hC
  have ho : (pc : Int) + off = k := by simpa [gOkI] using ho
  have hI := (gI_inj hr1 hr2)
  exact lv_icmp_eq hx hb hd ho (fun hc => kt (hI.mp hc) _ H locs ls cells slots hC hH hl hr) (fun hc => kf (fun h9 => hc (hI.mpr h9)) _ H locs ls cells slots hC hH hl hr)
theorem go_icmp_ne {off : Int} {a b : Int} (hM : gOk M) (hi : gAt (mT M) pc = some (pc0, .if_icmp .ne off, nx, z, k, j)) (hr1 : -2147483648 ≤ a ∧ a ≤ 2147483647) (hr2 : -2147483648 ≤ b ∧ b ≤ 2147483647) (kt : ¬ a = b → Go G M F k lv st N h c s) (kf : a = b → Go G M F nx lv st N h c s) : Go G M F pc lv (vI b :: vI a :: st) N h c s := by
  intro κ H locs ls cells slots hC hH hl hr
  obtain ⟨p, e, R, s0, m, args, below, meth, cd⟩ := κ
  obtain ⟨hd, rfl, ho⟩ := gdec' (len := 3) hM hi rfl (by decide)
  obtain ⟨-, hx, hb, hrt, hml, hown, hts, hlk, hnm, hfr, hlo, het, hE⟩ := id hC
  have ho : (pc : Int) + off = k := by simpa [gOkI] using ho
  have hI := (gI_inj hr1 hr2)
  exact lv_icmp_ne hx hb hd ho (fun hc => kt (fun h9 => hc (hI.mpr h9)) _ H locs ls cells slots hC hH hl hr) (fun hc => kf (hI.mp hc) _ H locs ls cells slots hC hH hl hr)
theorem go_icmp_lt {off : Int} {a b : Int} (hM : gOk M) (hi : gAt (mT M) pc = some (pc0, .if_icmp .lt off, nx, z, k, j)) (hr1 : -2147483648 ≤ a ∧ a ≤ 2147483647) (hr2 : -2147483648 ≤ b ∧ b ≤ 2147483647) (kt : a < b → Go G M F k lv st N h c s) (kf : ¬ a < b → Go G M F nx lv st N h c s) : Go G M F pc lv (vI b :: vI a :: st) N h c s := by
  intro κ H locs ls cells slots hC hH hl hr
  obtain ⟨p, e, R, s0, m, args, below, meth, cd⟩ := κ
  obtain ⟨hd, rfl, ho⟩ := gdec' (len := 3) hM hi rfl (by decide)
  obtain ⟨-, hx, hb, hrt, hml, hown, hts, hlk, hnm, hfr, hlo, het, hE⟩ := id hC
  have ho : (pc : Int) + off = k := by simpa [gOkI] using ho
  have hI := (gI_lt hr1 hr2)
  exact lv_icmp_lt hx hb hd ho (fun hc => kt (hI.mp hc) _ H locs ls cells slots hC hH hl hr) (fun hc => kf (fun h9 => hc (hI.mpr h9)) _ H locs ls cells slots hC hH hl hr)
theorem go_icmp_ge {off : Int} {a b : Int} (hM : gOk M) (hi : gAt (mT M) pc = some (pc0, .if_icmp .ge off, nx, z, k, j)) (hr1 : -2147483648 ≤ a ∧ a ≤ 2147483647) (hr2 : -2147483648 ≤ b ∧ b ≤ 2147483647) (kt : b ≤ a → Go G M F k lv st N h c s) (kf : ¬ b ≤ a → Go G M F nx lv st N h c s) : Go G M F pc lv (vI b :: vI a :: st) N h c s := by
  intro κ H locs ls cells slots hC hH hl hr
  obtain ⟨p, e, R, s0, m, args, below, meth, cd⟩ := κ
  obtain ⟨hd, rfl, ho⟩ := gdec' (len := 3) hM hi rfl (by decide)
  obtain ⟨-, hx, hb, hrt, hml, hown, hts, hlk, hnm, hfr, hlo, het, hE⟩ := id hC
  have ho : (pc : Int) + off = k := by simpa [gOkI] using ho
  have hI := (gI_le hr2 hr1)
  exact lv_icmp_ge hx hb hd ho (fun hc => kt (hI.mp hc) _ H locs ls cells slots hC hH hl hr) (fun hc => kf (fun h9 => hc (hI.mpr h9)) _ H locs ls cells slots hC hH hl hr)
theorem go_icmp_gt {off : Int} {a b : Int} (hM : gOk M) (hi : gAt (mT M) pc = some (pc0, .if_icmp .gt off, nx, z, k, j)) (hr1 : -2147483648 ≤ a ∧ a ≤ 2147483647) (hr2 : -2147483648 ≤ b ∧ b ≤ 2147483647) (kt : b < a → Go G M F k lv st N h c s) (kf : ¬ b < a → Go G M F nx lv st N h c s) : Go G M F pc lv (vI b :: vI a :: st) N h c s := by
  intro κ H locs ls cells slots hC hH hl hr
  obtain ⟨p, e, R, s0, m, args, below, meth, cd⟩ := κ
  obtain ⟨hd, rfl, ho⟩ := gdec' (len := 3) hM hi rfl (by decide)
  obtain ⟨-, hx, hb, hrt, hml, hown, hts, hlk, hnm, hfr, hlo, het, hE⟩ := id hC
  have ho : (pc : Int) + off = k := by simpa [gOkI] using ho
  have hI := (gI_lt hr2 hr1)
  exact lv_icmp_gt hx hb hd ho (fun hc => kt (hI.mp hc) _ H locs ls cells slots hC hH hl hr) (fun hc => kf (fun h9 => hc (hI.mpr h9)) _ H locs ls cells slots hC hH hl hr)
theorem go_icmp_le {off : Int} {a b : Int} (hM : gOk M) (hi : gAt (mT M) pc = some (pc0, .if_icmp .le off, nx, z, k, j)) (hr1 : -2147483648 ≤ a ∧ a ≤ 2147483647) (hr2 : -2147483648 ≤ b ∧ b ≤ 2147483647) (kt : a ≤ b → Go G M F k lv st N h c s) (kf : ¬ a ≤ b → Go G M F nx lv st N h c s) : Go G M F pc lv (vI b :: vI a :: st) N h c s := by
  intro κ H locs ls cells slots hC hH hl hr
  obtain ⟨p, e, R, s0, m, args, below, meth, cd⟩ := κ
  obtain ⟨hd, rfl, ho⟩ := gdec' (len := 3) hM hi rfl (by decide)
  obtain ⟨-, hx, hb, hrt, hml, hown, hts, hlk, hnm, hfr, hlo, het, hE⟩ := id hC
  have ho : (pc : Int) + off = k := by simpa [gOkI] using ho
  have hI := (gI_le hr1 hr2)
  exact lv_icmp_le hx hb hd ho (fun hc => kt (hI.mp hc) _ H locs ls cells slots hC hH hl hr) (fun hc => kf (fun h9 => hc (hI.mpr h9)) _ H locs ls cells slots hC hH hl hr)
theorem go_ldc {idx : Nat} (hM : gOk M) (hi : gAt (mT M) pc = some (pc0, .ldc idx, nx, z, k, 0)) (kk : Go G M F nx lv (vI z :: st) N h c s) : Go G M F pc lv st N h c s := by
  intro κ H locs ls cells slots hC hH hl hr
  obtain ⟨p, e, R, s0, m, args, below, meth, cd⟩ := κ
  obtain ⟨hd, rfl, ho⟩ := gdec' (len := 2) hM hi rfl (by decide)
  obtain ⟨-, hx, hb, hrt, hml, hown, hts, hlk, hnm, hfr, hlo, het, hE⟩ := id hC
  have ho : Cond.constant (mN M).cls idx (Int32.ofInt z) ∈ gT := gIn_spec (by simpa [gOkI] using ho)
  exact lv_ldc hx hb hown (hts _ ho) hd (kk _ H locs ls cells slots hC hH hl hr)
theorem gOkF_spec {own : String} {idx k j : Nat} (h : gOkF own idx k j = true) : ∃ (C : String) (T : u_T) (n : Nat), gCl[k]? = some (C, T, n) ∧ j < n ∧ (T j).1 = C ∧ Cond.fieldLink own idx C (T j).2.1 (T j).2.2.1 ∈ gT := by
  unfold gOkF at h
  cases hc : gCl[k]? with
  | none => rw [hc] at h; cases h
  | some q =>
    rw [hc] at h
    obtain ⟨C, T, n⟩ := q
    simp only [Bool.and_eq_true, decide_eq_true_eq] at h
    exact ⟨C, T, n, rfl, h.1.1, h.1.2, gIn_spec h.2⟩
theorem go_get {idx a : Nat} {fs : List gV} {v : gV} (hM : gOk M) (hi : gAt (mT M) pc = some (pc0, .getfield idx, nx, z, k, j)) (hh : h a = some (.inr (k, fs))) (hv : gGetF fs j = some v) (kk : Go G M F nx lv (v :: st) N h c s) : Go G M F pc lv (vR a :: st) N h c s := by
  intro κ H locs ls cells slots hC hH hl hr
  obtain ⟨p, e, R, s0, m, args, below, meth, cd⟩ := κ
  obtain ⟨hd, rfl, ho⟩ := gdec' (len := 3) hM hi rfl (by decide)
  obtain ⟨-, hx, hb, hrt, hml, hown, hts, hlk, hnm, hfr, hlo, het, hE⟩ := id hC
  obtain ⟨C, T, n, hc, hj, hT, hw⟩ := gOkF_spec (show gOkF (mN M).cls idx k j = true from ho)
  obtain ⟨ea, hat⟩ := hH.1.at hh
  show W p (gl G) e R s0 m args below meth cd H locs cells slots (F (p, e, R, s0, m, args, below, meth, cd)) (F0 m pc ls (.ref (ga G a) :: st.map (gz G)))
  rw [ea]
  exact va_get (D := gD G) (cl := gCl) (tys := []) (ci := k) (C := C) (T := T) (N := n) (v := gz G v) hx hb hts (gUws k _ hc) hown hE.1 (gP1 hat) 0 rfl hc j hj (hts _ hw) (fun x h9 => by rw [hT] at h9; exact h9) (by simp [gGetF_spec _ _ _ hv]) hd (kk _ H locs ls cells slots hC hH hl hr)
/-- what a field of a kind takes -/
def gFit (ty : FieldType) (v : gV) : Bool := match ty, v with
  | .int, .inl _ => true
  | .boolean, .inl y => decide (y = 0) || decide (y = 1)
  | .long, .inr (.inl _) => true
  | .object _, .inr (.inr _) => true
  | .array _, .inr (.inr _) => true
  | _, _ => false
theorem gFit_spec {G : gG} {ty : FieldType} {v : gV} (hf : gFit ty v = true) : narrow ty (gz G v) = gz G v ∧ fits ty (gz G v) = true := by
  unfold gFit at hf
  split at hf
  · exact ⟨rfl, rfl⟩
  · simp only [Bool.or_eq_true, decide_eq_true_eq] at hf
    rcases hf with rfl | rfl
    · show narrow .boolean (.int (Int32.ofInt 0)) = .int (Int32.ofInt 0) ∧ fits .boolean (.int (Int32.ofInt 0)) = true
      decide
    · show narrow .boolean (.int (Int32.ofInt 1)) = .int (Int32.ofInt 1) ∧ fits .boolean (.int (Int32.ofInt 1)) = true
      decide
  · exact ⟨rfl, rfl⟩
  · rename_i r
    cases r <;> exact ⟨rfl, rfl⟩
  · rename_i r
    cases r <;> exact ⟨rfl, rfl⟩
  · cases hf
theorem gOkP_spec {M : gM} {k j : Nat} {C : String} {T : u_T} {n : Nat} (hc : gCl[k]? = some (C, T, n)) (h : gOkP M k j = true) : (T j).2.2.2 = false ∨ ((T j).2.2.2 = true ∧ (mN M).name = "<init>" ∧ (mN M).cls = C) := by
  unfold gOkP at h
  rw [hc] at h
  simp only [Bool.or_eq_true, Bool.and_eq_true, decide_eq_true_eq] at h
  cases hb : (T j).2.2.2 with
  | false => exact Or.inl rfl
  | true =>
    rw [hb] at h
    exact Or.inr ⟨rfl, (h.resolve_left (by decide)).1, (h.resolve_left (by decide)).2⟩
set_option maxHeartbeats 1000000 in
theorem go_put {idx a : Nat} {fs fs' : List gV} {v : gV} (hM : gOk M) (hi : gAt (mT M) pc = some (pc0, .putfield idx, nx, z, k, j)) (hh : h a = some (.inr (k, fs))) (hf : gFit (gFt k j) v = true) (hv : gSetF fs j v = some fs') (kk : Go G M F nx lv st N (gU h a (.inr (k, fs'))) c s) : Go G M F pc lv (v :: vR a :: st) N h c s := by
  intro κ H locs ls cells slots hC hH hl hr
  obtain ⟨p, e, R, s0, m, args, below, meth, cd⟩ := κ
  obtain ⟨hd, rfl, ho⟩ := gdec' (len := 3) hM hi rfl (by decide)
  obtain ⟨-, hx, hb, hrt, hml, hown, hts, hlk, hnm, hfr, hlo, het, hE⟩ := id hC
  have ho : gOkF (mN M).cls idx k j = true ∧ gOkP M k j = true := by simpa [gOkI] using ho
  obtain ⟨C, T, n, hc, hj, hT, hw⟩ := gOkF_spec ho.1
  obtain ⟨hlen, rfl⟩ := gSetF_spec _ _ _ _ hv
  obtain ⟨ea, hat⟩ := hH.1.at hh
  have hpos := (hH.1 a _ hh).1
  obtain ⟨hnar, hfit⟩ := gFit_spec (G := G) hf
  have hty := gFt_ok k _ hc
  have hne := gFn_ok k _ hc
  show W p (gl G) e R s0 m args below meth cd H locs cells slots (F (p, e, R, s0, m, args, below, meth, cd)) (F0 m pc ls (gz G v :: .ref (ga G a) :: st.map (gz G)))
  rw [ea]
  have hap := va_apart (own := (mN M).cls) (tys := []) (D := gD G) (cl := gCl) hts (gUws k _ hc) (gFt k) hty hne hE.1 hc
  obtain ⟨r, h1, cell, q1, q2, q3, q4⟩ := hat
  have hrr : r = (C, T, n) := Option.some.inj (h1.symm.trans hc)
  subst hrr
  obtain ⟨hSl, hfc, kC, hkC, hkind⟩ := hE.1.1 k _ hc
  obtain ⟨cf, kf, fi, f, hfi, hsl⟩ := hSl j hj
  have hfi2 : s0.fieldFound? C (T j).2.1 (T j).2.2.1 = some (cf, kf, fi, f) := by
    have h9 := hfi
    rw [hT] at h9
    exact h9
  have hst := (u_facts hfc hkC (u_lays hts (gUws k _ hc) hj) hfi).1
  have fin : ∀ H1 : Heap, H1[gZ G + a]? = some (cell.setSlot f.slot (gz G v)) → H1.size = H.size → (∀ q, q ≠ gZ G + a → H1[q]? = H[q]?) → W p (gl G) e R s0 m args below meth cd H1 (locs ++ [⟨gZ G + a, f.slot⟩]) cells slots (F (p, e, R, s0, m, args, below, meth, cd)) (F0 m (pc + 3) ls (st.map (gz G))) := by
    intro H1 e1 e2 e3
    rw [hsl] at e1
    refine kk _ H1 _ ls cells slots hC ⟨hH.1.upd hh ?_ e3, fun n9 h9 => by rw [e2]; exact hH.2.1 n9 h9, gS1 hH.2.2 e2 e3 (gA_in hpos) _⟩ hl hr
    refine ⟨_, hc, t_OB.to (V := updV (vp_V (fs.map (gz G))) j (gz G v)) ⟨_, e1, q2, q3, t_set q4 hap hj (gz G v)⟩ (fun i9 _ => ?_)⟩
    rw [vp_updV_set (by simpa using hlen)]
    simp
  rcases gOkP_spec hc ho.2 with hfl | ⟨hfl, hin, hcl⟩
  · have hlay := hts _ (gUws k _ hc _ (u_in_lay hj))
    unfold u_lay at hlay
    rw [if_neg (by rw [hfl]; decide)] at hlay
    have h6 := u_store hfc hkC hkind hlay hfi (hty j hj) hnar hfit
    exact W.putK hx hb (f := f) ⟨hown, hts _ hw, ⟨_, _, _, hfi2⟩, hst⟩ (by rw [q2]; exact h6) q1 q3 (by rw [hsl]; exact k2_hasslot (q4 j hj)) rfl rfl hd fin
  · have hlay := hts _ (gUws k _ hc _ (u_in_lay hj))
    unfold u_lay at hlay
    rw [if_pos hfl] at hlay
    have hcf : m.cls = cf := by
      obtain ⟨_, _, c', _, _, _, -, -, hf', -, -, -, hown2, -⟩ := Cond.laysFinal_spec hlay
      have e1 : c' = cf := by have := hfi.symm.trans hf'; simp at this; exact this.1.symm
      rw [hT, ← hcl] at hown2
      rw [← e1]
      exact Option.some.inj (hown.symm.trans hown2)
    have h6 := u_fits hfc hkC hkind (Or.inr hlay) hfi (hty j hj) hnar hfit
    exact W.putFinK hx hb hown (hts _ hw) hfi2 hst hcf (hnm.trans hin) (by rw [q2]; exact h6) q1 q3 (by rw [hsl]; exact k2_hasslot (q4 j hj)) rfl rfl hd fin
/-- a function with one value changed -/
def gF {α : Type} (f : Nat → α) (k : Nat) (x : α) : Nat → α := fun j => if j = k then x else f j
theorem go_iald {a n : Nat} {i : Int} {f : Nat → Int} (hM : gOk M) (hi : gAt (mT M) pc = some (pc0, .iaload, nx, z, k, j)) (hh : h a = some (.inl (0, n, .inl f))) (h0 : 0 ≤ i) (h1 : i < n) (hn : n ≤ 2147483647) (kk : Go G M F nx lv (vI (f i.toNat) :: st) N h c s) : Go G M F pc lv (vI i :: vR a :: st) N h c s := by
  intro κ H locs ls cells slots hC hH hl hr
  obtain ⟨p, e, R, s0, m, args, below, meth, cd⟩ := κ
  obtain ⟨hd, rfl, ho⟩ := gdec' (len := 1) hM hi rfl (by decide)
  obtain ⟨-, hx, hb, hrt, hml, hown, hts, hlk, hnm, hfr, hlo, het, hE⟩ := id hC
  obtain ⟨ea, hat⟩ := hH.1.at hh
  show W p (gl G) e R s0 m args below meth cd H locs cells slots (F (p, e, R, s0, m, args, below, meth, cd)) (F0 m pc ls (.int (Int32.ofInt i) :: .ref (ga G a) :: st.map (gz G)))
  rw [ea]
  refine va_iald (f := fun i => Int32.ofInt (f i)) hx hb (gK1 hE (k := 0) rfl) (gP1 hat) 0 0 rfl rfl (gI_in h0 h1 hn) hd ?_
  rw [gI_cl h0 (by omega)]
  exact kk _ H locs ls cells slots hC hH hl hr
theorem go_lald {a n : Nat} {i : Int} {f : Nat → Int64} (hM : gOk M) (hi : gAt (mT M) pc = some (pc0, .laload, nx, z, k, j)) (hh : h a = some (.inl (1, n, .inr (.inl f)))) (h0 : 0 ≤ i) (h1 : i < n) (hn : n ≤ 2147483647) (kk : Go G M F nx lv (vL (f i.toNat) :: st) N h c s) : Go G M F pc lv (vI i :: vR a :: st) N h c s := by
  intro κ H locs ls cells slots hC hH hl hr
  obtain ⟨p, e, R, s0, m, args, below, meth, cd⟩ := κ
  obtain ⟨hd, rfl, ho⟩ := gdec' (len := 1) hM hi rfl (by decide)
  obtain ⟨-, hx, hb, hrt, hml, hown, hts, hlk, hnm, hfr, hlo, het, hE⟩ := id hC
  obtain ⟨ea, hat⟩ := hH.1.at hh
  show W p (gl G) e R s0 m args below meth cd H locs cells slots (F (p, e, R, s0, m, args, below, meth, cd)) (F0 m pc ls (.int (Int32.ofInt i) :: .ref (ga G a) :: st.map (gz G)))
  rw [ea]
  refine va_lald (f := f) hx hb (gK1 hE (k := 1) rfl) (gP1 hat) 0 0 rfl rfl (gI_in h0 h1 hn) hd ?_
  rw [gI_cl h0 (by omega)]
  exact kk _ H locs ls cells slots hC hH hl hr
theorem go_aald {a n ty : Nat} {C : String} {i : Int} {f : Nat → Option Nat} (hM : gOk M) (hi : gAt (mT M) pc = some (pc0, .aaload, nx, z, k, j)) (hh : h a = some (.inl (ty, n, .inr (.inr f)))) (hty : gTy[ty]? = some (.object C)) (h0 : 0 ≤ i) (h1 : i < n) (hn : n ≤ 2147483647) (kk : Go G M F nx lv (.inr (.inr (f i.toNat)) :: st) N h c s) : Go G M F pc lv (vI i :: vR a :: st) N h c s := by
  intro κ H locs ls cells slots hC hH hl hr
  obtain ⟨p, e, R, s0, m, args, below, meth, cd⟩ := κ
  obtain ⟨hd, rfl, ho⟩ := gdec' (len := 1) hM hi rfl (by decide)
  obtain ⟨-, hx, hb, hrt, hml, hown, hts, hlk, hnm, hfr, hlo, het, hE⟩ := id hC
  obtain ⟨ea, hat⟩ := hH.1.at hh
  show W p (gl G) e R s0 m args below meth cd H locs cells slots (F (p, e, R, s0, m, args, below, meth, cd)) (F0 m pc ls (.int (Int32.ofInt i) :: .ref (ga G a) :: st.map (gz G)))
  rw [ea]
  refine va_aldq (f := fun i => (f i).map (ga G)) (C := C) hx hb (gK1 hE hty) (gP1 hat) 0 0 rfl rfl (gI_in h0 h1 hn) hd ?_
  have e9 : va_rf ((f i.toNat).map (ga G)) = gz G (.inr (.inr (f i.toNat))) := by cases f i.toNat <;> rfl
  rw [gI_cl h0 (by omega), e9]
  exact kk _ H locs ls cells slots hC hH hl hr
theorem go_sld {i : Int} (hM : gOk M) (hi : gAt (mT M) pc = some (pc0, .iaload, nx, z, k, j)) (h0 : 0 ≤ i) (h1 : i < gL G) (hn : gL G ≤ 2147483647) (kk : Go G M F nx lv (vI (gxs G i.toNat).toInt :: st) N h c s) : Go G M F pc lv (vI i :: vR 0 :: st) N h c s := by
  intro κ H locs ls cells slots hC hH hl hr
  obtain ⟨p, e, R, s0, m, args, below, meth, cd⟩ := κ
  obtain ⟨hd, rfl, ho⟩ := gdec' (len := 1) hM hi rfl (by decide)
  obtain ⟨-, hx, hb, hrt, hml, hown, hts, hlk, hnm, hfr, hlo, het, hE⟩ := id hC
  obtain ⟨-, -, -, -, -, hX, hbz, hZs, -⟩ := hE
  refine va_sld hx hb hX (Nat.lt_of_le_of_lt hbz hZs) (show ¬ gA G (gb G) from Nat.not_lt.mpr hbz) hH.2.2 (gI_in h0 h1 hn) hd ?_
  rw [gI_cl h0 (by omega)]
  have h9 := kk _ H locs ls cells slots hC hH hl hr
  have e9 : gz G (vI (gxs G i.toNat).toInt) = .int (gxs G i.toNat) := by simp [gz]
  simp only [gWk, List.map_cons, e9] at h9
  exact h9
theorem go_slen (hM : gOk M) (hi : gAt (mT M) pc = some (pc0, .arraylength, nx, z, k, j)) (kk : Go G M F nx lv (vI (gL G) :: st) N h c s) : Go G M F pc lv (vR 0 :: st) N h c s := by
  intro κ H locs ls cells slots hC hH hl hr
  obtain ⟨p, e, R, s0, m, args, below, meth, cd⟩ := κ
  obtain ⟨hd, rfl, ho⟩ := gdec' (len := 1) hM hi rfl (by decide)
  obtain ⟨-, hx, hb, hrt, hml, hown, hts, hlk, hnm, hfr, hlo, het, hE⟩ := id hC
  obtain ⟨-, -, -, -, -, hX, hbz, hZs, -⟩ := hE
  refine va_slen hx hb hX (Nat.lt_of_le_of_lt hbz hZs) (show ¬ gA G (gb G) from Nat.not_lt.mpr hbz) hH.2.2 hd ?_
  rw [← Int32.ofInt_eq_ofNat]
  exact kk _ H locs ls cells slots hC hH hl hr
theorem go_alen {a n ty : Nat} {f : gC} {t : FieldType} (hM : gOk M) (hi : gAt (mT M) pc = some (pc0, .arraylength, nx, z, k, j)) (hh : h a = some (.inl (ty, n, f))) (hty : gTy[ty]? = some t) (kk : Go G M F nx lv (vI n :: st) N h c s) : Go G M F pc lv (vR a :: st) N h c s := by
  intro κ H locs ls cells slots hC hH hl hr
  obtain ⟨p, e, R, s0, m, args, below, meth, cd⟩ := κ
  obtain ⟨hd, rfl, ho⟩ := gdec' (len := 1) hM hi rfl (by decide)
  obtain ⟨-, hx, hb, hrt, hml, hown, hts, hlk, hnm, hfr, hlo, het, hE⟩ := id hC
  obtain ⟨ea, hat⟩ := hH.1.at hh
  show W p (gl G) e R s0 m args below meth cd H locs cells slots (F (p, e, R, s0, m, args, below, meth, cd)) (F0 m pc ls (.ref (ga G a) :: st.map (gz G)))
  rw [ea]
  exact va_alen hx hb (gK1 hE hty) (gP1 hat) 0 0 rfl rfl (v := Int32.ofInt n) Int32.ofInt_eq_ofNat.symm hd (kk _ H locs ls cells slots hC hH hl hr)
theorem go_iast {a n : Nat} {i x : Int} {f : Nat → Int} (hM : gOk M) (hi : gAt (mT M) pc = some (pc0, .iastore, nx, z, k, j)) (hh : h a = some (.inl (0, n, .inl f))) (h0 : 0 ≤ i) (h1 : i < n) (hn : n ≤ 2147483647) (kk : Go G M F nx lv st N (gU h a (.inl (0, n, .inl (gF f i.toNat x)))) c s) : Go G M F pc lv (vI x :: vI i :: vR a :: st) N h c s := by
  intro κ H locs ls cells slots hC hH hl hr
  obtain ⟨p, e, R, s0, m, args, below, meth, cd⟩ := κ
  obtain ⟨hd, rfl, ho⟩ := gdec' (len := 1) hM hi rfl (by decide)
  obtain ⟨-, hx, hb, hrt, hml, hown, hts, hlk, hnm, hfr, hlo, het, hE⟩ := id hC
  obtain ⟨ea, hat⟩ := hH.1.at hh
  have hpos := (hH.1 a _ hh).1
  show W p (gl G) e R s0 m args below meth cd H locs cells slots (F (p, e, R, s0, m, args, below, meth, cd)) (F0 m pc ls (.int (Int32.ofInt x) :: .int (Int32.ofInt i) :: .ref (ga G a) :: st.map (gz G)))
  rw [ea]
  refine W.iast hx hb hat ((hE.2.1 0 .int rfl).1 n (fun j => .int (Int32.ofInt (f j)))) (fun q => by cases q) (by show ¬ (_ < 0 ∨ (arrV _ _ _).slots.size ≤ _); rw [arrV_size]; exact gI_in h0 h1 hn) rfl rfl hd fun H1 e1 e2 e3 => ?_
  refine kk _ H1 _ ls cells slots hC ⟨hH.1.upd hh ?_ e3, fun n9 h9 => by rw [e2]; exact hH.2.1 n9 h9, gS1 hH.2.2 e2 e3 (gA_in hpos) _⟩ hl hr
  show H1[gZ G + a]? = some (vp_cell _ _)
  rw [e1]
  show some ((arrV (gdA G 0) n (fun j => .int (Int32.ofInt (f j)))).setSlot _ _) = some (arrV (gdA G 0) n (fun j => .int (Int32.ofInt (gF f i.toNat x j))))
  rw [arrV_store, gI_cl h0 (by omega)]
  congr 2
  funext q
  by_cases hq : q = i.toNat
  · subst hq
    simp [updV, gF]
  · simp [updV, gF, hq]
theorem go_last {a n : Nat} {i : Int} {x : Int64} {f : Nat → Int64} (hM : gOk M) (hi : gAt (mT M) pc = some (pc0, .lastore, nx, z, k, j)) (hh : h a = some (.inl (1, n, .inr (.inl f)))) (h0 : 0 ≤ i) (h1 : i < n) (hn : n ≤ 2147483647) (kk : Go G M F nx lv st N (gU h a (.inl (1, n, .inr (.inl (gF f i.toNat x))))) c s) : Go G M F pc lv (vL x :: vI i :: vR a :: st) N h c s := by
  intro κ H locs ls cells slots hC hH hl hr
  obtain ⟨p, e, R, s0, m, args, below, meth, cd⟩ := κ
  obtain ⟨hd, rfl, ho⟩ := gdec' (len := 1) hM hi rfl (by decide)
  obtain ⟨-, hx, hb, hrt, hml, hown, hts, hlk, hnm, hfr, hlo, het, hE⟩ := id hC
  obtain ⟨ea, hat⟩ := hH.1.at hh
  have hpos := (hH.1 a _ hh).1
  show W p (gl G) e R s0 m args below meth cd H locs cells slots (F (p, e, R, s0, m, args, below, meth, cd)) (F0 m pc ls (.long x :: .int (Int32.ofInt i) :: .ref (ga G a) :: st.map (gz G)))
  rw [ea]
  refine W.last hx hb hat ((hE.2.1 1 .long rfl).1 n (fun j => .long (f j))) (fun q => by cases q) (by show ¬ (_ < 0 ∨ (arrV _ _ _).slots.size ≤ _); rw [arrV_size]; exact gI_in h0 h1 hn) rfl rfl hd fun H1 e1 e2 e3 => ?_
  refine kk _ H1 _ ls cells slots hC ⟨hH.1.upd hh ?_ e3, fun n9 h9 => by rw [e2]; exact hH.2.1 n9 h9, gS1 hH.2.2 e2 e3 (gA_in hpos) _⟩ hl hr
  show H1[gZ G + a]? = some (vp_cell _ _)
  rw [e1]
  show some ((arrV (gdA G 1) n (fun j => .long (f j))).setSlot _ _) = some (arrV (gdA G 1) n (fun j => .long (gF f i.toNat x j)))
  rw [arrV_store, gI_cl h0 (by omega)]
  congr 2
  funext q
  by_cases hq : q = i.toNat
  · subst hq
    simp [updV, gF]
  · simp [updV, gF, hq]
end
end
section
/-! new cells, stores of references, members of the JDK -/
section
variable {G : gG} {M : gM} {F : gK → State → Prop} {pc : Nat} {lv lv' : List (Option gV)} {st st' : List gV} {N : Option Nat} {h : gH} {c s : Nat} {pc0 nx k j : Nat} {z : Int}

theorem go_aast {a n ty v ci : Nat} {C : String} {T : u_T} {nn : Nat} {fs : List gV} {i : Int} {f : Nat → Option Nat} (hM : gOk M) (hi : gAt (mT M) pc = some (pc0, .aastore, nx, z, k, j)) (hh : h a = some (.inl (ty, n, .inr (.inr f)))) (hty : gTy[ty]? = some (.object C)) (hv : h v = some (.inr (ci, fs))) (hci : gCl[ci]? = some (C, T, nn)) (h0 : 0 ≤ i) (h1 : i < n) (hn : n ≤ 2147483647) (kk : Go G M F nx lv st N (gU h a (.inl (ty, n, .inr (.inr (gF f i.toNat (some v)))))) c s) : Go G M F pc lv (vR v :: vI i :: vR a :: st) N h c s := by
  intro κ H locs ls cells slots hC hH hl hr
  obtain ⟨p, e, R, s0, m, args, below, meth, cd⟩ := κ
  obtain ⟨hd, rfl, ho⟩ := gdec' (len := 1) hM hi rfl (by decide)
  obtain ⟨-, hx, hb, hrt, hml, hown, hts, hlk, hnm, hfr, hlo, het, hE⟩ := id hC
  obtain ⟨ea, hat⟩ := hH.1.at hh
  obtain ⟨ev, hav⟩ := hH.1.at hv
  have hpos := (hH.1 a _ hh).1
  show W p (gl G) e R s0 m args below meth cd H locs cells slots (F (p, e, R, s0, m, args, below, meth, cd)) (F0 m pc ls (.ref (ga G v) :: .int (Int32.ofInt i) :: .ref (ga G a) :: st.map (gz G)))
  rw [ea, ev]
  obtain ⟨r', hr', cellV, g1, g2, g3, -⟩ := hav
  have hcls := (hE.1.1 ci _ hci).2
  obtain ⟨kA, comp, k1, k2, k3, -⟩ := (hE.2.1 ty _ hty).2
  have hcomp : comp = (gD G).1 ci := Option.some.inj (k3.symm.trans hcls.1)
  subst hcomp
  obtain ⟨kC, hkC, -⟩ := hcls.2
  have hin := gI_in h0 h1 hn
  refine W.aast hx hb hat (fun q h9 => by cases h9) (fun h9 => by cases h9) k1 k2 rfl hkC ⟨fun q => hin (Or.inl q), by show _ < (arrV _ _ _).slots.size; rw [arrV_size]; exact Nat.not_le.mp fun q => hin (Or.inr q)⟩ g1 (fun q h9 => by rw [g3] at h9; cases h9) (by rw [g2]; exact hkC) (by rw [g2]; exact va_assign hcls) rfl rfl hd fun H1 e1 e2 e3 => ?_
  refine kk _ H1 _ ls cells slots hC ⟨hH.1.upd hh ?_ e3, fun n9 h9 => by rw [e2]; exact hH.2.1 n9 h9, gS1 hH.2.2 e2 e3 (gA_in hpos) _⟩ hl hr
  show H1[gZ G + a]? = some (vp_cell _ _)
  rw [e1]
  show some ((arrV (gdA G ty) n (fun j => va_rf ((f j).map (ga G)))).setSlot _ _) = some (arrV (gdA G ty) n (fun j => va_rf ((gF f i.toNat (some v) j).map (ga G))))
  rw [arrV_store, gI_cl h0 (by omega)]
  congr 2
  funext q
  by_cases hq : q = i.toNat
  · subst hq
    simp [updV, gF, va_rf, ev]
  · simp [updV, gF, hq]
theorem gOkN_spec {own : String} {idx k : Nat} (h : gOkN own idx k = true) : ∃ (C : String) (T : u_T) (n : Nat), gCl[k]? = some (C, T, n) ∧ Cond.classLink own idx C ∈ gT ∧ Cond.instantiable C n ∈ gT ∧ Cond.initialized C ∈ gT := by
  unfold gOkN at h
  cases hc : gCl[k]? with
  | none => rw [hc] at h; cases h
  | some q =>
    rw [hc] at h
    obtain ⟨C, T, n⟩ := q
    simp only [Bool.and_eq_true, decide_eq_true_eq] at h
    exact ⟨C, T, n, rfl, gIn_spec h.1.1, gIn_spec h.1.2, gIn_spec h.2⟩
/-- the values with which a field begins -/
def gDf (ty : FieldType) : gV := match ty with
  | .int => .inl 0
  | .boolean => .inl 0
  | .long => .inr (.inl 0)
  | _ => .inr (.inr none)
def gDfs (k n : Nat) : List gV := (List.range n).map (fun i => gDf (gFt k i))
theorem gDf_spec {G : gG} {ty : FieldType} (hk : ty = .int ∨ ty = .boolean ∨ ty = .long ∨ (∃ C, ty = .object C) ∨ ∃ t, ty = .array t) : defaultValue ty = gz G (gDf ty) := by
  rcases hk with rfl | rfl | rfl | ⟨C, rfl⟩ | ⟨t, rfl⟩ <;> rfl
set_option maxHeartbeats 1000000 in
theorem go_new {idx nf : Nat} {n : Nat} {C : String} {T : u_T} (hM : gOk M) (hi : gAt (mT M) pc = some (pc0, .new idx, nx, z, k, 0)) (hn : 0 < n) (hk : gCl[k]? = some (C, T, nf)) (kk : Go G M F nx lv (vR n :: st) (some (n + 1)) (gU h n (.inr (k, gDfs k nf))) c s) : Go G M F pc lv st (some n) h (c + 1) (s + nf) := by
  intro κ H locs ls cells slots hC hH hl hr
  obtain ⟨p, e, R, s0, m, args, below, meth, cd⟩ := κ
  obtain ⟨hd, rfl, ho⟩ := gdec' (len := 3) hM hi rfl (by decide)
  obtain ⟨-, hx, hb, hrt, hml, hown, hts, hlk, hnm, hfr, hlo, het, hE⟩ := id hC
  have ho : gOkN (mN M).cls idx k = true := by simpa [gOkI] using ho
  obtain ⟨C', T', nf', hc, w1, w2, w3⟩ := gOkN_spec ho
  cases hk.symm.trans hc
  have hKn := hE.1.1 k _ hc
  have hz : H.size = gZ G + n := hH.2.1 n rfl
  have hr : cells + (c + 1) ≤ R.cells ∧ slots + (s + nf) ≤ R.slots := hr
  refine W.newcK hx hb hown (hts _ w1) (hts _ w2) (hts _ w3) rfl hd (by omega) (by omega) hKn.2.1 hz fun H1 kC hkC e1 z1 o1 => ?_
  have hh : gz G (vR n) = .ref (gZ G + n) := by
    show Value.ref (ga G n) = _
    rw [ga_pos hn]
  have hR1 : gRp G (gU h n (.inr (k, gDfs k nf))) H1 := by
    refine hH.1.push hn hz ?_ (fun q hq => o1 q (by rw [← hz]; exact hq))
    refine ⟨_, hc, (u_born (gFt k) hts (gUws k _ hc) hKn hkC e1 (gFt_ok k _ hc)).to (fun i hi9 => ?_)⟩
    rw [gDf_spec (G := G) (gFt_kind k i)]
    simp [gzE, vp_V, gDfs, hi9]
  have h9 := kk _ H1 locs ls (cells + 1) (slots + nf) hC ⟨hR1, fun n9 e9 => by cases e9; omega, ⟨Nat.le_trans hH.2.2.1 (by omega), fun x g1 g2 => (o1 x (by have := hH.2.2.1; omega)).trans (hH.2.2.2.1 x g1 g2), hH.2.2.2.2⟩⟩ hl ⟨by omega, by omega⟩
  simp only [gWk, List.map_cons, hh] at h9
  exact h9
end
end
section
/-! contracts, calls, ends -/
def gQc (G : gG) (Q : Option gV → Option Nat → gH → Prop) : Array Value → State → Outcome → State → Prop := fun _ st o t => (∃ (v : Option gV) (N : Option Nat) (h : gH), o = .returned (v.map (gz G)) ∧ Q v N h ∧ gRp G h t.heap ∧ gN G N t.heap) ∧ va_F (gA G) st t
def gXc (G : gG) (X : String → gH → Prop) : String → State → State → Prop := fun E st t => (∃ h : gH, X E h ∧ gRp G h t.heap) ∧ va_F (gA G) st t
def gPre (G : gG) (N : Option Nat) (h : gH) (U : State) : Prop := gEnv G U ∧ gRp G h U.heap ∧ gN G N U.heap
def gFin (G : gG) (Q : Option gV → Option Nat → gH → Prop) (X : String → gH → Prop) : gK → State → Prop := fun κ => match κ with
  | (_, _, R, s, _, args, below, _, _) => vx_MQ below (gQc G Q) (gXc G X) args s R.cells R.slots (gA G)
/-- the contract: with these arguments, in these cells, the method returns as Q says or throws as X says, with at most mc new cells of ms slots -/
def Rn (G : gG) (M : gM) (av : List gV) (N : Option Nat) (h : gH) (mc ms : Nat) (Q : Option gV → Option Nat → gH → Prop) (X : String → gH → Prop) : Prop :=
  (gl G).stackTraces = false → vx_Met (gl G) (mN M) (gWs M) { frames := mF M, cells := mc, slots := ms, locals := mO M } (va_Pc (av.map (gz G)) (gPre G N h)) (gQc G Q) (gXc G X) mc ms (gA G)
theorem gEnt_spec (G : gG) : ∀ (av : List gV) (n k i : Nat) (v : gV), (∀ w ∈ av, gCat w = 1) → (gEnt n av)[i]? = some (some v) → gCat v = 1 ∧ (k + i, gz G v) ∈ lv_args k (av.map (gz G)) := by
  intro av
  induction av with
  | nil =>
    intro n k i v _ h
    simp only [gEnt] at h
    have := List.eq_of_mem_replicate (List.mem_of_getElem? h)
    cases this
  | cons w av ih =>
    intro n k i v hc h
    cases n with
    | zero => simp [gEnt] at h
    | succ n =>
      have hw : gCat w = 1 := hc w List.mem_cons_self
      have hw2 : ¬ (gz G w).category = 2 := by rw [gz_cat, hw]; decide
      simp only [List.map_cons, lv_args, if_neg hw2]
      cases i with
      | zero =>
        simp only [gEnt, List.getElem?_cons_zero, Option.some.injEq] at h
        subst h
        exact ⟨hw, by simp⟩
      | succ i =>
        simp only [gEnt, List.getElem?_cons_succ] at h
        obtain ⟨h1, h2⟩ := ih n (k + 1) i v (fun w hw => hc w (List.mem_cons_of_mem _ hw)) h
        exact ⟨h1, List.mem_cons_of_mem _ (by rw [show k + (i + 1) = k + 1 + i by omega]; exact h2)⟩
theorem gEnt_len : ∀ (av : List gV) (n : Nat), (gEnt n av).length ≤ n := by
  intro av
  induction av with
  | nil => intro n; simp [gEnt]
  | cons w av ih =>
    intro n
    cases n with
    | zero => simp [gEnt]
    | succ n =>
      simp only [gEnt, List.length_cons]
      have := ih n
      omega
theorem gSl_len (G : gG) : ∀ (av : List gV), (∀ w ∈ av, gCat w = 1) → (lg_sl (av.map (gz G))).length = av.length := by
  intro av
  induction av with
  | nil => intro _; rfl
  | cons w av ih =>
    intro hc
    have hw2 : ¬ (gz G w).category = 2 := by rw [gz_cat, hc w List.mem_cons_self]; decide
    have h1 := ih (fun w hw => hc w (List.mem_cons_of_mem _ hw))
    simp only [lg_sl, List.map_cons, List.flatMap_cons, if_neg hw2] at h1 ⊢
    simp only [List.length_append, List.length_cons, List.length_nil, h1]
    omega
theorem gGoodT : GoodIn gT gT := fun w hw => ⟨hw, good_of_word (gGood w hw)⟩
set_option maxHeartbeats 1000000 in
theorem Rn.of {G : gG} {M : gM} {av : List gV} {N : Option Nat} {h : gH} {mc ms : Nat} {Q : Option gV → Option Nat → gH → Prop} {X : String → gH → Prop} (hy : plainName (mN M).cls = true) (hle9 : Nat.ble av.length (mL M) = true) (hc9 : av.all (fun w => Nat.beq (gCat w) 1) = true) (body : Go G M (gFin G Q X) 0 (gEnt (mL M) av) [] N h mc ms) : Rn G M av N h mc ms Q X := by
  intro htr
  have hle : av.length ≤ mL M := Nat.le_of_ble_eq_true hle9
  have hc1 : ∀ w ∈ av, gCat w = 1 := fun w hw => Nat.eq_of_beq_eq_true (List.all_eq_true.mp hc9 w hw)
  have main : ∀ (p : Program) (e : Env) (s : State) (m : MethodId) (args : Array Value) (below : List Frame) (meth : Method) (c : Code) (s₁ : State), BodyLoose p (gl G) (mN M) (headSpec (gWs M) { frames := mF M, cells := mc, slots := ms, locals := mO M }) (mB M) (mL M) (mR M) e s m args below meth c s₁ → c.maxLocals = mL M → c.exceptionTable.toList = tableOf (mH M) → va_Pc (av.map (gz G)) (gPre G N h) args s →
      W p (gl G) e { frames := mF M, cells := mc, slots := ms, locals := mO M } s m args below meth c s.heap [] 0 0 (vx_MQ below (gQc G Q) (gXc G X) args s mc ms (gA G)) (entryFrame m args (mL M)) := by
    intro p e s m args below meth c s₁ B hml het hv
    obtain ⟨rfl, hE, hR, hN⟩ := hv
    have hts := atoms_spec (ws := gWs M) B.pre
    have hl := lv_entry (av.map (gz G)) (n := mL M) (by rw [gSl_len G av hc1]; exact hle)
    rw [lg_entry_eq]
    exact body (p, e, { frames := mF M, cells := mc, slots := ms, locals := mO M }, s, m, (av.map (gz G)).toArray, below, meth, c) s.heap [] _ 0 0
      ⟨htr, B.exec, B.bytes, B.returns, hml, findClass_of_methodNamed B.named, fun w hw => hts w (List.mem_cons_of_mem _ hw), B.notSynchronized, (name_of_methodNamed B.named B.method).1, Nat.le_refl _, Nat.le_refl _, het, hE⟩
      ⟨hR, hN, va_S.rf⟩ ⟨hl.1, hl.2.1, gEnt_len av _, fun i v h9 => ⟨(gEnt_spec G av (mL M) 0 i v hc1 h9).1, by
        have h8 := hl.2.2 _ (gEnt_spec G av (mL M) 0 i v hc1 h9).2
        simpa using h8⟩⟩ ⟨by show 0 + mc ≤ mc; omega, by show 0 + ms ≤ ms; omega⟩
  cases hh : mH M with
  | nil =>
    refine vx_ofW (cc := mB M) (maxL := mL M) (ret := mR M) (ws' := gT) hy (by unfold gWs gHd; rw [hh]) ?_
    intro p e s m args below meth c s₁ B hml ht hv
    refine main p e s m args below meth c s₁ B hml ?_ hv
    rw [hh]
    show c.exceptionTable.toList = []
    exact List.eq_nil_iff_forall_not_mem.mpr ht
  | cons q t =>
    refine vx_ofWH (cc := mB M) (maxL := mL M) (ret := mR M) (ws' := gT) (hh := q :: t) hy (by unfold gWs gHd; rw [hh]) ?_
    intro p e s m args below meth c s₁ B hml hv
    refine main p e s m args below meth c s₁ B hml ?_ hv
    rw [hh]
    have hts := atoms_spec (ws := gWs M) B.pre
    have h9 := hts (gHd M) List.mem_cons_self
    unfold gHd at h9
    rw [hh] at h9
    exact vx_table (x := mN M) B h9
section
variable {G : gG} {M : gM} {F : gK → State → Prop} {pc : Nat} {lv lv' : List (Option gV)} {st st' : List gV} {N : Option Nat} {h : gH} {c s : Nat} {pc0 nx k j : Nat} {z : Int}

/-- ends -/
theorem go_iret {a : Int} {Q : Option gV → Option Nat → gH → Prop} {X : String → gH → Prop} (hM : gOk M) (hi : gAt (mT M) pc = some (pc0, .ireturn, nx, z, k, j)) (ht : mR M = some .int) (hQ : Q (some (vI a)) N h) : Go G M (gFin G Q X) pc lv [vI a] N h c s := by
  intro κ H locs ls cells slots hC hH hl hr
  obtain ⟨p, e, R, s0, m, args, below, meth, cd⟩ := κ
  obtain ⟨hd, rfl, ho⟩ := gdec' (len := 1) hM hi rfl (by decide)
  obtain ⟨-, hx, hb, hrt, hml, hown, hts, hlk, hnm, hfr, hlo, het, hE⟩ := id hC
  have hr : cells + c ≤ R.cells ∧ slots + s ≤ R.slots := hr
  refine W.widen (k := R.cells) (n := R.slots) (by omega) (by omega) ?_
  refine vx_ret ?_
  exact W.iret (v := Int32.ofInt a) hx hb (hrt.trans ht) (fun t ht hW => ⟨⟨some (vI a), N, h, rfl, hQ, by rw [ht]; exact hH.1, by rw [ht]; exact hH.2.1⟩, hH.2.2.F ht⟩) hH.2.2.2.2 hd hlk
theorem go_zret {a : Int} {Q : Option gV → Option Nat → gH → Prop} {X : String → gH → Prop} (hM : gOk M) (hi : gAt (mT M) pc = some (pc0, .ireturn, nx, z, k, j)) (ht : mR M = some .boolean) (ha : a = 0 ∨ a = 1) (hQ : Q (some (vI a)) N h) : Go G M (gFin G Q X) pc lv [vI a] N h c s := by
  intro κ H locs ls cells slots hC hH hl hr
  obtain ⟨p, e, R, s0, m, args, below, meth, cd⟩ := κ
  obtain ⟨hd, rfl, ho⟩ := gdec' (len := 1) hM hi rfl (by decide)
  obtain ⟨-, hx, hb, hrt, hml, hown, hts, hlk, hnm, hfr, hlo, het, hE⟩ := id hC
  have hr : cells + c ≤ R.cells ∧ slots + s ≤ R.slots := hr
  refine W.widen (k := R.cells) (n := R.slots) (by omega) (by omega) ?_
  refine vx_ret ?_
  exact W.zret (v := Int32.ofInt a) (ty := .boolean) hx hb (hrt.trans ht) (by rcases ha with rfl | rfl <;> decide) (fun t ht hW => ⟨⟨some (vI a), N, h, rfl, hQ, by rw [ht]; exact hH.1, by rw [ht]; exact hH.2.1⟩, hH.2.2.F ht⟩) hH.2.2.2.2 hd hlk
theorem go_aret {a : Nat} {C : String} {Q : Option gV → Option Nat → gH → Prop} {X : String → gH → Prop} (hM : gOk M) (hi : gAt (mT M) pc = some (pc0, .areturn, nx, z, k, j)) (ht : mR M = some (.object C)) (hQ : Q (some (vR a)) N h) : Go G M (gFin G Q X) pc lv [vR a] N h c s := by
  intro κ H locs ls cells slots hC hH hl hr
  obtain ⟨p, e, R, s0, m, args, below, meth, cd⟩ := κ
  obtain ⟨hd, rfl, ho⟩ := gdec' (len := 1) hM hi rfl (by decide)
  obtain ⟨-, hx, hb, hrt, hml, hown, hts, hlk, hnm, hfr, hlo, het, hE⟩ := id hC
  have hr : cells + c ≤ R.cells ∧ slots + s ≤ R.slots := hr
  refine W.widen (k := R.cells) (n := R.slots) (by omega) (by omega) ?_
  refine vx_ret ?_
  exact W.aret (v := .ref (ga G a)) (rt := .object C) hx hb (hrt.trans ht) (Or.inl ⟨C, rfl⟩) (Or.inr ⟨_, rfl⟩) (fun t ht hW => ⟨⟨some (vR a), N, h, rfl, hQ, by rw [ht]; exact hH.1, by rw [ht]; exact hH.2.1⟩, hH.2.2.F ht⟩) hH.2.2.2.2 hd hlk
theorem go_vret {Q : Option gV → Option Nat → gH → Prop} {X : String → gH → Prop} (hM : gOk M) (hi : gAt (mT M) pc = some (pc0, .return_, nx, z, k, j)) (ht : mR M = none) (hQ : Q none N h) : Go G M (gFin G Q X) pc lv [] N h c s := by
  intro κ H locs ls cells slots hC hH hl hr
  obtain ⟨p, e, R, s0, m, args, below, meth, cd⟩ := κ
  obtain ⟨hd, rfl, ho⟩ := gdec' (len := 1) hM hi rfl (by decide)
  obtain ⟨-, hx, hb, hrt, hml, hown, hts, hlk, hnm, hfr, hlo, het, hE⟩ := id hC
  have hr : cells + c ≤ R.cells ∧ slots + s ≤ R.slots := hr
  refine W.widen (k := R.cells) (n := R.slots) (by omega) (by omega) ?_
  refine vx_ret ?_
  exact W.vret hx hb (hrt.trans ht) (fun t ht hW => ⟨⟨none, N, h, rfl, hQ, by rw [ht]; exact hH.1, by rw [ht]; exact hH.2.1⟩, hH.2.2.F ht⟩) hH.2.2.2.2 hd hlk
end
end
section
/-! calls -/
/-- where an exception of class E stands over the frame -/
def GoX (G : gG) (M : gM) (F : gK → State → Prop) (pc : Nat) (lv : List (Option gV)) (h : gH) (E : String) (c s : Nat) : Prop :=
  ∀ (p : Program) (e : Env) (R : Room) (s0 : State) (m : MethodId) (args : Array Value) (below : List Frame) (meth : Method) (cd : Code) (H : Heap) (locs : List Loc) (ls : Array Slot) (cells slots : Nat) (rest : List Value) (q : Addr) (ce : Cell), gCx G M (p, e, R, s0, m, args, below, meth, cd) → gHp G (p, e, R, s0, m, args, below, meth, cd) none h H locs → lvh G (mL M) lv ls → cells + c ≤ R.cells ∧ slots + s ≤ R.slots → H[q]? = some ce → ce.vm = .none → s0.vm.findClass E = some ce.cls →
    vx_W p (gl G) e R s0 m args below meth cd H locs cells slots (F (p, e, R, s0, m, args, below, meth, cd)) (F0 m pc ls rest) q
section
variable {G : gG} {M : gM} {F : gK → State → Prop} {pc : Nat} {lv lv' : List (Option gV)} {st st' : List gV} {N : Option Nat} {h : gH} {c s : Nat} {pc0 nx k j : Nat} {z : Int}
variable {M' : gM} {Q : Option gV → Option Nat → gH → Prop} {X : String → gH → Prop} {mc ms : Nat}
/-- what comes back from a call -/
theorem gBack {p : Program} {e : Env} {R : Room} {s0 : State} {m : MethodId} {args : Array Value} {below : List Frame} {meth : Method} {cd : Code} {H : Heap} {locs : List Loc} {ls : Array Slot} {cells slots : Nat} {rest : List gV} {st0 : List Value} {a : Array Value}
    (hC : gCx G M (p, e, R, s0, m, args, below, meth, cd)) (hH : gHp G (p, e, R, s0, m, args, below, meth, cd) N h H locs) (hl : lvh G (mL M) lv ls) (hr : cells + (c + mc) ≤ R.cells ∧ slots + (s + ms) ≤ R.slots)
    (hrun : vx_Run p (gl G) e R s0 m args below meth cd H locs cells slots mc ms (F0 m pc ls st0) (rest.map (gz G)) (gQc G Q a) (gXc G X) (gA G))
    (kk : ∀ v N' h', Q v N' h' → Go G M F (pc + 3) lv (gPsh v rest) N' h' c s) (kx : ∀ E h', X E h' → GoX G M F pc lv h' E c s) :
    W p (gl G) e R s0 m args below meth cd H locs cells slots (F (p, e, R, s0, m, args, below, meth, cd)) (F0 m pc ls st0) := by
  intro T hT St
  rcases hrun T hT St with ⟨v, st₀, t, T', L, h0, X', hL, e1, e2, ⟨⟨v2, N2, h2, hv, hq, hR2, hN2⟩, hF⟩, go⟩ | ⟨q, st₀, t, T', L, E, ce, h0, X', hL, e1, e2, ⟨⟨h2, hq, hR2⟩, hF⟩, hce, hcv, hcl, go⟩
  · have hS2 : va_S (gA G) s0.heap T'.heap (locs ++ L) := by
      refine ⟨?_, fun q g1 g2 => ?_, fun q hq => ?_⟩
      · rw [e1]
        have := hF.1
        rw [h0] at this
        exact Nat.le_trans hH.2.2.1 this
      · have h8 := hF.2 q (by rw [h0]; exact Nat.lt_of_lt_of_le g1 hH.2.2.1) g2
        rw [e1, h8, h0]
        exact hH.2.2.2.1 q g1 g2
      · rcases List.mem_append.mp hq with h9 | h9
        · exact hH.2.2.2.2 q h9
        · exact hL q h9
    have hv : v = v2.map (gz G) := by injection hv
    subst hv
    have h9 := kk v2 N2 h2 hq (p, e, R, s0, m, args, below, meth, cd) T'.heap (locs ++ L) ls (cells + mc) (slots + ms) hC ⟨by rw [e1]; exact hR2, by rw [e1]; exact hN2, hS2⟩ hl ⟨by omega, by omega⟩
    obtain ⟨t9, a1, b1⟩ := h9 T' rfl X'
    refine ⟨t9, go t9 ?_, b1⟩
    have e9 : (gPsh v2 rest).map (gz G) = (v2.map (gz G)).toList ++ rest.map (gz G) := by cases v2 <;> rfl
    rw [e9] at a1
    exact a1
  · have hS2 : va_S (gA G) s0.heap T'.heap (locs ++ L) := by
      refine ⟨?_, fun q g1 g2 => ?_, fun q hq => ?_⟩
      · rw [e1]
        have := hF.1
        rw [h0] at this
        exact Nat.le_trans hH.2.2.1 this
      · have h8 := hF.2 q (by rw [h0]; exact Nat.lt_of_lt_of_le g1 hH.2.2.1) g2
        rw [e1, h8, h0]
        exact hH.2.2.2.1 q g1 g2
      · rcases List.mem_append.mp hq with h9 | h9
        · exact hH.2.2.2.2 q h9
        · exact hL q h9
    have h9 := kx E h2 hq p e R s0 m args below meth cd T'.heap (locs ++ L) ls (cells + mc) (slots + ms) (rest.map (gz G)) q ce hC ⟨by rw [e1]; exact hR2, fun n e9 => (by cases e9), hS2⟩ hl ⟨by omega, by omega⟩ (by rw [e1]; exact hce) hcv hcl
    obtain ⟨t9, a1, b1⟩ := h9 T' rfl X'
    exact ⟨t9, go.trans a1, b1⟩
theorem gOkC_spec {k j : Nat} (hm : gMs[k]? = some M') (ho : gOkC M k j = true) : mH M' = [] ∧ mF M' + 1 ≤ mF M ∧ 8 + (mL M' + 11) + mO M' ≤ mO M ∧ (mN M').cls ≠ "java/lang/invoke/MethodHandle" ∧ (mN M').cls ≠ "java/lang/invoke/VarHandle" ∧ (parseMethodDescriptor (mN M').desc).map (fun d => d.parameters.length) = some j ∧ Cond.initialized (mN M').cls ∈ gT := by
  unfold gOkC at ho
  rw [hm] at ho
  simp only [Bool.and_eq_true, decide_eq_true_eq] at ho
  obtain ⟨⟨⟨⟨⟨⟨h1, h2⟩, h3⟩, h4⟩, h5⟩, h6⟩, h7⟩ := ho
  exact ⟨h1, h2, h3, h4, h5, h6, gIn_spec h7⟩
theorem gGoodM {k : Nat} (hm : gMs[k]? = some M') : GoodIn gT (gWs M') := by
  intro w hw
  rcases List.mem_cons.mp hw with rfl | hw
  · exact gGoodT _ (gHd_in k M' hm)
  · exact gGoodT _ hw
/-- the heap that a callee finds -/
theorem gPre_of {p : Program} {e : Env} {R : Room} {s0 : State} {m : MethodId} {args : Array Value} {below : List Frame} {meth : Method} {cd : Code} {H : Heap} {locs : List Loc} (hE : gEnv G s0) (hH : gHp G (p, e, R, s0, m, args, below, meth, cd) N h H locs) {U : State} (hU : U.heap = H) (hW : s0.WarmedH U.vm) : gPre G N h U := by
  subst hU
  exact ⟨hE.move hH.2.2 hW, hH.1, hH.2.1⟩
theorem gBlind {av : List Value} : FrameBlind (va_Pc av (gPre G N h)) := by
  intro a U g mk hq
  exact ⟨hq.1, hq.2.1.blind, hq.2.2.1, hq.2.2.2⟩
set_option maxHeartbeats 1000000 in
theorem go_callV {idx b ci : Nat} {fs As rest : List gV} {T : u_T} {nn : Nat} (hM : gOk M) (hi : gAt (mT M) pc = some (pc0, .invokevirtual idx, nx, z, k, j)) (hm : gMs[k]? = some M') (hp : gPop (j + 1) [] st = some (vR b :: As, rest)) (hb : h b = some (.inr (ci, fs))) (hci : gCl[ci]? = some ((mN M').cls, T, nn)) (hR : Rn G M' (vR b :: As) N h mc ms Q X) (hw : Nat.ble (rest.map gCat).sum 8 = true)
    (kk : ∀ v N' h', Q v N' h' → Go G M F nx lv (gPsh v rest) N' h' c s) (kx : ∀ E h', X E h' → GoX G M F pc lv h' E c s) : Go G M F pc lv st N h (c + mc) (s + ms) := by
  have hb' := hb
  intro κ H locs ls cells slots hC hH hl hr
  obtain ⟨p, e, R, s0, m, args, below, meth, cd⟩ := κ
  obtain ⟨hd, rfl, ho⟩ := gdec' (len := 3) hM hi rfl (by decide)
  obtain ⟨htr, hx, hbb, hrt, hml, hown, hts, hlk, hnm, hfr, hlo, het, hE⟩ := id hC
  have hk : gOkC M k j = true ∧ gOkV M idx k = true := by simpa [gOkI] using ho
  obtain ⟨l, el, en, es⟩ := gPop_spec _ _ _ _ _ hp
  obtain ⟨hh, hf, hlw, n1, n2, hpar, hini⟩ := gOkC_spec hm hk.1
  have hk2 := hk.2
  unfold gOkV at hk2
  rw [hm] at hk2
  simp only [Bool.and_eq_true, decide_eq_true_eq] at hk2
  obtain ⟨ea, hat⟩ := hH.1.at hb
  rw [List.append_nil] at el
  subst el
  have hr : cells + (c + mc) ≤ R.cells ∧ slots + (s + ms) ≤ R.slots := hr
  have hlen : As.length = j := by simpa using en
  show W p (gl G) e R s0 m args below meth cd H locs cells slots (F (p, e, R, s0, m, args, below, meth, cd)) (F0 m pc ls (st.map (gz G)))
  refine gBack hC hH hl hr (a := (Value.ref (gZ G + b) :: As.map (gz G)).toArray) (rest := rest) ?_ kk kx
  refine vx_runV (C := (mN M').cls) (b := gZ G + b) (As := As.map (gz G)) (rest := rest.map (gz G)) (cc := mB M) (nL := mL M) (bytes := mB M') (maxL := mL M') (ret := mR M') (ws := gWs M') (rm := { frames := mF M', cells := mc, slots := ms, locals := mO M' }) (n := j) (index := idx) (own := (mN M).cls) (Ts := gT) (Pc := va_Pc ((vR b :: As).map (gz G)) (gPre G N h)) ⟨hx, hbb, hml, hown, hts⟩ (hR htr) ?_ ⟨gBlind, ?_, ?_⟩ rfl (by simpa using hlen) hl.1 ?_ ?_ hd ⟨by omega, by omega⟩
  · refine cwV (C := (mN M').cls) (ws' := gT) j hts ?_ (by unfold gWs gHd; rw [hh]) rfl rfl ⟨rfl, n1, n2, hpar⟩ ⟨Nat.le_trans hf hfr, Nat.le_trans hlw hlo⟩
    intro w hw
    unfold wsV at hw
    rcases List.mem_append.mp hw with h9 | h9
    · have : w ∈ gT := by
        simp only [List.mem_cons, List.not_mem_nil, or_false] at h9
        rcases h9 with rfl | rfl | rfl | rfl
        · exact gIn_spec hk2.1.1
        · exact gIn_spec hk2.1.2
        · exact gIn_spec hk2.2
        · exact hini
      exact gGoodT _ this
    · exact gGoodM hm _ h9
  · exact va_recv (q := ((mN M').cls, T, nn)) hE.1 (gP1 hat) hci (q0 := 0) rfl
  · intro U hU hW
    refine ⟨?_, gPre_of hE hH hU hW⟩
    show _ = (Value.ref (ga G b) :: As.map (gz G)).toArray
    rw [ea]
  · show st.map (gz G) = _
    rw [es]
    simp [gz, ea]
  · refine lv_room ?_
    rw [gz_cats]
    exact Nat.le_of_ble_eq_true hw
set_option maxHeartbeats 1000000 in
theorem go_callS {idx : Nat} {As rest : List gV} (hM : gOk M) (hi : gAt (mT M) pc = some (pc0, .invokestatic idx, nx, 0, k, j)) (hm : gMs[k]? = some M') (hp : gPop j [] st = some (As, rest)) (hR : Rn G M' As N h mc ms Q X) (hw : Nat.ble (rest.map gCat).sum 8 = true)
    (kk : ∀ v N' h', Q v N' h' → Go G M F nx lv (gPsh v rest) N' h' c s) (kx : ∀ E h', X E h' → GoX G M F pc lv h' E c s) : Go G M F pc lv st N h (c + mc) (s + ms) := by
  intro κ H locs ls cells slots hC hH hl hr
  obtain ⟨p, e, R, s0, m, args, below, meth, cd⟩ := κ
  obtain ⟨hd, rfl, ho⟩ := gdec' (len := 3) hM hi rfl (by decide)
  obtain ⟨htr, hx, hb, hrt, hml, hown, hts, hlk, hnm, hfr, hlo, het, hE⟩ := id hC
  have hk : (gOkC M k j = true ∧ gOkS M idx k = true) ∧ (mN M').cls = (mN M).cls := by simpa [gOkI, hm] using ho
  obtain ⟨hk, hcl⟩ := hk
  obtain ⟨l, el, en, es⟩ := gPop_spec _ _ _ _ _ hp
  obtain ⟨hh, hf, hlw, n1, n2, hpar, hini⟩ := gOkC_spec hm hk.1
  have hk2 := hk.2
  unfold gOkS at hk2
  rw [hm] at hk2
  simp only [Bool.and_eq_true, decide_eq_true_eq] at hk2
  rw [List.append_nil] at el
  subst el
  have hr : cells + (c + mc) ≤ R.cells ∧ slots + (s + ms) ≤ R.slots := hr
  show W p (gl G) e R s0 m args below meth cd H locs cells slots (F (p, e, R, s0, m, args, below, meth, cd)) (F0 m pc ls (st.map (gz G)))
  refine gBack hC hH hl hr (a := (As.map (gz G)).toArray) (rest := rest) ?_ kk kx
  refine vx_runS (As := As.map (gz G)) (rest := rest.map (gz G)) (cc := mB M) (nL := mL M) (bytes := mB M') (maxL := mL M') (ret := mR M') (ws := gWs M') (rm := { frames := mF M', cells := mc, slots := ms, locals := mO M' }) (n := j) (index := idx) (own := (mN M).cls) (Ts := gT) (Pc := va_Pc (As.map (gz G)) (gPre G N h)) ⟨hx, hb, hml, hown, hts⟩ (hR htr) ?_ ⟨gBlind, ?_⟩ rfl (by simpa using en) hl.1 ?_ ?_ hd ⟨by omega, by omega⟩
  · refine cwS (ws' := gT) j hts ?_ (by unfold gWs gHd; rw [hh]) rfl rfl ⟨hcl, n1, n2, hpar⟩ ⟨Nat.le_trans hf hfr, Nat.le_trans hlw hlo⟩
    intro w hw
    unfold wsS at hw
    rcases List.mem_append.mp hw with h9 | h9
    · have : w ∈ gT := by
        simp only [List.mem_cons, List.not_mem_nil, or_false] at h9
        rcases h9 with rfl | rfl | rfl
        · exact gIn_spec hk2.1
        · exact gIn_spec hk2.2
        · rw [← hcl]
          exact hini
      exact gGoodT _ this
    · exact gGoodM hm _ h9
  · intro U hU hW
    exact ⟨rfl, gPre_of hE hH hU hW⟩
  · show st.map (gz G) = _
    rw [es]
    simp
  · refine lv_room ?_
    rw [gz_cats]
    exact Nat.le_of_ble_eq_true hw
theorem gRunX {p : Program} {l : Launch} {e : Env} {R : Room} {s : State} {m : MethodId} {args : Array Value} {below : List Frame} {meth : Method} {c : Code} {H : Heap} {locs : List Loc} {cells slots mc ms : Nat} {g : JFrame} {rest : List Value} {Qa : State → Outcome → State → Prop} {XC : String → State → State → Prop} {free : Addr → Prop} (h : va_Run p l e R s m args below meth c H locs cells slots mc ms g rest Qa free) : vx_Run p l e R s m args below meth c H locs cells slots mc ms g rest Qa XC free := fun T hT X => Or.inl (h T hT X)
/-- a contract of a method that doesn't throw -/
theorem Rn.met {av : List gV} (hR : Rn G M' av N h mc ms Q (fun _ _ => False)) (htr : (gl G).stackTraces = false) : Met (gl G) (mN M') (gWs M') { frames := mF M', cells := mc, slots := ms, locals := mO M' } (va_Pc (av.map (gz G)) (gPre G N h)) (gQc G Q) mc ms (gA G) := by
  intro p e a1 a2 a3 s m args below hf happ hP hK
  obtain ⟨n, o, h1, h2, h3, h4⟩ := hR htr p e a1 a2 a3 s m args below hf happ hP hK
  refine ⟨n, o, h1, h2, h3, ?_⟩
  rcases h4 with h4 | ⟨q, -, E, ce, L, ⟨⟨h9, hx, -⟩, -⟩, -⟩
  · exact h4
  · exact hx.elim
set_option maxHeartbeats 1000000 in
theorem go_callI {idx b : Nat} {As rest : List gV} (hM : gOk M) (hi : gAt (mT M) pc = some (pc0, .invokespecial idx, nx, 0, k, j)) (hm : gMs[k]? = some M') (hp : gPop (j + 1) [] st = some (vR b :: As, rest)) (hR : Rn G M' (vR b :: As) N h mc ms Q (fun _ _ => False)) (hw : Nat.ble (rest.map gCat).sum 8 = true)
    (kk : ∀ v N' h', Q v N' h' → Go G M F nx lv (gPsh v rest) N' h' c s) : Go G M F pc lv st N h (c + mc) (s + ms) := by
  intro κ H locs ls cells slots hC hH hl hr
  obtain ⟨p, e, R, s0, m, args, below, meth, cd⟩ := κ
  obtain ⟨hd, rfl, ho⟩ := gdec' (len := 3) hM hi rfl (by decide)
  obtain ⟨htr, hx, hb, hrt, hml, hown, hts, hlk, hnm, hfr, hlo, het, hE⟩ := id hC
  have hk : gOkC M k j = true ∧ gOkSp M idx k = true := by simpa [gOkI] using ho
  obtain ⟨l, el, en, es⟩ := gPop_spec _ _ _ _ _ hp
  obtain ⟨hh, hf, hlw, n1, n2, hpar, hini⟩ := gOkC_spec hm hk.1
  have hk2 := hk.2
  unfold gOkSp at hk2
  rw [hm] at hk2
  simp only [Bool.and_eq_true, decide_eq_true_eq] at hk2
  rw [List.append_nil] at el
  subst el
  have hr : cells + (c + mc) ≤ R.cells ∧ slots + (s + ms) ≤ R.slots := hr
  have hlen : As.length = j := by simpa using en
  show W p (gl G) e R s0 m args below meth cd H locs cells slots (F (p, e, R, s0, m, args, below, meth, cd)) (F0 m pc ls (st.map (gz G)))
  refine gBack hC hH hl hr (a := (Value.ref (ga G b) :: As.map (gz G)).toArray) (rest := rest) (X := fun _ _ => False) ?_ kk (fun E h' h9 => h9.elim)
  refine gRunX ?_
  refine va_runI (b := ga G b) (As := As.map (gz G)) (rest := rest.map (gz G)) (cc := mB M) (nL := mL M) (bytes := mB M') (maxL := mL M') (ws := gWs M') (rm := { frames := mF M', cells := mc, slots := ms, locals := mO M' }) (n := j) (index := idx) (own := (mN M).cls) (Ts := gT) (Pc := va_Pc ((vR b :: As).map (gz G)) (gPre G N h)) ⟨hx, hb, hml, hown, hts⟩ (hR.met htr) ?_ ⟨gBlind, ?_⟩ rfl (by simpa using hlen) hl.1 ?_ ?_ hd ⟨by omega, by omega⟩
  · exact cwI (ws' := gT) j hts (gGoodM hm) (by unfold gWs gHd; rw [hh, hk2.2]) rfl rfl (hts _ hini) (hts _ (gIn_spec hk2.1.1.1)) (hts _ (gIn_spec hk2.1.1.2)) hk2.1.2 ⟨n1, n2, hpar⟩ ⟨Nat.le_trans hf hfr, Nat.le_trans hlw hlo⟩
  · intro U hU hW
    exact ⟨rfl, gPre_of hE hH hU hW⟩
  · show st.map (gz G) = _
    rw [es]
    simp [gz]
  · refine lv_room ?_
    rw [gz_cats]
    exact Nat.le_of_ble_eq_true hw
end
end
section
/-! numbers by bits, division, switches, longs -/
theorem gI_nat (n : Nat) : Int32.ofInt (n : Int) = nI n := Int32.ofInt_eq_ofNat
theorem gI_toNat {a : Int} (h : 0 ≤ a) : Int32.ofInt a = nI a.toNat := by
  rw [← gI_nat, Int.toNat_of_nonneg h]
theorem gI_div {a b : Int} (ha : 0 ≤ a) (ha2 : a ≤ 2147483647) (hb : 0 < b) (hb2 : b ≤ 2147483647) : Int32.ofInt a / Int32.ofInt b = Int32.ofInt (a / b) := by
  rw [gI_toNat ha, gI_toNat (Int.le_of_lt hb), pk_div (by omega) (by omega) (by omega), gI_toNat (Int.ediv_nonneg ha (Int.le_of_lt hb))]
  congr 1
  have h1 : (a / b).toNat = ((a.toNat : Int) / (b.toNat : Int)).toNat := by rw [Int.toNat_of_nonneg ha, Int.toNat_of_nonneg (Int.le_of_lt hb)]
  rw [h1]
  norm_cast
theorem gI_and {a b : Int} {q : Nat} (k : Nat) (hb : (Int32.ofInt b).toBitVec.toNat = 2 ^ k - 1) (hq : 2 ^ k = q) (hk : k ≤ 31) : Int32.ofInt a &&& Int32.ofInt b = Int32.ofInt (a % q) := by
  rw [pk_and _ k hb, hq]
  have h1 : (Int32.ofInt a).toBitVec.toNat = (a % 4294967296).toNat := by
    show (BitVec.ofInt 32 a).toNat = _
    rw [BitVec.toNat_ofInt]
    rfl
  have hd : (q : Int) ∣ 4294967296 := by
    have h9 : q ∣ 4294967296 := ⟨2 ^ (32 - k), by rw [← hq, ← Nat.pow_add, show k + (32 - k) = 32 by omega]⟩
    exact Int.natCast_dvd_natCast.mpr h9
  have hq0 : (0 : Int) < q := by rw [← hq]; exact_mod_cast Nat.two_pow_pos k
  have h0 : 0 ≤ a % q := Int.emod_nonneg _ (by omega)
  rw [h1, gI_toNat h0]
  congr 1
  have h2 : ((a % 4294967296).toNat % q : Nat) = ((a % 4294967296) % q).toNat := by
    have h3 : 0 ≤ a % 4294967296 := Int.emod_nonneg _ (by decide)
    have h4 : (((a % 4294967296).toNat % q : Nat) : Int) = (a % 4294967296) % q := by
      push_cast
      rw [Int.toNat_of_nonneg h3]
    rw [← h4]
    exact (Int.toNat_natCast _).symm
  rw [h2, Int.emod_emod_of_dvd a hd]
section
variable {G : gG} {M : gM} {F : gK → State → Prop} {pc : Nat} {lv lv' : List (Option gV)} {st st' : List gV} {N : Option Nat} {h : gH} {c s : Nat} {pc0 nx k j : Nat} {z : Int}

theorem go_idiv {a b : Int} (hM : gOk M) (hi : gAt (mT M) pc = some (pc0, .idiv, nx, z, k, j)) (ha : 0 ≤ a ∧ a ≤ 2147483647) (hb9 : 0 < b ∧ b ≤ 2147483647) (kk : Go G M F nx lv (vI (a / b) :: st) N h c s) : Go G M F pc lv (vI b :: vI a :: st) N h c s := by
  intro κ H locs ls cells slots hC hH hl hr
  obtain ⟨p, e, R, s0, m, args, below, meth, cd⟩ := κ
  obtain ⟨hd, rfl, ho⟩ := gdec' (len := 1) hM hi rfl (by decide)
  obtain ⟨htr, hx, hb, hrt, hml, hown, hts, hlk, hnm, hfr, hlo, het, hE⟩ := id hC
  refine lv_idiv (x := Int32.ofInt a) (y := Int32.ofInt b) hx hb hd (fun h9 => ?_) ?_
  · rw [gI_0] at h9
    have := (gI_inj (by omega) (by omega)).mp h9
    omega
  · rw [gI_div ha.1 ha.2 hb9.1 hb9.2]
    exact kk _ H locs ls cells slots hC hH hl hr
theorem go_iand {a b : Int} {q : Nat} (w : Nat) (hM : gOk M) (hi : gAt (mT M) pc = some (pc0, .iand, nx, z, k, j)) (hw : (Int32.ofInt b).toBitVec.toNat = 2 ^ w - 1) (hq : 2 ^ w = q) (hk : w ≤ 31) (kk : Go G M F nx lv (vI (a % q) :: st) N h c s) : Go G M F pc lv (vI b :: vI a :: st) N h c s := by
  intro κ H locs ls cells slots hC hH hl hr
  obtain ⟨p, e, R, s0, m, args, below, meth, cd⟩ := κ
  obtain ⟨hd, rfl, ho⟩ := gdec' (len := 1) hM hi rfl (by decide)
  obtain ⟨htr, hx, hb, hrt, hml, hown, hts, hlk, hnm, hfr, hlo, het, hE⟩ := id hC
  refine lv_iand (x := Int32.ofInt a) (y := Int32.ofInt b) hx hb hd ?_
  rw [gI_and w hw hq hk]
  exact kk _ H locs ls cells slots hC hH hl hr
theorem go_ishl {a b : Int} (w : Nat) (hM : gOk M) (hi : gAt (mT M) pc = some (pc0, .ishl, nx, z, k, j)) (hw : ((Int32.ofInt b &&& 31).toBitVec.smod 32).toNat = w) (ha : 0 ≤ a) (hb9 : a * 2 ^ w < 4294967296) (kk : Go G M F nx lv (vI (a * 2 ^ w) :: st) N h c s) : Go G M F pc lv (vI b :: vI a :: st) N h c s := by
  intro κ H locs ls cells slots hC hH hl hr
  obtain ⟨p, e, R, s0, m, args, below, meth, cd⟩ := κ
  obtain ⟨hd, rfl, ho⟩ := gdec' (len := 1) hM hi rfl (by decide)
  obtain ⟨htr, hx, hb, hrt, hml, hown, hts, hlk, hnm, hfr, hlo, het, hE⟩ := id hC
  refine lv_ishl (x := Int32.ofInt a) (y := Int32.ofInt b) hx hb hd ?_
  have h1 : a = (a.toNat : Int) := (Int.toNat_of_nonneg ha).symm
  have h2 : Int32.ofInt a <<< (Int32.ofInt b &&& 31) = Int32.ofInt (a * 2 ^ w) := by
    have e9 : ((a.toNat * 2 ^ w : Nat) : Int) = a * 2 ^ w := by
      push_cast
      rw [Int.toNat_of_nonneg ha]
    have e8 : a.toNat * 2 ^ w < 2 ^ 32 := Int.ofNat_lt.mp (by rw [e9]; exact hb9)
    rw [← e9, gI_nat, gI_toNat ha, pk_shlN _ w hw e8]
  rw [h2]
  exact kk _ H locs ls cells slots hC hH hl hr
theorem go_iushr {a b : Int} (w : Nat) (hM : gOk M) (hi : gAt (mT M) pc = some (pc0, .iushr, nx, z, k, j)) (hw : (((Int32.ofInt b).toUInt32 &&& Int32.toUInt32 31).toBitVec % 32).toNat = w) (ha : 0 ≤ a) (ha2 : a < 4294967296) (kk : Go G M F nx lv (vI (a / 2 ^ w) :: st) N h c s) : Go G M F pc lv (vI b :: vI a :: st) N h c s := by
  intro κ H locs ls cells slots hC hH hl hr
  obtain ⟨p, e, R, s0, m, args, below, meth, cd⟩ := κ
  obtain ⟨hd, rfl, ho⟩ := gdec' (len := 1) hM hi rfl (by decide)
  obtain ⟨htr, hx, hb, hrt, hml, hown, hts, hlk, hnm, hfr, hlo, het, hE⟩ := id hC
  have h1 : a = (a.toNat : Int) := (Int.toNat_of_nonneg ha).symm
  have h2 : ((Int32.ofInt a).toUInt32 >>> ((Int32.ofInt b).toUInt32 &&& Int32.toUInt32 31)).toInt32 = Int32.ofInt (a / 2 ^ w) := by
    rw [h1, gI_nat, pk_ushrN (by omega) _ w hw, ← gI_nat]
    push_cast
    rfl
  exact lv_iushr (x := Int32.ofInt a) (y := Int32.ofInt b) hx hb hd h2 (kk _ H locs ls cells slots hC hH hl hr)
theorem go_ior {a b : Int} (w : Nat) (hM : gOk M) (hi : gAt (mT M) pc = some (pc0, .ior, nx, z, k, j)) (ha : 0 ≤ a) (ha2 : a < 2 ^ w) (hb9 : 0 ≤ b) (kk : Go G M F nx lv (vI (a + b * 2 ^ w) :: st) N h c s) : Go G M F pc lv (vI (b * 2 ^ w) :: vI a :: st) N h c s := by
  intro κ H locs ls cells slots hC hH hl hr
  obtain ⟨p, e, R, s0, m, args, below, meth, cd⟩ := κ
  obtain ⟨hd, rfl, ho⟩ := gdec' (len := 1) hM hi rfl (by decide)
  obtain ⟨htr, hx, hb, hrt, hml, hown, hts, hlk, hnm, hfr, hlo, het, hE⟩ := id hC
  refine lv_ior (x := Int32.ofInt a) (y := Int32.ofInt (b * 2 ^ w)) hx hb hd ?_
  have h1 : a = (a.toNat : Int) := (Int.toNat_of_nonneg ha).symm
  have h2 : b = (b.toNat : Int) := (Int.toNat_of_nonneg hb9).symm
  have h3 : Int32.ofInt a ||| Int32.ofInt (b * 2 ^ w) = Int32.ofInt (a + b * 2 ^ w) := by
    have h4 : a.toNat < 2 ^ w := by
      rw [h1] at ha2
      exact_mod_cast ha2
    have h5 : a + b * 2 ^ w = ((2 ^ w * b.toNat ||| a.toNat : Nat) : Int) := by
      rw [← Nat.two_pow_add_eq_or_of_lt h4]
      push_cast
      rw [Int.toNat_of_nonneg ha, Int.toNat_of_nonneg hb9, Int.mul_comm, Int.add_comm]
    have h6 : b * 2 ^ w = ((2 ^ w * b.toNat : Nat) : Int) := by
      push_cast
      rw [Int.toNat_of_nonneg hb9, Int.mul_comm]
    rw [h5, h6, h1, gI_nat, gI_nat, gI_nat]
    apply Int32.toBitVec_inj.mp
    rw [Int32.toBitVec_or]
    apply BitVec.eq_of_toNat_eq
    simp only [nI, Int32.toBitVec_ofNat', BitVec.toNat_or, BitVec.toNat_ofNat, Int.toNat_natCast]
    rw [Nat.or_comm, Nat.or_mod_two_pow]
  rw [h3]
  exact kk _ H locs ls cells slots hC hH hl hr
theorem go_drop (kk : Go G M F pc lv st none h c s) : Go G M F pc lv st N h c s := by
  intro κ H locs ls cells slots hC hH hl hr
  obtain ⟨p, e, R, s0, m, args, below, meth, cd⟩ := κ
  exact kk _ H locs ls cells slots hC ⟨hH.1, fun n e9 => (by cases e9), hH.2.2⟩ hl hr
theorem go_tswIn {dflt lo hi9 off : Int} {offs : Array Int} {a : Int} {tgt : Nat} (hM : gOk M) (hi : gAt (mT M) pc = some (pc0, .tableswitch dflt lo hi9 offs, nx, z, k, j)) (ha : -2147483648 ≤ a ∧ a ≤ 2147483647) (h1 : lo ≤ a) (h2 : a ≤ hi9) (ho9 : offs[(a - lo).toNat]? = some off) (ht : (pc : Int) + off = (tgt : Int)) (kk : Go G M F tgt lv st N h c s) : Go G M F pc lv (vI a :: st) N h c s := by
  intro κ H locs ls cells slots hC hH hl hr
  obtain ⟨p, e, R, s0, m, args, below, meth, cd⟩ := κ
  obtain ⟨-, hd, -, -, -⟩ := gdec hM hi
  obtain ⟨htr, hx, hb, hrt, hml, hown, hts, hlk, hnm, hfr, hlo, het, hE⟩ := id hC
  have e9 : (Int32.ofInt a).toInt = a := Int32.toInt_ofInt_of_le (by omega) (by omega)
  exact lv_tableIn (x := Int32.ofInt a) hx hb hd (by rw [e9]; omega) (by rw [e9]; omega) (by rw [e9]; exact ho9) ht (kk _ H locs ls cells slots hC hH hl hr)
theorem go_tswOut {dflt lo hi9 : Int} {offs : Array Int} {a : Int} {tgt : Nat} (hM : gOk M) (hi : gAt (mT M) pc = some (pc0, .tableswitch dflt lo hi9 offs, nx, z, k, j)) (ha : -2147483648 ≤ a ∧ a ≤ 2147483647) (h1 : a < lo ∨ hi9 < a) (ht : (pc : Int) + dflt = (tgt : Int)) (kk : Go G M F tgt lv st N h c s) : Go G M F pc lv (vI a :: st) N h c s := by
  intro κ H locs ls cells slots hC hH hl hr
  obtain ⟨p, e, R, s0, m, args, below, meth, cd⟩ := κ
  obtain ⟨-, hd, -, -, -⟩ := gdec hM hi
  obtain ⟨htr, hx, hb, hrt, hml, hown, hts, hlk, hnm, hfr, hlo, het, hE⟩ := id hC
  have e9 : (Int32.ofInt a).toInt = a := Int32.toInt_ofInt_of_le (by omega) (by omega)
  exact lv_tableOut (x := Int32.ofInt a) hx hb hd (by rw [e9]; exact h1) ht (kk _ H locs ls cells slots hC hH hl hr)
end
end
section
/-! new arrays, members of the JDK -/
section
variable {G : gG} {M : gM} {F : gK → State → Prop} {pc : Nat} {lv lv' : List (Option gV)} {st st' : List gV} {N : Option Nat} {h : gH} {c s : Nat} {pc0 nx k j : Nat} {z : Int}

theorem gPush {p : Program} {e : Env} {R : Room} {s0 : State} {m : MethodId} {args : Array Value} {below : List Frame} {meth : Method} {cd : Code} {H H1 : Heap} {locs : List Loc} {n : Nat} {e9 : gE} (hH : gHp G (p, e, R, s0, m, args, below, meth, cd) (some n) h H locs) (hn : 0 < n) (he : va_at (gD G) gCl (gZ G + n, gzE G e9) H1) (z1 : H1.size = H.size + 1) (o1 : ∀ q, q < H.size → H1[q]? = H[q]?) : gHp G (p, e, R, s0, m, args, below, meth, cd) (some (n + 1)) (gU h n e9) H1 locs := by
  have hz : H.size = gZ G + n := hH.2.1 n rfl
  refine ⟨hH.1.push hn hz he o1, fun n9 e9 => ?_, ⟨Nat.le_trans hH.2.2.1 (by omega), fun x g1 g2 => (o1 x (Nat.lt_of_lt_of_le g1 hH.2.2.1)).trans (hH.2.2.2.1 x g1 g2), hH.2.2.2.2⟩⟩
  cases e9
  omega
theorem go_newI {t : ArrayType} {n : Nat} {a : Int} {ln : Nat} (hM : gOk M) (hi : gAt (mT M) pc = some (pc0, .newarray t, nx, z, 0, j)) (hn : 0 < n) (ha : a = ln) (ha2 : ln ≤ 100000000) (kk : Go G M F nx lv (vR n :: st) (some (n + 1)) (gU h n (.inl (0, ln, .inl (fun _ => 0)))) c s) : Go G M F pc lv (vI a :: st) (some n) h (c + 1) (s + ln) := by
  intro κ H locs ls cells slots hC hH hl hr
  obtain ⟨p, e, R, s0, m, args, below, meth, cd⟩ := κ
  obtain ⟨hd, rfl, ho⟩ := gdec' (len := 2) hM hi rfl (by decide)
  obtain ⟨htr, hx, hb, hrt, hml, hown, hts, hlk, hnm, hfr, hlo, het, hE⟩ := id hC
  subst ha
  have ho : newarray.typeOf t = .int ∧ gIn (Cond.arrayClass .int) = true := by simpa [gOkI, show gTy[0]? = some .int from rfl] using ho
  have ho := And.intro ho.1 (gIn_spec ho.2)
  have hr : cells + (c + 1) ≤ R.cells ∧ slots + (s + ln) ≤ R.slots := hr
  have hz : H.size = gZ G + n := hH.2.1 n rfl
  show W p (gl G) e R s0 m args below meth cd H locs cells slots (F (p, e, R, s0, m, args, below, meth, cd)) (F0 m pc ls (.int (Int32.ofInt ln) :: st.map (gz G)))
  refine va_newaK (n := Int32.ofInt ln) (N := ln) hx hb (atype := t) (by rw [ho.1]; exact hts _ ho.2) rfl hd rfl (fun h9 => ?_) (by rw [gI_cl (by omega) (by omega)]; simp) (by rw [ho.1]; show ln * 4 ≤ _; omega) (by omega) (by omega) rfl fun H1 cA e1 z1 o1 hAr hNm => ?_
  · rw [gI_0] at h9
    have := (gI_lt (by omega) (by omega)).mp h9
    omega
  · have hA0 : cA = gdA G 0 := by
      have h9 := (hE.2.1 0 .int rfl).2
      rw [ho.1] at hNm
      exact Option.some.inj (hNm.symm.trans h9)
    subst hA0
    have he : va_at (gD G) gCl (gZ G + n, gzE G (.inl (0, ln, .inl (fun _ => 0)))) H1 := by
      show H1[gZ G + n]? = some (vp_cell _ _)
      rw [← hz, e1, ho.1]
      rfl
    have h9 := kk _ H1 locs ls (cells + 1) (slots + ln) hC (gPush hH hn he z1 o1) hl ⟨by omega, by omega⟩
    have hh : gz G (vR n) = .ref H.size := by
      show Value.ref (ga G n) = _
      rw [ga_pos hn, hz]
    simp only [gWk, List.map_cons, hh] at h9
    exact h9
theorem go_newL {t : ArrayType} {n : Nat} {a : Int} {ln : Nat} (hM : gOk M) (hi : gAt (mT M) pc = some (pc0, .newarray t, nx, z, 1, j)) (hn : 0 < n) (ha : a = ln) (ha2 : ln ≤ 50000000) (kk : Go G M F nx lv (vR n :: st) (some (n + 1)) (gU h n (.inl (1, ln, .inr (.inl (fun _ => 0))))) c s) : Go G M F pc lv (vI a :: st) (some n) h (c + 1) (s + ln) := by
  intro κ H locs ls cells slots hC hH hl hr
  obtain ⟨p, e, R, s0, m, args, below, meth, cd⟩ := κ
  obtain ⟨hd, rfl, ho⟩ := gdec' (len := 2) hM hi rfl (by decide)
  obtain ⟨htr, hx, hb, hrt, hml, hown, hts, hlk, hnm, hfr, hlo, het, hE⟩ := id hC
  subst ha
  have ho : newarray.typeOf t = .long ∧ gIn (Cond.arrayClass .long) = true := by simpa [gOkI, show gTy[1]? = some .long from rfl] using ho
  have ho := And.intro ho.1 (gIn_spec ho.2)
  have hr : cells + (c + 1) ≤ R.cells ∧ slots + (s + ln) ≤ R.slots := hr
  have hz : H.size = gZ G + n := hH.2.1 n rfl
  show W p (gl G) e R s0 m args below meth cd H locs cells slots (F (p, e, R, s0, m, args, below, meth, cd)) (F0 m pc ls (.int (Int32.ofInt ln) :: st.map (gz G)))
  refine va_newaK (n := Int32.ofInt ln) (N := ln) hx hb (atype := t) (by rw [ho.1]; exact hts _ ho.2) rfl hd rfl (fun h9 => ?_) (by rw [gI_cl (by omega) (by omega)]; simp) (by rw [ho.1]; show ln * 8 ≤ _; omega) (by omega) (by omega) rfl fun H1 cA e1 z1 o1 hAr hNm => ?_
  · rw [gI_0] at h9
    have := (gI_lt (by omega) (by omega)).mp h9
    omega
  · have hA0 : cA = gdA G 1 := by
      have h9 := (hE.2.1 1 .long rfl).2
      rw [ho.1] at hNm
      exact Option.some.inj (hNm.symm.trans h9)
    subst hA0
    have he : va_at (gD G) gCl (gZ G + n, gzE G (.inl (1, ln, .inr (.inl (fun _ => 0))))) H1 := by
      show H1[gZ G + n]? = some (vp_cell _ _)
      rw [← hz, e1, ho.1]
      rfl
    have h9 := kk _ H1 locs ls (cells + 1) (slots + ln) hC (gPush hH hn he z1 o1) hl ⟨by omega, by omega⟩
    have hh : gz G (vR n) = .ref H.size := by
      show Value.ref (ga G n) = _
      rw [ga_pos hn, hz]
    simp only [gWk, List.map_cons, hh] at h9
    exact h9
theorem go_newA {idx : Nat} {n : Nat} {a : Int} {ln : Nat} {C : String} (hM : gOk M) (hi : gAt (mT M) pc = some (pc0, .anewarray idx, nx, z, k, j)) (hty : gTy[k]? = some (.object C)) (hn : 0 < n) (ha : a = ln) (ha2 : ln ≤ 100000000) (kk : Go G M F nx lv (vR n :: st) (some (n + 1)) (gU h n (.inl (k, ln, .inr (.inr (fun _ => none))))) c s) : Go G M F pc lv (vI a :: st) (some n) h (c + 1) (s + ln) := by
  intro κ H locs ls cells slots hC hH hl hr
  obtain ⟨p, e, R, s0, m, args, below, meth, cd⟩ := κ
  obtain ⟨hd, rfl, ho⟩ := gdec' (len := 3) hM hi rfl (by decide)
  obtain ⟨htr, hx, hb, hrt, hml, hown, hts, hlk, hnm, hfr, hlo, het, hE⟩ := id hC
  subst ha
  have ho : gIn (Cond.classLink (mN M).cls idx C) = true ∧ C ∈ gAo := by simpa [gOkI, hty] using ho
  have ho := And.intro (gIn_spec ho.1) ho.2
  have hr : cells + (c + 1) ≤ R.cells ∧ slots + (s + ln) ≤ R.slots := hr
  have hz : H.size = gZ G + n := hH.2.1 n rfl
  have hcl : (Int32.ofInt ln).toNatClampNeg = ln := by rw [gI_cl (by omega) (by omega)]; simp
  show W p (gl G) e R s0 m args below meth cd H locs cells slots (F (p, e, R, s0, m, args, below, meth, cd)) (F0 m pc ls (.int (Int32.ofInt ln) :: st.map (gz G)))
  refine W.anew hx hb hown (hts _ ho.1) (va_AO.use (hE.2.2.2.2.2.2.2.2.1 C ho.2)) rfl hd rfl (fun h9 => ?_) (by rw [hcl]; omega) (by omega) (by rw [hcl]; omega) fun cA kA comp f1 f2 f3 f4 => ?_
  · rw [gI_0] at h9
    have := (gI_lt (by omega) (by omega)).mp h9
    omega
  · rw [hcl]
    have hA0 : cA = gdA G k := by
      obtain ⟨-, -, -, -, -, h9⟩ := (hE.2.1 k _ hty).2
      exact Option.some.inj (f1.symm.trans h9)
    subst hA0
    generalize hH1 : H.push ({ cls := gdA G k, slots := Array.replicate ln .null, vm := .none } : Cell) = H1
    have z1 : H1.size = H.size + 1 := by rw [← hH1, Array.size_push]
    have e1 : H1[H.size]? = some (arrV (gdA G k) ln (fun _ => .null)) := by rw [← hH1, Array.getElem?_push_size, ← arrV_new]
    have o1 : ∀ q : Nat, q < H.size → H1[q]? = H[q]? := fun q hq => by rw [← hH1, Array.getElem?_push, if_neg (Nat.ne_of_lt hq)]
    have he : va_at (gD G) gCl (gZ G + n, gzE G (.inl (k, ln, .inr (.inr (fun _ => none))))) H1 := by
      show H1[gZ G + n]? = some (vp_cell _ _)
      rw [← hz, e1]
      rfl
    have h9 := kk _ H1 locs ls (cells + 1) (slots + ln) hC (gPush hH hn he z1 o1) hl ⟨by omega, by omega⟩
    have hh : gz G (vR n) = .ref H.size := by
      show Value.ref (ga G n) = _
      rw [ga_pos hn, hz]
    simp only [gWk, List.map_cons, hh] at h9
    exact h9
theorem go_obj {idx a : Nat} (hM : gOk M) (hi : gAt (mT M) pc = some (pc0, .invokespecial idx, nx, 1, k, j)) (hw : Nat.ble (st.map gCat).sum 8 = true) (kk : Go G M F nx lv st N h c s) : Go G M F pc lv (vR a :: st) N h c s := by
  intro κ H locs ls cells slots hC hH hl hr
  obtain ⟨p, e, R, s0, m, args, below, meth, cd⟩ := κ
  obtain ⟨hd, rfl, ho⟩ := gdec' (len := 3) hM hi rfl (by decide)
  obtain ⟨htr, hx, hb, hrt, hml, hown, hts, hlk, hnm, hfr, hlo, het, hE⟩ := id hC
  have ho : (gOkW (gObj (mN M).cls idx) = true ∧ 1 ≤ mF M) ∧ 20 ≤ mO M := by simpa [gOkI] using ho
  have hw2 : ((st.map (gz G)).map fun v => v.category).sum ≤ 8 := by rw [gz_cats]; exact Nat.le_of_ble_eq_true hw
  refine W.objInit hx hb hown (idx := idx) (hts _ (gOkW_spec ho.1.1 (by simp [gObj]))) (hts _ (gOkW_spec ho.1.1 (by simp [gObj]))) (hts _ (gOkW_spec ho.1.1 (by simp [gObj]))) rfl (by rw [hml]; exact hl.1) rfl hd (Nat.le_trans ho.1.2 hfr) ?_ ?_
  · show 2 * 0 + ((st.map (gz G)).map fun v => v.category).sum + 12 ≤ R.locals
    omega
  · exact kk _ H locs ls cells slots hC hH hl hr
theorem go_max {idx : Nat} {a b : Int} (hM : gOk M) (hi : gAt (mT M) pc = some (pc0, .invokestatic idx, nx, 1, k, j)) (ha : -2147483648 ≤ a ∧ a ≤ 2147483647) (hb9 : -2147483648 ≤ b ∧ b ≤ 2147483647) (hw : Nat.ble (st.map gCat).sum 8 = true) (kk : Go G M F nx lv (vI (if a < b then b else a) :: st) N h c s) : Go G M F pc lv (vI b :: vI a :: st) N h c s := by
  intro κ H locs ls cells slots hC hH hl hr
  obtain ⟨p, e, R, s0, m, args, below, meth, cd⟩ := κ
  obtain ⟨hd, rfl, ho⟩ := gdec' (len := 3) hM hi rfl (by decide)
  obtain ⟨htr, hx, hb, hrt, hml, hown, hts, hlk, hnm, hfr, hlo, het, hE⟩ := id hC
  have ho : (gOkW (gMx (mN M).cls idx) = true ∧ 1 ≤ mF M) ∧ 21 ≤ mO M := by simpa [gOkI] using ho
  have hw2 : ((st.map (gz G)).map fun v => v.category).sum ≤ 8 := by rw [gz_cats]; exact Nat.le_of_ble_eq_true hw
  have hr2 : cells + c ≤ R.cells ∧ slots + s ≤ R.slots := hr
  refine va_mmax (x := Int32.ofInt a) (y := Int32.ofInt b) hx hb (by rw [hml]; exact hl.1.symm) hown (index := idx) (hts _ (gOkW_spec ho.1.1 (by simp [gMx]))) (hts _ (gOkW_spec ho.1.1 (by simp [gMx]))) (hts _ (gOkW_spec ho.1.1 (by simp [gMx]))) (hts _ (gOkW_spec ho.1.1 (by simp [gMx]))) (Nat.le_trans ho.1.2 hfr) (by omega) (by omega) (by omega) hd ?_
  have e9 : (if Int32.ofInt a < Int32.ofInt b then Int32.ofInt b else Int32.ofInt a) = Int32.ofInt (if a < b then b else a) := by
    by_cases h9 : a < b
    · rw [if_pos h9, if_pos ((gI_lt ha hb9).mpr h9)]
    · rw [if_neg h9, if_neg (fun q => h9 ((gI_lt ha hb9).mp q))]
  rw [e9]
  exact kk _ H locs ls cells slots hC hH hl hr
theorem go_min {idx : Nat} {a b : Int} (hM : gOk M) (hi : gAt (mT M) pc = some (pc0, .invokestatic idx, nx, 2, k, j)) (ha : -2147483648 ≤ a ∧ a ≤ 2147483647) (hb9 : -2147483648 ≤ b ∧ b ≤ 2147483647) (hw : Nat.ble (st.map gCat).sum 8 = true) (kk : Go G M F nx lv (vI (if b < a then b else a) :: st) N h c s) : Go G M F pc lv (vI b :: vI a :: st) N h c s := by
  intro κ H locs ls cells slots hC hH hl hr
  obtain ⟨p, e, R, s0, m, args, below, meth, cd⟩ := κ
  obtain ⟨hd, rfl, ho⟩ := gdec' (len := 3) hM hi rfl (by decide)
  obtain ⟨htr, hx, hb, hrt, hml, hown, hts, hlk, hnm, hfr, hlo, het, hE⟩ := id hC
  have ho : (gOkW (gMn (mN M).cls idx) = true ∧ 1 ≤ mF M) ∧ 21 ≤ mO M := by simpa [gOkI] using ho
  have hw2 : ((st.map (gz G)).map fun v => v.category).sum ≤ 8 := by rw [gz_cats]; exact Nat.le_of_ble_eq_true hw
  have hr2 : cells + c ≤ R.cells ∧ slots + s ≤ R.slots := hr
  refine va_mmin (x := Int32.ofInt a) (y := Int32.ofInt b) hx hb (by rw [hml]; exact hl.1.symm) hown (index := idx) (hts _ (gOkW_spec ho.1.1 (by simp [gMn]))) (hts _ (gOkW_spec ho.1.1 (by simp [gMn]))) (hts _ (gOkW_spec ho.1.1 (by simp [gMn]))) (hts _ (gOkW_spec ho.1.1 (by simp [gMn]))) (Nat.le_trans ho.1.2 hfr) (by omega) (by omega) (by omega) hd ?_
  have e9 : (if Int32.ofInt b < Int32.ofInt a then Int32.ofInt b else Int32.ofInt a) = Int32.ofInt (if b < a then b else a) := by
    by_cases h9 : b < a
    · rw [if_pos h9, if_pos ((gI_lt hb9 ha).mpr h9)]
    · rw [if_neg h9, if_neg (fun q => h9 ((gI_lt hb9 ha).mp q))]
  rw [e9]
  exact kk _ H locs ls cells slots hC hH hl hr
/-- what is copied -/
def gCp (f g : Nat → Int) (sp dp n : Nat) : Nat → Int := fun k => if dp ≤ k ∧ k < dp + n then f (sp + (k - dp)) else g k
end
end
section
/-! System.arraycopy; all cells as a list -/
def gWl (G : gG) (h : gH) (B : Nat) : va_W := (List.range B).filterMap (fun i => (h i).map (fun e => (gZ G + i, gzE G e)))
theorem gWl_mem {G : gG} {h : gH} {B : Nat} {q : Nat × va_E} : q ∈ gWl G h B ↔ ∃ i e, i < B ∧ h i = some e ∧ q = (gZ G + i, gzE G e) := by
  unfold gWl
  rw [List.mem_filterMap]
  constructor
  · rintro ⟨i, hi, h1⟩
    cases h2 : h i with
    | none => rw [h2] at h1; simp at h1
    | some e =>
      rw [h2] at h1
      simp at h1
      exact ⟨i, e, List.mem_range.mp hi, h2, h1.symm⟩
  · rintro ⟨i, e, hi, h2, rfl⟩
    exact ⟨i, List.mem_range.mpr hi, by rw [h2]; rfl⟩
theorem gWl_inj {G : gG} {h : gH} {B : Nat} (i j : Nat) (p q : Nat × va_E) (hp : (gWl G h B)[i]? = some p) (hq : (gWl G h B)[j]? = some q) (e : p.1 = q.1) : i = j := by
  have hpw : (gWl G h B).Pairwise (fun a b => a.1 < b.1) := by
    refine List.Pairwise.filterMap (R := fun a b => a < b) _ ?_ List.pairwise_lt_range
    intro a a' haa b hb b' hb'
    cases h1 : h a with
    | none => rw [h1] at hb; simp at hb
    | some x =>
      cases h2 : h a' with
      | none => rw [h2] at hb'; simp at hb'
      | some y =>
        rw [h1] at hb
        rw [h2] at hb'
        simp at hb hb'
        subst hb
        subst hb'
        show gZ G + a < gZ G + a'
        omega
  rw [List.pairwise_iff_getElem] at hpw
  obtain ⟨hi, ei⟩ := List.getElem?_eq_some_iff.mp hp
  obtain ⟨hj, ej⟩ := List.getElem?_eq_some_iff.mp hq
  rcases Nat.lt_trichotomy i j with h9 | h9 | h9
  · have := hpw i j hi hj h9
    rw [ei, ej] at this
    omega
  · exact h9
  · have := hpw j i hj hi h9
    rw [ei, ej] at this
    omega
theorem gWl_at {G : gG} {h : gH} {B i : Nat} {e : gE} (hi : i < B) (he : h i = some e) : ∃ q : Nat, (gWl G h B)[q]? = some (gZ G + i, gzE G e) := List.getElem?_of_mem (gWl_mem.mpr ⟨i, e, hi, he, rfl⟩)
section
variable {G : gG} {M : gM} {F : gK → State → Prop} {pc : Nat} {lv lv' : List (Option gV)} {st st' : List gV} {N : Option Nat} {h : gH} {c s : Nat} {pc0 nx k j : Nat} {z : Int}

set_option maxHeartbeats 1000000 in
theorem go_copy {idx a0 a n0 n1 : Nat} {f g : Nat → Int} {sp dp n : Int} (hM : gOk M) (hi : gAt (mT M) pc = some (pc0, .invokestatic idx, nx, 3, k, j)) (hh0 : h a0 = some (.inl (0, n0, .inl f))) (hh : h a = some (.inl (0, n1, .inl g))) (h1 : 0 ≤ sp) (h2 : 0 ≤ dp) (h3 : 0 ≤ n) (h4 : sp + n ≤ n0) (h5 : dp + n ≤ n1) (h6 : n0 ≤ 100000000) (h7 : n1 ≤ 100000000) (hw : Nat.ble (st.map gCat).sum 8 = true)
    (kk : Go G M F nx lv st none (gU h a (.inl (0, n1, .inl (gCp f g sp.toNat dp.toNat n.toNat)))) c s) : Go G M F pc lv (vI n :: vI dp :: vR a :: vI sp :: vR a0 :: st) N h c s := by
  intro κ H locs ls cells slots hC hH hl hr
  obtain ⟨p, e, R, s0, m, args, below, meth, cd⟩ := κ
  obtain ⟨hd, rfl, ho⟩ := gdec' (len := 3) hM hi rfl (by decide)
  obtain ⟨htr, hx, hb, hrt, hml, hown, hts, hlk, hnm, hfr, hlo, het, hE⟩ := id hC
  have ho : (gOkW (gCpy (mN M).cls idx) = true ∧ 1 ≤ mF M) ∧ 8 + (nativeFrameWords "java/lang/System" "arraycopy" 5 + 11) ≤ mO M := by simpa [gOkI] using ho
  have hw2 : ((st.map (gz G)).map fun v => v.category).sum ≤ 8 := by rw [gz_cats]; exact Nat.le_of_ble_eq_true hw
  obtain ⟨ea0, hat0⟩ := hH.1.at hh0
  obtain ⟨ea, hat⟩ := hH.1.at hh
  have hB : ∀ i e, h i = some e → i < H.size := fun i e h9 => by
    have := (hH.1 i e h9).2.lt
    have h8 : gZ G + i < H.size := this
    omega
  obtain ⟨q0, hq0⟩ := gWl_at (G := G) (hB _ _ hh0) hh0
  obtain ⟨q1, hq1⟩ := gWl_at (G := G) (hB _ _ hh) hh
  have hP : va_P (gD G) gCl (gWl G h H.size) H := by
    intro i q hq
    obtain ⟨i9, e9, -, h9, rfl⟩ := gWl_mem.mp (List.mem_of_getElem? hq)
    exact (hH.1 i9 e9 h9).2
  have hD : va_D (gA G) (gWl G h H.size) := by
    refine ⟨gWl_inj, fun i q hq => ?_⟩
    obtain ⟨i9, e9, -, h9, rfl⟩ := gWl_mem.mp (List.mem_of_getElem? hq)
    exact gA_in (hH.1 i9 e9 h9).1
  have n2 : ∀ x : Int, 0 ≤ x → x ≤ 2147483647 → ¬ Int32.ofInt x < 0 := fun x g1 g2 g3 => by
    rw [gI_0] at g3
    have := (gI_lt (by omega) (by omega)).mp g3
    omega
  have c1 := gI_cl h1 (by omega)
  have c2 := gI_cl h2 (by omega)
  have c3 := gI_cl h3 (by omega)
  show W p (gl G) e R s0 m args below meth cd H locs cells slots (F (p, e, R, s0, m, args, below, meth, cd)) (F0 m pc ls (.int (Int32.ofInt n) :: .int (Int32.ofInt dp) :: .ref (ga G a) :: .int (Int32.ofInt sp) :: .ref (ga G a0) :: st.map (gz G)))
  rw [ea, ea0]
  refine va_copyi (f := fun i => Int32.ofInt (f i)) (g := fun i => Int32.ofInt (g i)) (ty := .int) (tys := [(gdA G 0, .int)]) hx hb (by rw [hml]; exact hl.1.symm) hown (index := idx) (hts _ (gOkW_spec ho.1.1 (by simp [gCpy]))) (hts _ (gOkW_spec ho.1.1 (by simp [gCpy]))) (hts _ (gOkW_spec ho.1.1 (by simp [gCpy]))) (hts _ (gOkW_spec ho.1.1 (by simp [gCpy]))) (gK1 hE (k := 0) rfl) hP hD hH.2.2 q0 q1 0 0 hq0 hq1 rfl rfl rfl (n2 _ h1 (by omega)) (n2 _ h2 (by omega)) (n2 _ h3 (by omega)) (by rw [c1, c3]; omega) (by rw [c2, c3]; omega) (fun _ _ => rfl) (Nat.le_trans ho.1.2 hfr) (by omega) hd (fun H1 locs1 hP1 hD1 hS1 => ?_)
  refine kk _ H1 locs1 ls cells slots hC ⟨?_, fun n9 e9 => (by cases e9), hS1⟩ hl hr
  intro i e9 hi9
  unfold gU at hi9
  by_cases hia : i = a
  · subst hia
    simp at hi9
    subst hi9
    refine ⟨(hH.1 i _ hh).1, ?_⟩
    have h9 := hP1 q1 _ (by rw [List.getElem?_set_self (List.getElem?_eq_some_iff.mp hq1).1])
    have e8 : gzE G (.inl (0, n1, .inl (gCp f g sp.toNat dp.toNat n.toNat))) = .inl (gdA G 0, n1, .inl (va_cpy (fun i => Int32.ofInt (f i)) (fun i => Int32.ofInt (g i)) (Int32.ofInt sp).toNatClampNeg (Int32.ofInt dp).toNatClampNeg (Int32.ofInt n).toNatClampNeg)) := by
      rw [c1, c2, c3]
      simp only [gzE, gzC]
      congr 3
      congr 1
      funext x
      simp only [gCp, va_cpy]
      split <;> rfl
    rw [e8]
    exact h9
  · rw [if_neg hia] at hi9
    obtain ⟨qi, hqi⟩ := gWl_at (G := G) (hB _ _ hi9) hi9
    have hne : qi ≠ q1 := by
      intro h9
      subst h9
      have := hqi.symm.trans hq1
      simp at this
      omega
    exact ⟨(hH.1 i e9 hi9).1, hP1 qi _ (by rw [List.getElem?_set_ne (Ne.symm hne)]; exact hqi)⟩
end
end
section
/-! what is thrown, and caught -/
def gInS (Y : String) : MethodName := ⟨Y, "<init>", "(Ljava/lang/String;)V"⟩
def gOkT (own : String) (ik ic : Nat) (cls : String) (names : List String) : Bool :=
  Bundle.fit cls && names.all Bundle.fit && gIn (Cond.classLink own ik cls) && gIn (Cond.initialized cls) &&
  ((vx_atS own ic cls names).filter goodWord).all gIn &&
  ((vx_atS own ic cls names).filter (fun w => !goodWord w)).all (fun w => decide (w ∈ gCa.map (fun q => Cond.castable q.1 q.2) ++ gDe.map Cond.declares)) &&
  (Cond.classLink own ik cls :: Cond.initialized cls :: vx_atS own ic cls names).all vx_ot
section
variable {G : gG} {M : gM} {F : gK → State → Prop} {pc : Nat} {lv lv' : List (Option gV)} {st st' : List gV} {N : Option Nat} {h : gH} {c s : Nat} {pc0 nx k j : Nat} {z : Int}

set_option maxHeartbeats 1000000 in
theorem go_throw {ik is ic q : Nat} {cls text : String} {names : List String} {Q : Option gV → Option Nat → gH → Prop} {X : String → gH → Prop} {a1 a2 a3 a4 b1 b2 b3 b4 d1 d2 d3 e1 e2 e3 e4 e5 : Nat} {y1 y2 y3 y4 : Int} {e6 : Nat} (hM : gOk M) (h0 : gAt (mT M) pc = some (pc0, .new ik, nx, z, k, 1)) (h3 : gAt (mT M) (pc + 3) = some (a1, .dup, a2, y1, a3, a4)) (h4 : gAt (mT M) (pc + 4) = some (b1, .ldc is, b2, y2, q, 1)) (h6 : gAt (mT M) (pc + 6) = some (d1, .invokespecial ic, d2, 2, d3, e1)) (h9 : gAt (mT M) (pc + 9) = some (e2, .athrow, e3, y4, e4, e5))
    (hT : gOkT (mN M).cls ik ic cls names = true) (hs : gSt[q]? = some ((mN M).cls, is, text)) (hm : mH M = []) (hf : Nat.blt (names.length + 3) (mF M) = true) (hlo9 : Nat.ble (13 * (names.length + 1) + 43) (mO M) = true) (hX : X cls h) : Go G M (gFin G Q X) pc lv [] N h (c + 1) (s + 6) := by
  intro κ H locs ls cells slots hC hH hl hr
  obtain ⟨p, e, R, s0, m, args, below, meth, cd⟩ := κ
  obtain ⟨htr, hx, hb, hrt, hml, hown, hts, hlk, hnm, hfr, hlo, het, hE⟩ := id hC
  obtain ⟨g0, -, -⟩ := gdec' (len := 3) hM h0 rfl (by decide)
  obtain ⟨g3, -, -⟩ := gdec' (len := 1) hM h3 rfl (by decide)
  obtain ⟨g4, -, -⟩ := gdec' (len := 2) hM h4 rfl (by decide)
  obtain ⟨g6, -, -⟩ := gdec' (len := 3) hM h6 rfl (by decide)
  obtain ⟨g9, -, -⟩ := gdec' (len := 1) hM h9 rfl (by decide)
  unfold gOkT at hT
  simp only [Bool.and_eq_true, decide_eq_true_eq] at hT
  obtain ⟨⟨⟨⟨⟨⟨t1, t2⟩, t3⟩, t4⟩, t5⟩, t6⟩, t7⟩ := hT
  have hr : cells + (c + 1) ≤ R.cells ∧ slots + (s + 6) ≤ R.slots := hr
  have hf := Nat.le_of_ble_eq_true hf
  have hlo9 := Nat.le_of_ble_eq_true hlo9
  obtain ⟨k1, k2, k3, k4, k5, k6, k7, k8, k9, k10, k11, k12, k13⟩ := id hE
  refine vx_throwS (cls := cls) (text := text) (names := names) (sa := gsa G q) (A := gA G) (rest := []) hx hb htr hown t1 (fun n hn => List.all_eq_true.mp t2 n hn) (hts _ (gIn_spec t3)) (hts _ (gIn_spec t4)) (k5 q _ hs) ?_ (fun w hw => List.all_eq_true.mp t7 w hw) k3 k4 hH.2.2 (by rw [hml]; exact hl.1) g0 g3 g4 g6 g9 ?_ (by omega) (by simp; omega) (by omega) (by omega) hlk ?_ hH.2.2.2.2 (by omega) (by omega)
  · refine vx_hat (B := gCa.map (fun q => Cond.castable q.1 q.2) ++ gDe.map Cond.declares) (fun w hw => hts w (gIn_spec (List.all_eq_true.mp t5 w hw))) (fun w hw => of_decide_eq_true (List.all_eq_true.mp t6 w hw)) (fun w hw => ?_)
    rcases List.mem_append.mp hw with h8 | h8
    · obtain ⟨q9, hq9, rfl⟩ := List.mem_map.mp h8
      exact va_Nw.use rfl (k12 q9 hq9)
    · obtain ⟨y9, hy9, rfl⟩ := List.mem_map.mp h8
      exact va_Nw.use rfl (k13 y9 hy9)
  · intro x hx9
    rw [het, hm] at hx9
    cases hx9
  · intro t hal hz hq
    refine ⟨⟨h, hX, fun i e9 hi9 => ⟨(hH.1 i e9 hi9).1, (hH.1 i e9 hi9).2.kept (hq _ (hH.1 i e9 hi9).2.lt)⟩⟩, Nat.le_trans hH.2.2.1 hz, fun x g1 g2 => ?_⟩
    rw [hq x (Nat.lt_of_lt_of_le g1 hH.2.2.1)]
    exact hH.2.2.2.1 x g1 g2
end
end
section
/-! handlers; calls of nest mates and of methods with handlers -/
def gHe (q : Nat × Nat × Nat × Nat) : ExceptionTableEntry := ⟨q.1, q.2.1, q.2.2.1, q.2.2.2⟩
def gOkH (own E : String) (pc : Nat) : List (Nat × Nat × Nat × Nat) → List String → Nat → Bool
  | x :: _, nm :: _, 0 => covers (gHe x) pc && decide (x.2.2.2 ≠ 0) && gIn (Cond.classLink own x.2.2.2 nm) && decide ((E, nm) ∈ gCa)
  | x :: t, nm :: ns, i + 1 => (!covers (gHe x) pc || (decide (x.2.2.2 ≠ 0) && gIn (Cond.classLink own x.2.2.2 nm) && decide ((E, nm) ∈ gNc))) && gOkH own E pc t ns i
  | _, _, _ => false
theorem gOkH_spec {own E : String} {pc : Nat} : ∀ (hh : List (Nat × Nat × Nat × Nat)) (ns : List String) (i : Nat), gOkH own E pc hh ns i = true → ∃ (pre : List (Nat × Nat × Nat × Nat)) (x : Nat × Nat × Nat × Nat) (suf : List (Nat × Nat × Nat × Nat)) (nm : String), hh = pre ++ x :: suf ∧ hh[i]? = some x ∧ covers (gHe x) pc = true ∧ x.2.2.2 ≠ 0 ∧ Cond.classLink own x.2.2.2 nm ∈ gT ∧ (E, nm) ∈ gCa ∧ ∀ y ∈ pre, covers (gHe y) pc = false ∨ (y.2.2.2 ≠ 0 ∧ ∃ nm : String, Cond.classLink own y.2.2.2 nm ∈ gT ∧ (E, nm) ∈ gNc) := by
  intro hh
  induction hh with
  | nil => intro ns i h; simp [gOkH] at h
  | cons x t ih =>
    intro ns i h
    cases ns with
    | nil => simp [gOkH] at h
    | cons nm ns =>
      cases i with
      | zero =>
        simp only [gOkH, Bool.and_eq_true, decide_eq_true_eq] at h
        exact ⟨[], x, t, nm, rfl, rfl, by simpa [covers] using h.1.1.1, h.1.1.2, gIn_spec h.1.2, h.2, fun y hy => by cases hy⟩
      | succ i =>
        simp only [gOkH, Bool.and_eq_true, Bool.or_eq_true, Bool.not_eq_true', decide_eq_true_eq] at h
        obtain ⟨pre, x9, suf, nm9, e1, e2, e3, e4, e5, e6, e7⟩ := ih ns i h.2
        refine ⟨x :: pre, x9, suf, nm9, by rw [e1]; rfl, by simpa using e2, e3, e4, e5, e6, fun y hy => ?_⟩
        rcases List.mem_cons.mp hy with rfl | hy
        · rcases h.1 with h1 | h1
          · exact Or.inl h1
          · exact Or.inr ⟨h1.1.1, nm, gIn_spec h1.1.2, h1.2⟩
        · exact e7 y hy
section
variable {G : gG} {M : gM} {F : gK → State → Prop} {pc : Nat} {lv lv' : List (Option gV)} {st st' : List gV} {N : Option Nat} {h : gH} {c s : Nat} {pc0 nx k j : Nat} {z : Int}
variable {M' : gM} {Q : Option gV → Option Nat → gH → Prop} {X : String → gH → Prop} {mc ms : Nat}

set_option maxHeartbeats 1000000 in
theorem gox_catch {E : String} {ns : List String} {n : Fin 4} {x : Nat × Nat × Nat × Nat} (i : Nat) (hM : gOk M) (hk : gOkH (mN M).cls E pc (mH M) ns i = true) (hx9 : (mH M)[i]? = some x) (hi : gAt (mT M) x.2.2.1 = some (pc0, .astore_n n, nx, z, k, j)) (hs : gSet lv k none = some lv') (kk : Go G M F nx lv' [] none h c s) : GoX G M F pc lv h E c s := by
  intro p e R s0 m args below meth cd H locs ls cells slots rest q ce hC hH hl hr hce hcv hcl
  obtain ⟨hd, rfl, ho⟩ := gdec' (len := 1) hM hi rfl (by decide)
  obtain ⟨htr, hx, hb, hrt, hml, hown, hts, hlk, hnm, hfr, hlo, het, hE⟩ := id hC
  have ho : n.val = k := by simpa [gOkI] using ho
  obtain ⟨pre, x9, suf, nm, e1, e2, e3, e4, e5, e6, e7⟩ := gOkH_spec _ _ _ hk
  cases hx9.symm.trans e2
  obtain ⟨k1, k2, k3, k4, k5, k6, k7, k8, k9, k10, k11, k12, k13⟩ := id hE
  refine vx_catch (own := (mN M).cls) (name := nm) (E := E) hown (tableOf pre) (gHe x) (tableOf suf) (by rw [het, e1]; simp [tableOf, gHe]) ?_ e3 e4 (hts _ e5) (va_Nw.use rfl (k12 _ e6)) hce hcv hcl ?_
  · intro y hy
    unfold tableOf at hy
    obtain ⟨y9, hy9, rfl⟩ := List.mem_map.mp hy
    rcases e7 y9 hy9 with h1 | ⟨h1, nm9, h2, h3⟩
    · exact Or.inl h1
    · exact Or.inr ⟨h1, nm9, hts _ h2, k11 _ h3⟩
  · have hkl : k < mL M := Nat.lt_of_lt_of_le (gSet_spec _ _ _ _ hs).1 hl.2.2.1
    exact lv_astore_n hx hb hd ho hl.has hkl rfl (fun ls' h' => kk _ H locs ls' cells slots hC hH (hl.drop hs h') hr)
set_option maxHeartbeats 1000000 in
theorem gox_catch' {E : String} {ns : List String} {n : Nat} {x : Nat × Nat × Nat × Nat} (i : Nat) (hM : gOk M) (hk : gOkH (mN M).cls E pc (mH M) ns i = true) (hx9 : (mH M)[i]? = some x) (hi : gAt (mT M) x.2.2.1 = some (pc0, .astore n, nx, z, k, j)) (hs : gSet lv k none = some lv') (kk : Go G M F nx lv' [] none h c s) : GoX G M F pc lv h E c s := by
  intro p e R s0 m args below meth cd H locs ls cells slots rest q ce hC hH hl hr hce hcv hcl
  obtain ⟨hd, rfl, ho⟩ := gdec' (len := 2) hM hi rfl (by decide)
  obtain ⟨htr, hx, hb, hrt, hml, hown, hts, hlk, hnm, hfr, hlo, het, hE⟩ := id hC
  have ho : n = k := by simpa [gOkI] using ho
  subst ho
  obtain ⟨pre, x9, suf, nm, e1, e2, e3, e4, e5, e6, e7⟩ := gOkH_spec _ _ _ hk
  cases hx9.symm.trans e2
  obtain ⟨k1, k2, k3, k4, k5, k6, k7, k8, k9, k10, k11, k12, k13⟩ := id hE
  refine vx_catch (own := (mN M).cls) (name := nm) (E := E) hown (tableOf pre) (gHe x) (tableOf suf) (by rw [het, e1]; simp [tableOf, gHe]) ?_ e3 e4 (hts _ e5) (va_Nw.use rfl (k12 _ e6)) hce hcv hcl ?_
  · intro y hy
    unfold tableOf at hy
    obtain ⟨y9, hy9, rfl⟩ := List.mem_map.mp hy
    rcases e7 y9 hy9 with h1 | ⟨h1, nm9, h2, h3⟩
    · exact Or.inl h1
    · exact Or.inr ⟨h1, nm9, hts _ h2, k11 _ h3⟩
  · have hkl : n < mL M := Nat.lt_of_lt_of_le (gSet_spec _ _ _ _ hs).1 hl.2.2.1
    exact lv_astore hx hb hd hl.has hkl rfl (fun ls' h' => kk _ H locs ls' cells slots hC hH (hl.drop hs h') hr)
set_option maxHeartbeats 1000000 in
theorem go_callSN {idx : Nat} {As rest : List gV} (hM : gOk M) (hi : gAt (mT M) pc = some (pc0, .invokestatic idx, nx, 4, k, j)) (hm : gMs[k]? = some M') (hp : gPop j [] st = some (As, rest)) (hR : Rn G M' As N h mc ms Q (fun _ _ => False)) (hw : Nat.ble (rest.map gCat).sum 8 = true)
    (kk : ∀ v N' h', Q v N' h' → Go G M F nx lv (gPsh v rest) N' h' c s) : Go G M F pc lv st N h (c + mc) (s + ms) := by
  intro κ H locs ls cells slots hC hH hl hr
  obtain ⟨p, e, R, s0, m, args, below, meth, cd⟩ := κ
  obtain ⟨hd, rfl, ho⟩ := gdec' (len := 3) hM hi rfl (by decide)
  obtain ⟨htr, hx, hb, hrt, hml, hown, hts, hlk, hnm, hfr, hlo, het, hE⟩ := id hC
  have hk : gOkC M k j = true ∧ gOkNl M idx k = true := by simpa [gOkI] using ho
  obtain ⟨l, el, en, es⟩ := gPop_spec _ _ _ _ _ hp
  obtain ⟨hh, hf, hlw, n1, n2, hpar, hini⟩ := gOkC_spec hm hk.1
  have hk2 := hk.2
  unfold gOkNl at hk2
  rw [hm] at hk2
  simp only [Bool.and_eq_true, decide_eq_true_eq, List.any_eq_true] at hk2
  obtain ⟨⟨q9, hq9, ⟨hq1, hq2⟩, hq3⟩, hsta⟩ := hk2
  obtain ⟨k1, k2, k3, k4, k5, k6, k7, k8, k9, k10, k11, k12, k13⟩ := id hE
  have hnl := k10 q9 hq9
  rw [hq1, hq2, hq3] at hnl
  rw [List.append_nil] at el
  subst el
  have hr : cells + (c + mc) ≤ R.cells ∧ slots + (s + ms) ≤ R.slots := hr
  show W p (gl G) e R s0 m args below meth cd H locs cells slots (F (p, e, R, s0, m, args, below, meth, cd)) (F0 m pc ls (st.map (gz G)))
  refine gBack hC hH hl hr (a := (As.map (gz G)).toArray) (rest := rest) (X := fun _ _ => False) ?_ kk (fun E h' h9 => h9.elim)
  refine gRunX ?_
  refine va_runSN (host := q9.2.2.2) (As := As.map (gz G)) (rest := rest.map (gz G)) (cc := mB M) (nL := mL M) (bytes := mB M') (maxL := mL M') (ret := mR M') (ws := gWs M') (rm := { frames := mF M', cells := mc, slots := ms, locals := mO M' }) (n := j) (index := idx) (own := (mN M).cls) (Ts := gT) (Pc := va_Pc (As.map (gz G)) (gPre G N h)) ⟨hx, hb, hml, hown, hts⟩ (hR.met htr) ⟨?_, hts _ (gIn_spec hsta), trivial⟩ ⟨gBlind, ?_⟩ rfl (by simpa using en) hl.1 ?_ ?_ hd ⟨by omega, by omega⟩
  · exact va_cnB (ws' := gT) j hts (gGoodM hm) (by unfold gWs gHd; rw [hh]) rfl rfl hnl (hts _ hini) ⟨n1, n2, hpar⟩ ⟨Nat.le_trans hf hfr, Nat.le_trans hlw hlo⟩
  · intro U hU hW
    exact ⟨rfl, gPre_of hE hH hU hW⟩
  · show st.map (gz G) = _
    rw [es]
    simp
  · refine lv_room ?_
    rw [gz_cats]
    exact Nat.le_of_ble_eq_true hw
end
end
section
/-! contracts whose end is known -/
abbrev gEq (v : Option gV) (N : Option Nat) (h : gH) : Option gV → Option Nat → gH → Prop := fun v' N' h' => v' = v ∧ N' = N ∧ h' = h
abbrev gNo : String → gH → Prop := fun _ _ => False
abbrev Rd (G : gG) (M : gM) (av : List gV) (N : Option Nat) (h : gH) (v : Option gV) (N' : Option Nat) (h' : gH) : Prop := Rn G M av N h 0 0 (gEq v N' h') gNo
theorem gU_s (h : gH) (a : Nat) (e : gE) : gU h a e a = some e := by simp [gU]
theorem gU_n {h : gH} {a b : Nat} {e : gE} (hn : b ≠ a) : gU h a e b = h b := by simp [gU, hn]
theorem gU_uu (h : gH) (a : Nat) (e e' : gE) : gU (gU h a e) a e' = gU h a e' := by
  funext j
  unfold gU
  split <;> rfl
theorem gU_comm {h : gH} {a b : Nat} {e e' : gE} (hn : a ≠ b) : gU (gU h a e) b e' = gU (gU h b e') a e := by
  funext j
  unfold gU
  by_cases h1 : j = b
  · subst h1
    rw [if_pos rfl, if_neg (Ne.symm hn), if_pos rfl]
  · rw [if_neg h1]
    by_cases h2 : j = a
    · rw [if_pos h2, if_pos h2]
    · rw [if_neg h2, if_neg h2, if_neg h1]
theorem gU_same {h : gH} {a : Nat} {e : gE} (he : h a = some e) : gU h a e = h := by
  funext j
  unfold gU
  by_cases h1 : j = a
  · rw [if_pos h1, h1, he]
  · rw [if_neg h1]
section
variable {G : gG} {M M' : gM} {F : gK → State → Prop} {pc : Nat} {lv : List (Option gV)} {st : List gV} {N N' : Option Nat} {h h' : gH} {c s : Nat} {pc0 nx k j : Nat} {z : Int} {v : Option gV}
theorem go_cV {idx b ci : Nat} {fs As rest : List gV} {T : u_T} {nn : Nat} (hM : gOk M) (hi : gAt (mT M) pc = some (pc0, .invokevirtual idx, nx, z, k, j)) (hm : gMs[k]? = some M') (hp : gPop (j + 1) [] st = some (vR b :: As, rest)) (hb : h b = some (.inr (ci, fs))) (hci : gCl[ci]? = some ((mN M').cls, T, nn)) (hR : Rd G M' (vR b :: As) N h v N' h') (hw : Nat.ble (rest.map gCat).sum 8 = true) (kk : Go G M F nx lv (gPsh v rest) N' h' c s) : Go G M F pc lv st N h c s :=
  go_callV (mc := 0) (ms := 0) hM hi hm hp hb hci hR hw (fun _ _ _ q => by obtain ⟨rfl, rfl, rfl⟩ := q; exact kk) (fun _ _ q => q.elim)
theorem go_cS {idx : Nat} {As rest : List gV} (hM : gOk M) (hi : gAt (mT M) pc = some (pc0, .invokestatic idx, nx, 0, k, j)) (hm : gMs[k]? = some M') (hp : gPop j [] st = some (As, rest)) (hR : Rd G M' As N h v N' h') (hw : Nat.ble (rest.map gCat).sum 8 = true) (kk : Go G M F nx lv (gPsh v rest) N' h' c s) : Go G M F pc lv st N h c s :=
  go_callS (mc := 0) (ms := 0) hM hi hm hp hR hw (fun _ _ _ q => by obtain ⟨rfl, rfl, rfl⟩ := q; exact kk) (fun _ _ q => q.elim)
theorem go_cN {idx : Nat} {As rest : List gV} (hM : gOk M) (hi : gAt (mT M) pc = some (pc0, .invokestatic idx, nx, 4, k, j)) (hm : gMs[k]? = some M') (hp : gPop j [] st = some (As, rest)) (hR : Rd G M' As N h v N' h') (hw : Nat.ble (rest.map gCat).sum 8 = true) (kk : Go G M F nx lv (gPsh v rest) N' h' c s) : Go G M F pc lv st N h c s :=
  go_callSN (mc := 0) (ms := 0) hM hi hm hp hR hw (fun _ _ _ q => by obtain ⟨rfl, rfl, rfl⟩ := q; exact kk)
end
end
section
/-! more room than is needed -/
theorem go_room {G : gG} {M : gM} {F : gK → State → Prop} {pc : Nat} {lv : List (Option gV)} {st : List gV} {N : Option Nat} {h : gH} {c s c' s' : Nat} (hc : c ≤ c') (hs : s ≤ s') (kk : Go G M F pc lv st N h c s) : Go G M F pc lv st N h c' s' := by
  intro κ H locs ls cells slots hC hH hl hr
  obtain ⟨p, e, R, s0, m, args, below, meth, cd⟩ := κ
  have hr : cells + c' ≤ R.cells ∧ slots + s' ≤ R.slots := hr
  exact kk _ H locs ls cells slots hC hH hl ⟨by omega, by omega⟩
end
section
/-! the tables of 30.okNode are the bytes', and the words are there: by program (wip/whole/ok.py) -/
theorem ok_Node_init : gOk m_Node_init := fun q hq => List.all_eq_true.mp (show (mT m_Node_init).all (gOkQ m_Node_init) = true by decide +kernel) q hq
theorem ok_Node_isFull : gOk m_Node_isFull := fun q hq => List.all_eq_true.mp (show (mT m_Node_isFull).all (gOkQ m_Node_isFull) = true by decide +kernel) q hq
theorem ok_Node_hasEntry : gOk m_Node_hasEntry := fun q hq => List.all_eq_true.mp (show (mT m_Node_hasEntry).all (gOkQ m_Node_hasEntry) = true by decide +kernel) q hq
theorem ok_Node_word : gOk m_Node_word := fun q hq => List.all_eq_true.mp (show (mT m_Node_word).all (gOkQ m_Node_word) = true by decide +kernel) q hq
theorem ok_Node_firstAt : gOk m_Node_firstAt := fun q hq => List.all_eq_true.mp (show (mT m_Node_firstAt).all (gOkQ m_Node_firstAt) = true by decide +kernel) q hq
theorem ok_Node_belowAt : gOk m_Node_belowAt := fun q hq => List.all_eq_true.mp (show (mT m_Node_belowAt).all (gOkQ m_Node_belowAt) = true by decide +kernel) q hq
theorem ok_Node_lengthAt : gOk m_Node_lengthAt := fun q hq => List.all_eq_true.mp (show (mT m_Node_lengthAt).all (gOkQ m_Node_lengthAt) = true by decide +kernel) q hq
theorem ok_Node_isWrittenAt : gOk m_Node_isWrittenAt := fun q hq => List.all_eq_true.mp (show (mT m_Node_isWrittenAt).all (gOkQ m_Node_isWrittenAt) = true by decide +kernel) q hq
theorem ok_Node_volumeAt : gOk m_Node_volumeAt := fun q hq => List.all_eq_true.mp (show (mT m_Node_volumeAt).all (gOkQ m_Node_volumeAt) = true by decide +kernel) q hq
theorem ok_Node_setFirst : gOk m_Node_setFirst := fun q hq => List.all_eq_true.mp (show (mT m_Node_setFirst).all (gOkQ m_Node_setFirst) = true by decide +kernel) q hq
theorem ok_Node_setEntry : gOk m_Node_setEntry := fun q hq => List.all_eq_true.mp (show (mT m_Node_setEntry).all (gOkQ m_Node_setEntry) = true by decide +kernel) q hq
theorem ok_Node_lastUpTo : gOk m_Node_lastUpTo := fun q hq => List.all_eq_true.mp (show (mT m_Node_lastUpTo).all (gOkQ m_Node_lastUpTo) = true by decide +kernel) q hq
theorem ok_Node_insert : gOk m_Node_insert := fun q hq => List.all_eq_true.mp (show (mT m_Node_insert).all (gOkQ m_Node_insert) = true by decide +kernel) q hq
theorem ok_Node_remove : gOk m_Node_remove := fun q hq => List.all_eq_true.mp (show (mT m_Node_remove).all (gOkQ m_Node_remove) = true by decide +kernel) q hq
theorem ok_Node_moveTail : gOk m_Node_moveTail := fun q hq => List.all_eq_true.mp (show (mT m_Node_moveTail).all (gOkQ m_Node_moveTail) = true by decide +kernel) q hq
theorem ok_Node_byteAt : gOk m_Node_byteAt := fun q hq => List.all_eq_true.mp (show (mT m_Node_byteAt).all (gOkQ m_Node_byteAt) = true by decide +kernel) q hq
theorem ok_Node_wordOfBytes : gOk m_Node_wordOfBytes := fun q hq => List.all_eq_true.mp (show (mT m_Node_wordOfBytes).all (gOkQ m_Node_wordOfBytes) = true by decide +kernel) q hq
end
section
/-! the tables of 31.okPool are the bytes', and the words are there: by program (wip/whole/ok.py) -/
theorem ok_Pool_init : gOk m_Pool_init := fun q hq => List.all_eq_true.mp (show (mT m_Pool_init).all (gOkQ m_Pool_init) = true by decide +kernel) q hq
theorem ok_Pool_node : gOk m_Pool_node := fun q hq => List.all_eq_true.mp (show (mT m_Pool_node).all (gOkQ m_Pool_node) = true by decide +kernel) q hq
theorem ok_Pool_isTaken : gOk m_Pool_isTaken := fun q hq => List.all_eq_true.mp (show (mT m_Pool_isTaken).all (gOkQ m_Pool_isTaken) = true by decide +kernel) q hq
theorem ok_Pool_takeLeast : gOk m_Pool_takeLeast := fun q hq => List.all_eq_true.mp (show (mT m_Pool_takeLeast).all (gOkQ m_Pool_takeLeast) = true by decide +kernel) q hq
theorem ok_Pool_giveBack : gOk m_Pool_giveBack := fun q hq => List.all_eq_true.mp (show (mT m_Pool_giveBack).all (gOkQ m_Pool_giveBack) = true by decide +kernel) q hq
end
section
/-! the tables of 32.okTree are the bytes', and the words are there: by program (wip/whole/ok.py) -/
theorem ok_Tree_init : gOk m_Tree_init := fun q hq => List.all_eq_true.mp (show (mT m_Tree_init).all (gOkQ m_Tree_init) = true by decide +kernel) q hq
theorem ok_Tree_leaves : gOk m_Tree_leaves := fun q hq => List.all_eq_true.mp (show (mT m_Tree_leaves).all (gOkQ m_Tree_leaves) = true by decide +kernel) q hq
theorem ok_Tree_roomForOne : gOk m_Tree_roomForOne := fun q hq => List.all_eq_true.mp (show (mT m_Tree_roomForOne).all (gOkQ m_Tree_roomForOne) = true by decide +kernel) q hq
theorem ok_Tree_roomForTwo : gOk m_Tree_roomForTwo := fun q hq => List.all_eq_true.mp (show (mT m_Tree_roomForTwo).all (gOkQ m_Tree_roomForTwo) = true by decide +kernel) q hq
theorem ok_Tree_find : gOk m_Tree_find := fun q hq => List.all_eq_true.mp (show (mT m_Tree_find).all (gOkQ m_Tree_find) = true by decide +kernel) q hq
theorem ok_Tree_runFirst : gOk m_Tree_runFirst := fun q hq => List.all_eq_true.mp (show (mT m_Tree_runFirst).all (gOkQ m_Tree_runFirst) = true by decide +kernel) q hq
theorem ok_Tree_runLength : gOk m_Tree_runLength := fun q hq => List.all_eq_true.mp (show (mT m_Tree_runLength).all (gOkQ m_Tree_runLength) = true by decide +kernel) q hq
theorem ok_Tree_runEnd : gOk m_Tree_runEnd := fun q hq => List.all_eq_true.mp (show (mT m_Tree_runEnd).all (gOkQ m_Tree_runEnd) = true by decide +kernel) q hq
theorem ok_Tree_runVolume : gOk m_Tree_runVolume := fun q hq => List.all_eq_true.mp (show (mT m_Tree_runVolume).all (gOkQ m_Tree_runVolume) = true by decide +kernel) q hq
theorem ok_Tree_runIsWritten : gOk m_Tree_runIsWritten := fun q hq => List.all_eq_true.mp (show (mT m_Tree_runIsWritten).all (gOkQ m_Tree_runIsWritten) = true by decide +kernel) q hq
theorem ok_Tree_setRun : gOk m_Tree_setRun := fun q hq => List.all_eq_true.mp (show (mT m_Tree_setRun).all (gOkQ m_Tree_setRun) = true by decide +kernel) q hq
theorem ok_Tree_marked : gOk m_Tree_marked := fun q hq => List.all_eq_true.mp (show (mT m_Tree_marked).all (gOkQ m_Tree_marked) = true by decide +kernel) q hq
theorem ok_Tree_nextFirst : gOk m_Tree_nextFirst := fun q hq => List.all_eq_true.mp (show (mT m_Tree_nextFirst).all (gOkQ m_Tree_nextFirst) = true by decide +kernel) q hq
theorem ok_Tree_hasAny : gOk m_Tree_hasAny := fun q hq => List.all_eq_true.mp (show (mT m_Tree_hasAny).all (gOkQ m_Tree_hasAny) = true by decide +kernel) q hq
theorem ok_Tree_hasUnwritten : gOk m_Tree_hasUnwritten := fun q hq => List.all_eq_true.mp (show (mT m_Tree_hasUnwritten).all (gOkQ m_Tree_hasUnwritten) = true by decide +kernel) q hq
theorem ok_Tree_volumeOf : gOk m_Tree_volumeOf := fun q hq => List.all_eq_true.mp (show (mT m_Tree_volumeOf).all (gOkQ m_Tree_volumeOf) = true by decide +kernel) q hq
theorem ok_Tree_isWritten : gOk m_Tree_isWritten := fun q hq => List.all_eq_true.mp (show (mT m_Tree_isWritten).all (gOkQ m_Tree_isWritten) = true by decide +kernel) q hq
theorem ok_Tree_alikeFrom : gOk m_Tree_alikeFrom := fun q hq => List.all_eq_true.mp (show (mT m_Tree_alikeFrom).all (gOkQ m_Tree_alikeFrom) = true by decide +kernel) q hq
theorem ok_Tree_putIn : gOk m_Tree_putIn := fun q hq => List.all_eq_true.mp (show (mT m_Tree_putIn).all (gOkQ m_Tree_putIn) = true by decide +kernel) q hq
theorem ok_Tree_lengthToJoinBefore : gOk m_Tree_lengthToJoinBefore := fun q hq => List.all_eq_true.mp (show (mT m_Tree_lengthToJoinBefore).all (gOkQ m_Tree_lengthToJoinBefore) = true by decide +kernel) q hq
theorem ok_Tree_lengthToJoinBehind : gOk m_Tree_lengthToJoinBehind := fun q hq => List.all_eq_true.mp (show (mT m_Tree_lengthToJoinBehind).all (gOkQ m_Tree_lengthToJoinBehind) = true by decide +kernel) q hq
theorem ok_Tree_takeOutAll : gOk m_Tree_takeOutAll := fun q hq => List.all_eq_true.mp (show (mT m_Tree_takeOutAll).all (gOkQ m_Tree_takeOutAll) = true by decide +kernel) q hq
theorem ok_Tree_takeOutOfRun : gOk m_Tree_takeOutOfRun := fun q hq => List.all_eq_true.mp (show (mT m_Tree_takeOutOfRun).all (gOkQ m_Tree_takeOutOfRun) = true by decide +kernel) q hq
theorem ok_Tree_countMapped : gOk m_Tree_countMapped := fun q hq => List.all_eq_true.mp (show (mT m_Tree_countMapped).all (gOkQ m_Tree_countMapped) = true by decide +kernel) q hq
theorem ok_Tree_insertRun : gOk m_Tree_insertRun := fun q hq => List.all_eq_true.mp (show (mT m_Tree_insertRun).all (gOkQ m_Tree_insertRun) = true by decide +kernel) q hq
theorem ok_Tree_levelWithRoom : gOk m_Tree_levelWithRoom := fun q hq => List.all_eq_true.mp (show (mT m_Tree_levelWithRoom).all (gOkQ m_Tree_levelWithRoom) = true by decide +kernel) q hq
theorem ok_Tree_growRoot : gOk m_Tree_growRoot := fun q hq => List.all_eq_true.mp (show (mT m_Tree_growRoot).all (gOkQ m_Tree_growRoot) = true by decide +kernel) q hq
theorem ok_Tree_splitBlock : gOk m_Tree_splitBlock := fun q hq => List.all_eq_true.mp (show (mT m_Tree_splitBlock).all (gOkQ m_Tree_splitBlock) = true by decide +kernel) q hq
theorem ok_Tree_removeRun : gOk m_Tree_removeRun := fun q hq => List.all_eq_true.mp (show (mT m_Tree_removeRun).all (gOkQ m_Tree_removeRun) = true by decide +kernel) q hq
theorem ok_Tree_refreshFirsts : gOk m_Tree_refreshFirsts := fun q hq => List.all_eq_true.mp (show (mT m_Tree_refreshFirsts).all (gOkQ m_Tree_refreshFirsts) = true by decide +kernel) q hq
theorem ok_Tree_settle : gOk m_Tree_settle := fun q hq => List.all_eq_true.mp (show (mT m_Tree_settle).all (gOkQ m_Tree_settle) = true by decide +kernel) q hq
theorem ok_Tree_giveBack : gOk m_Tree_giveBack := fun q hq => List.all_eq_true.mp (show (mT m_Tree_giveBack).all (gOkQ m_Tree_giveBack) = true by decide +kernel) q hq
theorem ok_Tree_countBlock : gOk m_Tree_countBlock := fun q hq => List.all_eq_true.mp (show (mT m_Tree_countBlock).all (gOkQ m_Tree_countBlock) = true by decide +kernel) q hq
end
section
/-! the tables of 33.okET are the bytes', and the words are there: by program (wip/whole/ok.py) -/
theorem ok_ET_init : gOk m_ET_init := fun q hq => List.all_eq_true.mp (show (mT m_ET_init).all (gOkQ m_ET_init) = true by decide +kernel) q hq
theorem ok_ET_put : gOk m_ET_put := fun q hq => List.all_eq_true.mp (show (mT m_ET_put).all (gOkQ m_ET_put) = true by decide +kernel) q hq
theorem ok_ET_spread : gOk m_ET_spread := fun q hq => List.all_eq_true.mp (show (mT m_ET_spread).all (gOkQ m_ET_spread) = true by decide +kernel) q hq
theorem ok_ET_punch : gOk m_ET_punch := fun q hq => List.all_eq_true.mp (show (mT m_ET_punch).all (gOkQ m_ET_punch) = true by decide +kernel) q hq
theorem ok_ET_strip : gOk m_ET_strip := fun q hq => List.all_eq_true.mp (show (mT m_ET_strip).all (gOkQ m_ET_strip) = true by decide +kernel) q hq
theorem ok_ET_write : gOk m_ET_write := fun q hq => List.all_eq_true.mp (show (mT m_ET_write).all (gOkQ m_ET_write) = true by decide +kernel) q hq
theorem ok_ET_look : gOk m_ET_look := fun q hq => List.all_eq_true.mp (show (mT m_ET_look).all (gOkQ m_ET_look) = true by decide +kernel) q hq
theorem ok_ET_written : gOk m_ET_written := fun q hq => List.all_eq_true.mp (show (mT m_ET_written).all (gOkQ m_ET_written) = true by decide +kernel) q hq
theorem ok_ET_reach : gOk m_ET_reach := fun q hq => List.all_eq_true.mp (show (mT m_ET_reach).all (gOkQ m_ET_reach) = true by decide +kernel) q hq
theorem ok_ET_count : gOk m_ET_count := fun q hq => List.all_eq_true.mp (show (mT m_ET_count).all (gOkQ m_ET_count) = true by decide +kernel) q hq
theorem ok_ET_free : gOk m_ET_free := fun q hq => List.all_eq_true.mp (show (mT m_ET_free).all (gOkQ m_ET_free) = true by decide +kernel) q hq
theorem ok_ET_rootByte : gOk m_ET_rootByte := fun q hq => List.all_eq_true.mp (show (mT m_ET_rootByte).all (gOkQ m_ET_rootByte) = true by decide +kernel) q hq
theorem ok_ET_nodeByte : gOk m_ET_nodeByte := fun q hq => List.all_eq_true.mp (show (mT m_ET_nodeByte).all (gOkQ m_ET_nodeByte) = true by decide +kernel) q hq
theorem ok_ET_isFile : gOk m_ET_isFile := fun q hq => List.all_eq_true.mp (show (mT m_ET_isFile).all (gOkQ m_ET_isFile) = true by decide +kernel) q hq
theorem ok_ET_areFileBlocks : gOk m_ET_areFileBlocks := fun q hq => List.all_eq_true.mp (show (mT m_ET_areFileBlocks).all (gOkQ m_ET_areFileBlocks) = true by decide +kernel) q hq
theorem ok_ET_areVolumeBlocks : gOk m_ET_areVolumeBlocks := fun q hq => List.all_eq_true.mp (show (mT m_ET_areVolumeBlocks).all (gOkQ m_ET_areVolumeBlocks) = true by decide +kernel) q hq
theorem ok_ET_isSeries : gOk m_ET_isSeries := fun q hq => List.all_eq_true.mp (show (mT m_ET_isSeries).all (gOkQ m_ET_isSeries) = true by decide +kernel) q hq
theorem ok_ET_longest : gOk m_ET_longest := fun q hq => List.all_eq_true.mp (show (mT m_ET_longest).all (gOkQ m_ET_longest) = true by decide +kernel) q hq
end
section
/-! the tables of 34.okMod are the bytes', and the words are there: by program (wip/whole/ok.py) -/
theorem ok_Mod_init : gOk m_Mod_init := fun q hq => List.all_eq_true.mp (show (mT m_Mod_init).all (gOkQ m_Mod_init) = true by decide +kernel) q hq
theorem ok_Mod_thrown : gOk m_Mod_thrown := fun q hq => List.all_eq_true.mp (show (mT m_Mod_thrown).all (gOkQ m_Mod_thrown) = true by decide +kernel) q hq
theorem ok_Mod_takeBlock : gOk m_Mod_takeBlock := fun q hq => List.all_eq_true.mp (show (mT m_Mod_takeBlock).all (gOkQ m_Mod_takeBlock) = true by decide +kernel) q hq
theorem ok_Mod_free : gOk m_Mod_free := fun q hq => List.all_eq_true.mp (show (mT m_Mod_free).all (gOkQ m_Mod_free) = true by decide +kernel) q hq
theorem ok_Mod_freeBlocks : gOk m_Mod_freeBlocks := fun q hq => List.all_eq_true.mp (show (mT m_Mod_freeBlocks).all (gOkQ m_Mod_freeBlocks) = true by decide +kernel) q hq
theorem ok_Mod_levelOf : gOk m_Mod_levelOf := fun q hq => List.all_eq_true.mp (show (mT m_Mod_levelOf).all (gOkQ m_Mod_levelOf) = true by decide +kernel) q hq
theorem ok_Mod_levelEnd : gOk m_Mod_levelEnd := fun q hq => List.all_eq_true.mp (show (mT m_Mod_levelEnd).all (gOkQ m_Mod_levelEnd) = true by decide +kernel) q hq
theorem ok_Mod_insertNode : gOk m_Mod_insertNode := fun q hq => List.all_eq_true.mp (show (mT m_Mod_insertNode).all (gOkQ m_Mod_insertNode) = true by decide +kernel) q hq
theorem ok_Mod_removeNode : gOk m_Mod_removeNode := fun q hq => List.all_eq_true.mp (show (mT m_Mod_removeNode).all (gOkQ m_Mod_removeNode) = true by decide +kernel) q hq
theorem ok_Mod_findWay : gOk m_Mod_findWay := fun q hq => List.all_eq_true.mp (show (mT m_Mod_findWay).all (gOkQ m_Mod_findWay) = true by decide +kernel) q hq
theorem ok_Mod_enter : gOk m_Mod_enter := fun q hq => List.all_eq_true.mp (show (mT m_Mod_enter).all (gOkQ m_Mod_enter) = true by decide +kernel) q hq
theorem ok_Mod_leave : gOk m_Mod_leave := fun q hq => List.all_eq_true.mp (show (mT m_Mod_leave).all (gOkQ m_Mod_leave) = true by decide +kernel) q hq
theorem ok_Mod_shrink : gOk m_Mod_shrink := fun q hq => List.all_eq_true.mp (show (mT m_Mod_shrink).all (gOkQ m_Mod_shrink) = true by decide +kernel) q hq
theorem ok_Mod_runs : gOk m_Mod_runs := fun q hq => List.all_eq_true.mp (show (mT m_Mod_runs).all (gOkQ m_Mod_runs) = true by decide +kernel) q hq
theorem ok_Mod_insertRun : gOk m_Mod_insertRun := fun q hq => List.all_eq_true.mp (show (mT m_Mod_insertRun).all (gOkQ m_Mod_insertRun) = true by decide +kernel) q hq
theorem ok_Mod_removeRun : gOk m_Mod_removeRun := fun q hq => List.all_eq_true.mp (show (mT m_Mod_removeRun).all (gOkQ m_Mod_removeRun) = true by decide +kernel) q hq
theorem ok_Mod_shift : gOk m_Mod_shift := fun q hq => List.all_eq_true.mp (show (mT m_Mod_shift).all (gOkQ m_Mod_shift) = true by decide +kernel) q hq
theorem ok_Mod_behind : gOk m_Mod_behind := fun q hq => List.all_eq_true.mp (show (mT m_Mod_behind).all (gOkQ m_Mod_behind) = true by decide +kernel) q hq
theorem ok_Mod_joins : gOk m_Mod_joins := fun q hq => List.all_eq_true.mp (show (mT m_Mod_joins).all (gOkQ m_Mod_joins) = true by decide +kernel) q hq
theorem ok_Mod_enterRun : gOk m_Mod_enterRun := fun q hq => List.all_eq_true.mp (show (mT m_Mod_enterRun).all (gOkQ m_Mod_enterRun) = true by decide +kernel) q hq
theorem ok_Mod_takeOut : gOk m_Mod_takeOut := fun q hq => List.all_eq_true.mp (show (mT m_Mod_takeOut).all (gOkQ m_Mod_takeOut) = true by decide +kernel) q hq
theorem ok_Mod_noRange : gOk m_Mod_noRange := fun q hq => List.all_eq_true.mp (show (mT m_Mod_noRange).all (gOkQ m_Mod_noRange) = true by decide +kernel) q hq
theorem ok_Mod_isTight : gOk m_Mod_isTight := fun q hq => List.all_eq_true.mp (show (mT m_Mod_isTight).all (gOkQ m_Mod_isTight) = true by decide +kernel) q hq
theorem ok_Mod_noVolume : gOk m_Mod_noVolume := fun q hq => List.all_eq_true.mp (show (mT m_Mod_noVolume).all (gOkQ m_Mod_noVolume) = true by decide +kernel) q hq
theorem ok_Mod_tryPut : gOk m_Mod_tryPut := fun q hq => List.all_eq_true.mp (show (mT m_Mod_tryPut).all (gOkQ m_Mod_tryPut) = true by decide +kernel) q hq
theorem ok_Mod_put : gOk m_Mod_put := fun q hq => List.all_eq_true.mp (show (mT m_Mod_put).all (gOkQ m_Mod_put) = true by decide +kernel) q hq
theorem ok_Mod_noSteps : gOk m_Mod_noSteps := fun q hq => List.all_eq_true.mp (show (mT m_Mod_noSteps).all (gOkQ m_Mod_noSteps) = true by decide +kernel) q hq
theorem ok_Mod_spread : gOk m_Mod_spread := fun q hq => List.all_eq_true.mp (show (mT m_Mod_spread).all (gOkQ m_Mod_spread) = true by decide +kernel) q hq
theorem ok_Mod_punch : gOk m_Mod_punch := fun q hq => List.all_eq_true.mp (show (mT m_Mod_punch).all (gOkQ m_Mod_punch) = true by decide +kernel) q hq
theorem ok_Mod_strip : gOk m_Mod_strip := fun q hq => List.all_eq_true.mp (show (mT m_Mod_strip).all (gOkQ m_Mod_strip) = true by decide +kernel) q hq
theorem ok_Mod_write : gOk m_Mod_write := fun q hq => List.all_eq_true.mp (show (mT m_Mod_write).all (gOkQ m_Mod_write) = true by decide +kernel) q hq
theorem ok_Mod_noBlock : gOk m_Mod_noBlock := fun q hq => List.all_eq_true.mp (show (mT m_Mod_noBlock).all (gOkQ m_Mod_noBlock) = true by decide +kernel) q hq
theorem ok_Mod_look : gOk m_Mod_look := fun q hq => List.all_eq_true.mp (show (mT m_Mod_look).all (gOkQ m_Mod_look) = true by decide +kernel) q hq
theorem ok_Mod_written : gOk m_Mod_written := fun q hq => List.all_eq_true.mp (show (mT m_Mod_written).all (gOkQ m_Mod_written) = true by decide +kernel) q hq
theorem ok_Mod_reach : gOk m_Mod_reach := fun q hq => List.all_eq_true.mp (show (mT m_Mod_reach).all (gOkQ m_Mod_reach) = true by decide +kernel) q hq
theorem ok_Mod_count : gOk m_Mod_count := fun q hq => List.all_eq_true.mp (show (mT m_Mod_count).all (gOkQ m_Mod_count) = true by decide +kernel) q hq
theorem ok_Mod_byteIn : gOk m_Mod_byteIn := fun q hq => List.all_eq_true.mp (show (mT m_Mod_byteIn).all (gOkQ m_Mod_byteIn) = true by decide +kernel) q hq
theorem ok_Mod_headByte : gOk m_Mod_headByte := fun q hq => List.all_eq_true.mp (show (mT m_Mod_headByte).all (gOkQ m_Mod_headByte) = true by decide +kernel) q hq
theorem ok_Mod_firstRun : gOk m_Mod_firstRun := fun q hq => List.all_eq_true.mp (show (mT m_Mod_firstRun).all (gOkQ m_Mod_firstRun) = true by decide +kernel) q hq
theorem ok_Mod_runByte : gOk m_Mod_runByte := fun q hq => List.all_eq_true.mp (show (mT m_Mod_runByte).all (gOkQ m_Mod_runByte) = true by decide +kernel) q hq
theorem ok_Mod_nodeEntryByte : gOk m_Mod_nodeEntryByte := fun q hq => List.all_eq_true.mp (show (mT m_Mod_nodeEntryByte).all (gOkQ m_Mod_nodeEntryByte) = true by decide +kernel) q hq
theorem ok_Mod_bytesOf : gOk m_Mod_bytesOf := fun q hq => List.all_eq_true.mp (show (mT m_Mod_bytesOf).all (gOkQ m_Mod_bytesOf) = true by decide +kernel) q hq
theorem ok_Mod_rootByte : gOk m_Mod_rootByte := fun q hq => List.all_eq_true.mp (show (mT m_Mod_rootByte).all (gOkQ m_Mod_rootByte) = true by decide +kernel) q hq
theorem ok_Mod_nodeByte : gOk m_Mod_nodeByte := fun q hq => List.all_eq_true.mp (show (mT m_Mod_nodeByte).all (gOkQ m_Mod_nodeByte) = true by decide +kernel) q hq
end
section
/-! the tables of 35.okLaw are the bytes', and the words are there: by program (wip/whole/ok.py) -/
theorem ok_Law_cell : gOk m_Law_cell := fun q hq => List.all_eq_true.mp (show (mT m_Law_cell).all (gOkQ m_Law_cell) = true by decide +kernel) q hq
theorem ok_Law_put : gOk m_Law_put := fun q hq => List.all_eq_true.mp (show (mT m_Law_put).all (gOkQ m_Law_put) = true by decide +kernel) q hq
theorem ok_Law_spread : gOk m_Law_spread := fun q hq => List.all_eq_true.mp (show (mT m_Law_spread).all (gOkQ m_Law_spread) = true by decide +kernel) q hq
theorem ok_Law_punch : gOk m_Law_punch := fun q hq => List.all_eq_true.mp (show (mT m_Law_punch).all (gOkQ m_Law_punch) = true by decide +kernel) q hq
theorem ok_Law_strip : gOk m_Law_strip := fun q hq => List.all_eq_true.mp (show (mT m_Law_strip).all (gOkQ m_Law_strip) = true by decide +kernel) q hq
theorem ok_Law_write : gOk m_Law_write := fun q hq => List.all_eq_true.mp (show (mT m_Law_write).all (gOkQ m_Law_write) = true by decide +kernel) q hq
theorem ok_Law_look : gOk m_Law_look := fun q hq => List.all_eq_true.mp (show (mT m_Law_look).all (gOkQ m_Law_look) = true by decide +kernel) q hq
theorem ok_Law_written : gOk m_Law_written := fun q hq => List.all_eq_true.mp (show (mT m_Law_written).all (gOkQ m_Law_written) = true by decide +kernel) q hq
theorem ok_Law_reach : gOk m_Law_reach := fun q hq => List.all_eq_true.mp (show (mT m_Law_reach).all (gOkQ m_Law_reach) = true by decide +kernel) q hq
theorem ok_Law_count : gOk m_Law_count := fun q hq => List.all_eq_true.mp (show (mT m_Law_count).all (gOkQ m_Law_count) = true by decide +kernel) q hq
theorem ok_Law_rootByte : gOk m_Law_rootByte := fun q hq => List.all_eq_true.mp (show (mT m_Law_rootByte).all (gOkQ m_Law_rootByte) = true by decide +kernel) q hq
theorem ok_Law_nodeByte : gOk m_Law_nodeByte := fun q hq => List.all_eq_true.mp (show (mT m_Law_nodeByte).all (gOkQ m_Law_nodeByte) = true by decide +kernel) q hq
end
section
/-! Node: its object (class 0) and its words -/
abbrev gNd (num room tk dep ent : Int) (w : Nat) : gE := .inr (0, [vI num, vI room, vI tk, vI dep, vI ent, vR w])
abbrev gIA (n : Nat) (f : Nat → Int) : gE := .inl (0, n, .inl f)
/-- an entry's word; no entry reads as zeros -/
def gWd (f : Nat → Int) (ent i : Int) (k : Int) : Int := if 0 ≤ i ∧ i < ent then f (i * 3 + k).toNat else 0
theorem gWd_in {f : Nat → Int} {ent i k : Int} (h : 0 ≤ i ∧ i < ent) : gWd f ent i k = f (i * 3 + k).toNat := if_pos h
theorem gWd_out {f : Nat → Int} {ent i k : Int} (h : ¬ (0 ≤ i ∧ i < ent)) : gWd f ent i k = 0 := if_neg h
section
variable {G : gG} {N : Option Nat} {h : gH} {o w nw : Nat} {num room tk dep ent : Int} {f : Nat → Int}
theorem c_isFull (hN : h o = some (gNd num room tk dep ent w)) (hro : 4 ≤ room ∧ room ≤ 84) (hen : 0 ≤ ent ∧ ent ≤ room) : Rd G m_Node_isFull [vR o] N h (some (vI (if room ≤ ent then 1 else 0))) N h := by
  refine Rn.of rfl rfl rfl ?_
  have hM := ok_Node_isFull
  repeat (first | refine go_pure hM rfl ?_ | (refine go_get (fs := ?_) (v := ?_) hM rfl ?_ ?_ ?_; rotate_left 2; assumption; rfl) | refine go_ldc hM rfl ?_)
  refine go_icmp_lt hM rfl (by omega) (by omega) (fun hc => ?_) (fun hc => ?_)
  · repeat (first | refine go_pure hM rfl ?_ | (refine go_get (fs := ?_) (v := ?_) hM rfl ?_ ?_ ?_; rotate_left 2; assumption; rfl) | refine go_ldc hM rfl ?_)
    exact go_zret hM rfl rfl (Or.inl rfl) ⟨by rw [if_neg (by omega)], rfl, rfl⟩
  · repeat (first | refine go_pure hM rfl ?_ | (refine go_get (fs := ?_) (v := ?_) hM rfl ?_ ?_ ?_; rotate_left 2; assumption; rfl) | refine go_ldc hM rfl ?_)
    exact go_zret hM rfl rfl (Or.inr rfl) ⟨by rw [if_pos (by omega)], rfl, rfl⟩
theorem c_hasEntry {i : Int} (hN : h o = some (gNd num room tk dep ent w)) (hro : 4 ≤ room ∧ room ≤ 84) (hen : 0 ≤ ent ∧ ent ≤ room) (r3 : (-2147483648 ≤ i ∧ i ≤ 2147483647)) : Rd G m_Node_hasEntry [vR o, vI i] N h (some (vI (if 0 ≤ i ∧ i < ent then 1 else 0))) N h := by
  refine Rn.of rfl rfl rfl ?_
  have hM := ok_Node_hasEntry
  repeat (first | refine go_pure hM rfl ?_ | (refine go_get (fs := ?_) (v := ?_) hM rfl ?_ ?_ ?_; rotate_left 2; assumption; rfl) | refine go_ldc hM rfl ?_)
  refine go_if_lt hM rfl r3 (fun hc => ?_) (fun hc => ?_)
  · repeat (first | refine go_pure hM rfl ?_ | (refine go_get (fs := ?_) (v := ?_) hM rfl ?_ ?_ ?_; rotate_left 2; assumption; rfl) | refine go_ldc hM rfl ?_)
    exact go_zret hM rfl rfl (Or.inl rfl) ⟨by rw [if_neg (by omega)], rfl, rfl⟩
  · repeat (first | refine go_pure hM rfl ?_ | (refine go_get (fs := ?_) (v := ?_) hM rfl ?_ ?_ ?_; rotate_left 2; assumption; rfl) | refine go_ldc hM rfl ?_)
    refine go_icmp_ge hM rfl r3 (by omega) (fun hc => ?_) (fun hc => ?_)
    · repeat (first | refine go_pure hM rfl ?_ | (refine go_get (fs := ?_) (v := ?_) hM rfl ?_ ?_ ?_; rotate_left 2; assumption; rfl) | refine go_ldc hM rfl ?_)
      exact go_zret hM rfl rfl (Or.inl rfl) ⟨by rw [if_neg (by omega)], rfl, rfl⟩
    · repeat (first | refine go_pure hM rfl ?_ | (refine go_get (fs := ?_) (v := ?_) hM rfl ?_ ?_ ?_; rotate_left 2; assumption; rfl) | refine go_ldc hM rfl ?_)
      refine go_icmp_ge hM rfl r3 (by omega) (fun hc => ?_) (fun hc => ?_)
      · repeat (first | refine go_pure hM rfl ?_ | (refine go_get (fs := ?_) (v := ?_) hM rfl ?_ ?_ ?_; rotate_left 2; assumption; rfl) | refine go_ldc hM rfl ?_)
        exact go_zret hM rfl rfl (Or.inl rfl) ⟨by rw [if_neg (by omega)], rfl, rfl⟩
      · repeat (first | refine go_pure hM rfl ?_ | (refine go_get (fs := ?_) (v := ?_) hM rfl ?_ ?_ ?_; rotate_left 2; assumption; rfl) | refine go_ldc hM rfl ?_)
        exact go_zret hM rfl rfl (Or.inr rfl) ⟨by rw [if_pos (by omega)], rfl, rfl⟩
theorem c_hasEntry_t {i : Int} (hN : h o = some (gNd num room tk dep ent w)) (hro : 4 ≤ room ∧ room ≤ 84) (hen : 0 ≤ ent ∧ ent ≤ room) (r3 : (-2147483648 ≤ i ∧ i ≤ 2147483647)) (hp : 0 ≤ i ∧ i < ent) : Rd G m_Node_hasEntry [vR o, vI i] N h (some (vI 1)) N h := by
  have q := c_hasEntry (G := G) (N := N) hN hro hen r3
  rw [if_pos hp] at q
  exact q
theorem c_hasEntry_f {i : Int} (hN : h o = some (gNd num room tk dep ent w)) (hro : 4 ≤ room ∧ room ≤ 84) (hen : 0 ≤ ent ∧ ent ≤ room) (r3 : (-2147483648 ≤ i ∧ i ≤ 2147483647)) (hp : ¬ (0 ≤ i ∧ i < ent)) : Rd G m_Node_hasEntry [vR o, vI i] N h (some (vI 0)) N h := by
  have q := c_hasEntry (G := G) (N := N) hN hro hen r3
  rw [if_neg hp] at q
  exact q
theorem c_word {i k : Int} (hN : h o = some (gNd num room tk dep ent w)) (hA : h w = some (gIA nw f)) (hnw : (nw : Int) = room * 3) (hro : 4 ≤ room ∧ room ≤ 84) (hen : 0 ≤ ent ∧ ent ≤ room) (r3 : (-2147483648 ≤ i ∧ i ≤ 2147483647)) (hk : 0 ≤ k ∧ k ≤ 2) : Rd G m_Node_word [vR o, vI i, vI k] N h (some (vI (gWd f ent i k))) N h := by
  refine Rn.of rfl rfl rfl ?_
  have hM := ok_Node_word
  by_cases hp : 0 ≤ i ∧ i < ent
  · repeat (first | refine go_pure hM rfl ?_ | (refine go_get (fs := ?_) (v := ?_) hM rfl ?_ ?_ ?_; rotate_left 2; assumption; rfl) | refine go_ldc hM rfl ?_)
    refine go_cV hM rfl rfl rfl hN rfl (c_hasEntry_t hN hro hen r3 hp) rfl ?_
    refine go_if_eq hM rfl (by omega) (fun hc => absurd hc (by omega)) (fun hc => ?_)
    repeat (first | refine go_pure hM rfl ?_ | (refine go_get (fs := ?_) (v := ?_) hM rfl ?_ ?_ ?_; rotate_left 2; assumption; rfl) | refine go_ldc hM rfl ?_)
    refine go_iald hM rfl hA (by omega) (by omega) (by omega) ?_
    repeat (first | refine go_pure hM rfl ?_ | (refine go_get (fs := ?_) (v := ?_) hM rfl ?_ ?_ ?_; rotate_left 2; assumption; rfl) | refine go_ldc hM rfl ?_)
    exact go_iret hM rfl rfl ⟨by rw [gWd_in hp], rfl, rfl⟩
  · repeat (first | refine go_pure hM rfl ?_ | (refine go_get (fs := ?_) (v := ?_) hM rfl ?_ ?_ ?_; rotate_left 2; assumption; rfl) | refine go_ldc hM rfl ?_)
    refine go_cV hM rfl rfl rfl hN rfl (c_hasEntry_f hN hro hen r3 hp) rfl ?_
    refine go_if_eq hM rfl (by omega) (fun hc => ?_) (fun hc => absurd rfl hc)
    repeat (first | refine go_pure hM rfl ?_ | (refine go_get (fs := ?_) (v := ?_) hM rfl ?_ ?_ ?_; rotate_left 2; assumption; rfl) | refine go_ldc hM rfl ?_)
    exact go_iret hM rfl rfl ⟨by rw [gWd_out hp], rfl, rfl⟩
theorem c_firstAt {i : Int} (hN : h o = some (gNd num room tk dep ent w)) (hA : h w = some (gIA nw f)) (hnw : (nw : Int) = room * 3) (hro : 4 ≤ room ∧ room ≤ 84) (hen : 0 ≤ ent ∧ ent ≤ room) (r3 : (-2147483648 ≤ i ∧ i ≤ 2147483647)) : Rd G m_Node_firstAt [vR o, vI i] N h (some (vI (gWd f ent i 0))) N h := by
  refine Rn.of rfl rfl rfl ?_
  have hM := ok_Node_firstAt
  repeat (first | refine go_pure hM rfl ?_ | (refine go_get (fs := ?_) (v := ?_) hM rfl ?_ ?_ ?_; rotate_left 2; assumption; rfl) | refine go_ldc hM rfl ?_)
  refine go_cV hM rfl rfl rfl hN rfl (c_word hN hA hnw hro hen r3 (by omega)) rfl ?_
  exact go_iret hM rfl rfl ⟨rfl, rfl, rfl⟩
theorem c_belowAt {i : Int} (hN : h o = some (gNd num room tk dep ent w)) (hA : h w = some (gIA nw f)) (hnw : (nw : Int) = room * 3) (hro : 4 ≤ room ∧ room ≤ 84) (hen : 0 ≤ ent ∧ ent ≤ room) (r3 : (-2147483648 ≤ i ∧ i ≤ 2147483647)) : Rd G m_Node_belowAt [vR o, vI i] N h (some (vI (gWd f ent i 1))) N h := by
  refine Rn.of rfl rfl rfl ?_
  have hM := ok_Node_belowAt
  repeat (first | refine go_pure hM rfl ?_ | (refine go_get (fs := ?_) (v := ?_) hM rfl ?_ ?_ ?_; rotate_left 2; assumption; rfl) | refine go_ldc hM rfl ?_)
  refine go_cV hM rfl rfl rfl hN rfl (c_word hN hA hnw hro hen r3 (by omega)) rfl ?_
  exact go_iret hM rfl rfl ⟨rfl, rfl, rfl⟩
theorem c_volumeAt {i : Int} (hN : h o = some (gNd num room tk dep ent w)) (hA : h w = some (gIA nw f)) (hnw : (nw : Int) = room * 3) (hro : 4 ≤ room ∧ room ≤ 84) (hen : 0 ≤ ent ∧ ent ≤ room) (r3 : (-2147483648 ≤ i ∧ i ≤ 2147483647)) : Rd G m_Node_volumeAt [vR o, vI i] N h (some (vI (gWd f ent i 2))) N h := by
  refine Rn.of rfl rfl rfl ?_
  have hM := ok_Node_volumeAt
  repeat (first | refine go_pure hM rfl ?_ | (refine go_get (fs := ?_) (v := ?_) hM rfl ?_ ?_ ?_; rotate_left 2; assumption; rfl) | refine go_ldc hM rfl ?_)
  refine go_cV hM rfl rfl rfl hN rfl (c_word hN hA hnw hro hen r3 (by omega)) rfl ?_
  exact go_iret hM rfl rfl ⟨rfl, rfl, rfl⟩
/-- a length without its mark -/
def gLn (x : Int) : Int := if 32768 < x then x - 32768 else x
theorem c_lengthAt {i : Int} (hN : h o = some (gNd num room tk dep ent w)) (hA : h w = some (gIA nw f)) (hnw : (nw : Int) = room * 3) (hro : 4 ≤ room ∧ room ≤ 84) (hen : 0 ≤ ent ∧ ent ≤ room) (r3 : (-2147483648 ≤ i ∧ i ≤ 2147483647)) (rf : (-2147483648 ≤ gWd f ent i 1 ∧ gWd f ent i 1 ≤ 2147483647)) : Rd G m_Node_lengthAt [vR o, vI i] N h (some (vI (gLn (gWd f ent i 1)))) N h := by
  refine Rn.of rfl rfl rfl ?_
  have hM := ok_Node_lengthAt
  repeat (first | refine go_pure hM rfl ?_ | (refine go_get (fs := ?_) (v := ?_) hM rfl ?_ ?_ ?_; rotate_left 2; assumption; rfl) | refine go_ldc hM rfl ?_)
  refine go_cV hM rfl rfl rfl hN rfl (c_word hN hA hnw hro hen r3 (by omega)) rfl ?_
  repeat (first | refine go_pure hM rfl ?_ | (refine go_get (fs := ?_) (v := ?_) hM rfl ?_ ?_ ?_; rotate_left 2; assumption; rfl) | refine go_ldc hM rfl ?_)
  refine go_icmp_le hM rfl rf (by omega) (fun hc => ?_) (fun hc => ?_)
  · repeat (first | refine go_pure hM rfl ?_ | (refine go_get (fs := ?_) (v := ?_) hM rfl ?_ ?_ ?_; rotate_left 2; assumption; rfl) | refine go_ldc hM rfl ?_)
    exact go_iret hM rfl rfl ⟨by rw [gLn, if_neg (by omega)], rfl, rfl⟩
  · repeat (first | refine go_pure hM rfl ?_ | (refine go_get (fs := ?_) (v := ?_) hM rfl ?_ ?_ ?_; rotate_left 2; assumption; rfl) | refine go_ldc hM rfl ?_)
    exact go_iret hM rfl rfl ⟨by rw [gLn, if_pos (by omega)], rfl, rfl⟩
theorem c_isWrittenAt {i : Int} (hN : h o = some (gNd num room tk dep ent w)) (hA : h w = some (gIA nw f)) (hnw : (nw : Int) = room * 3) (hro : 4 ≤ room ∧ room ≤ 84) (hen : 0 ≤ ent ∧ ent ≤ room) (r3 : (-2147483648 ≤ i ∧ i ≤ 2147483647)) (rf : (-2147483648 ≤ gWd f ent i 1 ∧ gWd f ent i 1 ≤ 2147483647)) : Rd G m_Node_isWrittenAt [vR o, vI i] N h (some (vI (if (0 ≤ i ∧ i < ent) ∧ gWd f ent i 1 ≤ 32768 then 1 else 0))) N h := by
  refine Rn.of rfl rfl rfl ?_
  have hM := ok_Node_isWrittenAt
  by_cases hp : 0 ≤ i ∧ i < ent
  · repeat (first | refine go_pure hM rfl ?_ | (refine go_get (fs := ?_) (v := ?_) hM rfl ?_ ?_ ?_; rotate_left 2; assumption; rfl) | refine go_ldc hM rfl ?_)
    refine go_cV hM rfl rfl rfl hN rfl (c_hasEntry_t hN hro hen r3 hp) rfl ?_
    refine go_if_eq hM rfl (by omega) (fun hc => absurd hc (by omega)) (fun hc => ?_)
    repeat (first | refine go_pure hM rfl ?_ | (refine go_get (fs := ?_) (v := ?_) hM rfl ?_ ?_ ?_; rotate_left 2; assumption; rfl) | refine go_ldc hM rfl ?_)
    refine go_cV hM rfl rfl rfl hN rfl (c_word hN hA hnw hro hen r3 (by omega)) rfl ?_
    repeat (first | refine go_pure hM rfl ?_ | (refine go_get (fs := ?_) (v := ?_) hM rfl ?_ ?_ ?_; rotate_left 2; assumption; rfl) | refine go_ldc hM rfl ?_)
    refine go_icmp_gt hM rfl rf (by omega) (fun hc => ?_) (fun hc => ?_)
    · repeat (first | refine go_pure hM rfl ?_ | (refine go_get (fs := ?_) (v := ?_) hM rfl ?_ ?_ ?_; rotate_left 2; assumption; rfl) | refine go_ldc hM rfl ?_)
      exact go_zret hM rfl rfl (Or.inl rfl) ⟨by rw [if_neg (by omega)], rfl, rfl⟩
    · repeat (first | refine go_pure hM rfl ?_ | (refine go_get (fs := ?_) (v := ?_) hM rfl ?_ ?_ ?_; rotate_left 2; assumption; rfl) | refine go_ldc hM rfl ?_)
      exact go_zret hM rfl rfl (Or.inr rfl) ⟨by rw [if_pos (by omega)], rfl, rfl⟩
  · repeat (first | refine go_pure hM rfl ?_ | (refine go_get (fs := ?_) (v := ?_) hM rfl ?_ ?_ ?_; rotate_left 2; assumption; rfl) | refine go_ldc hM rfl ?_)
    refine go_cV hM rfl rfl rfl hN rfl (c_hasEntry_f hN hro hen r3 hp) rfl ?_
    refine go_if_eq hM rfl (by omega) (fun hc => ?_) (fun hc => absurd rfl hc)
    repeat (first | refine go_pure hM rfl ?_ | (refine go_get (fs := ?_) (v := ?_) hM rfl ?_ ?_ ?_; rotate_left 2; assumption; rfl) | refine go_ldc hM rfl ?_)
    exact go_zret hM rfl rfl (Or.inl rfl) ⟨by rw [if_neg (by omega)], rfl, rfl⟩
theorem c_setFirst {i x : Int} (hN : h o = some (gNd num room tk dep ent w)) (hA : h w = some (gIA nw f)) (hnw : (nw : Int) = room * 3) (hro : 4 ≤ room ∧ room ≤ 84) (hen : 0 ≤ ent ∧ ent ≤ room) (r3 : (-2147483648 ≤ i ∧ i ≤ 2147483647)) (hp : 0 ≤ i ∧ i < ent) : Rd G m_Node_setFirst [vR o, vI i, vI x] N h none N (gU h w (gIA nw (gF f (i * 3).toNat x))) := by
  refine Rn.of rfl rfl rfl ?_
  have hM := ok_Node_setFirst
  repeat (first | refine go_pure hM rfl ?_ | (refine go_get (fs := ?_) (v := ?_) hM rfl ?_ ?_ ?_; rotate_left 2; assumption; rfl) | refine go_ldc hM rfl ?_)
  refine go_cV hM rfl rfl rfl hN rfl (c_hasEntry_t hN hro hen r3 hp) rfl ?_
  refine go_if_eq hM rfl (by omega) (fun hc => absurd hc (by omega)) (fun hc => ?_)
  repeat (first | refine go_pure hM rfl ?_ | (refine go_get (fs := ?_) (v := ?_) hM rfl ?_ ?_ ?_; rotate_left 2; assumption; rfl) | refine go_ldc hM rfl ?_)
  refine go_iast hM rfl hA (by omega) (by omega) (by omega) ?_
  exact go_vret hM rfl rfl ⟨rfl, rfl, rfl⟩
/-- three words from a place on -/
def gT3 (f : Nat → Int) (k : Nat) (a b c : Int) : Nat → Int := gF (gF (gF f k a) (k + 1) b) (k + 2) c
theorem c_setEntry {i x y z : Int} (hN : h o = some (gNd num room tk dep ent w)) (hA : h w = some (gIA nw f)) (hnw : (nw : Int) = room * 3) (hro : 4 ≤ room ∧ room ≤ 84) (hen : 0 ≤ ent ∧ ent ≤ room) (hne : o ≠ w) (r3 : (-2147483648 ≤ i ∧ i ≤ 2147483647)) (hp : 0 ≤ i ∧ i < ent) : Rd G m_Node_setEntry [vR o, vI i, vI x, vI y, vI z] N h none N (gU h w (gIA nw (gT3 f (i * 3).toNat x y z))) := by
  refine Rn.of rfl rfl rfl ?_
  have hM := ok_Node_setEntry
  repeat (first | refine go_pure hM rfl ?_ | (refine go_get (fs := ?_) (v := ?_) hM rfl ?_ ?_ ?_; rotate_left 2; assumption; rfl) | refine go_ldc hM rfl ?_)
  refine go_cV hM rfl rfl rfl hN rfl (c_hasEntry_t hN hro hen r3 hp) rfl ?_
  refine go_if_eq hM rfl (by omega) (fun hc => absurd hc (by omega)) (fun hc => ?_)
  repeat (first | refine go_pure hM rfl ?_ | (refine go_get (fs := ?_) (v := ?_) hM rfl ?_ ?_ ?_; rotate_left 2; assumption; rfl) | refine go_ldc hM rfl ?_)
  refine go_iast hM rfl hA (by omega) (by omega) (by omega) ?_
  have hN1 : ∀ e, gU h w e o = some (gNd num room tk dep ent w) := fun e => by rw [gU_n hne]; exact hN
  have hA1 : ∀ e, gU h w e w = some e := fun e => gU_s h w e
  refine go_pure hM rfl ?_
  refine go_get hM rfl (hN1 _) rfl ?_
  repeat (first | refine go_pure hM rfl ?_ | (refine go_get (fs := ?_) (v := ?_) hM rfl ?_ ?_ ?_; rotate_left 2; assumption; rfl) | refine go_ldc hM rfl ?_)
  refine go_iast hM rfl (hA1 _) (by omega) (by omega) (by omega) ?_
  rw [gU_uu]
  refine go_pure hM rfl ?_
  refine go_get hM rfl (hN1 _) rfl ?_
  repeat (first | refine go_pure hM rfl ?_ | (refine go_get (fs := ?_) (v := ?_) hM rfl ?_ ?_ ?_; rotate_left 2; assumption; rfl) | refine go_ldc hM rfl ?_)
  refine go_iast hM rfl (hA1 _) (by omega) (by omega) (by omega) ?_
  rw [gU_uu]
  refine go_vret hM rfl rfl ⟨rfl, rfl, ?_⟩
  rw [gT3, show (i * 3 + 1).toNat = (i * 3).toNat + 1 by omega, show (i * 3 + 2).toNat = (i * 3).toNat + 2 by omega]
end
end
section
/-! Node: search, new entries, entries that go, bytes -/
/-- the last of the first n entries that begins at a block or before it -/
def gLu (f : Nat → Int) (b : Int) : Nat → Int
  | 0 => -1
  | n + 1 => if f (n * 3) ≤ b then (n : Int) else gLu f b n
theorem gLu_eq {f : Nat → Int} {b : Int} (lo : Nat) (h1 : ∀ i, i < lo → f (i * 3) ≤ b) : ∀ n, lo ≤ n → (∀ i, lo ≤ i → i < n → b < f (i * 3)) → gLu f b n = (lo : Int) - 1 := by
  intro n
  induction n with
  | zero =>
    intro h2 _
    have : lo = 0 := by omega
    subst this
    rfl
  | succ n ih =>
    intro h2 h3
    by_cases h4 : lo = n + 1
    · subst h4
      have := h1 n (by omega)
      simp only [gLu, if_pos this]
      omega
    · have := h3 n (by omega) (by omega)
      simp only [gLu, if_neg (by omega : ¬ f (n * 3) ≤ b)]
      exact ih (by omega) (fun i h5 h6 => h3 i h5 (by omega))
section
variable {G : gG} {N : Option Nat} {h : gH} {o w nw : Nat} {num room tk dep ent : Int} {f : Nat → Int}
set_option maxHeartbeats 1000000 in
theorem c_lastUpTo {b : Int} (hN : h o = some (gNd num room tk dep ent w)) (hA : h w = some (gIA nw f)) (hnw : (nw : Int) = room * 3) (hro : 4 ≤ room ∧ room ≤ 84) (hen : 0 ≤ ent ∧ ent ≤ room) (rb : (-2147483648 ≤ b ∧ b ≤ 2147483647)) (rf : ∀ i, -2147483648 ≤ f i ∧ f i ≤ 2147483647) (hs : ∀ i j : Nat, i ≤ j → (j : Int) < ent → f (i * 3) ≤ f (j * 3)) : Rd G m_Node_lastUpTo [vR o, vI b] N h (some (vI (gLu f b ent.toNat))) N h := by
  refine Rn.of rfl rfl rfl ?_
  have hM := ok_Node_lastUpTo
  have loop : ∀ (n lo hi : Nat) (x : Option gV), hi - lo < n → lo ≤ hi → (hi : Int) ≤ ent → (∀ i, i < lo → f (i * 3) ≤ b) → (∀ i, hi ≤ i → (i : Int) < ent → b < f (i * 3)) →
      Go G m_Node_lastUpTo (gFin G (gEq (some (vI (gLu f b ent.toNat))) N h) gNo) 7 [some (vR o), some (vI b), some (vI lo), some (vI hi), x] [] N h 0 0 := by
    intro n
    induction n with
    | zero => intro lo hi x h1; omega
    | succ n ih =>
      intro lo hi x h1 h2 h3 h4 h5
      repeat (first | refine go_pure hM rfl ?_ | (refine go_get (fs := ?_) (v := ?_) hM rfl ?_ ?_ ?_; rotate_left 2; assumption; rfl) | refine go_ldc hM rfl ?_)
      refine go_icmp_ge hM rfl (by omega) (by omega) (fun hc => ?_) (fun hc => ?_)
      · repeat (first | refine go_pure hM rfl ?_ | (refine go_get (fs := ?_) (v := ?_) hM rfl ?_ ?_ ?_; rotate_left 2; assumption; rfl) | refine go_ldc hM rfl ?_)
        refine go_iret hM rfl rfl ⟨?_, rfl, rfl⟩
        rw [gLu_eq lo h4 ent.toNat (by omega) (fun i h6 h7 => h5 i (by omega) (by omega))]
      · repeat (first | refine go_pure hM rfl ?_ | (refine go_get (fs := ?_) (v := ?_) hM rfl ?_ ?_ ?_; rotate_left 2; assumption; rfl) | refine go_ldc hM rfl ?_)
        refine go_idiv hM rfl (by omega) (by omega) ?_
        obtain ⟨md, hmd⟩ : ∃ md : Nat, ((lo : Int) + hi) / 2 = md := ⟨(((lo : Int) + hi) / 2).toNat, by omega⟩
        rw [hmd]
        repeat (first | refine go_pure hM rfl ?_ | (refine go_get (fs := ?_) (v := ?_) hM rfl ?_ ?_ ?_; rotate_left 2; assumption; rfl) | refine go_ldc hM rfl ?_)
        refine go_cV hM rfl rfl rfl hN rfl (c_firstAt hN hA hnw hro hen (by omega)) rfl ?_
        repeat (first | refine go_pure hM rfl ?_ | (refine go_get (fs := ?_) (v := ?_) hM rfl ?_ ?_ ?_; rotate_left 2; assumption; rfl) | refine go_ldc hM rfl ?_)
        have e9 : gWd f ent md 0 = f (md * 3) := by
          rw [gWd_in (by omega)]
          congr 1
        rw [e9]
        refine go_icmp_gt hM rfl (rf _) rb (fun hc => ?_) (fun hc => ?_)
        · repeat (first | exact ih lo md _ (by omega) (by omega) (by omega) h4 (fun i h6 h7 => Int.lt_of_lt_of_le hc (hs md i h6 h7)) | refine go_pure hM rfl ?_ | (refine go_get (fs := ?_) (v := ?_) hM rfl ?_ ?_ ?_; rotate_left 2; assumption; rfl) | refine go_ldc hM rfl ?_)
        · repeat (first | exact ih (md + 1) hi _ (by omega) (by omega) (by omega) (fun i h6 => Int.le_trans (hs i md (by omega) (by omega)) (by omega)) h5 | refine go_pure hM rfl ?_ | (refine go_get (fs := ?_) (v := ?_) hM rfl ?_ ?_ ?_; rotate_left 2; assumption; rfl) | refine go_ldc hM rfl ?_)
  obtain ⟨en, hen9⟩ : ∃ en : Nat, ent = en := ⟨ent.toNat, by omega⟩
  subst hen9
  repeat (first | exact loop (en + 1) 0 en _ (by omega) (by omega) (by omega) (fun i h6 => absurd h6 (by omega)) (fun i h6 h7 => absurd h6 (by omega)) | refine go_pure hM rfl ?_ | (refine go_get (fs := ?_) (v := ?_) hM rfl ?_ ?_ ?_; rotate_left 2; assumption; rfl) | refine go_ldc hM rfl ?_)
end
end
section
/-! Node: new entries, entries that go, tails that move -/
section
variable {G : gG} {N : Option Nat} {h : gH} {o w nw : Nat} {num room tk dep ent : Int} {f : Nat → Int}
/-- the words behind a new entry -/
def gIns (f : Nat → Int) (ent i x y z : Int) : Nat → Int := gT3 (gCp f f (i * 3).toNat (i * 3 + 3).toNat ((ent - i) * 3).toNat) (i * 3).toNat x y z
set_option maxHeartbeats 1000000 in
theorem c_insert {i x y z : Int} (hN : h o = some (gNd num room tk dep ent w)) (hA : h w = some (gIA nw f)) (hnw : (nw : Int) = room * 3) (hro : 4 ≤ room ∧ room ≤ 84) (hen : 0 ≤ ent ∧ ent ≤ room) (hne : o ≠ w) (hi : 0 ≤ i ∧ i ≤ ent) (hf : ent < room) : Rd G m_Node_insert [vR o, vI i, vI x, vI y, vI z] N h none none (gU (gU h w (gIA nw (gIns f ent i x y z))) o (gNd num room tk dep (ent + 1) w)) := by
  refine Rn.of rfl rfl rfl ?_
  have hM := ok_Node_insert
  have q := c_isFull (G := G) (N := N) hN hro hen
  rw [if_neg (by omega)] at q
  repeat (first | refine go_pure hM rfl ?_ | (refine go_get (fs := ?_) (v := ?_) hM rfl ?_ ?_ ?_; rotate_left 2; assumption; rfl) | refine go_ldc hM rfl ?_)
  refine go_cV hM rfl rfl rfl hN rfl q rfl ?_
  refine go_if_ne hM rfl (by omega) (fun hc => absurd rfl hc) (fun hc => ?_)
  repeat (first | refine go_pure hM rfl ?_ | (refine go_get (fs := ?_) (v := ?_) hM rfl ?_ ?_ ?_; rotate_left 2; assumption; rfl) | refine go_ldc hM rfl ?_)
  refine go_if_lt hM rfl (by omega) (fun hc => absurd hc (by omega)) (fun hc => ?_)
  repeat (first | refine go_pure hM rfl ?_ | (refine go_get (fs := ?_) (v := ?_) hM rfl ?_ ?_ ?_; rotate_left 2; assumption; rfl) | refine go_ldc hM rfl ?_)
  refine go_icmp_le hM rfl (by omega) (by omega) (fun hc => ?_) (fun hc => absurd hi.2 hc)
  repeat (first | refine go_pure hM rfl ?_ | (refine go_get (fs := ?_) (v := ?_) hM rfl ?_ ?_ ?_; rotate_left 2; assumption; rfl) | refine go_ldc hM rfl ?_)
  refine go_copy hM rfl hA hA (by omega) (by omega) (by omega) (by omega) (by omega) (by omega) (by omega) rfl ?_
  have hN1 : gU h w (gIA nw (gCp f f (i * 3).toNat (i * 3 + 3).toNat ((ent - i) * 3).toNat)) o = some (gNd num room tk dep ent w) := by rw [gU_n hne]; exact hN
  repeat (first | refine go_pure hM rfl ?_ | (refine go_get (fs := ?_) (v := ?_) hM rfl ?_ ?_ ?_; rotate_left 2; assumption; rfl) | refine go_ldc hM rfl ?_)
  refine go_put hM rfl hN1 rfl rfl ?_
  have hN2 : gU (gU h w (gIA nw (gCp f f (i * 3).toNat (i * 3 + 3).toNat ((ent - i) * 3).toNat))) o (gNd num room tk dep (ent + 1) w) o = some (gNd num room tk dep (ent + 1) w) := gU_s _ _ _
  have hA2 : gU (gU h w (gIA nw (gCp f f (i * 3).toNat (i * 3 + 3).toNat ((ent - i) * 3).toNat))) o (gNd num room tk dep (ent + 1) w) w = some (gIA nw (gCp f f (i * 3).toNat (i * 3 + 3).toNat ((ent - i) * 3).toNat)) := by rw [gU_n (Ne.symm hne), gU_s]
  repeat (first | refine go_pure hM rfl ?_ | (refine go_get (fs := ?_) (v := ?_) hM rfl ?_ ?_ ?_; rotate_left 2; assumption; rfl) | refine go_ldc hM rfl ?_)
  refine go_cV hM rfl rfl rfl hN2 rfl (c_setEntry hN2 hA2 hnw hro (by omega) hne (by omega) (by omega)) rfl ?_
  refine go_vret hM rfl rfl ⟨rfl, rfl, ?_⟩
  rw [gU_comm hne, gU_uu]
  rfl
/-- the words behind an entry that goes -/
def gRem (f : Nat → Int) (ent i : Int) : Nat → Int := gCp f f (i * 3 + 3).toNat (i * 3).toNat ((ent - i - 1) * 3).toNat
set_option maxHeartbeats 1000000 in
theorem c_remove {i : Int} (hN : h o = some (gNd num room tk dep ent w)) (hA : h w = some (gIA nw f)) (hnw : (nw : Int) = room * 3) (hro : 4 ≤ room ∧ room ≤ 84) (hen : 0 ≤ ent ∧ ent ≤ room) (hne : o ≠ w) (hi : 0 ≤ i ∧ i < ent) : Rd G m_Node_remove [vR o, vI i] N h none none (gU (gU h w (gIA nw (gRem f ent i))) o (gNd num room tk dep (ent - 1) w)) := by
  refine Rn.of rfl rfl rfl ?_
  have hM := ok_Node_remove
  repeat (first | refine go_pure hM rfl ?_ | (refine go_get (fs := ?_) (v := ?_) hM rfl ?_ ?_ ?_; rotate_left 2; assumption; rfl) | refine go_ldc hM rfl ?_)
  refine go_cV hM rfl rfl rfl hN rfl (c_hasEntry_t hN hro hen (by omega) hi) rfl ?_
  refine go_if_ne hM rfl (by omega) (fun hc => ?_) (fun hc => absurd hc (by omega))
  repeat (first | refine go_pure hM rfl ?_ | (refine go_get (fs := ?_) (v := ?_) hM rfl ?_ ?_ ?_; rotate_left 2; assumption; rfl) | refine go_ldc hM rfl ?_)
  refine go_copy hM rfl hA hA (by omega) (by omega) (by omega) (by omega) (by omega) (by omega) (by omega) rfl ?_
  have hN1 : gU h w (gIA nw (gCp f f (i * 3 + 3).toNat (i * 3).toNat ((ent - i - 1) * 3).toNat)) o = some (gNd num room tk dep ent w) := by rw [gU_n hne]; exact hN
  repeat (first | refine go_pure hM rfl ?_ | (refine go_get (fs := ?_) (v := ?_) hM rfl ?_ ?_ ?_; rotate_left 2; assumption; rfl) | refine go_ldc hM rfl ?_)
  refine go_put hM rfl hN1 rfl rfl ?_
  exact go_vret hM rfl rfl ⟨rfl, rfl, rfl⟩
set_option maxHeartbeats 1000000 in
theorem c_moveTail {i : Int} {o2 w2 nw2 : Nat} {num2 room2 tk2 dep2 ent2 : Int} {f2 : Nat → Int} (hN : h o = some (gNd num room tk dep ent w)) (hA : h w = some (gIA nw f)) (hnw : (nw : Int) = room * 3) (hro : 4 ≤ room ∧ room ≤ 84) (hen : 0 ≤ ent ∧ ent ≤ room) (hN2 : h o2 = some (gNd num2 room2 tk2 dep2 ent2 w2)) (hA2 : h w2 = some (gIA nw2 f2)) (hnw2 : (nw2 : Int) = room2 * 3) (hro2 : 4 ≤ room2 ∧ room2 ≤ 84) (n1 : o ≠ w) (n2 : o ≠ o2) (n3 : o ≠ w2) (n4 : o2 ≠ w2) (n5 : o2 ≠ w) (hi : 0 ≤ i ∧ i ≤ ent) (hm : ent - i ≤ room2) :
    Rd G m_Node_moveTail [vR o, vI i, vR o2] N h none none (gU (gU (gU h w2 (gIA nw2 (gCp f f2 (i * 3).toNat 0 ((ent - i) * 3).toNat))) o2 (gNd num2 room2 tk2 dep (ent - i) w2)) o (gNd num room tk dep i w)) := by
  refine Rn.of rfl rfl rfl ?_
  have hM := ok_Node_moveTail
  repeat (first | refine go_pure hM rfl ?_ | (refine go_get (fs := ?_) (v := ?_) hM rfl ?_ ?_ ?_; rotate_left 2; assumption; rfl) | refine go_ldc hM rfl ?_)
  refine go_if_lt hM rfl (by omega) (fun hc => absurd hc (by omega)) (fun hc => ?_)
  repeat (first | refine go_pure hM rfl ?_ | (refine go_get (fs := ?_) (v := ?_) hM rfl ?_ ?_ ?_; rotate_left 2; assumption; rfl) | refine go_ldc hM rfl ?_)
  refine go_if_lt hM rfl (by omega) (fun hc => absurd hc (by omega)) (fun hc => ?_)
  repeat (first | refine go_pure hM rfl ?_ | (refine go_get (fs := ?_) (v := ?_) hM rfl ?_ ?_ ?_; rotate_left 2; assumption; rfl) | refine go_ldc hM rfl ?_)
  refine go_icmp_le hM rfl (by omega) (by omega) (fun hc => ?_) (fun hc => absurd hm hc)
  repeat (first | refine go_pure hM rfl ?_ | (refine go_get (fs := ?_) (v := ?_) hM rfl ?_ ?_ ?_; rotate_left 2; assumption; rfl) | refine go_ldc hM rfl ?_)
  refine go_copy hM rfl hA hA2 (by omega) (by omega) (by omega) (by omega) (by omega) (by omega) (by omega) rfl ?_
  generalize hf3 : gCp f f2 (i * 3).toNat (0 : Int).toNat ((ent - i) * 3).toNat = f3
  have hf3' : gCp f f2 (i * 3).toNat 0 ((ent - i) * 3).toNat = f3 := hf3
  rw [hf3']
  have k1 : gU h w2 (gIA nw2 f3) o2 = some (gNd num2 room2 tk2 dep2 ent2 w2) := by rw [gU_n n4]; exact hN2
  repeat (first | refine go_pure hM rfl ?_ | (refine go_get (fs := ?_) (v := ?_) hM rfl ?_ ?_ ?_; rotate_left 2; assumption; rfl) | refine go_ldc hM rfl ?_)
  refine go_put hM rfl k1 rfl rfl ?_
  have k2 : gU (gU h w2 (gIA nw2 f3)) o2 (gNd num2 room2 tk2 dep2 (ent - i) w2) o2 = some (gNd num2 room2 tk2 dep2 (ent - i) w2) := gU_s _ _ _
  have k3 : gU (gU h w2 (gIA nw2 f3)) o2 (gNd num2 room2 tk2 dep2 (ent - i) w2) o = some (gNd num room tk dep ent w) := by rw [gU_n n2, gU_n n3]; exact hN
  repeat (first | refine go_pure hM rfl ?_ | (refine go_get (fs := ?_) (v := ?_) hM rfl ?_ ?_ ?_; rotate_left 2; assumption; rfl) | refine go_ldc hM rfl ?_)
  refine go_put hM rfl k2 rfl rfl ?_
  rw [gU_uu]
  have k4 : gU (gU h w2 (gIA nw2 f3)) o2 (gNd num2 room2 tk2 dep (ent - i) w2) o = some (gNd num room tk dep ent w) := by rw [gU_n n2, gU_n n3]; exact hN
  repeat (first | refine go_pure hM rfl ?_ | (refine go_get (fs := ?_) (v := ?_) hM rfl ?_ ?_ ?_; rotate_left 2; assumption; rfl) | refine go_ldc hM rfl ?_)
  refine go_put hM rfl k4 rfl rfl ?_
  exact go_vret hM rfl rfl ⟨rfl, rfl, rfl⟩
end
end
section
/-! Node: bytes; a new Node -/
section
variable {G : gG} {N : Option Nat} {h : gH} {o w nw : Nat} {num room tk dep ent : Int} {f : Nat → Int}
/-- four bytes of a node -/
def gWb (f : Nat → Int) (room dep ent i : Int) : Int := if i = 0 then 62218 + ent * 2 ^ 16 else if i = 1 then room + dep * 2 ^ 16 else if 3 ≤ i ∧ i < ent * 3 + 3 then f (i - 3).toNat else 0
set_option maxHeartbeats 1000000 in
theorem c_wordOfBytes {i : Int} (hN : h o = some (gNd num room tk dep ent w)) (hA : h w = some (gIA nw f)) (hnw : (nw : Int) = room * 3) (hro : 4 ≤ room ∧ room ≤ 84) (hen : 0 ≤ ent ∧ ent ≤ room) (hd : 0 ≤ dep ∧ dep ≤ 5) (hi : 0 ≤ i ∧ i ≤ 1000) : Rd G m_Node_wordOfBytes [vR o, vI i] N h (some (vI (gWb f room dep ent i))) N h := by
  refine Rn.of rfl rfl rfl ?_
  have hM := ok_Node_wordOfBytes
  repeat (first | refine go_pure hM rfl ?_ | (refine go_get (fs := ?_) (v := ?_) hM rfl ?_ ?_ ?_; rotate_left 2; assumption; rfl) | refine go_ldc hM rfl ?_)
  refine go_if_ne hM rfl (by omega) (fun hc => ?_) (fun hc => ?_)
  · repeat (first | refine go_pure hM rfl ?_ | (refine go_get (fs := ?_) (v := ?_) hM rfl ?_ ?_ ?_; rotate_left 2; assumption; rfl) | refine go_ldc hM rfl ?_)
    refine go_icmp_ne hM rfl (by omega) (by omega) (fun hc1 => ?_) (fun hc1 => ?_)
    · repeat (first | refine go_pure hM rfl ?_ | (refine go_get (fs := ?_) (v := ?_) hM rfl ?_ ?_ ?_; rotate_left 2; assumption; rfl) | refine go_ldc hM rfl ?_)
      refine go_if_lt hM rfl (by omega) (fun hc2 => ?_) (fun hc2 => ?_)
      · repeat (first | refine go_pure hM rfl ?_ | (refine go_get (fs := ?_) (v := ?_) hM rfl ?_ ?_ ?_; rotate_left 2; assumption; rfl) | refine go_ldc hM rfl ?_)
        exact go_iret hM rfl rfl ⟨by rw [gWb, if_neg hc, if_neg hc1, if_neg (by omega)], rfl, rfl⟩
      · repeat (first | refine go_pure hM rfl ?_ | (refine go_get (fs := ?_) (v := ?_) hM rfl ?_ ?_ ?_; rotate_left 2; assumption; rfl) | refine go_ldc hM rfl ?_)
        refine go_icmp_ge hM rfl (by omega) (by omega) (fun hc3 => ?_) (fun hc3 => ?_)
        · repeat (first | refine go_pure hM rfl ?_ | (refine go_get (fs := ?_) (v := ?_) hM rfl ?_ ?_ ?_; rotate_left 2; assumption; rfl) | refine go_ldc hM rfl ?_)
          exact go_iret hM rfl rfl ⟨by rw [gWb, if_neg hc, if_neg hc1, if_neg (by omega)], rfl, rfl⟩
        · repeat (first | refine go_pure hM rfl ?_ | (refine go_get (fs := ?_) (v := ?_) hM rfl ?_ ?_ ?_; rotate_left 2; assumption; rfl) | refine go_ldc hM rfl ?_)
          refine go_alen hM rfl hA rfl ?_
          refine go_icmp_ge hM rfl (by omega) (by omega) (fun hc4 => absurd hc4 (by omega)) (fun hc4 => ?_)
          repeat (first | refine go_pure hM rfl ?_ | (refine go_get (fs := ?_) (v := ?_) hM rfl ?_ ?_ ?_; rotate_left 2; assumption; rfl) | refine go_ldc hM rfl ?_)
          refine go_iald hM rfl hA (by omega) (by omega) (by omega) ?_
          repeat (first | refine go_pure hM rfl ?_ | (refine go_get (fs := ?_) (v := ?_) hM rfl ?_ ?_ ?_; rotate_left 2; assumption; rfl) | refine go_ldc hM rfl ?_)
          exact go_iret hM rfl rfl ⟨by rw [gWb, if_neg hc, if_neg hc1, if_pos (by omega)], rfl, rfl⟩
    · repeat (first | refine go_pure hM rfl ?_ | (refine go_get (fs := ?_) (v := ?_) hM rfl ?_ ?_ ?_; rotate_left 2; assumption; rfl) | refine go_ldc hM rfl ?_)
      refine go_ishl 16 hM rfl (by decide) (by omega) (by omega) ?_
      refine go_ior 16 hM rfl (by omega) (by omega) (by omega) ?_
      exact go_iret hM rfl rfl ⟨by rw [gWb, if_neg hc, if_pos hc1], rfl, rfl⟩
  · repeat (first | refine go_pure hM rfl ?_ | (refine go_get (fs := ?_) (v := ?_) hM rfl ?_ ?_ ?_; rotate_left 2; assumption; rfl) | refine go_ldc hM rfl ?_)
    refine go_ishl 16 hM rfl (by decide) (by omega) (by omega) ?_
    refine go_ior 16 hM rfl (by omega) (by omega) (by omega) ?_
    exact go_iret hM rfl rfl ⟨by rw [gWb, if_pos hc], rfl, rfl⟩
/-- a byte of four -/
def gBy (x r : Int) : Int := if r = 0 then x % 256 else if r = 1 then x / 256 % 256 else if r = 2 then x / 65536 % 256 else x / 16777216 % 256
set_option maxHeartbeats 1000000 in
theorem c_byteAt {i : Int} (hN : h o = some (gNd num room tk dep ent w)) (hA : h w = some (gIA nw f)) (hnw : (nw : Int) = room * 3) (hro : 4 ≤ room ∧ room ≤ 84) (hen : 0 ≤ ent ∧ ent ≤ room) (hd : 0 ≤ dep ∧ dep ≤ 5) (hi : 0 ≤ i ∧ i ≤ 1023) (rf : ∀ i, 0 ≤ f i ∧ f i ≤ 2147483647) : Rd G m_Node_byteAt [vR o, vI i] N h (some (vI (gBy (gWb f room dep ent (i / 4)) (i % 4)))) N h := by
  refine Rn.of rfl rfl rfl ?_
  have hM := ok_Node_byteAt
  have rw9 : 0 ≤ gWb f room dep ent (i / 4) ∧ gWb f room dep ent (i / 4) ≤ 2147483647 := by
    unfold gWb
    split
    · omega
    · split
      · omega
      · split
        · exact rf _
        · omega
  repeat (first | refine go_pure hM rfl ?_ | (refine go_get (fs := ?_) (v := ?_) hM rfl ?_ ?_ ?_; rotate_left 2; assumption; rfl) | refine go_ldc hM rfl ?_)
  refine go_iand (q := 4) 2 hM rfl (by decide) (by decide) (by decide) ?_
  repeat (first | refine go_pure hM rfl ?_ | (refine go_get (fs := ?_) (v := ?_) hM rfl ?_ ?_ ?_; rotate_left 2; assumption; rfl) | refine go_ldc hM rfl ?_)
  refine go_idiv hM rfl (by omega) (by omega) ?_
  repeat (first | refine go_pure hM rfl ?_ | (refine go_get (fs := ?_) (v := ?_) hM rfl ?_ ?_ ?_; rotate_left 2; assumption; rfl) | refine go_ldc hM rfl ?_)
  refine go_cV hM rfl rfl rfl hN rfl (c_wordOfBytes hN hA hnw hro hen hd (by omega)) rfl ?_
  generalize gWb f room dep ent (i / 4) = x at rw9 ⊢
  repeat (first | refine go_pure hM rfl ?_ | (refine go_get (fs := ?_) (v := ?_) hM rfl ?_ ?_ ?_; rotate_left 2; assumption; rfl) | refine go_ldc hM rfl ?_)
  have hc : i % 4 = 0 ∨ i % 4 = 1 ∨ i % 4 = 2 ∨ i % 4 = 3 := by omega
  have e4 : ((4 : Nat) : Int) = 4 := rfl
  rw [e4]
  rcases hc with hc | hc | hc | hc
  · rw [hc]
    refine go_iushr 0 hM rfl (by decide) (by omega) (by omega) ?_
    repeat (first | refine go_pure hM rfl ?_ | (refine go_get (fs := ?_) (v := ?_) hM rfl ?_ ?_ ?_; rotate_left 2; assumption; rfl) | refine go_ldc hM rfl ?_)
    refine go_iand (q := 256) 8 hM rfl (by decide) (by decide) (by decide) ?_
    exact go_iret hM rfl rfl ⟨by rw [gBy, if_pos rfl]; congr 2; omega, rfl, rfl⟩
  · rw [hc]
    refine go_iushr 8 hM rfl (by decide) (by omega) (by omega) ?_
    repeat (first | refine go_pure hM rfl ?_ | (refine go_get (fs := ?_) (v := ?_) hM rfl ?_ ?_ ?_; rotate_left 2; assumption; rfl) | refine go_ldc hM rfl ?_)
    refine go_iand (q := 256) 8 hM rfl (by decide) (by decide) (by decide) ?_
    exact go_iret hM rfl rfl ⟨by rw [gBy, if_neg (by decide), if_pos rfl]; congr 2, rfl, rfl⟩
  · rw [hc]
    refine go_iushr 16 hM rfl (by decide) (by omega) (by omega) ?_
    repeat (first | refine go_pure hM rfl ?_ | (refine go_get (fs := ?_) (v := ?_) hM rfl ?_ ?_ ?_; rotate_left 2; assumption; rfl) | refine go_ldc hM rfl ?_)
    refine go_iand (q := 256) 8 hM rfl (by decide) (by decide) (by decide) ?_
    exact go_iret hM rfl rfl ⟨by rw [gBy, if_neg (by decide), if_neg (by decide), if_pos rfl]; congr 2, rfl, rfl⟩
  · rw [hc]
    refine go_iushr 24 hM rfl (by decide) (by omega) (by omega) ?_
    repeat (first | refine go_pure hM rfl ?_ | (refine go_get (fs := ?_) (v := ?_) hM rfl ?_ ?_ ?_; rotate_left 2; assumption; rfl) | refine go_ldc hM rfl ?_)
    refine go_iand (q := 256) 8 hM rfl (by decide) (by decide) (by decide) ?_
    exact go_iret hM rfl rfl ⟨by rw [gBy, if_neg (by decide), if_neg (by decide), if_neg (by decide)]; congr 2, rfl, rfl⟩
set_option maxHeartbeats 1000000 in
/-- new Node(number, room), its object is there; the words are the cell n -/
theorem c_Node_init {n r : Nat} {x : Int} (hn : 0 < n) (hno : n ≠ o) (hr : 4 ≤ r ∧ r ≤ 84) (ho : h o = some (.inr (0, [vI 0, vI 0, vI 0, vI 0, vI 0, vN]))) : Rn G m_Node_init [vR o, vI x, vI r] (some n) h 1 252 (gEq none (some (n + 1)) (gU (gU h n (gIA (r * 3) (fun _ => 0))) o (gNd x r 0 0 0 n))) gNo := by
  refine Rn.of rfl rfl rfl ?_
  have hM := ok_Node_init
  repeat (first | refine go_pure hM rfl ?_ | (refine go_get (fs := ?_) (v := ?_) hM rfl ?_ ?_ ?_; rotate_left 2; assumption; rfl) | refine go_ldc hM rfl ?_)
  refine go_obj hM rfl rfl ?_
  repeat (first | refine go_pure hM rfl ?_ | (refine go_get (fs := ?_) (v := ?_) hM rfl ?_ ?_ ?_; rotate_left 2; assumption; rfl) | refine go_ldc hM rfl ?_)
  refine go_put hM rfl ho rfl rfl ?_
  repeat (first | refine go_pure hM rfl ?_ | (refine go_get (fs := ?_) (v := ?_) hM rfl ?_ ?_ ?_; rotate_left 2; assumption; rfl) | refine go_ldc hM rfl ?_)
  refine go_min hM rfl (by omega) (by omega) rfl ?_
  have e0 : (if (r : Int) < 84 then (r : Int) else 84) = r := by split <;> omega
  rw [e0]
  refine go_max hM rfl (by omega) (by omega) rfl ?_
  have e1 : (if (4 : Int) < r then (r : Int) else 4) = r := by split <;> omega
  rw [e1]
  refine go_put hM rfl (gU_s _ _ _) rfl rfl ?_
  rw [gU_uu]
  refine go_pure hM rfl ?_
  refine go_pure hM rfl ?_
  refine go_get hM rfl (gU_s _ _ _) rfl ?_
  repeat (first | refine go_pure hM rfl ?_ | (refine go_get (fs := ?_) (v := ?_) hM rfl ?_ ?_ ?_; rotate_left 2; assumption; rfl) | refine go_ldc hM rfl ?_)
  refine go_room (c := 0 + 1) (s := 0 + r * 3) (by omega) (by omega) ?_
  refine go_newI (ln := r * 3) hM rfl hn (by omega) (by omega) ?_
  refine go_put hM rfl (by rw [gU_n (Ne.symm hno)]; exact gU_s _ _ _) rfl rfl ?_
  refine go_vret hM rfl rfl ⟨rfl, rfl, ?_⟩
  rw [gU_comm (Ne.symm hno), gU_uu]
end
end
section
/-! THE CLASS'S CELLS, as a function of what they hold: nodes 0 .. 255 (the pool's), 256 .. 259 (the roots), four trees -/
abbrev cA : Type := (Nat → Int) × (Nat → Int) × (Nat → Int) × (Nat → Nat → Int) × (Nat → Int) × (Nat → Int) × (Nat → Int) × (Nat → Int) × (Nat → Int) × (Nat → Int) × (Nat → Nat → Nat) × (Nat → Nat → Int) × (Nat → Nat → Nat) × Int × Nat
abbrev aTk (A : cA) : Nat → Int := A.1
abbrev aDp (A : cA) : Nat → Int := A.2.1
abbrev aEn (A : cA) : Nat → Int := A.2.2.1
abbrev aWf (A : cA) : Nat → Nat → Int := A.2.2.2.1
abbrev aRu (A : cA) : Nat → Int := A.2.2.2.2.1
abbrev aBl (A : cA) : Nat → Int := A.2.2.2.2.2.1
abbrev aMa (A : cA) : Nat → Int := A.2.2.2.2.2.2.1
abbrev aMw (A : cA) : Nat → Int := A.2.2.2.2.2.2.2.1
abbrev aLb (A : cA) : Nat → Int := A.2.2.2.2.2.2.2.2.1
abbrev aLf (A : cA) : Nat → Int := A.2.2.2.2.2.2.2.2.2.1
abbrev aWy (A : cA) : Nat → Nat → Nat := A.2.2.2.2.2.2.2.2.2.2.1
abbrev aPl (A : cA) : Nat → Nat → Int := A.2.2.2.2.2.2.2.2.2.2.2.1
abbrev aFs (A : cA) : Nat → Nat → Nat := A.2.2.2.2.2.2.2.2.2.2.2.2.1
abbrev aLe (A : cA) : Int := A.2.2.2.2.2.2.2.2.2.2.2.2.2.1
abbrev aM (A : cA) : Nat := A.2.2.2.2.2.2.2.2.2.2.2.2.2.2
/-- other nodes; other words; another tree; another pool -/
def sNd (A : cA) (i : Nat) (x y z : Int) : cA := (gF (aTk A) i x, gF (aDp A) i y, gF (aEn A) i z, A.2.2.2)
def sWf (A : cA) (i : Nat) (f : Nat → Int) : cA := (A.1, A.2.1, A.2.2.1, gF (aWf A) i f, A.2.2.2.2)
def sTr (A : cA) (t : Nat) (r b m w l f : Int) : cA := (A.1, A.2.1, A.2.2.1, A.2.2.2.1, gF (aRu A) t r, gF (aBl A) t b, gF (aMa A) t m, gF (aMw A) t w, gF (aLb A) t l, gF (aLf A) t f, A.2.2.2.2.2.2.2.2.2.2)
def sWy (A : cA) (t : Nat) (f : Nat → Nat) : cA := (A.1, A.2.1, A.2.2.1, A.2.2.2.1, A.2.2.2.2.1, A.2.2.2.2.2.1, A.2.2.2.2.2.2.1, A.2.2.2.2.2.2.2.1, A.2.2.2.2.2.2.2.2.1, A.2.2.2.2.2.2.2.2.2.1, gF (aWy A) t f, A.2.2.2.2.2.2.2.2.2.2.2)
def sPl (A : cA) (t : Nat) (f : Nat → Int) : cA := (A.1, A.2.1, A.2.2.1, A.2.2.2.1, A.2.2.2.2.1, A.2.2.2.2.2.1, A.2.2.2.2.2.2.1, A.2.2.2.2.2.2.2.1, A.2.2.2.2.2.2.2.2.1, A.2.2.2.2.2.2.2.2.2.1, aWy A, gF (aPl A) t f, A.2.2.2.2.2.2.2.2.2.2.2.2)
def sFs (A : cA) (t : Nat) (f : Nat → Nat) : cA := (A.1, A.2.1, A.2.2.1, A.2.2.2.1, A.2.2.2.2.1, A.2.2.2.2.2.1, A.2.2.2.2.2.2.1, A.2.2.2.2.2.2.2.1, A.2.2.2.2.2.2.2.2.1, A.2.2.2.2.2.2.2.2.2.1, aWy A, aPl A, gF (aFs A) t f, A.2.2.2.2.2.2.2.2.2.2.2.2.2)
def sLe (A : cA) (x : Int) : cA := (A.1, A.2.1, A.2.2.1, A.2.2.2.1, A.2.2.2.2.1, A.2.2.2.2.2.1, A.2.2.2.2.2.2.1, A.2.2.2.2.2.2.2.1, A.2.2.2.2.2.2.2.2.1, A.2.2.2.2.2.2.2.2.2.1, aWy A, aPl A, aFs A, x, aM A)
/-- how many entries a node may have, its number, its places -/
def aRm (A : cA) (i : Nat) : Nat := if i < 256 then aM A else 4
def nNo (i : Nat) : Int := if i < 256 then i else 0
def oA (i : Nat) : Nat := if i < 256 then 4 + 2 * i else 518 + 6 * (i - 256)
def wA (i : Nat) : Nat := oA i + 1
theorem gF_s {α : Type} (f : Nat → α) (k : Nat) (x : α) : gF f k x k = x := by simp [gF]
theorem gF_n {α : Type} {f : Nat → α} {k j : Nat} {x : α} (h : j ≠ k) : gF f k x j = f j := by simp [gF, h]
abbrev eNd (A : cA) (i : Nat) : gE := gNd (nNo i) (aRm A i : Int) (aTk A i) (aDp A i) (aEn A i) (wA i)
abbrev eWd (A : cA) (i : Nat) : gE := gIA (aRm A i * 3) (aWf A i)
abbrev eTr (A : cA) (t : Nat) : gE := .inr (2, [vR (oA (256 + t)), vI (aRu A t), vI (aBl A t), vI (aMa A t), vI (aMw A t), vI (aLb A t), vR 2, vR (520 + 6 * t), vR (521 + 6 * t), vI (aLf A t), vR (522 + 6 * t)])
abbrev eRf (f : Nat → Nat) : gE := .inl (2, 6, .inr (.inr (fun k => if k < 6 then some (oA (f k)) else none)))
abbrev eNs : gE := .inl (2, 256, .inr (.inr (fun i => if i < 256 then some (oA i) else none)))
abbrev eTs : gE := .inl (3, 4, .inr (.inr (fun t => if t < 4 then some (517 + 6 * t) else none)))
abbrev ePo (A : cA) : gE := .inr (1, [vI (aLe A), vR 3])
abbrev eEt : gE := .inr (3, [vR 2, vR 516])
def hpT (A : cA) (t r : Nat) : gE := if r = 0 then eTr A t else if r = 1 then eNd A (256 + t) else if r = 2 then eWd A (256 + t) else if r = 3 then eRf (aWy A t) else if r = 4 then gIA 6 (aPl A t) else eRf (aFs A t)
/-- the class's cells are 1 .. 540, what is behind them is h0's -/
def hpx (A : cA) (h0 : gH) : gH := fun a => if 541 ≤ a then h0 a else if a = 0 then none else if a = 1 then some eEt else if a = 2 then some (ePo A) else if a = 3 then some eNs else if a < 516 then (if a % 2 = 0 then some (eNd A ((a - 4) / 2)) else some (eWd A ((a - 4) / 2))) else if a = 516 then some eTs else some (hpT A ((a - 517) / 6) ((a - 517) % 6))
section
variable {A : cA} {h0 : gH} {i t : Nat}
theorem oA_lt (h : i < 260) : 4 ≤ oA i ∧ oA i < 540 := by
  unfold oA
  split <;> omega
theorem hp_et : hpx A h0 1 = some eEt := by simp [hpx]
theorem hp_po : hpx A h0 2 = some (ePo A) := by simp [hpx]
theorem hp_ns : hpx A h0 3 = some eNs := by simp [hpx]
theorem hp_ts : hpx A h0 516 = some eTs := by simp [hpx]
theorem hp_t (r : Nat) (ht : t < 4) (hr : r < 6) : hpx A h0 (517 + 6 * t + r) = some (hpT A t r) := by
  unfold hpx
  rw [if_neg (by omega), if_neg (by omega), if_neg (by omega), if_neg (by omega), if_neg (by omega), if_neg (by omega), if_neg (by omega)]
  rw [show (517 + 6 * t + r - 517) / 6 = t by omega, show (517 + 6 * t + r - 517) % 6 = r by omega]
theorem hp_tr (ht : t < 4) : hpx A h0 (517 + 6 * t) = some (eTr A t) := hp_t 0 ht (by omega)
theorem hp_wy (ht : t < 4) : hpx A h0 (520 + 6 * t) = some (eRf (aWy A t)) := by
  rw [show 520 + 6 * t = 517 + 6 * t + 3 by omega, hp_t 3 ht (by omega)]
  rfl
theorem hp_pl (ht : t < 4) : hpx A h0 (521 + 6 * t) = some (gIA 6 (aPl A t)) := by
  rw [show 521 + 6 * t = 517 + 6 * t + 4 by omega, hp_t 4 ht (by omega)]
  rfl
theorem hp_fs (ht : t < 4) : hpx A h0 (522 + 6 * t) = some (eRf (aFs A t)) := by
  rw [show 522 + 6 * t = 517 + 6 * t + 5 by omega, hp_t 5 ht (by omega)]
  rfl
theorem hp_nd (hi : i < 260) : hpx A h0 (oA i) = some (eNd A i) := by
  by_cases h1 : i < 256
  · have e : oA i = 4 + 2 * i := if_pos h1
    rw [e]
    unfold hpx
    rw [if_neg (by omega), if_neg (by omega), if_neg (by omega), if_neg (by omega), if_neg (by omega), if_pos (by omega), if_pos (by omega)]
    rw [show (4 + 2 * i - 4) / 2 = i by omega]
  · have e : oA i = 517 + 6 * (i - 256) + 1 := by
      unfold oA
      rw [if_neg h1]
      omega
    rw [e, hp_t 1 (by omega) (by omega)]
    show some (eNd A (256 + (i - 256))) = _
    rw [show 256 + (i - 256) = i by omega]
theorem hp_wd (hi : i < 260) : hpx A h0 (wA i) = some (eWd A i) := by
  unfold wA
  by_cases h1 : i < 256
  · have e : oA i = 4 + 2 * i := if_pos h1
    rw [e]
    unfold hpx
    rw [if_neg (by omega), if_neg (by omega), if_neg (by omega), if_neg (by omega), if_neg (by omega), if_pos (by omega), if_neg (by omega)]
    rw [show (4 + 2 * i + 1 - 4) / 2 = i by omega]
  · have e : oA i + 1 = 517 + 6 * (i - 256) + 2 := by
      unfold oA
      rw [if_neg h1]
      omega
    rw [e, hp_t 2 (by omega) (by omega)]
    show some (eWd A (256 + (i - 256))) = _
    rw [show 256 + (i - 256) = i by omega]
end
end
section
/-! a cell of the class becomes another one -/
section
variable {A A' : cA} {h0 : gH} {i t a : Nat}
theorem hpx_congr (hP : a = 2 → ePo A' = ePo A) (hN : ∀ j, j < 256 → a = 4 + 2 * j → eNd A' j = eNd A j) (hW : ∀ j, j < 256 → a = 5 + 2 * j → eWd A' j = eWd A j) (hT : ∀ t r, t < 4 → r < 6 → a = 517 + 6 * t + r → hpT A' t r = hpT A t r) : hpx A' h0 a = hpx A h0 a := by
  unfold hpx
  by_cases c1 : 541 ≤ a
  · rw [if_pos c1, if_pos c1]
  rw [if_neg c1, if_neg c1]
  by_cases c2 : a = 0
  · rw [if_pos c2, if_pos c2]
  rw [if_neg c2, if_neg c2]
  by_cases c3 : a = 1
  · rw [if_pos c3, if_pos c3]
  rw [if_neg c3, if_neg c3]
  by_cases c4 : a = 2
  · rw [if_pos c4, if_pos c4, hP c4]
  rw [if_neg c4, if_neg c4]
  by_cases c5 : a = 3
  · rw [if_pos c5, if_pos c5]
  rw [if_neg c5, if_neg c5]
  by_cases c6 : a < 516
  · rw [if_pos c6, if_pos c6]
    by_cases c7 : a % 2 = 0
    · rw [if_pos c7, if_pos c7, hN ((a - 4) / 2) (by omega) (by omega)]
    · rw [if_neg c7, if_neg c7, hW ((a - 4) / 2) (by omega) (by omega)]
  rw [if_neg c6, if_neg c6]
  by_cases c8 : a = 516
  · rw [if_pos c8, if_pos c8]
  rw [if_neg c8, if_neg c8, hT ((a - 517) / 6) ((a - 517) % 6) (by omega) (by omega) (by omega)]
theorem hpT_congr (r : Nat) (h1 : eTr A' t = eTr A t) (h2 : r = 1 → eNd A' (256 + t) = eNd A (256 + t)) (h3 : r = 2 → eWd A' (256 + t) = eWd A (256 + t)) (h4 : aWy A' t = aWy A t) (h5 : aPl A' t = aPl A t) (h6 : aFs A' t = aFs A t) : hpT A' t r = hpT A t r := by
  unfold hpT
  by_cases c1 : r = 0
  · rw [if_pos c1, if_pos c1, h1]
  rw [if_neg c1, if_neg c1]
  by_cases c2 : r = 1
  · rw [if_pos c2, if_pos c2, h2 c2]
  rw [if_neg c2, if_neg c2]
  by_cases c3 : r = 2
  · rw [if_pos c3, if_pos c3, h3 c3]
  rw [if_neg c3, if_neg c3, h4, h5, h6]
theorem up_nd {x y z : Int} (hi : i < 260) : gU (hpx A h0) (oA i) (gNd (nNo i) (aRm A i : Int) x y z (wA i)) = hpx (sNd A i x y z) h0 := by
  have hne : ∀ j, j ≠ i → eNd (sNd A i x y z) j = eNd A j := fun j hj => by
    show gNd (nNo j) (aRm A j : Int) (gF (aTk A) i x j) (gF (aDp A) i y j) (gF (aEn A) i z j) (wA j) = eNd A j
    rw [gF_n hj, gF_n hj, gF_n hj]
  funext a
  unfold gU
  by_cases ha : a = oA i
  · rw [if_pos ha, ha, hp_nd hi]
    show _ = some (gNd (nNo i) (aRm A i : Int) (gF (aTk A) i x i) (gF (aDp A) i y i) (gF (aEn A) i z i) (wA i))
    rw [gF_s, gF_s, gF_s]
  · rw [if_neg ha]
    refine (hpx_congr (A := A) (A' := sNd A i x y z) (fun _ => rfl) (fun j hj e => hne j (fun q => ha ?_)) (fun j hj e => rfl) (fun t r ht hr e => hpT_congr (A := A) (A' := sNd A i x y z) r rfl (fun q => hne _ (fun q2 => ha ?_)) (fun q => rfl) rfl rfl rfl)).symm
    · subst q
      rw [e]
      exact (if_pos hj).symm
    · rw [← q2, e, q]
      unfold oA
      rw [if_neg (by omega)]
      omega
theorem up_wd {f : Nat → Int} (hi : i < 260) : gU (hpx A h0) (wA i) (gIA (aRm A i * 3) f) = hpx (sWf A i f) h0 := by
  have hne : ∀ j, j ≠ i → eWd (sWf A i f) j = eWd A j := fun j hj => by
    show gIA (aRm A j * 3) (gF (aWf A) i f j) = eWd A j
    rw [gF_n hj]
  funext a
  unfold gU
  by_cases ha : a = wA i
  · rw [if_pos ha, ha, hp_wd hi]
    show _ = some (gIA (aRm A i * 3) (gF (aWf A) i f i))
    rw [gF_s]
  · rw [if_neg ha]
    refine (hpx_congr (A := A) (A' := sWf A i f) (fun _ => rfl) (fun j hj e => rfl) (fun j hj e => hne j (fun q => ha ?_)) (fun t r ht hr e => hpT_congr (A := A) (A' := sWf A i f) r rfl (fun q => rfl) (fun q => hne _ (fun q2 => ha ?_)) rfl rfl rfl)).symm
    · subst q
      rw [e]
      unfold wA oA
      rw [if_pos hj]
      omega
    · rw [← q2, e, q]
      unfold wA oA
      rw [if_neg (by omega)]
      omega
theorem up_tr {r b m w l f : Int} (ht : t < 4) : gU (hpx A h0) (517 + 6 * t) (.inr (2, [vR (oA (256 + t)), vI r, vI b, vI m, vI w, vI l, vR 2, vR (520 + 6 * t), vR (521 + 6 * t), vI f, vR (522 + 6 * t)])) = hpx (sTr A t r b m w l f) h0 := by
  have hne : ∀ j, j ≠ t → eTr (sTr A t r b m w l f) j = eTr A j := fun j hj => by
    show (.inr (2, [vR (oA (256 + j)), vI (gF (aRu A) t r j), vI (gF (aBl A) t b j), vI (gF (aMa A) t m j), vI (gF (aMw A) t w j), vI (gF (aLb A) t l j), vR 2, vR (520 + 6 * j), vR (521 + 6 * j), vI (gF (aLf A) t f j), vR (522 + 6 * j)]) : gE) = eTr A j
    rw [gF_n hj, gF_n hj, gF_n hj, gF_n hj, gF_n hj, gF_n hj]
  funext a
  unfold gU
  by_cases ha : a = 517 + 6 * t
  · rw [if_pos ha, ha, hp_tr ht]
    show _ = some (.inr (2, [vR (oA (256 + t)), vI (gF (aRu A) t r t), vI (gF (aBl A) t b t), vI (gF (aMa A) t m t), vI (gF (aMw A) t w t), vI (gF (aLb A) t l t), vR 2, vR (520 + 6 * t), vR (521 + 6 * t), vI (gF (aLf A) t f t), vR (522 + 6 * t)]) : gE)
    rw [gF_s, gF_s, gF_s, gF_s, gF_s, gF_s]
  · rw [if_neg ha]
    refine (hpx_congr (A := A) (A' := sTr A t r b m w l f) (fun _ => rfl) (fun j hj e => rfl) (fun j hj e => rfl) (fun t9 r9 ht9 hr9 e => ?_)).symm
    by_cases h9 : t9 = t
    · subst h9
      have hr0 : ¬ r9 = 0 := by omega
      unfold hpT
      rw [if_neg hr0, if_neg hr0]
      rfl
    · exact hpT_congr (A := A) (A' := sTr A t r b m w l f) r9 (hne _ h9) (fun q => rfl) (fun q => rfl) rfl rfl rfl
theorem up_po {x : Int} : gU (hpx A h0) 2 (.inr (1, [vI x, vR 3])) = hpx (sLe A x) h0 := by
  funext a
  unfold gU
  by_cases ha : a = 2
  · rw [if_pos ha, ha, hp_po]
    rfl
  · rw [if_neg ha]
    exact (hpx_congr (A := A) (A' := sLe A x) (fun q => absurd q ha) (fun j hj e => rfl) (fun j hj e => rfl) (fun t9 r9 ht9 hr9 e => rfl)).symm
theorem up_wy {f : Nat → Nat} (ht : t < 4) : gU (hpx A h0) (520 + 6 * t) (eRf f) = hpx (sWy A t f) h0 := by
  funext a
  unfold gU
  by_cases ha : a = 520 + 6 * t
  · rw [if_pos ha, ha, hp_wy ht]
    show _ = some (eRf (gF (aWy A) t f t))
    rw [gF_s]
  · rw [if_neg ha]
    refine (hpx_congr (A := A) (A' := sWy A t f) (fun _ => rfl) (fun j hj e => rfl) (fun j hj e => rfl) (fun t9 r9 ht9 hr9 e => ?_)).symm
    by_cases h9 : t9 = t
    · subst h9
      have hr0 : ¬ r9 = 3 := by omega
      unfold hpT
      rw [if_neg hr0, if_neg hr0]
      rfl
    · exact hpT_congr (A := A) (A' := sWy A t f) r9 rfl (fun q => rfl) (fun q => rfl) (gF_n h9) rfl rfl
theorem up_pl {f : Nat → Int} (ht : t < 4) : gU (hpx A h0) (521 + 6 * t) (gIA 6 f) = hpx (sPl A t f) h0 := by
  funext a
  unfold gU
  by_cases ha : a = 521 + 6 * t
  · rw [if_pos ha, ha, hp_pl ht]
    show _ = some (gIA 6 (gF (aPl A) t f t))
    rw [gF_s]
  · rw [if_neg ha]
    refine (hpx_congr (A := A) (A' := sPl A t f) (fun _ => rfl) (fun j hj e => rfl) (fun j hj e => rfl) (fun t9 r9 ht9 hr9 e => ?_)).symm
    by_cases h9 : t9 = t
    · subst h9
      have hr0 : ¬ r9 = 4 := by omega
      unfold hpT
      rw [if_neg hr0, if_neg hr0]
      rfl
    · exact hpT_congr (A := A) (A' := sPl A t f) r9 rfl (fun q => rfl) (fun q => rfl) rfl (gF_n h9) rfl
theorem up_fs {f : Nat → Nat} (ht : t < 4) : gU (hpx A h0) (522 + 6 * t) (eRf f) = hpx (sFs A t f) h0 := by
  funext a
  unfold gU
  by_cases ha : a = 522 + 6 * t
  · rw [if_pos ha, ha, hp_fs ht]
    show _ = some (eRf (gF (aFs A) t f t))
    rw [gF_s]
  · rw [if_neg ha]
    refine (hpx_congr (A := A) (A' := sFs A t f) (fun _ => rfl) (fun j hj e => rfl) (fun j hj e => rfl) (fun t9 r9 ht9 hr9 e => ?_)).symm
    by_cases h9 : t9 = t
    · subst h9
      unfold hpT
      by_cases d0 : r9 = 0
      · rw [if_pos d0, if_pos d0]
        rfl
      rw [if_neg d0, if_neg d0]
      by_cases d1 : r9 = 1
      · rw [if_pos d1, if_pos d1]
        rfl
      rw [if_neg d1, if_neg d1]
      by_cases d2 : r9 = 2
      · rw [if_pos d2, if_pos d2]
        rfl
      rw [if_neg d2, if_neg d2]
      by_cases d3 : r9 = 3
      · rw [if_pos d3, if_pos d3]
        rfl
      rw [if_neg d3, if_neg d3]
      by_cases d4 : r9 = 4
      · rw [if_pos d4, if_pos d4]
        rfl
      omega
    · exact hpT_congr (A := A) (A' := sFs A t f) r9 rfl (fun q => rfl) (fun q => rfl) rfl rfl (gF_n h9)
/-- a reference is put into a row of six -/
theorem eRf_set {f : Nat → Nat} {k : Nat} (hk : k < 6) : (.inl (2, 6, .inr (.inr (gF (fun k => if k < 6 then some (oA (f k)) else none) k (some (oA i))))) : gE) = eRf (gF f k i) := by
  congr 5
  funext q
  by_cases hq : q = k
  · subst hq
    rw [gF_s, if_pos hk, gF_s]
  · rw [gF_n hq, gF_n hq]
end
end
section
/-! Pool -/
theorem go_aaldS {G : gG} {M : gM} {F : gK → State → Prop} {pc : Nat} {lv : List (Option gV)} {st : List gV} {N : Option Nat} {h : gH} {c s : Nat} {pc0 nx k j : Nat} {z : Int} {a n ty r : Nat} {C : String} {i : Int} {f : Nat → Option Nat} (hM : gOk M) (hi : gAt (mT M) pc = some (pc0, .aaload, nx, z, k, j)) (hh : h a = some (.inl (ty, n, .inr (.inr f)))) (hty : gTy[ty]? = some (.object C)) (h0 : 0 ≤ i) (h1 : i < n) (hn : n ≤ 2147483647) (hf : f i.toNat = some r) (kk : Go G M F nx lv (vR r :: st) N h c s) : Go G M F pc lv (vI i :: vR a :: st) N h c s :=
  go_aald hM hi hh hty h0 h1 hn (by rw [hf]; exact kk)
section
variable {G : gG} {N : Option Nat} {A : cA} {h0 : gH}
theorem c_Pool_node {b : Int} (hb : 0 ≤ b ∧ b < 256) : Rd G m_Pool_node [vR 2, vI b] N (hpx A h0) (some (vR (oA b.toNat))) N (hpx A h0) := by
  refine Rn.of rfl rfl rfl ?_
  have hM := ok_Pool_node
  have k1 := hp_po (A := A) (h0 := h0)
  have k2 := hp_ns (A := A) (h0 := h0)
  repeat (first | refine go_pure hM rfl ?_ | (refine go_get (fs := ?_) (v := ?_) hM rfl ?_ ?_ ?_; rotate_left 2; assumption; rfl) | refine go_ldc hM rfl ?_)
  refine go_if_lt hM rfl (by omega) (fun hc => absurd hc (by omega)) (fun hc => ?_)
  repeat (first | refine go_pure hM rfl ?_ | (refine go_get (fs := ?_) (v := ?_) hM rfl ?_ ?_ ?_; rotate_left 2; assumption; rfl) | refine go_ldc hM rfl ?_)
  refine go_icmp_ge hM rfl (by omega) (by omega) (fun hc => absurd hc (by omega)) (fun hc => ?_)
  repeat (first | refine go_pure hM rfl ?_ | (refine go_get (fs := ?_) (v := ?_) hM rfl ?_ ?_ ?_; rotate_left 2; assumption; rfl) | refine go_ldc hM rfl ?_)
  refine go_aaldS hM rfl k2 rfl (by omega) (by omega) (by omega) (if_pos (by omega)) ?_
  repeat (first | refine go_pure hM rfl ?_ | (refine go_get (fs := ?_) (v := ?_) hM rfl ?_ ?_ ?_; rotate_left 2; assumption; rfl) | refine go_ldc hM rfl ?_)
  exact go_aret hM rfl rfl ⟨rfl, rfl, rfl⟩
theorem c_Pool_node_out {b : Int} (rb : (-2147483648 ≤ b ∧ b ≤ 2147483647)) (hb : ¬ (0 ≤ b ∧ b < 256)) : Rd G m_Pool_node [vR 2, vI b] N (hpx A h0) (some (vR (oA 0))) N (hpx A h0) := by
  refine Rn.of rfl rfl rfl ?_
  have hM := ok_Pool_node
  have k1 := hp_po (A := A) (h0 := h0)
  have k2 := hp_ns (A := A) (h0 := h0)
  repeat (first | refine go_pure hM rfl ?_ | (refine go_get (fs := ?_) (v := ?_) hM rfl ?_ ?_ ?_; rotate_left 2; assumption; rfl) | refine go_ldc hM rfl ?_)
  refine go_if_lt hM rfl rb (fun hc => ?_) (fun hc => ?_)
  · repeat (first | refine go_pure hM rfl ?_ | (refine go_get (fs := ?_) (v := ?_) hM rfl ?_ ?_ ?_; rotate_left 2; assumption; rfl) | refine go_ldc hM rfl ?_)
    refine go_aaldS hM rfl k2 rfl (by omega) (by omega) (by omega) (if_pos (by decide)) ?_
    exact go_aret hM rfl rfl ⟨rfl, rfl, rfl⟩
  · repeat (first | refine go_pure hM rfl ?_ | (refine go_get (fs := ?_) (v := ?_) hM rfl ?_ ?_ ?_; rotate_left 2; assumption; rfl) | refine go_ldc hM rfl ?_)
    refine go_icmp_ge hM rfl rb (by omega) (fun hc => ?_) (fun hc => absurd hb (by omega))
    repeat (first | refine go_pure hM rfl ?_ | (refine go_get (fs := ?_) (v := ?_) hM rfl ?_ ?_ ?_; rotate_left 2; assumption; rfl) | refine go_ldc hM rfl ?_)
    refine go_aaldS hM rfl k2 rfl (by omega) (by omega) (by omega) (if_pos (by decide)) ?_
    exact go_aret hM rfl rfl ⟨rfl, rfl, rfl⟩
theorem c_isTaken {b : Int} (hb : 0 ≤ b ∧ b < 256) (ht : aTk A b.toNat = 0 ∨ aTk A b.toNat = 1) : Rd G m_Pool_isTaken [vR 2, vI b] N (hpx A h0) (some (vI (aTk A b.toNat))) N (hpx A h0) := by
  refine Rn.of rfl rfl rfl ?_
  have hM := ok_Pool_isTaken
  have k1 := hp_po (A := A) (h0 := h0)
  have k3 := hp_nd (A := A) (h0 := h0) (i := b.toNat) (by omega)
  repeat (first | refine go_pure hM rfl ?_ | (refine go_get (fs := ?_) (v := ?_) hM rfl ?_ ?_ ?_; rotate_left 2; assumption; rfl) | refine go_ldc hM rfl ?_)
  refine go_cV hM rfl rfl rfl k1 rfl (c_Pool_node hb) rfl ?_
  refine go_get hM rfl k3 rfl ?_
  exact go_zret hM rfl rfl ht ⟨rfl, rfl, rfl⟩
theorem c_isTaken_out {b : Int} (rb : (-2147483648 ≤ b ∧ b ≤ 2147483647)) (hb : ¬ (0 ≤ b ∧ b < 256)) (ht : aTk A 0 = 0) : Rd G m_Pool_isTaken [vR 2, vI b] N (hpx A h0) (some (vI 0)) N (hpx A h0) := by
  refine Rn.of rfl rfl rfl ?_
  have hM := ok_Pool_isTaken
  have k1 := hp_po (A := A) (h0 := h0)
  have k3 := hp_nd (A := A) (h0 := h0) (i := 0) (by omega)
  repeat (first | refine go_pure hM rfl ?_ | (refine go_get (fs := ?_) (v := ?_) hM rfl ?_ ?_ ?_; rotate_left 2; assumption; rfl) | refine go_ldc hM rfl ?_)
  refine go_cV hM rfl rfl rfl k1 rfl (c_Pool_node_out rb hb) rfl ?_
  refine go_get hM rfl k3 rfl ?_
  exact go_zret hM rfl rfl (Or.inl ht) ⟨by rw [ht], rfl, rfl⟩
set_option maxHeartbeats 1000000 in
theorem c_takeLeast {b : Nat} (hb : 1 ≤ b ∧ b < 256) (h1 : aTk A b = 0) (h2 : ∀ j, 1 ≤ j → j < b → aTk A j = 1) : Rd G m_Pool_takeLeast [vR 2] N (hpx A h0) (some (vR (oA b))) N (hpx (sLe (sNd A b 1 (aDp A b) (aEn A b)) (aLe A - 1)) h0) := by
  refine Rn.of rfl rfl rfl ?_
  have hM := ok_Pool_takeLeast
  have k1 := hp_po (A := A) (h0 := h0)
  have k2 := hp_ns (A := A) (h0 := h0)
  have loop : ∀ (n j : Nat) (x : Option gV), b - j < n → 1 ≤ j → j ≤ b → Go G m_Pool_takeLeast (gFin G (gEq (some (vR (oA b))) N (hpx (sLe (sNd A b 1 (aDp A b) (aEn A b)) (aLe A - 1)) h0)) gNo) 2 [some (vR 2), some (vI j), x] [] N (hpx A h0) 0 0 := by
    intro n
    induction n with
    | zero => intro j x h3; omega
    | succ n ih =>
      intro j x h3 h4 h5
      have k3 := hp_nd (A := A) (h0 := h0) (i := j) (by omega)
      repeat (first | refine go_pure hM rfl ?_ | (refine go_get (fs := ?_) (v := ?_) hM rfl ?_ ?_ ?_; rotate_left 2; assumption; rfl) | refine go_ldc hM rfl ?_)
      refine go_icmp_ge hM rfl (by omega) (by omega) (fun hc => absurd hc (by omega)) (fun hc => ?_)
      repeat (first | refine go_pure hM rfl ?_ | (refine go_get (fs := ?_) (v := ?_) hM rfl ?_ ?_ ?_; rotate_left 2; assumption; rfl) | refine go_ldc hM rfl ?_)
      refine go_aaldS (r := oA j) hM rfl k2 rfl (by omega) (by omega) (by omega) (by show (if ((j : Int)).toNat < 256 then some (oA (j : Int).toNat) else none) = _; rw [if_pos (by omega)]; rfl) ?_
      repeat (first | refine go_pure hM rfl ?_ | (refine go_get (fs := ?_) (v := ?_) hM rfl ?_ ?_ ?_; rotate_left 2; assumption; rfl) | refine go_ldc hM rfl ?_)
      by_cases h6 : j = b
      · subst h6
        rw [h1]
        refine go_if_ne hM rfl (by omega) (fun hc => absurd rfl hc) (fun hc => ?_)
        repeat (first | refine go_pure hM rfl ?_ | (refine go_get (fs := ?_) (v := ?_) hM rfl ?_ ?_ ?_; rotate_left 2; assumption; rfl) | refine go_ldc hM rfl ?_)
        refine go_put hM rfl k3 rfl rfl ?_
        rw [up_nd (by omega)]
        have k4 := hp_po (A := sNd A j 1 (aDp A j) (aEn A j)) (h0 := h0)
        repeat (first | refine go_pure hM rfl ?_ | (refine go_get (fs := ?_) (v := ?_) hM rfl ?_ ?_ ?_; rotate_left 2; assumption; rfl) | refine go_ldc hM rfl ?_)
        refine go_put hM rfl k4 rfl rfl ?_
        rw [up_po]
        repeat (first | refine go_pure hM rfl ?_ | (refine go_get (fs := ?_) (v := ?_) hM rfl ?_ ?_ ?_; rotate_left 2; assumption; rfl) | refine go_ldc hM rfl ?_)
        exact go_aret hM rfl rfl ⟨rfl, rfl, rfl⟩
      · rw [h2 j h4 (by omega)]
        refine go_if_ne hM rfl (by omega) (fun hc => ?_) (fun hc => absurd hc (by omega))
        repeat (first | exact ih (j + 1) _ (by omega) (by omega) (by omega) | refine go_pure hM rfl ?_ | (refine go_get (fs := ?_) (v := ?_) hM rfl ?_ ?_ ?_; rotate_left 2; assumption; rfl) | refine go_ldc hM rfl ?_)
  repeat (first | exact loop 300 1 _ (by omega) (by omega) (by omega) | refine go_pure hM rfl ?_ | (refine go_get (fs := ?_) (v := ?_) hM rfl ?_ ?_ ?_; rotate_left 2; assumption; rfl) | refine go_ldc hM rfl ?_)
theorem c_Pool_giveBack {i : Nat} (hi : i < 260) (h1 : aTk A i = 1) : Rd G m_Pool_giveBack [vR 2, vR (oA i)] N (hpx A h0) none N (hpx (sLe (sNd A i 0 (aDp A i) 0) (aLe A + 1)) h0) := by
  refine Rn.of rfl rfl rfl ?_
  have hM := ok_Pool_giveBack
  have k3 := hp_nd (A := A) (h0 := h0) hi
  repeat (first | refine go_pure hM rfl ?_ | (refine go_get (fs := ?_) (v := ?_) hM rfl ?_ ?_ ?_; rotate_left 2; assumption; rfl) | refine go_ldc hM rfl ?_)
  rw [h1]
  refine go_if_eq hM rfl (by omega) (fun hc => absurd hc (by omega)) (fun hc => ?_)
  repeat (first | refine go_pure hM rfl ?_ | (refine go_get (fs := ?_) (v := ?_) hM rfl ?_ ?_ ?_; rotate_left 2; assumption; rfl) | refine go_ldc hM rfl ?_)
  refine go_put hM rfl k3 rfl rfl ?_
  repeat (first | refine go_pure hM rfl ?_ | (refine go_get (fs := ?_) (v := ?_) hM rfl ?_ ?_ ?_; rotate_left 2; assumption; rfl) | refine go_ldc hM rfl ?_)
  refine go_put hM rfl (gU_s _ _ _) rfl rfl ?_
  rw [gU_uu, up_nd hi]
  have k4 := hp_po (A := sNd A i 0 (aDp A i) 0) (h0 := h0)
  repeat (first | refine go_pure hM rfl ?_ | (refine go_get (fs := ?_) (v := ?_) hM rfl ?_ ?_ ?_; rotate_left 2; assumption; rfl) | refine go_ldc hM rfl ?_)
  refine go_put hM rfl k4 rfl rfl ?_
  rw [up_po]
  exact go_vret hM rfl rfl ⟨rfl, rfl, rfl⟩
end
end
section
/-! Node's methods over the class's cells -/
def aOk (A : cA) : Prop := 5 ≤ aM A ∧ aM A ≤ 84 ∧ ∀ i, i < 260 → (0 ≤ aEn A i ∧ aEn A i ≤ aRm A i) ∧ (0 ≤ aDp A i ∧ aDp A i ≤ 5) ∧ ∀ q, 0 ≤ aWf A i q ∧ aWf A i q ≤ 16777216
theorem aOk.rm {A : cA} (h : aOk A) (i : Nat) : 4 ≤ (aRm A i : Int) ∧ (aRm A i : Int) ≤ 84 := by
  unfold aRm
  have := h.1
  have := h.2.1
  split <;> omega
theorem aOk.wd {A : cA} (h : aOk A) {i : Nat} (hi : i < 260) (p k : Int) : 0 ≤ gWd (aWf A i) (aEn A i) p k ∧ gWd (aWf A i) (aEn A i) p k ≤ 16777216 := by
  unfold gWd
  split
  · exact (h.2.2 i hi).2.2 _
  · omega
theorem wA_ne {i : Nat} : oA i ≠ wA i := by
  unfold wA
  omega
theorem oA_inj {i j : Nat} (hi : i < 260) (hj : j < 260) (h : oA i = oA j) : i = j := by
  unfold oA at h
  split at h <;> split at h <;> omega
theorem oA_wA {i j : Nat} (hi : i < 260) (hj : j < 260) : oA i ≠ wA j := by
  unfold wA oA
  split <;> split <;> omega
section
variable {G : gG} {N : Option Nat} {A : cA} {h0 : gH} {i : Nat} {p : Int}
theorem p_isFull (ok : aOk A) (hi : i < 260) : Rd G m_Node_isFull [vR (oA i)] N (hpx A h0) (some (vI (if (aRm A i : Int) ≤ aEn A i then 1 else 0))) N (hpx A h0) := c_isFull (hp_nd hi) (ok.rm i) (ok.2.2 i hi).1
theorem p_hasEntry (ok : aOk A) (hi : i < 260) (rp : (-2147483648 ≤ p ∧ p ≤ 2147483647)) : Rd G m_Node_hasEntry [vR (oA i), vI p] N (hpx A h0) (some (vI (if 0 ≤ p ∧ p < aEn A i then 1 else 0))) N (hpx A h0) := c_hasEntry (hp_nd hi) (ok.rm i) (ok.2.2 i hi).1 rp
theorem p_firstAt (ok : aOk A) (hi : i < 260) (rp : (-2147483648 ≤ p ∧ p ≤ 2147483647)) : Rd G m_Node_firstAt [vR (oA i), vI p] N (hpx A h0) (some (vI (gWd (aWf A i) (aEn A i) p 0))) N (hpx A h0) := c_firstAt (hp_nd hi) (hp_wd hi) (by omega) (ok.rm i) (ok.2.2 i hi).1 rp
theorem p_belowAt (ok : aOk A) (hi : i < 260) (rp : (-2147483648 ≤ p ∧ p ≤ 2147483647)) : Rd G m_Node_belowAt [vR (oA i), vI p] N (hpx A h0) (some (vI (gWd (aWf A i) (aEn A i) p 1))) N (hpx A h0) := c_belowAt (hp_nd hi) (hp_wd hi) (by omega) (ok.rm i) (ok.2.2 i hi).1 rp
theorem p_volumeAt (ok : aOk A) (hi : i < 260) (rp : (-2147483648 ≤ p ∧ p ≤ 2147483647)) : Rd G m_Node_volumeAt [vR (oA i), vI p] N (hpx A h0) (some (vI (gWd (aWf A i) (aEn A i) p 2))) N (hpx A h0) := c_volumeAt (hp_nd hi) (hp_wd hi) (by omega) (ok.rm i) (ok.2.2 i hi).1 rp
theorem p_lengthAt (ok : aOk A) (hi : i < 260) (rp : (-2147483648 ≤ p ∧ p ≤ 2147483647)) : Rd G m_Node_lengthAt [vR (oA i), vI p] N (hpx A h0) (some (vI (gLn (gWd (aWf A i) (aEn A i) p 1)))) N (hpx A h0) := c_lengthAt (hp_nd hi) (hp_wd hi) (by omega) (ok.rm i) (ok.2.2 i hi).1 rp (by have := ok.wd hi p 1; omega)
theorem p_isWrittenAt (ok : aOk A) (hi : i < 260) (rp : (-2147483648 ≤ p ∧ p ≤ 2147483647)) : Rd G m_Node_isWrittenAt [vR (oA i), vI p] N (hpx A h0) (some (vI (if (0 ≤ p ∧ p < aEn A i) ∧ gWd (aWf A i) (aEn A i) p 1 ≤ 32768 then 1 else 0))) N (hpx A h0) := c_isWrittenAt (hp_nd hi) (hp_wd hi) (by omega) (ok.rm i) (ok.2.2 i hi).1 rp (by have := ok.wd hi p 1; omega)
theorem p_lastUpTo {b : Int} (ok : aOk A) (hi : i < 260) (rb : (-2147483648 ≤ b ∧ b ≤ 2147483647)) (hs : ∀ x y : Nat, x ≤ y → (y : Int) < aEn A i → aWf A i (x * 3) ≤ aWf A i (y * 3)) : Rd G m_Node_lastUpTo [vR (oA i), vI b] N (hpx A h0) (some (vI (gLu (aWf A i) b (aEn A i).toNat))) N (hpx A h0) := c_lastUpTo (hp_nd hi) (hp_wd hi) (by omega) (ok.rm i) (ok.2.2 i hi).1 rb (fun q => by have := (ok.2.2 i hi).2.2 q; omega) hs
theorem p_byteAt (ok : aOk A) (hi : i < 260) (hp : 0 ≤ p ∧ p ≤ 1023) : Rd G m_Node_byteAt [vR (oA i), vI p] N (hpx A h0) (some (vI (gBy (gWb (aWf A i) (aRm A i) (aDp A i) (aEn A i) (p / 4)) (p % 4)))) N (hpx A h0) := c_byteAt (hp_nd hi) (hp_wd hi) (by omega) (ok.rm i) (ok.2.2 i hi).1 (ok.2.2 i hi).2.1 hp (fun q => by have := (ok.2.2 i hi).2.2 q; omega)
theorem p_setFirst {x : Int} (ok : aOk A) (hi : i < 260) (hp : 0 ≤ p ∧ p < aEn A i) : Rd G m_Node_setFirst [vR (oA i), vI p, vI x] N (hpx A h0) none N (hpx (sWf A i (gF (aWf A i) (p * 3).toNat x)) h0) := by
  have q := c_setFirst (G := G) (N := N) (x := x) (hp_nd (A := A) (h0 := h0) hi) (hp_wd hi) (by omega) (ok.rm i) (ok.2.2 i hi).1 (by have := ok.rm i; have := (ok.2.2 i hi).1; omega) hp
  rw [up_wd hi] at q
  exact q
theorem p_setEntry {x y z : Int} (ok : aOk A) (hi : i < 260) (hp : 0 ≤ p ∧ p < aEn A i) : Rd G m_Node_setEntry [vR (oA i), vI p, vI x, vI y, vI z] N (hpx A h0) none N (hpx (sWf A i (gT3 (aWf A i) (p * 3).toNat x y z)) h0) := by
  have q := c_setEntry (G := G) (N := N) (x := x) (y := y) (z := z) (hp_nd (A := A) (h0 := h0) hi) (hp_wd hi) (by omega) (ok.rm i) (ok.2.2 i hi).1 wA_ne (by have := ok.rm i; have := (ok.2.2 i hi).1; omega) hp
  rw [up_wd hi] at q
  exact q
theorem p_insert {x y z : Int} (ok : aOk A) (hi : i < 260) (hp : 0 ≤ p ∧ p ≤ aEn A i) (hf : aEn A i < aRm A i) : Rd G m_Node_insert [vR (oA i), vI p, vI x, vI y, vI z] N (hpx A h0) none none (hpx (sNd (sWf A i (gIns (aWf A i) (aEn A i) p x y z)) i (aTk A i) (aDp A i) (aEn A i + 1)) h0) := by
  have q := c_insert (G := G) (N := N) (x := x) (y := y) (z := z) (hp_nd (A := A) (h0 := h0) hi) (hp_wd hi) (by omega) (ok.rm i) (ok.2.2 i hi).1 wA_ne hp hf
  rw [up_wd hi] at q
  have e : ∀ A' : cA, aRm A' i = aRm A i → gU (hpx A' h0) (oA i) (gNd (nNo i) (aRm A i : Int) (aTk A i) (aDp A i) (aEn A i + 1) (wA i)) = hpx (sNd A' i (aTk A i) (aDp A i) (aEn A i + 1)) h0 := fun A' h9 => by rw [← h9]; exact up_nd hi
  rw [e (sWf A i _) rfl] at q
  exact q
theorem p_remove (ok : aOk A) (hi : i < 260) (hp : 0 ≤ p ∧ p < aEn A i) : Rd G m_Node_remove [vR (oA i), vI p] N (hpx A h0) none none (hpx (sNd (sWf A i (gRem (aWf A i) (aEn A i) p)) i (aTk A i) (aDp A i) (aEn A i - 1)) h0) := by
  have q := c_remove (G := G) (N := N) (hp_nd (A := A) (h0 := h0) hi) (hp_wd hi) (by omega) (ok.rm i) (ok.2.2 i hi).1 wA_ne hp
  rw [up_wd hi] at q
  have e : ∀ A' : cA, aRm A' i = aRm A i → gU (hpx A' h0) (oA i) (gNd (nNo i) (aRm A i : Int) (aTk A i) (aDp A i) (aEn A i - 1) (wA i)) = hpx (sNd A' i (aTk A i) (aDp A i) (aEn A i - 1)) h0 := fun A' h9 => by rw [← h9]; exact up_nd hi
  rw [e (sWf A i _) rfl] at q
  exact q
theorem p_moveTail {j : Nat} (ok : aOk A) (hi : i < 260) (hj : j < 260) (hij : i ≠ j) (hp : 0 ≤ p ∧ p ≤ aEn A i) (hm : aEn A i - p ≤ aRm A j) : Rd G m_Node_moveTail [vR (oA i), vI p, vR (oA j)] N (hpx A h0) none none (hpx (sNd (sNd (sWf A j (gCp (aWf A i) (aWf A j) (p * 3).toNat 0 ((aEn A i - p) * 3).toNat)) j (aTk A j) (aDp A i) (aEn A i - p)) i (aTk A i) (aDp A i) p) h0) := by
  have q := c_moveTail (G := G) (N := N) (hp_nd (A := A) (h0 := h0) hi) (hp_wd hi) (by omega) (ok.rm i) (ok.2.2 i hi).1 (hp_nd hj) (hp_wd hj) (by omega) (ok.rm j) wA_ne (fun h9 => hij (oA_inj hi hj h9)) (oA_wA hi hj) wA_ne (oA_wA hj hi) hp hm
  rw [up_wd hj] at q
  have e : ∀ (A' : cA) (x y z : Int) (k : Nat), k < 260 → aRm A' k = aRm A k → gU (hpx A' h0) (oA k) (gNd (nNo k) (aRm A k : Int) x y z (wA k)) = hpx (sNd A' k x y z) h0 := fun A' x y z k hk h9 => by rw [← h9]; exact up_nd hk
  rw [e (sWf A j _) _ _ _ j hj rfl, e (sNd (sWf A j _) j _ _ _) _ _ _ i hi rfl] at q
  exact q
end
end
section
/-! Tree: what it reads and counts -/
def rF (A : cA) (t l : Nat) : Int := gWd (aWf A (aWy A t l)) (aEn A (aWy A t l)) (aPl A t l) 0
def rL (A : cA) (t l : Nat) : Int := gLn (gWd (aWf A (aWy A t l)) (aEn A (aWy A t l)) (aPl A t l) 1)
def rV (A : cA) (t l : Nat) : Int := gWd (aWf A (aWy A t l)) (aEn A (aWy A t l)) (aPl A t l) 2
def rW (A : cA) (t l : Nat) : Int := if (0 ≤ aPl A t l ∧ aPl A t l < aEn A (aWy A t l)) ∧ gWd (aWf A (aWy A t l)) (aEn A (aWy A t l)) (aPl A t l) 1 ≤ 32768 then 1 else 0
theorem rW_01 (A : cA) (t l : Nat) : rW A t l = 0 ∨ rW A t l = 1 := by
  unfold rW
  split
  · exact Or.inr rfl
  · exact Or.inl rfl
theorem rF_r {A : cA} {t l : Nat} (ok : aOk A) (hw : aWy A t l < 260) : 0 ≤ rF A t l ∧ rF A t l ≤ 16777216 := ok.wd hw _ _
theorem rV_r {A : cA} {t l : Nat} (ok : aOk A) (hw : aWy A t l < 260) : 0 ≤ rV A t l ∧ rV A t l ≤ 16777216 := ok.wd hw _ _
theorem rL_r {A : cA} {t l : Nat} (ok : aOk A) (hw : aWy A t l < 260) : 0 ≤ rL A t l ∧ rL A t l ≤ 16777216 := by
  have := ok.wd hw (aPl A t l) 1
  unfold rL gLn
  split <;> omega
section
variable {G : gG} {N : Option Nat} {A : cA} {h0 : gH} {t l : Nat}
theorem c_longest {w : Int} {h : gH} (hw : w = 0 ∨ w = 1) : Rd G m_ET_longest [vI w] N h (some (vI (if w = 1 then 32768 else 32767))) N h := by
  refine Rn.of rfl rfl rfl ?_
  have hM := ok_ET_longest
  repeat (first | refine go_pure hM rfl ?_ | (refine go_get (fs := ?_) (v := ?_) hM rfl ?_ ?_ ?_; rotate_left 2; assumption; rfl) | refine go_ldc hM rfl ?_)
  refine go_if_eq hM rfl (by omega) (fun hc => ?_) (fun hc => ?_)
  · repeat (first | refine go_pure hM rfl ?_ | (refine go_get (fs := ?_) (v := ?_) hM rfl ?_ ?_ ?_; rotate_left 2; assumption; rfl) | refine go_ldc hM rfl ?_)
    exact go_iret hM rfl rfl ⟨by rw [if_neg (by omega)], rfl, rfl⟩
  · repeat (first | refine go_pure hM rfl ?_ | (refine go_get (fs := ?_) (v := ?_) hM rfl ?_ ?_ ?_; rotate_left 2; assumption; rfl) | refine go_ldc hM rfl ?_)
    exact go_iret hM rfl rfl ⟨by rw [if_pos (by omega)], rfl, rfl⟩
theorem c_marked {x w : Int} {h : gH} (hw : w = 0 ∨ w = 1) : Rd G m_Tree_marked [vI x, vI w] N h (some (vI (if w = 1 then x else x + 32768))) N h := by
  refine Rn.of rfl rfl rfl ?_
  have hM := ok_Tree_marked
  repeat (first | refine go_pure hM rfl ?_ | (refine go_get (fs := ?_) (v := ?_) hM rfl ?_ ?_ ?_; rotate_left 2; assumption; rfl) | refine go_ldc hM rfl ?_)
  refine go_if_eq hM rfl (by omega) (fun hc => ?_) (fun hc => ?_)
  · repeat (first | refine go_pure hM rfl ?_ | (refine go_get (fs := ?_) (v := ?_) hM rfl ?_ ?_ ?_; rotate_left 2; assumption; rfl) | refine go_ldc hM rfl ?_)
    exact go_iret hM rfl rfl ⟨by rw [if_neg (by omega)], rfl, rfl⟩
  · repeat (first | refine go_pure hM rfl ?_ | (refine go_get (fs := ?_) (v := ?_) hM rfl ?_ ?_ ?_; rotate_left 2; assumption; rfl) | refine go_ldc hM rfl ?_)
    exact go_iret hM rfl rfl ⟨by rw [if_pos (by omega)], rfl, rfl⟩
theorem c_leaves (ok : aOk A) (ht : t < 4) : Rd G m_Tree_leaves [vR (517 + 6 * t)] N (hpx A h0) (some (vI (if aDp A (256 + t) = 0 then 1 else aLb A t))) N (hpx A h0) := by
  refine Rn.of rfl rfl rfl ?_
  have hM := ok_Tree_leaves
  have k1 := hp_tr (A := A) (h0 := h0) ht
  have k2 := hp_nd (A := A) (h0 := h0) (i := 256 + t) (by omega)
  have := (ok.2.2 (256 + t) (by omega)).2.1
  repeat (first | refine go_pure hM rfl ?_ | (refine go_get (fs := ?_) (v := ?_) hM rfl ?_ ?_ ?_; rotate_left 2; assumption; rfl) | refine go_ldc hM rfl ?_)
  refine go_if_ne hM rfl (by omega) (fun hc => ?_) (fun hc => ?_)
  · repeat (first | refine go_pure hM rfl ?_ | (refine go_get (fs := ?_) (v := ?_) hM rfl ?_ ?_ ?_; rotate_left 2; assumption; rfl) | refine go_ldc hM rfl ?_)
    exact go_iret hM rfl rfl ⟨by rw [if_neg hc], rfl, rfl⟩
  · repeat (first | refine go_pure hM rfl ?_ | (refine go_get (fs := ?_) (v := ?_) hM rfl ?_ ?_ ?_; rotate_left 2; assumption; rfl) | refine go_ldc hM rfl ?_)
    exact go_iret hM rfl rfl ⟨by rw [if_pos hc], rfl, rfl⟩
theorem c_roomForOne (ok : aOk A) (ht : t < 4) (hle : 0 ≤ aLe A ∧ aLe A ≤ 255) : Rd G m_Tree_roomForOne [vR (517 + 6 * t)] N (hpx A h0) (some (vI (if aDp A (256 + t) + 1 ≤ aLe A ∧ ¬ (5 ≤ aDp A (256 + t) ∧ 4 ≤ aEn A (256 + t)) then 1 else 0))) N (hpx A h0) := by
  refine Rn.of rfl rfl rfl ?_
  have hM := ok_Tree_roomForOne
  have k1 := hp_tr (A := A) (h0 := h0) ht
  have k2 := hp_nd (A := A) (h0 := h0) (i := 256 + t) (by omega)
  have k3 := hp_po (A := A) (h0 := h0)
  have d1 := (ok.2.2 (256 + t) (by omega)).2.1
  have e1 : aRm A (256 + t) = 4 := if_neg (by omega)
  repeat (first | refine go_pure hM rfl ?_ | (refine go_get (fs := ?_) (v := ?_) hM rfl ?_ ?_ ?_; rotate_left 2; assumption; rfl) | refine go_ldc hM rfl ?_)
  refine go_icmp_lt hM rfl (by omega) (by omega) (fun hc => ?_) (fun hc => ?_)
  · repeat (first | refine go_pure hM rfl ?_ | (refine go_get (fs := ?_) (v := ?_) hM rfl ?_ ?_ ?_; rotate_left 2; assumption; rfl) | refine go_ldc hM rfl ?_)
    exact go_zret hM rfl rfl (Or.inl rfl) ⟨by rw [if_neg (by omega)], rfl, rfl⟩
  · repeat (first | refine go_pure hM rfl ?_ | (refine go_get (fs := ?_) (v := ?_) hM rfl ?_ ?_ ?_; rotate_left 2; assumption; rfl) | refine go_ldc hM rfl ?_)
    refine go_icmp_lt hM rfl (by omega) (by omega) (fun hc1 => ?_) (fun hc1 => ?_)
    · repeat (first | refine go_pure hM rfl ?_ | (refine go_get (fs := ?_) (v := ?_) hM rfl ?_ ?_ ?_; rotate_left 2; assumption; rfl) | refine go_ldc hM rfl ?_)
      exact go_zret hM rfl rfl (Or.inr rfl) ⟨by rw [if_pos (by omega)], rfl, rfl⟩
    · repeat (first | refine go_pure hM rfl ?_ | (refine go_get (fs := ?_) (v := ?_) hM rfl ?_ ?_ ?_; rotate_left 2; assumption; rfl) | refine go_ldc hM rfl ?_)
      have q := p_isFull (G := G) (N := N) (h0 := h0) ok (i := 256 + t) (by omega)
      rw [e1] at q
      by_cases hf : (4 : Int) ≤ aEn A (256 + t)
      · have hf2 : ((4 : Nat) : Int) ≤ aEn A (256 + t) := hf
        rw [if_pos hf2] at q
        refine go_cV hM rfl rfl rfl k2 rfl q rfl ?_
        refine go_if_ne hM rfl (by omega) (fun hc2 => ?_) (fun hc2 => absurd hc2 (by omega))
        repeat (first | refine go_pure hM rfl ?_ | (refine go_get (fs := ?_) (v := ?_) hM rfl ?_ ?_ ?_; rotate_left 2; assumption; rfl) | refine go_ldc hM rfl ?_)
        exact go_zret hM rfl rfl (Or.inl rfl) ⟨by rw [if_neg (by omega)], rfl, rfl⟩
      · have hf2 : ¬ ((4 : Nat) : Int) ≤ aEn A (256 + t) := hf
        rw [if_neg hf2] at q
        refine go_cV hM rfl rfl rfl k2 rfl q rfl ?_
        refine go_if_ne hM rfl (by omega) (fun hc2 => absurd rfl hc2) (fun hc2 => ?_)
        repeat (first | refine go_pure hM rfl ?_ | (refine go_get (fs := ?_) (v := ?_) hM rfl ?_ ?_ ?_; rotate_left 2; assumption; rfl) | refine go_ldc hM rfl ?_)
        exact go_zret hM rfl rfl (Or.inr rfl) ⟨by rw [if_pos (by omega)], rfl, rfl⟩
theorem c_roomForTwo (ok : aOk A) (ht : t < 4) (hle : 0 ≤ aLe A ∧ aLe A ≤ 255) : Rd G m_Tree_roomForTwo [vR (517 + 6 * t)] N (hpx A h0) (some (vI (if 2 * aDp A (256 + t) + 3 ≤ aLe A ∧ ¬ (4 ≤ aDp A (256 + t) ∧ 4 ≤ aEn A (256 + t)) then 1 else 0))) N (hpx A h0) := by
  refine Rn.of rfl rfl rfl ?_
  have hM := ok_Tree_roomForTwo
  have k1 := hp_tr (A := A) (h0 := h0) ht
  have k2 := hp_nd (A := A) (h0 := h0) (i := 256 + t) (by omega)
  have k3 := hp_po (A := A) (h0 := h0)
  have d1 := (ok.2.2 (256 + t) (by omega)).2.1
  have e1 : aRm A (256 + t) = 4 := if_neg (by omega)
  repeat (first | refine go_pure hM rfl ?_ | (refine go_get (fs := ?_) (v := ?_) hM rfl ?_ ?_ ?_; rotate_left 2; assumption; rfl) | refine go_ldc hM rfl ?_)
  refine go_icmp_lt hM rfl (by omega) (by omega) (fun hc => ?_) (fun hc => ?_)
  · repeat (first | refine go_pure hM rfl ?_ | (refine go_get (fs := ?_) (v := ?_) hM rfl ?_ ?_ ?_; rotate_left 2; assumption; rfl) | refine go_ldc hM rfl ?_)
    exact go_zret hM rfl rfl (Or.inl rfl) ⟨by rw [if_neg (by omega)], rfl, rfl⟩
  · repeat (first | refine go_pure hM rfl ?_ | (refine go_get (fs := ?_) (v := ?_) hM rfl ?_ ?_ ?_; rotate_left 2; assumption; rfl) | refine go_ldc hM rfl ?_)
    refine go_icmp_lt hM rfl (by omega) (by omega) (fun hc1 => ?_) (fun hc1 => ?_)
    · repeat (first | refine go_pure hM rfl ?_ | (refine go_get (fs := ?_) (v := ?_) hM rfl ?_ ?_ ?_; rotate_left 2; assumption; rfl) | refine go_ldc hM rfl ?_)
      exact go_zret hM rfl rfl (Or.inr rfl) ⟨by rw [if_pos (by omega)], rfl, rfl⟩
    · repeat (first | refine go_pure hM rfl ?_ | (refine go_get (fs := ?_) (v := ?_) hM rfl ?_ ?_ ?_; rotate_left 2; assumption; rfl) | refine go_ldc hM rfl ?_)
      have q := p_isFull (G := G) (N := N) (h0 := h0) ok (i := 256 + t) (by omega)
      rw [e1] at q
      by_cases hf : (4 : Int) ≤ aEn A (256 + t)
      · have hf2 : ((4 : Nat) : Int) ≤ aEn A (256 + t) := hf
        rw [if_pos hf2] at q
        refine go_cV hM rfl rfl rfl k2 rfl q rfl ?_
        refine go_if_ne hM rfl (by omega) (fun hc2 => ?_) (fun hc2 => absurd hc2 (by omega))
        repeat (first | refine go_pure hM rfl ?_ | (refine go_get (fs := ?_) (v := ?_) hM rfl ?_ ?_ ?_; rotate_left 2; assumption; rfl) | refine go_ldc hM rfl ?_)
        exact go_zret hM rfl rfl (Or.inl rfl) ⟨by rw [if_neg (by omega)], rfl, rfl⟩
      · have hf2 : ¬ ((4 : Nat) : Int) ≤ aEn A (256 + t) := hf
        rw [if_neg hf2] at q
        refine go_cV hM rfl rfl rfl k2 rfl q rfl ?_
        refine go_if_ne hM rfl (by omega) (fun hc2 => absurd rfl hc2) (fun hc2 => ?_)
        repeat (first | refine go_pure hM rfl ?_ | (refine go_get (fs := ?_) (v := ?_) hM rfl ?_ ?_ ?_; rotate_left 2; assumption; rfl) | refine go_ldc hM rfl ?_)
        exact go_zret hM rfl rfl (Or.inr rfl) ⟨by rw [if_pos (by omega)], rfl, rfl⟩
theorem c_runFirst (ok : aOk A) (ht : t < 4) (hl : aLf A t = (l : Int)) (hl6 : l < 6) (hw : aWy A t l < 260) (rp : (-2147483648 ≤ aPl A t l ∧ aPl A t l ≤ 2147483647)) : Rd G m_Tree_runFirst [vR (517 + 6 * t)] N (hpx A h0) (some (vI (rF A t l))) N (hpx A h0) := by
  refine Rn.of rfl rfl rfl ?_
  have hM := ok_Tree_runFirst
  have k1 := hp_tr (A := A) (h0 := h0) ht
  have k2 := hp_wy (A := A) (h0 := h0) ht
  have k3 := hp_pl (A := A) (h0 := h0) ht
  have e9 : (aLf A t).toNat = l := by omega
  repeat (first | refine go_pure hM rfl ?_ | (refine go_get (fs := ?_) (v := ?_) hM rfl ?_ ?_ ?_; rotate_left 2; assumption; rfl) | refine go_ldc hM rfl ?_)
  refine go_aaldS (r := oA (aWy A t l)) hM rfl k2 rfl (by omega) (by omega) (by omega) (by rw [e9]; exact if_pos hl6) ?_
  repeat (first | refine go_pure hM rfl ?_ | (refine go_get (fs := ?_) (v := ?_) hM rfl ?_ ?_ ?_; rotate_left 2; assumption; rfl) | refine go_ldc hM rfl ?_)
  refine go_iald hM rfl k3 (by omega) (by omega) (by omega) ?_
  rw [e9]
  refine go_cV hM rfl rfl rfl (hp_nd hw) rfl (p_firstAt ok hw rp) rfl ?_
  exact go_iret hM rfl rfl ⟨rfl, rfl, rfl⟩
theorem c_runLength (ok : aOk A) (ht : t < 4) (hl : aLf A t = (l : Int)) (hl6 : l < 6) (hw : aWy A t l < 260) (rp : (-2147483648 ≤ aPl A t l ∧ aPl A t l ≤ 2147483647)) : Rd G m_Tree_runLength [vR (517 + 6 * t)] N (hpx A h0) (some (vI (rL A t l))) N (hpx A h0) := by
  refine Rn.of rfl rfl rfl ?_
  have hM := ok_Tree_runLength
  have k1 := hp_tr (A := A) (h0 := h0) ht
  have k2 := hp_wy (A := A) (h0 := h0) ht
  have k3 := hp_pl (A := A) (h0 := h0) ht
  have e9 : (aLf A t).toNat = l := by omega
  repeat (first | refine go_pure hM rfl ?_ | (refine go_get (fs := ?_) (v := ?_) hM rfl ?_ ?_ ?_; rotate_left 2; assumption; rfl) | refine go_ldc hM rfl ?_)
  refine go_aaldS (r := oA (aWy A t l)) hM rfl k2 rfl (by omega) (by omega) (by omega) (by rw [e9]; exact if_pos hl6) ?_
  repeat (first | refine go_pure hM rfl ?_ | (refine go_get (fs := ?_) (v := ?_) hM rfl ?_ ?_ ?_; rotate_left 2; assumption; rfl) | refine go_ldc hM rfl ?_)
  refine go_iald hM rfl k3 (by omega) (by omega) (by omega) ?_
  rw [e9]
  refine go_cV hM rfl rfl rfl (hp_nd hw) rfl (p_lengthAt ok hw rp) rfl ?_
  exact go_iret hM rfl rfl ⟨rfl, rfl, rfl⟩
theorem c_runVolume (ok : aOk A) (ht : t < 4) (hl : aLf A t = (l : Int)) (hl6 : l < 6) (hw : aWy A t l < 260) (rp : (-2147483648 ≤ aPl A t l ∧ aPl A t l ≤ 2147483647)) : Rd G m_Tree_runVolume [vR (517 + 6 * t)] N (hpx A h0) (some (vI (rV A t l))) N (hpx A h0) := by
  refine Rn.of rfl rfl rfl ?_
  have hM := ok_Tree_runVolume
  have k1 := hp_tr (A := A) (h0 := h0) ht
  have k2 := hp_wy (A := A) (h0 := h0) ht
  have k3 := hp_pl (A := A) (h0 := h0) ht
  have e9 : (aLf A t).toNat = l := by omega
  repeat (first | refine go_pure hM rfl ?_ | (refine go_get (fs := ?_) (v := ?_) hM rfl ?_ ?_ ?_; rotate_left 2; assumption; rfl) | refine go_ldc hM rfl ?_)
  refine go_aaldS (r := oA (aWy A t l)) hM rfl k2 rfl (by omega) (by omega) (by omega) (by rw [e9]; exact if_pos hl6) ?_
  repeat (first | refine go_pure hM rfl ?_ | (refine go_get (fs := ?_) (v := ?_) hM rfl ?_ ?_ ?_; rotate_left 2; assumption; rfl) | refine go_ldc hM rfl ?_)
  refine go_iald hM rfl k3 (by omega) (by omega) (by omega) ?_
  rw [e9]
  refine go_cV hM rfl rfl rfl (hp_nd hw) rfl (p_volumeAt ok hw rp) rfl ?_
  exact go_iret hM rfl rfl ⟨rfl, rfl, rfl⟩
theorem c_runIsWritten (ok : aOk A) (ht : t < 4) (hl : aLf A t = (l : Int)) (hl6 : l < 6) (hw : aWy A t l < 260) (rp : (-2147483648 ≤ aPl A t l ∧ aPl A t l ≤ 2147483647)) : Rd G m_Tree_runIsWritten [vR (517 + 6 * t)] N (hpx A h0) (some (vI (rW A t l))) N (hpx A h0) := by
  refine Rn.of rfl rfl rfl ?_
  have hM := ok_Tree_runIsWritten
  have k1 := hp_tr (A := A) (h0 := h0) ht
  have k2 := hp_wy (A := A) (h0 := h0) ht
  have k3 := hp_pl (A := A) (h0 := h0) ht
  have e9 : (aLf A t).toNat = l := by omega
  repeat (first | refine go_pure hM rfl ?_ | (refine go_get (fs := ?_) (v := ?_) hM rfl ?_ ?_ ?_; rotate_left 2; assumption; rfl) | refine go_ldc hM rfl ?_)
  refine go_aaldS (r := oA (aWy A t l)) hM rfl k2 rfl (by omega) (by omega) (by omega) (by rw [e9]; exact if_pos hl6) ?_
  repeat (first | refine go_pure hM rfl ?_ | (refine go_get (fs := ?_) (v := ?_) hM rfl ?_ ?_ ?_; rotate_left 2; assumption; rfl) | refine go_ldc hM rfl ?_)
  refine go_iald hM rfl k3 (by omega) (by omega) (by omega) ?_
  rw [e9]
  refine go_cV hM rfl rfl rfl (hp_nd hw) rfl (p_isWrittenAt ok hw rp) rfl ?_
  exact go_zret hM rfl rfl (rW_01 A t l) ⟨rfl, rfl, rfl⟩
theorem c_runEnd (ok : aOk A) (ht : t < 4) (hl : aLf A t = (l : Int)) (hl6 : l < 6) (hw : aWy A t l < 260) (rp : (-2147483648 ≤ aPl A t l ∧ aPl A t l ≤ 2147483647)) : Rd G m_Tree_runEnd [vR (517 + 6 * t)] N (hpx A h0) (some (vI (rF A t l + rL A t l))) N (hpx A h0) := by
  refine Rn.of rfl rfl rfl ?_
  have hM := ok_Tree_runEnd
  have k1 := hp_tr (A := A) (h0 := h0) ht
  repeat (first | refine go_pure hM rfl ?_ | (refine go_get (fs := ?_) (v := ?_) hM rfl ?_ ?_ ?_; rotate_left 2; assumption; rfl) | refine go_ldc hM rfl ?_)
  refine go_cV hM rfl rfl rfl k1 rfl (c_runFirst ok ht hl hl6 hw rp) rfl ?_
  repeat (first | refine go_pure hM rfl ?_ | (refine go_get (fs := ?_) (v := ?_) hM rfl ?_ ?_ ?_; rotate_left 2; assumption; rfl) | refine go_ldc hM rfl ?_)
  refine go_cV hM rfl rfl rfl k1 rfl (c_runLength ok ht hl hl6 hw rp) rfl ?_
  repeat (first | refine go_pure hM rfl ?_ | (refine go_get (fs := ?_) (v := ?_) hM rfl ?_ ?_ ?_; rotate_left 2; assumption; rfl) | refine go_ldc hM rfl ?_)
  exact go_iret hM rfl rfl ⟨rfl, rfl, rfl⟩
theorem c_countMapped {x w : Int} (ht : t < 4) (hw : w = 0 ∨ w = 1) : Rd G m_Tree_countMapped [vR (517 + 6 * t), vI x, vI w] N (hpx A h0) none N (hpx (sTr A t (aRu A t) (aBl A t) (aMa A t + x) (if w = 1 then aMw A t + x else aMw A t) (aLb A t) (aLf A t)) h0) := by
  refine Rn.of rfl rfl rfl ?_
  have hM := ok_Tree_countMapped
  have k1 := hp_tr (A := A) (h0 := h0) ht
  repeat (first | refine go_pure hM rfl ?_ | (refine go_get (fs := ?_) (v := ?_) hM rfl ?_ ?_ ?_; rotate_left 2; assumption; rfl) | refine go_ldc hM rfl ?_)
  refine go_put hM rfl k1 rfl rfl ?_
  repeat (first | refine go_pure hM rfl ?_ | (refine go_get (fs := ?_) (v := ?_) hM rfl ?_ ?_ ?_; rotate_left 2; assumption; rfl) | refine go_ldc hM rfl ?_)
  refine go_if_eq hM rfl (by omega) (fun hc => ?_) (fun hc => ?_)
  · rw [up_tr ht, if_neg (by omega)]
    exact go_vret hM rfl rfl ⟨rfl, rfl, rfl⟩
  · refine go_pure hM rfl ?_
    refine go_pure hM rfl ?_
    refine go_get hM rfl (gU_s _ _ _) rfl ?_
    repeat (first | refine go_pure hM rfl ?_ | (refine go_get (fs := ?_) (v := ?_) hM rfl ?_ ?_ ?_; rotate_left 2; assumption; rfl) | refine go_ldc hM rfl ?_)
    refine go_put hM rfl (gU_s _ _ _) rfl rfl ?_
    rw [gU_uu, up_tr ht, if_pos (by omega)]
    exact go_vret hM rfl rfl ⟨rfl, rfl, rfl⟩
theorem c_countBlock {i : Nat} {x : Int} (ok : aOk A) (ht : t < 4) (hi : i < 260) : Rd G m_Tree_countBlock [vR (517 + 6 * t), vR (oA i), vI x] N (hpx A h0) none N (hpx (sTr A t (aRu A t) (aBl A t + x) (aMa A t) (aMw A t) (if aDp A i = 0 then aLb A t + x else aLb A t) (aLf A t)) h0) := by
  refine Rn.of rfl rfl rfl ?_
  have hM := ok_Tree_countBlock
  have k1 := hp_tr (A := A) (h0 := h0) ht
  have d1 := (ok.2.2 i hi).2.1
  repeat (first | refine go_pure hM rfl ?_ | (refine go_get (fs := ?_) (v := ?_) hM rfl ?_ ?_ ?_; rotate_left 2; assumption; rfl) | refine go_ldc hM rfl ?_)
  refine go_put hM rfl k1 rfl rfl ?_
  have hne : oA i ≠ 517 + 6 * t := by
    unfold oA
    split <;> omega
  have k2 : gU (hpx A h0) (517 + 6 * t) (.inr (2, [vR (oA (256 + t)), vI (aRu A t), vI (aBl A t + x), vI (aMa A t), vI (aMw A t), vI (aLb A t), vR 2, vR (520 + 6 * t), vR (521 + 6 * t), vI (aLf A t), vR (522 + 6 * t)])) (oA i) = some (eNd A i) := by rw [gU_n hne]; exact hp_nd hi
  repeat (first | refine go_pure hM rfl ?_ | (refine go_get (fs := ?_) (v := ?_) hM rfl ?_ ?_ ?_; rotate_left 2; assumption; rfl) | refine go_ldc hM rfl ?_)
  refine go_if_ne hM rfl (by omega) (fun hc => ?_) (fun hc => ?_)
  · rw [up_tr ht, if_neg hc]
    exact go_vret hM rfl rfl ⟨rfl, rfl, rfl⟩
  · refine go_pure hM rfl ?_
    refine go_pure hM rfl ?_
    refine go_get hM rfl (gU_s _ _ _) rfl ?_
    repeat (first | refine go_pure hM rfl ?_ | (refine go_get (fs := ?_) (v := ?_) hM rfl ?_ ?_ ?_; rotate_left 2; assumption; rfl) | refine go_ldc hM rfl ?_)
    refine go_put hM rfl (gU_s _ _ _) rfl rfl ?_
    rw [gU_uu, up_tr ht, if_pos hc]
    exact go_vret hM rfl rfl ⟨rfl, rfl, rfl⟩
end
end
section
/-! Tree.find: the way to a file block -/
/-- the first k values of one, the others of another -/
def mix {α : Type} (f g : Nat → α) (k : Nat) : Nat → α := fun j => if j < k then f j else g j
theorem mix_0 {α : Type} (f g : Nat → α) : mix f g 0 = g := by
  funext j
  simp [mix]
theorem mix_s {α : Type} (f g : Nat → α) (k : Nat) : gF (mix f g k) k (f k) = mix f g (k + 1) := by
  funext j
  unfold gF mix
  by_cases h1 : j = k
  · rw [if_pos h1, if_pos (by omega), h1]
  · rw [if_neg h1]
    by_cases h2 : j < k
    · rw [if_pos h2, if_pos (by omega)]
    · rw [if_neg h2, if_neg (by omega)]
theorem gF_uu {α : Type} (f : Nat → α) (k : Nat) (x y : α) : gF (gF f k x) k y = gF f k y := by
  funext j
  unfold gF
  split <;> rfl
theorem gF_same {α : Type} (f : Nat → α) (k : Nat) : gF f k (f k) = f := by
  funext j
  unfold gF
  by_cases h : j = k
  · rw [if_pos h, h]
  · rw [if_neg h]
/-- the tree's row, with another leaf -/
def sLf (A : cA) (t : Nat) (x : Int) : cA := sTr A t (aRu A t) (aBl A t) (aMa A t) (aMw A t) (aLb A t) x
/-- another way, other places, another leaf -/
def fG (A : cA) (t : Nat) (f : Nat → Nat) (g : Nat → Int) (x : Int) : cA := (aTk A, aDp A, aEn A, aWf A, aRu A, aBl A, aMa A, aMw A, aLb A, gF (aLf A) t x, gF (aWy A) t f, gF (aPl A) t g, aFs A, aLe A, aM A)
theorem fG_0 (A : cA) (t : Nat) : fG A t (aWy A t) (aPl A t) (aLf A t) = A := by
  unfold fG
  rw [gF_same, gF_same, gF_same]
theorem fG_wy (A : cA) (t : Nat) (f : Nat → Nat) (g : Nat → Int) (x : Int) : aWy (fG A t f g x) t = f := gF_s _ _ _
theorem fG_pl (A : cA) (t : Nat) (f : Nat → Nat) (g : Nat → Int) (x : Int) : aPl (fG A t f g x) t = g := gF_s _ _ _
theorem fG_lf (A : cA) (t : Nat) (f : Nat → Nat) (g : Nat → Int) (x : Int) : aLf (fG A t f g x) t = x := gF_s _ _ _
theorem sWy_fG (A : cA) (t : Nat) (f f' : Nat → Nat) (g : Nat → Int) (x : Int) : sWy (fG A t f g x) t f' = fG A t f' g x := by
  show (aTk A, aDp A, aEn A, aWf A, aRu A, aBl A, aMa A, aMw A, aLb A, gF (aLf A) t x, gF (gF (aWy A) t f) t f', gF (aPl A) t g, aFs A, aLe A, aM A) = _
  rw [gF_uu]
  rfl
theorem sPl_fG (A : cA) (t : Nat) (f : Nat → Nat) (g g' : Nat → Int) (x : Int) : sPl (fG A t f g x) t g' = fG A t f g' x := by
  show (aTk A, aDp A, aEn A, aWf A, aRu A, aBl A, aMa A, aMw A, aLb A, gF (aLf A) t x, gF (aWy A) t f, gF (gF (aPl A) t g) t g', aFs A, aLe A, aM A) = _
  rw [gF_uu]
  rfl
theorem sLf_fG (A : cA) (t : Nat) (f : Nat → Nat) (g : Nat → Int) (x y : Int) : sLf (fG A t f g x) t y = fG A t f g y := by
  show (aTk A, aDp A, aEn A, aWf A, gF (aRu A) t (aRu A t), gF (aBl A) t (aBl A t), gF (aMa A) t (aMa A t), gF (aMw A) t (aMw A t), gF (aLb A) t (aLb A t), gF (gF (aLf A) t x) t y, gF (aWy A) t f, gF (aPl A) t g, aFs A, aLe A, aM A) = _
  rw [gF_uu, gF_same, gF_same, gF_same, gF_same, gF_same]
  rfl
/-- k nodes of the way found -/
def fnd (A : cA) (t : Nat) (W : Nat → Nat) (P : Nat → Int) (k : Nat) (x : Int) : cA := fG A t (mix W (aWy A t) k) (mix P (aPl A t) k) x
theorem fnd_0 (A : cA) (t : Nat) (W : Nat → Nat) (P : Nat → Int) : fnd A t W P 0 (aLf A t) = A := by
  unfold fnd
  rw [mix_0, mix_0, fG_0]
def gSrt (f : Nat → Int) (n : Int) : Prop := ∀ x y : Nat, x ≤ y → (y : Int) < n → f (x * 3) ≤ f (y * 3)
/-- what makes W, P the way to b: d nodes below the root -/
def PathTo (A : cA) (t : Nat) (b : Int) (d : Nat) (W : Nat → Nat) (P : Nat → Int) : Prop := d ≤ 5 ∧ W 0 = 256 + t ∧ (∀ k, k ≤ d → W k < 260 ∧ aDp A (W k) = (d : Int) - k ∧ gSrt (aWf A (W k)) (aEn A (W k)) ∧ P k = if k = d then gLu (aWf A (W k)) b (aEn A (W k)).toNat else if gLu (aWf A (W k)) b (aEn A (W k)).toNat < 0 then 0 else gLu (aWf A (W k)) b (aEn A (W k)).toNat) ∧ ∀ k, k < d → gWd (aWf A (W k)) (aEn A (W k)) (P k) 1 = W (k + 1) ∧ W (k + 1) < 256
theorem gLu_r (f : Nat → Int) (b : Int) : ∀ n : Nat, -1 ≤ gLu f b n ∧ gLu f b n < n := by
  intro n
  induction n with
  | zero => simp [gLu]
  | succ n ih =>
    simp only [gLu]
    split
    · omega
    · omega
section
variable {G : gG} {A : cA} {h0 : gH} {t : Nat} {b : Int} {d : Nat} {W : Nat → Nat} {P : Nat → Int} {N : Option Nat}
theorem fnd_ok {k : Nat} {x : Int} (ok : aOk A) : aOk (fnd A t W P k x) := ok
set_option maxHeartbeats 4000000 in
theorem c_find (ok : aOk A) (ht : t < 4) (rb : (-2147483648 ≤ b ∧ b ≤ 2147483647)) (hp : PathTo A t b d W P) : Rd G m_Tree_find [vR (517 + 6 * t), vI b] N (hpx A h0) none N (hpx (fnd A t W P (d + 1) d) h0) := by
  refine Rn.of rfl rfl rfl ?_
  have hM := ok_Tree_find
  obtain ⟨hd, hW0, hk, hn⟩ := hp
  have loop : ∀ (n k : Nat) (x : Int) (y : Option gV), k + n = d → Go G m_Tree_find (gFin G (gEq none N (hpx (fnd A t W P (d + 1) d) h0)) gNo) 7 [some (vR (517 + 6 * t)), some (vI b), some (vR (oA (W k))), some (vI k), y] [] N (hpx (fnd A t W P k x) h0) 0 0 := by
    intro n
    induction n with
    | zero =>
      intro k x y hkn
      have hkd : k = d := by omega
      subst hkd
      obtain ⟨a1, a2, a3, a4⟩ := hk k (by omega)
      rw [if_pos rfl] at a4
      have ok' : aOk (fnd A t W P k x) := ok
      have k1 := hp_tr (A := fnd A t W P k x) (h0 := h0) ht
      have k2 := hp_wy (A := fnd A t W P k x) (h0 := h0) ht
      have k4 := hp_nd (A := fnd A t W P k x) (h0 := h0) a1
      repeat (first | refine go_pure hM rfl ?_ | (refine go_get (fs := ?_) (v := ?_) hM rfl ?_ ?_ ?_; rotate_left 2; assumption; rfl) | refine go_ldc hM rfl ?_)
      refine go_icmp_ge hM rfl (by omega) (by omega) (fun hc => absurd hc (by omega)) (fun hc => ?_)
      repeat (first | refine go_pure hM rfl ?_ | (refine go_get (fs := ?_) (v := ?_) hM rfl ?_ ?_ ?_; rotate_left 2; assumption; rfl) | refine go_ldc hM rfl ?_)
      refine go_cV hM rfl rfl rfl k4 rfl (p_lastUpTo ok' a1 rb a3) rfl ?_
      repeat (first | refine go_pure hM rfl ?_ | (refine go_get (fs := ?_) (v := ?_) hM rfl ?_ ?_ ?_; rotate_left 2; assumption; rfl) | refine go_ldc hM rfl ?_)
      refine go_aast hM rfl k2 rfl k4 rfl (by omega) (by omega) (by omega) ?_
      have e1 : (k : Int).toNat = k := by omega
      have e2 : sWy (fnd A t W P k x) t (gF (aWy (fnd A t W P k x) t) k (W k)) = fG A t (mix W (aWy A t) (k + 1)) (mix P (aPl A t) k) x := by
        unfold fnd
        rw [fG_wy, mix_s, sWy_fG]
      rw [e1, eRf_set (by omega), up_wy ht, e2]
      have j1 := hp_tr (A := fG A t (mix W (aWy A t) (k + 1)) (mix P (aPl A t) k) x) (h0 := h0) ht
      have j3 := hp_pl (A := fG A t (mix W (aWy A t) (k + 1)) (mix P (aPl A t) k) x) (h0 := h0) ht
      repeat (first | refine go_pure hM rfl ?_ | (refine go_get (fs := ?_) (v := ?_) hM rfl ?_ ?_ ?_; rotate_left 2; assumption; rfl) | refine go_ldc hM rfl ?_)
      refine go_iast hM rfl j3 (by omega) (by omega) (by omega) ?_
      have e3 : ∀ c, sPl (fG A t (mix W (aWy A t) (k + 1)) (mix P (aPl A t) k) x) t (gF (aPl (fG A t (mix W (aWy A t) (k + 1)) (mix P (aPl A t) k) x) t) k c) = fG A t (mix W (aWy A t) (k + 1)) (gF (mix P (aPl A t) k) k c) x := fun c => by
        rw [fG_pl, sPl_fG]
      rw [e1, up_pl ht, e3]
      rw [show gLu (aWf (fnd A t W P k x) (W k)) b (aEn (fnd A t W P k x) (W k)).toNat = P k from a4.symm, mix_s]
      have i1 := hp_tr (A := fG A t (mix W (aWy A t) (k + 1)) (mix P (aPl A t) (k + 1)) x) (h0 := h0) ht
      repeat (first | refine go_pure hM rfl ?_ | (refine go_get (fs := ?_) (v := ?_) hM rfl ?_ ?_ ?_; rotate_left 2; assumption; rfl) | refine go_ldc hM rfl ?_)
      refine go_put hM rfl i1 rfl rfl ?_
      have e5 : hpx (sTr (fG A t (mix W (aWy A t) (k + 1)) (mix P (aPl A t) (k + 1)) x) t (aRu (fG A t (mix W (aWy A t) (k + 1)) (mix P (aPl A t) (k + 1)) x) t) (aBl (fG A t (mix W (aWy A t) (k + 1)) (mix P (aPl A t) (k + 1)) x) t) (aMa (fG A t (mix W (aWy A t) (k + 1)) (mix P (aPl A t) (k + 1)) x) t) (aMw (fG A t (mix W (aWy A t) (k + 1)) (mix P (aPl A t) (k + 1)) x) t) (aLb (fG A t (mix W (aWy A t) (k + 1)) (mix P (aPl A t) (k + 1)) x) t) k) h0 = hpx (fnd A t W P (k + 1) k) h0 := by
        have := sLf_fG A t (mix W (aWy A t) (k + 1)) (mix P (aPl A t) (k + 1)) x k
        unfold sLf at this
        rw [this]
        rfl
      rw [up_tr ht, e5]
      have i4 := hp_nd (A := fnd A t W P (k + 1) k) (h0 := h0) a1
      repeat (first | refine go_pure hM rfl ?_ | (refine go_get (fs := ?_) (v := ?_) hM rfl ?_ ?_ ?_; rotate_left 2; assumption; rfl) | refine go_ldc hM rfl ?_)
      have a2' : aDp (fnd A t W P (k + 1) k) (W k) = 0 := by
        have : aDp A (W k) = 0 := by omega
        exact this
      rw [a2']
      refine go_if_ne hM rfl (by omega) (fun hc => absurd rfl hc) (fun hc => ?_)
      exact go_vret hM rfl rfl ⟨rfl, rfl, rfl⟩
    | succ n ih =>
      intro k x y hkn
      obtain ⟨a1, a2, a3, a4⟩ := hk k (by omega)
      rw [if_neg (by omega)] at a4
      have rc := gLu_r (aWf A (W k)) b (aEn A (W k)).toNat
      have ren := (ok.2.2 (W k) a1).1
      have rrm := ok.rm (W k)
      have ok' : aOk (fnd A t W P k x) := ok
      have k1 := hp_tr (A := fnd A t W P k x) (h0 := h0) ht
      have k2 := hp_wy (A := fnd A t W P k x) (h0 := h0) ht
      have k4 := hp_nd (A := fnd A t W P k x) (h0 := h0) a1
      repeat (first | refine go_pure hM rfl ?_ | (refine go_get (fs := ?_) (v := ?_) hM rfl ?_ ?_ ?_; rotate_left 2; assumption; rfl) | refine go_ldc hM rfl ?_)
      refine go_icmp_ge hM rfl (by omega) (by omega) (fun hc => absurd hc (by omega)) (fun hc => ?_)
      repeat (first | refine go_pure hM rfl ?_ | (refine go_get (fs := ?_) (v := ?_) hM rfl ?_ ?_ ?_; rotate_left 2; assumption; rfl) | refine go_ldc hM rfl ?_)
      refine go_cV hM rfl rfl rfl k4 rfl (p_lastUpTo ok' a1 rb a3) rfl ?_
      repeat (first | refine go_pure hM rfl ?_ | (refine go_get (fs := ?_) (v := ?_) hM rfl ?_ ?_ ?_; rotate_left 2; assumption; rfl) | refine go_ldc hM rfl ?_)
      refine go_aast hM rfl k2 rfl k4 rfl (by omega) (by omega) (by omega) ?_
      have e1 : (k : Int).toNat = k := by omega
      have e2 : sWy (fnd A t W P k x) t (gF (aWy (fnd A t W P k x) t) k (W k)) = fG A t (mix W (aWy A t) (k + 1)) (mix P (aPl A t) k) x := by
        unfold fnd
        rw [fG_wy, mix_s, sWy_fG]
      rw [e1, eRf_set (by omega), up_wy ht, e2]
      have j1 := hp_tr (A := fG A t (mix W (aWy A t) (k + 1)) (mix P (aPl A t) k) x) (h0 := h0) ht
      have j3 := hp_pl (A := fG A t (mix W (aWy A t) (k + 1)) (mix P (aPl A t) k) x) (h0 := h0) ht
      repeat (first | refine go_pure hM rfl ?_ | (refine go_get (fs := ?_) (v := ?_) hM rfl ?_ ?_ ?_; rotate_left 2; assumption; rfl) | refine go_ldc hM rfl ?_)
      refine go_iast hM rfl j3 (by omega) (by omega) (by omega) ?_
      have e3 : ∀ c, sPl (fG A t (mix W (aWy A t) (k + 1)) (mix P (aPl A t) k) x) t (gF (aPl (fG A t (mix W (aWy A t) (k + 1)) (mix P (aPl A t) k) x) t) k c) = fG A t (mix W (aWy A t) (k + 1)) (gF (mix P (aPl A t) k) k c) x := fun c => by
        rw [fG_pl, sPl_fG]
      rw [e1, up_pl ht, e3]
      generalize hcc : gLu (aWf (fnd A t W P k x) (W k)) b (aEn (fnd A t W P k x) (W k)).toNat = c at rc
      have hc9 : gLu (aWf A (W k)) b (aEn A (W k)).toNat = c := hcc
      rw [hc9] at a4 rc
      have i1 := hp_tr (A := fG A t (mix W (aWy A t) (k + 1)) (gF (mix P (aPl A t) k) k c) x) (h0 := h0) ht
      repeat (first | refine go_pure hM rfl ?_ | (refine go_get (fs := ?_) (v := ?_) hM rfl ?_ ?_ ?_; rotate_left 2; assumption; rfl) | refine go_ldc hM rfl ?_)
      refine go_put hM rfl i1 rfl rfl ?_
      have e5 : hpx (sTr (fG A t (mix W (aWy A t) (k + 1)) (gF (mix P (aPl A t) k) k c) x) t (aRu (fG A t (mix W (aWy A t) (k + 1)) (gF (mix P (aPl A t) k) k c) x) t) (aBl (fG A t (mix W (aWy A t) (k + 1)) (gF (mix P (aPl A t) k) k c) x) t) (aMa (fG A t (mix W (aWy A t) (k + 1)) (gF (mix P (aPl A t) k) k c) x) t) (aMw (fG A t (mix W (aWy A t) (k + 1)) (gF (mix P (aPl A t) k) k c) x) t) (aLb (fG A t (mix W (aWy A t) (k + 1)) (gF (mix P (aPl A t) k) k c) x) t) k) h0 = hpx (fG A t (mix W (aWy A t) (k + 1)) (gF (mix P (aPl A t) k) k c) k) h0 := by
        have := sLf_fG A t (mix W (aWy A t) (k + 1)) (gF (mix P (aPl A t) k) k c) x k
        unfold sLf at this
        rw [this]
      rw [up_tr ht, e5]
      have i4 := hp_nd (A := fG A t (mix W (aWy A t) (k + 1)) (gF (mix P (aPl A t) k) k c) k) (h0 := h0) a1
      have i5 := hp_tr (A := fG A t (mix W (aWy A t) (k + 1)) (gF (mix P (aPl A t) k) k c) k) (h0 := h0) ht
      have i6 := hp_pl (A := fG A t (mix W (aWy A t) (k + 1)) (gF (mix P (aPl A t) k) k c) k) (h0 := h0) ht
      repeat (first | refine go_pure hM rfl ?_ | (refine go_get (fs := ?_) (v := ?_) hM rfl ?_ ?_ ?_; rotate_left 2; assumption; rfl) | refine go_ldc hM rfl ?_)
      have a2' : aDp (fG A t (mix W (aWy A t) (k + 1)) (gF (mix P (aPl A t) k) k c) k) (W k) = (d : Int) - k := a2
      rw [a2']
      refine go_if_ne hM rfl (by omega) (fun hc => ?_) (fun hc => absurd hc (by omega))
      repeat (first | refine go_pure hM rfl ?_ | (refine go_get (fs := ?_) (v := ?_) hM rfl ?_ ?_ ?_; rotate_left 2; assumption; rfl) | refine go_ldc hM rfl ?_)
      refine go_max hM rfl (by omega) (by omega) rfl ?_
      refine go_iast hM rfl i6 (by omega) (by omega) (by omega) ?_
      have e6 : (if (0 : Int) < c then c else 0) = P k := by
        rw [a4]
        split <;> split <;> omega
      have e7 : sPl (fG A t (mix W (aWy A t) (k + 1)) (gF (mix P (aPl A t) k) k c) k) t (gF (aPl (fG A t (mix W (aWy A t) (k + 1)) (gF (mix P (aPl A t) k) k c) k) t) k (P k)) = fnd A t W P (k + 1) k := by
        rw [fG_pl, sPl_fG, gF_uu, mix_s]
        rfl
      rw [e6, e1, up_pl ht, e7]
      have i7 := hp_tr (A := fnd A t W P (k + 1) k) (h0 := h0) ht
      have i8 := hp_pl (A := fnd A t W P (k + 1) k) (h0 := h0) ht
      have i9 := hp_nd (A := fnd A t W P (k + 1) k) (h0 := h0) a1
      repeat (first | refine go_pure hM rfl ?_ | (refine go_get (fs := ?_) (v := ?_) hM rfl ?_ ?_ ?_; rotate_left 2; assumption; rfl) | refine go_ldc hM rfl ?_)
      refine go_iald hM rfl i8 (by omega) (by omega) (by omega) ?_
      have e8 : aPl (fnd A t W P (k + 1) k) t k = P k := by
        show aPl (fG A t (mix W (aWy A t) (k + 1)) (mix P (aPl A t) (k + 1)) k) t k = P k
        rw [fG_pl]
        exact if_pos (by omega)
      rw [e1, e8]
      have rp : -2147483648 ≤ P k ∧ P k ≤ 2147483647 := by
        rw [a4]
        split <;> omega
      refine go_cV hM rfl rfl rfl i9 rfl (p_belowAt (A := fnd A t W P (k + 1) k) ok a1 rp) rfl ?_
      obtain ⟨b1, b2⟩ := hn k (by omega)
      rw [show gWd (aWf (fnd A t W P (k + 1) k) (W k)) (aEn (fnd A t W P (k + 1) k) (W k)) (P k) 1 = W (k + 1) from b1]
      refine go_cV hM rfl rfl rfl (hp_po (A := fnd A t W P (k + 1) k)) rfl (c_Pool_node (A := fnd A t W P (k + 1) k) (by omega)) rfl ?_
      have e9 : ((W (k + 1) : Nat) : Int).toNat = W (k + 1) := by omega
      rw [e9]
      repeat (first | exact ih (k + 1) k _ (by omega) | refine go_pure hM rfl ?_ | (refine go_get (fs := ?_) (v := ?_) hM rfl ?_ ?_ ?_; rotate_left 2; assumption; rfl) | refine go_ldc hM rfl ?_)
  have k1 := hp_tr (A := A) (h0 := h0) ht
  have l0 := loop d 0 (aLf A t) none (by omega)
  rw [fnd_0, hW0] at l0
  repeat (first | exact l0 | refine go_pure hM rfl ?_ | (refine go_get (fs := ?_) (v := ?_) hM rfl ?_ ?_ ?_; rotate_left 2; assumption; rfl) | refine go_ldc hM rfl ?_)
end
end
section
/-! Tree: what is asked of a way found -/
def eF (A : cA) (i : Nat) (p : Int) : Int := gWd (aWf A i) (aEn A i) p 0
def eL (A : cA) (i : Nat) (p : Int) : Int := gLn (gWd (aWf A i) (aEn A i) p 1)
def eV (A : cA) (i : Nat) (p : Int) : Int := gWd (aWf A i) (aEn A i) p 2
def eW (A : cA) (i : Nat) (p : Int) : Int := if (0 ≤ p ∧ p < aEn A i) ∧ gWd (aWf A i) (aEn A i) p 1 ≤ 32768 then 1 else 0
/-- the first block of the next entry, up from a level -/
def nf (A : cA) (t : Nat) : Nat → Int
  | 0 => 65536
  | k + 1 => if 0 ≤ aPl A t k + 1 ∧ aPl A t k + 1 < aEn A (aWy A t k) then gWd (aWf A (aWy A t k)) (aEn A (aWy A t k)) (aPl A t k + 1) 0 else nf A t k
section
variable {G : gG} {N : Option Nat} {A : cA} {h0 : gH} {t l : Nat} {b : Int} {d : Nat} {W : Nat → Nat} {P : Nat → Int}
theorem fnd_wy {x : Int} {k : Nat} (hk : k ≤ d) : aWy (fnd A t W P (d + 1) x) t k = W k := by
  unfold fnd
  rw [fG_wy]
  exact if_pos (by omega)
theorem fnd_pl {x : Int} {k : Nat} (hk : k ≤ d) : aPl (fnd A t W P (d + 1) x) t k = P k := by
  unfold fnd
  rw [fG_pl]
  exact if_pos (by omega)
theorem fnd_lf {x : Int} {k : Nat} : aLf (fnd A t W P k x) t = x := fG_lf _ _ _ _ _
theorem fnd_rF : rF (fnd A t W P (d + 1) d) t d = eF A (W d) (P d) := by
  unfold rF
  rw [fnd_wy (Nat.le_refl d), fnd_pl (Nat.le_refl d)]
  rfl
theorem fnd_rL : rL (fnd A t W P (d + 1) d) t d = eL A (W d) (P d) := by
  unfold rL
  rw [fnd_wy (Nat.le_refl d), fnd_pl (Nat.le_refl d)]
  rfl
theorem fnd_rV : rV (fnd A t W P (d + 1) d) t d = eV A (W d) (P d) := by
  unfold rV
  rw [fnd_wy (Nat.le_refl d), fnd_pl (Nat.le_refl d)]
  rfl
theorem fnd_rW : rW (fnd A t W P (d + 1) d) t d = eW A (W d) (P d) := by
  unfold rW
  rw [fnd_wy (Nat.le_refl d), fnd_pl (Nat.le_refl d)]
  rfl
theorem PathTo.pr (ok : aOk A) (hp : PathTo A t b d W P) {k : Nat} (hk : k ≤ d) : -1 ≤ P k ∧ P k ≤ 84 := by
  obtain ⟨a1, a2, a3, a4⟩ := hp.2.2.1 k hk
  have r1 := gLu_r (aWf A (W k)) b (aEn A (W k)).toNat
  have r2 := (ok.2.2 (W k) a1).1
  have r3 := ok.rm (W k)
  rw [a4]
  split
  · omega
  · split <;> omega
/-- behind a find, the run found may be asked -/
theorem PathTo.at (ok : aOk A) (hp : PathTo A t b d W P) : aLf (fnd A t W P (d + 1) d) t = (d : Int) ∧ d < 6 ∧ aWy (fnd A t W P (d + 1) d) t d < 260 ∧ (-2147483648 ≤ aPl (fnd A t W P (d + 1) d) t d ∧ aPl (fnd A t W P (d + 1) d) t d ≤ 2147483647) := by
  have h1 := hp.1
  have h2 := (hp.2.2.1 d (Nat.le_refl d)).1
  have h3 := hp.pr ok (Nat.le_refl d)
  rw [fnd_wy (Nat.le_refl d), fnd_pl (Nat.le_refl d)]
  exact ⟨fnd_lf, by omega, h2, by omega⟩
theorem e_r (ok : aOk A) {i : Nat} (hi : i < 260) (p : Int) : (0 ≤ eF A i p ∧ eF A i p ≤ 16777216) ∧ (0 ≤ eL A i p ∧ eL A i p ≤ 16777216) ∧ (0 ≤ eV A i p ∧ eV A i p ≤ 16777216) ∧ (eW A i p = 0 ∨ eW A i p = 1) := by
  have h1 := ok.wd hi p 0
  have h2 := ok.wd hi p 1
  have h3 := ok.wd hi p 2
  refine ⟨h1, ?_, h3, ?_⟩
  · unfold eL gLn
    split <;> omega
  · unfold eW
    split
    · exact Or.inr rfl
    · exact Or.inl rfl
set_option maxHeartbeats 1000000 in
theorem c_nextFirst (ok : aOk A) (ht : t < 4) (hl : aLf A t = (l : Int)) (hl6 : l < 6) (hw : ∀ k, k ≤ l → aWy A t k < 260 ∧ (-1000 ≤ aPl A t k ∧ aPl A t k ≤ 1000)) : Rd G m_Tree_nextFirst [vR (517 + 6 * t)] N (hpx A h0) (some (vI (nf A t (l + 1)))) N (hpx A h0) := by
  refine Rn.of rfl rfl rfl ?_
  have hM := ok_Tree_nextFirst
  have k1 := hp_tr (A := A) (h0 := h0) ht
  have k2 := hp_wy (A := A) (h0 := h0) ht
  have k3 := hp_pl (A := A) (h0 := h0) ht
  have loop : ∀ (k : Nat) (y : Option gV), k ≤ l + 1 → nf A t k = nf A t (l + 1) → Go G m_Tree_nextFirst (gFin G (gEq (some (vI (nf A t (l + 1)))) N (hpx A h0)) gNo) 5 [some (vR (517 + 6 * t)), some (vI ((k : Int) - 1)), y] [] N (hpx A h0) 0 0 := by
    intro k
    induction k with
    | zero =>
      intro y h1 h2
      repeat (first | refine go_pure hM rfl ?_ | (refine go_get (fs := ?_) (v := ?_) hM rfl ?_ ?_ ?_; rotate_left 2; assumption; rfl) | refine go_ldc hM rfl ?_)
      refine go_if_lt hM rfl (by omega) (fun hc => ?_) (fun hc => absurd hc (by omega))
      repeat (first | refine go_pure hM rfl ?_ | (refine go_get (fs := ?_) (v := ?_) hM rfl ?_ ?_ ?_; rotate_left 2; assumption; rfl) | refine go_ldc hM rfl ?_)
      exact go_iret hM rfl rfl ⟨by rw [← h2]; rfl, rfl, rfl⟩
    | succ k ih =>
      intro y h1 h2
      have e0 : ((k + 1 : Nat) : Int) - 1 = k := by omega
      rw [e0]
      obtain ⟨w1, w2⟩ := hw k (by omega)
      repeat (first | refine go_pure hM rfl ?_ | (refine go_get (fs := ?_) (v := ?_) hM rfl ?_ ?_ ?_; rotate_left 2; assumption; rfl) | refine go_ldc hM rfl ?_)
      refine go_if_lt hM rfl (by omega) (fun hc => absurd hc (by omega)) (fun hc => ?_)
      repeat (first | refine go_pure hM rfl ?_ | (refine go_get (fs := ?_) (v := ?_) hM rfl ?_ ?_ ?_; rotate_left 2; assumption; rfl) | refine go_ldc hM rfl ?_)
      refine go_iald hM rfl k3 (by omega) (by omega) (by omega) ?_
      have e1 : (k : Int).toNat = k := by omega
      rw [e1]
      repeat (first | refine go_pure hM rfl ?_ | (refine go_get (fs := ?_) (v := ?_) hM rfl ?_ ?_ ?_; rotate_left 2; assumption; rfl) | refine go_ldc hM rfl ?_)
      refine go_aaldS (r := oA (aWy A t k)) hM rfl k2 rfl (by omega) (by omega) (by omega) (by rw [e1]; exact if_pos (by omega)) ?_
      repeat (first | refine go_pure hM rfl ?_ | (refine go_get (fs := ?_) (v := ?_) hM rfl ?_ ?_ ?_; rotate_left 2; assumption; rfl) | refine go_ldc hM rfl ?_)
      have q := p_hasEntry (G := G) (N := N) (h0 := h0) ok w1 (p := aPl A t k + 1) (by omega)
      by_cases hc : 0 ≤ aPl A t k + 1 ∧ aPl A t k + 1 < aEn A (aWy A t k)
      · rw [if_pos hc] at q
        refine go_cV hM rfl rfl rfl (hp_nd w1) rfl q rfl ?_
        refine go_if_eq hM rfl (by omega) (fun hc2 => absurd hc2 (by omega)) (fun hc2 => ?_)
        repeat (first | refine go_pure hM rfl ?_ | (refine go_get (fs := ?_) (v := ?_) hM rfl ?_ ?_ ?_; rotate_left 2; assumption; rfl) | refine go_ldc hM rfl ?_)
        refine go_aaldS (r := oA (aWy A t k)) hM rfl k2 rfl (by omega) (by omega) (by omega) (by rw [e1]; exact if_pos (by omega)) ?_
        repeat (first | refine go_pure hM rfl ?_ | (refine go_get (fs := ?_) (v := ?_) hM rfl ?_ ?_ ?_; rotate_left 2; assumption; rfl) | refine go_ldc hM rfl ?_)
        refine go_cV hM rfl rfl rfl (hp_nd w1) rfl (p_firstAt ok w1 (by omega)) rfl ?_
        refine go_iret hM rfl rfl ⟨?_, rfl, rfl⟩
        rw [← h2]
        show _ = some (vI (if 0 ≤ aPl A t k + 1 ∧ aPl A t k + 1 < aEn A (aWy A t k) then gWd (aWf A (aWy A t k)) (aEn A (aWy A t k)) (aPl A t k + 1) 0 else nf A t k))
        rw [if_pos hc]
      · rw [if_neg hc] at q
        refine go_cV hM rfl rfl rfl (hp_nd w1) rfl q rfl ?_
        refine go_if_eq hM rfl (by omega) (fun hc2 => ?_) (fun hc2 => absurd rfl hc2)
        refine go_pure hM rfl ?_
        have e2 : (k : Int) + (-1) = (k : Int) - 1 := by omega
        rw [e2]
        have h3 : nf A t k = nf A t (l + 1) := by
          rw [← h2]
          show _ = if 0 ≤ aPl A t k + 1 ∧ aPl A t k + 1 < aEn A (aWy A t k) then gWd (aWf A (aWy A t k)) (aEn A (aWy A t k)) (aPl A t k + 1) 0 else nf A t k
          rw [if_neg hc]
        repeat (first | exact ih _ (by omega) h3 | refine go_pure hM rfl ?_ | (refine go_get (fs := ?_) (v := ?_) hM rfl ?_ ?_ ?_; rotate_left 2; assumption; rfl) | refine go_ldc hM rfl ?_)
  have e0 : ((l + 1 : Nat) : Int) - 1 = l := by omega
  have l0 := loop (l + 1) none (by omega) rfl
  rw [e0] at l0
  refine go_pure hM rfl ?_
  refine go_get hM rfl k1 rfl ?_
  rw [hl]
  repeat (first | exact l0 | refine go_pure hM rfl ?_ | (refine go_get (fs := ?_) (v := ?_) hM rfl ?_ ?_ ?_; rotate_left 2; assumption; rfl) | refine go_ldc hM rfl ?_)
theorem c_hasAny {x n : Int} (ok : aOk A) (ht : t < 4) (hx : 0 ≤ x ∧ x ≤ 65536) (hn : 0 ≤ n ∧ n ≤ 65536) (hp : PathTo A t (x + n - 1) d W P) : Rd G m_Tree_hasAny [vR (517 + 6 * t), vI x, vI n] N (hpx A h0) (some (vI (if x < eF A (W d) (P d) + eL A (W d) (P d) then 1 else 0))) N (hpx (fnd A t W P (d + 1) d) h0) := by
  refine Rn.of rfl rfl rfl ?_
  have hM := ok_Tree_hasAny
  obtain ⟨a1, a2, a3, a4⟩ := hp.at ok
  have r9 := e_r ok (hp.2.2.1 d (Nat.le_refl d)).1 (P d)
  repeat (first | refine go_pure hM rfl ?_ | (refine go_get (fs := ?_) (v := ?_) hM rfl ?_ ?_ ?_; rotate_left 2; assumption; rfl) | refine go_ldc hM rfl ?_)
  refine go_cV hM rfl rfl rfl (hp_tr ht) rfl (c_find ok ht (by omega) hp) rfl ?_
  repeat (first | refine go_pure hM rfl ?_ | (refine go_get (fs := ?_) (v := ?_) hM rfl ?_ ?_ ?_; rotate_left 2; assumption; rfl) | refine go_ldc hM rfl ?_)
  refine go_cV hM rfl rfl rfl (hp_tr ht) rfl (c_runEnd (A := fnd A t W P (d + 1) d) ok ht a1 a2 a3 a4) rfl ?_
  rw [fnd_rF, fnd_rL]
  repeat (first | refine go_pure hM rfl ?_ | (refine go_get (fs := ?_) (v := ?_) hM rfl ?_ ?_ ?_; rotate_left 2; assumption; rfl) | refine go_ldc hM rfl ?_)
  refine go_icmp_le hM rfl (by omega) (by omega) (fun hc => ?_) (fun hc => ?_)
  · repeat (first | refine go_pure hM rfl ?_ | (refine go_get (fs := ?_) (v := ?_) hM rfl ?_ ?_ ?_; rotate_left 2; assumption; rfl) | refine go_ldc hM rfl ?_)
    exact go_zret hM rfl rfl (Or.inl rfl) ⟨by rw [if_neg (by omega)], rfl, rfl⟩
  · repeat (first | refine go_pure hM rfl ?_ | (refine go_get (fs := ?_) (v := ?_) hM rfl ?_ ?_ ?_; rotate_left 2; assumption; rfl) | refine go_ldc hM rfl ?_)
    exact go_zret hM rfl rfl (Or.inr rfl) ⟨by rw [if_pos (by omega)], rfl, rfl⟩
theorem c_hasUnwritten {x n : Int} (ok : aOk A) (ht : t < 4) (hx : 0 ≤ x ∧ x ≤ 65536) (hn : 0 ≤ n ∧ n ≤ 65536) (hp : PathTo A t x d W P) : Rd G m_Tree_hasUnwritten [vR (517 + 6 * t), vI x, vI n] N (hpx A h0) (some (vI (if x + n ≤ eF A (W d) (P d) + eL A (W d) (P d) ∧ eW A (W d) (P d) = 0 then 1 else 0))) N (hpx (fnd A t W P (d + 1) d) h0) := by
  refine Rn.of rfl rfl rfl ?_
  have hM := ok_Tree_hasUnwritten
  obtain ⟨a1, a2, a3, a4⟩ := hp.at ok
  have r9 := e_r ok (hp.2.2.1 d (Nat.le_refl d)).1 (P d)
  repeat (first | refine go_pure hM rfl ?_ | (refine go_get (fs := ?_) (v := ?_) hM rfl ?_ ?_ ?_; rotate_left 2; assumption; rfl) | refine go_ldc hM rfl ?_)
  refine go_cV hM rfl rfl rfl (hp_tr ht) rfl (c_find ok ht (by omega) hp) rfl ?_
  repeat (first | refine go_pure hM rfl ?_ | (refine go_get (fs := ?_) (v := ?_) hM rfl ?_ ?_ ?_; rotate_left 2; assumption; rfl) | refine go_ldc hM rfl ?_)
  refine go_cV hM rfl rfl rfl (hp_tr ht) rfl (c_runEnd (A := fnd A t W P (d + 1) d) ok ht a1 a2 a3 a4) rfl ?_
  rw [fnd_rF, fnd_rL]
  repeat (first | refine go_pure hM rfl ?_ | (refine go_get (fs := ?_) (v := ?_) hM rfl ?_ ?_ ?_; rotate_left 2; assumption; rfl) | refine go_ldc hM rfl ?_)
  refine go_icmp_lt hM rfl (by omega) (by omega) (fun hc => ?_) (fun hc => ?_)
  · repeat (first | refine go_pure hM rfl ?_ | (refine go_get (fs := ?_) (v := ?_) hM rfl ?_ ?_ ?_; rotate_left 2; assumption; rfl) | refine go_ldc hM rfl ?_)
    exact go_zret hM rfl rfl (Or.inl rfl) ⟨by rw [if_neg (by omega)], rfl, rfl⟩
  · repeat (first | refine go_pure hM rfl ?_ | (refine go_get (fs := ?_) (v := ?_) hM rfl ?_ ?_ ?_; rotate_left 2; assumption; rfl) | refine go_ldc hM rfl ?_)
    refine go_cV hM rfl rfl rfl (hp_tr ht) rfl (c_runIsWritten (A := fnd A t W P (d + 1) d) ok ht a1 a2 a3 a4) rfl ?_
    rw [fnd_rW]
    refine go_if_ne hM rfl (by omega) (fun hc2 => ?_) (fun hc2 => ?_)
    · repeat (first | refine go_pure hM rfl ?_ | (refine go_get (fs := ?_) (v := ?_) hM rfl ?_ ?_ ?_; rotate_left 2; assumption; rfl) | refine go_ldc hM rfl ?_)
      exact go_zret hM rfl rfl (Or.inl rfl) ⟨by rw [if_neg (by omega)], rfl, rfl⟩
    · repeat (first | refine go_pure hM rfl ?_ | (refine go_get (fs := ?_) (v := ?_) hM rfl ?_ ?_ ?_; rotate_left 2; assumption; rfl) | refine go_ldc hM rfl ?_)
      exact go_zret hM rfl rfl (Or.inr rfl) ⟨by rw [if_pos (by omega)], rfl, rfl⟩
theorem c_volumeOf (ok : aOk A) (ht : t < 4) (hb : 0 ≤ b ∧ b ≤ 65536) (hp : PathTo A t b d W P) : Rd G m_Tree_volumeOf [vR (517 + 6 * t), vI b] N (hpx A h0) (some (vI (if b < eF A (W d) (P d) + eL A (W d) (P d) then eV A (W d) (P d) + (b - eF A (W d) (P d)) else -1))) N (hpx (fnd A t W P (d + 1) d) h0) := by
  refine Rn.of rfl rfl rfl ?_
  have hM := ok_Tree_volumeOf
  obtain ⟨a1, a2, a3, a4⟩ := hp.at ok
  have r9 := e_r ok (hp.2.2.1 d (Nat.le_refl d)).1 (P d)
  repeat (first | refine go_pure hM rfl ?_ | (refine go_get (fs := ?_) (v := ?_) hM rfl ?_ ?_ ?_; rotate_left 2; assumption; rfl) | refine go_ldc hM rfl ?_)
  refine go_cV hM rfl rfl rfl (hp_tr ht) rfl (c_find ok ht (by omega) hp) rfl ?_
  repeat (first | refine go_pure hM rfl ?_ | (refine go_get (fs := ?_) (v := ?_) hM rfl ?_ ?_ ?_; rotate_left 2; assumption; rfl) | refine go_ldc hM rfl ?_)
  refine go_cV hM rfl rfl rfl (hp_tr ht) rfl (c_runEnd (A := fnd A t W P (d + 1) d) ok ht a1 a2 a3 a4) rfl ?_
  rw [fnd_rF, fnd_rL]
  repeat (first | refine go_pure hM rfl ?_ | (refine go_get (fs := ?_) (v := ?_) hM rfl ?_ ?_ ?_; rotate_left 2; assumption; rfl) | refine go_ldc hM rfl ?_)
  refine go_icmp_le hM rfl (by omega) (by omega) (fun hc => ?_) (fun hc => ?_)
  · repeat (first | refine go_pure hM rfl ?_ | (refine go_get (fs := ?_) (v := ?_) hM rfl ?_ ?_ ?_; rotate_left 2; assumption; rfl) | refine go_ldc hM rfl ?_)
    exact go_iret hM rfl rfl ⟨by rw [if_neg (by omega)], rfl, rfl⟩
  · repeat (first | refine go_pure hM rfl ?_ | (refine go_get (fs := ?_) (v := ?_) hM rfl ?_ ?_ ?_; rotate_left 2; assumption; rfl) | refine go_ldc hM rfl ?_)
    refine go_cV hM rfl rfl rfl (hp_tr ht) rfl (c_runVolume (A := fnd A t W P (d + 1) d) ok ht a1 a2 a3 a4) rfl ?_
    repeat (first | refine go_pure hM rfl ?_ | (refine go_get (fs := ?_) (v := ?_) hM rfl ?_ ?_ ?_; rotate_left 2; assumption; rfl) | refine go_ldc hM rfl ?_)
    refine go_cV hM rfl rfl rfl (hp_tr ht) rfl (c_runFirst (A := fnd A t W P (d + 1) d) ok ht a1 a2 a3 a4) rfl ?_
    rw [fnd_rF, fnd_rV]
    repeat (first | refine go_pure hM rfl ?_ | (refine go_get (fs := ?_) (v := ?_) hM rfl ?_ ?_ ?_; rotate_left 2; assumption; rfl) | refine go_ldc hM rfl ?_)
    exact go_iret hM rfl rfl ⟨by rw [if_pos (by omega)], rfl, rfl⟩
theorem c_isWritten (ok : aOk A) (ht : t < 4) (hb : 0 ≤ b ∧ b ≤ 65536) (hp : PathTo A t b d W P) : Rd G m_Tree_isWritten [vR (517 + 6 * t), vI b] N (hpx A h0) (some (vI (if b < eF A (W d) (P d) + eL A (W d) (P d) ∧ eW A (W d) (P d) = 1 then 1 else 0))) N (hpx (fnd A t W P (d + 1) d) h0) := by
  refine Rn.of rfl rfl rfl ?_
  have hM := ok_Tree_isWritten
  obtain ⟨a1, a2, a3, a4⟩ := hp.at ok
  have r9 := e_r ok (hp.2.2.1 d (Nat.le_refl d)).1 (P d)
  repeat (first | refine go_pure hM rfl ?_ | (refine go_get (fs := ?_) (v := ?_) hM rfl ?_ ?_ ?_; rotate_left 2; assumption; rfl) | refine go_ldc hM rfl ?_)
  refine go_cV hM rfl rfl rfl (hp_tr ht) rfl (c_find ok ht (by omega) hp) rfl ?_
  repeat (first | refine go_pure hM rfl ?_ | (refine go_get (fs := ?_) (v := ?_) hM rfl ?_ ?_ ?_; rotate_left 2; assumption; rfl) | refine go_ldc hM rfl ?_)
  refine go_cV hM rfl rfl rfl (hp_tr ht) rfl (c_runEnd (A := fnd A t W P (d + 1) d) ok ht a1 a2 a3 a4) rfl ?_
  rw [fnd_rF, fnd_rL]
  repeat (first | refine go_pure hM rfl ?_ | (refine go_get (fs := ?_) (v := ?_) hM rfl ?_ ?_ ?_; rotate_left 2; assumption; rfl) | refine go_ldc hM rfl ?_)
  refine go_icmp_le hM rfl (by omega) (by omega) (fun hc => ?_) (fun hc => ?_)
  · repeat (first | refine go_pure hM rfl ?_ | (refine go_get (fs := ?_) (v := ?_) hM rfl ?_ ?_ ?_; rotate_left 2; assumption; rfl) | refine go_ldc hM rfl ?_)
    exact go_zret hM rfl rfl (Or.inl rfl) ⟨by rw [if_neg (by omega)], rfl, rfl⟩
  · repeat (first | refine go_pure hM rfl ?_ | (refine go_get (fs := ?_) (v := ?_) hM rfl ?_ ?_ ?_; rotate_left 2; assumption; rfl) | refine go_ldc hM rfl ?_)
    refine go_cV hM rfl rfl rfl (hp_tr ht) rfl (c_runIsWritten (A := fnd A t W P (d + 1) d) ok ht a1 a2 a3 a4) rfl ?_
    rw [fnd_rW]
    refine go_if_eq hM rfl (by omega) (fun hc2 => ?_) (fun hc2 => ?_)
    · repeat (first | refine go_pure hM rfl ?_ | (refine go_get (fs := ?_) (v := ?_) hM rfl ?_ ?_ ?_; rotate_left 2; assumption; rfl) | refine go_ldc hM rfl ?_)
      exact go_zret hM rfl rfl (Or.inl rfl) ⟨by rw [if_neg (by omega)], rfl, rfl⟩
    · repeat (first | refine go_pure hM rfl ?_ | (refine go_get (fs := ?_) (v := ?_) hM rfl ?_ ?_ ?_; rotate_left 2; assumption; rfl) | refine go_ldc hM rfl ?_)
      exact go_zret hM rfl rfl (Or.inr rfl) ⟨by rw [if_pos (by omega)], rfl, rfl⟩
theorem c_alikeFrom (ok : aOk A) (ht : t < 4) (hb : 0 ≤ b ∧ b ≤ 65536) (hp : PathTo A t b d W P) : Rd G m_Tree_alikeFrom [vR (517 + 6 * t), vI b] N (hpx A h0) (some (vI ((if b < eF A (W d) (P d) + eL A (W d) (P d) then eF A (W d) (P d) + eL A (W d) (P d) else nf (fnd A t W P (d + 1) d) t (d + 1)) - b))) N (hpx (fnd A t W P (d + 1) d) h0) := by
  refine Rn.of rfl rfl rfl ?_
  have hM := ok_Tree_alikeFrom
  obtain ⟨a1, a2, a3, a4⟩ := hp.at ok
  have r9 := e_r ok (hp.2.2.1 d (Nat.le_refl d)).1 (P d)
  repeat (first | refine go_pure hM rfl ?_ | (refine go_get (fs := ?_) (v := ?_) hM rfl ?_ ?_ ?_; rotate_left 2; assumption; rfl) | refine go_ldc hM rfl ?_)
  refine go_cV hM rfl rfl rfl (hp_tr ht) rfl (c_find ok ht (by omega) hp) rfl ?_
  repeat (first | refine go_pure hM rfl ?_ | (refine go_get (fs := ?_) (v := ?_) hM rfl ?_ ?_ ?_; rotate_left 2; assumption; rfl) | refine go_ldc hM rfl ?_)
  refine go_cV hM rfl rfl rfl (hp_tr ht) rfl (c_runEnd (A := fnd A t W P (d + 1) d) ok ht a1 a2 a3 a4) rfl ?_
  rw [fnd_rF, fnd_rL]
  repeat (first | refine go_pure hM rfl ?_ | (refine go_get (fs := ?_) (v := ?_) hM rfl ?_ ?_ ?_; rotate_left 2; assumption; rfl) | refine go_ldc hM rfl ?_)
  refine go_icmp_le hM rfl (by omega) (by omega) (fun hc => ?_) (fun hc => ?_)
  · repeat (first | refine go_pure hM rfl ?_ | (refine go_get (fs := ?_) (v := ?_) hM rfl ?_ ?_ ?_; rotate_left 2; assumption; rfl) | refine go_ldc hM rfl ?_)
    refine go_cV hM rfl rfl rfl (hp_tr ht) rfl (c_nextFirst (A := fnd A t W P (d + 1) d) ok ht a1 a2 (fun k hk => ?_)) rfl ?_
    · have h3 := hp.pr ok hk
      rw [fnd_wy hk, fnd_pl hk]
      exact ⟨(hp.2.2.1 k hk).1, by omega⟩
    repeat (first | refine go_pure hM rfl ?_ | (refine go_get (fs := ?_) (v := ?_) hM rfl ?_ ?_ ?_; rotate_left 2; assumption; rfl) | refine go_ldc hM rfl ?_)
    exact go_iret hM rfl rfl ⟨by rw [if_neg (by omega)], rfl, rfl⟩
  · repeat (first | refine go_pure hM rfl ?_ | (refine go_get (fs := ?_) (v := ?_) hM rfl ?_ ?_ ?_; rotate_left 2; assumption; rfl) | refine go_ldc hM rfl ?_)
    refine go_cV hM rfl rfl rfl (hp_tr ht) rfl (c_runEnd (A := fnd A t W P (d + 1) d) ok ht a1 a2 a3 a4) rfl ?_
    rw [fnd_rF, fnd_rL]
    repeat (first | refine go_pure hM rfl ?_ | (refine go_get (fs := ?_) (v := ?_) hM rfl ?_ ?_ ?_; rotate_left 2; assumption; rfl) | refine go_ldc hM rfl ?_)
    exact go_iret hM rfl rfl ⟨by rw [if_pos (by omega)], rfl, rfl⟩
end
end
section
/-! Tree: changes of nodes, by name; what stays in order -/
def insA (A : cA) (i : Nat) (p x y z : Int) : cA := sNd (sWf A i (gIns (aWf A i) (aEn A i) p x y z)) i (aTk A i) (aDp A i) (aEn A i + 1)
def remA (A : cA) (i : Nat) (p : Int) : cA := sNd (sWf A i (gRem (aWf A i) (aEn A i) p)) i (aTk A i) (aDp A i) (aEn A i - 1)
def mvA (A : cA) (i : Nat) (p : Int) (j : Nat) : cA := sNd (sNd (sWf A j (gCp (aWf A i) (aWf A j) (p * 3).toNat 0 ((aEn A i - p) * 3).toNat)) j (aTk A j) (aDp A i) (aEn A i - p)) i (aTk A i) (aDp A i) p
def cbA (A : cA) (t i : Nat) (x : Int) : cA := sTr A t (aRu A t) (aBl A t + x) (aMa A t) (aMw A t) (if aDp A i = 0 then aLb A t + x else aLb A t) (aLf A t)
def gbA (A : cA) (t i : Nat) : cA := sLe (sNd (cbA A t i (-1)) i 0 (aDp A i) 0) (aLe A + 1)
theorem aOk_sWf {A : cA} {i : Nat} {f : Nat → Int} (ok : aOk A) (hf : ∀ q, 0 ≤ f q ∧ f q ≤ 16777216) : aOk (sWf A i f) := by
  refine ⟨ok.1, ok.2.1, fun j hj => ⟨(ok.2.2 j hj).1, (ok.2.2 j hj).2.1, fun q => ?_⟩⟩
  show 0 ≤ gF (aWf A) i f j q ∧ gF (aWf A) i f j q ≤ 16777216
  by_cases h : j = i
  · subst h
    rw [gF_s]
    exact hf q
  · rw [gF_n h]
    exact (ok.2.2 j hj).2.2 q
theorem aOk_sNd {A : cA} {i : Nat} {x y z : Int} (ok : aOk A) (hy : 0 ≤ y ∧ y ≤ 5) (hz : 0 ≤ z ∧ z ≤ aRm A i) : aOk (sNd A i x y z) := by
  refine ⟨ok.1, ok.2.1, fun j hj => ?_⟩
  show (0 ≤ gF (aEn A) i z j ∧ gF (aEn A) i z j ≤ aRm A j) ∧ (0 ≤ gF (aDp A) i y j ∧ gF (aDp A) i y j ≤ 5) ∧ _
  by_cases h : j = i
  · subst h
    rw [gF_s, gF_s]
    exact ⟨hz, hy, (ok.2.2 j hj).2.2⟩
  · rw [gF_n h, gF_n h]
    exact ok.2.2 j hj
theorem gCp_r {f g : Nat → Int} {a b n : Nat} (hf : ∀ q, 0 ≤ f q ∧ f q ≤ 16777216) (hg : ∀ q, 0 ≤ g q ∧ g q ≤ 16777216) (q : Nat) : 0 ≤ gCp f g a b n q ∧ gCp f g a b n q ≤ 16777216 := by
  unfold gCp
  split
  · exact hf _
  · exact hg _
theorem gF_r {f : Nat → Int} {k : Nat} {x : Int} (hf : ∀ q, 0 ≤ f q ∧ f q ≤ 16777216) (hx : 0 ≤ x ∧ x ≤ 16777216) (q : Nat) : 0 ≤ gF f k x q ∧ gF f k x q ≤ 16777216 := by
  unfold gF
  split
  · exact hx
  · exact hf _
theorem gT3_r {f : Nat → Int} {k : Nat} {x y z : Int} (hf : ∀ q, 0 ≤ f q ∧ f q ≤ 16777216) (hx : 0 ≤ x ∧ x ≤ 16777216) (hy : 0 ≤ y ∧ y ≤ 16777216) (hz : 0 ≤ z ∧ z ≤ 16777216) (q : Nat) : 0 ≤ gT3 f k x y z q ∧ gT3 f k x y z q ≤ 16777216 := gF_r (gF_r (gF_r hf hx) hy) hz q
theorem aOk_ins {A : cA} {i : Nat} {p x y z : Int} (ok : aOk A) (hi : i < 260) (hf : aEn A i < aRm A i) (hx : 0 ≤ x ∧ x ≤ 16777216) (hy : 0 ≤ y ∧ y ≤ 16777216) (hz : 0 ≤ z ∧ z ≤ 16777216) : aOk (insA A i p x y z) := by
  have h1 := ok.2.2 i hi
  refine aOk_sNd (aOk_sWf ok (gT3_r (gCp_r h1.2.2 h1.2.2) hx hy hz)) h1.2.1 ?_
  show 0 ≤ aEn A i + 1 ∧ aEn A i + 1 ≤ aRm A i
  omega
theorem aOk_rem {A : cA} {i : Nat} {p : Int} (ok : aOk A) (hi : i < 260) (hf : 0 < aEn A i) : aOk (remA A i p) := by
  have h1 := ok.2.2 i hi
  refine aOk_sNd (aOk_sWf ok (gCp_r h1.2.2 h1.2.2)) h1.2.1 ?_
  show 0 ≤ aEn A i - 1 ∧ aEn A i - 1 ≤ aRm A i
  omega
theorem aOk_mv {A : cA} {i j : Nat} {p : Int} (ok : aOk A) (hi : i < 260) (hj : j < 260) (hp : 0 ≤ p ∧ p ≤ aEn A i) (hm : aEn A i - p ≤ aRm A j) : aOk (mvA A i p j) := by
  have h1 := ok.2.2 i hi
  have h2 := ok.2.2 j hj
  refine aOk_sNd (aOk_sNd (aOk_sWf ok (gCp_r h1.2.2 h2.2.2)) h1.2.1 ?_) h1.2.1 ?_
  · show 0 ≤ aEn A i - p ∧ aEn A i - p ≤ aRm A j
    omega
  · show 0 ≤ p ∧ p ≤ aRm A i
    omega
theorem aOk_cb {A : cA} {t i : Nat} {x : Int} (ok : aOk A) : aOk (cbA A t i x) := ok
theorem aOk_gb {A : cA} {t i : Nat} (ok : aOk A) (hi : i < 260) : aOk (gbA A t i) := by
  have h1 := ok.2.2 i hi
  have h2 := ok.rm i
  have h3 : aOk (sNd (cbA A t i (-1)) i 0 (aDp A i) 0) := aOk_sNd (A := cbA A t i (-1)) ok h1.2.1 (by show (0 : Int) ≤ 0 ∧ (0 : Int) ≤ aRm A i; omega)
  exact h3
section
variable {G : gG} {N : Option Nat} {A : cA} {h0 : gH} {t l : Nat}
theorem c_Tree_giveBack {i : Nat} (ok : aOk A) (ht : t < 4) (hi : i < 260) (h1 : aTk A i = 1) : Rd G m_Tree_giveBack [vR (517 + 6 * t), vR (oA i)] N (hpx A h0) none N (hpx (gbA A t i) h0) := by
  refine Rn.of rfl rfl rfl ?_
  have hM := ok_Tree_giveBack
  repeat (first | refine go_pure hM rfl ?_ | (refine go_get (fs := ?_) (v := ?_) hM rfl ?_ ?_ ?_; rotate_left 2; assumption; rfl) | refine go_ldc hM rfl ?_)
  refine go_cV hM rfl rfl rfl (hp_tr ht) rfl (c_countBlock ok ht hi) rfl ?_
  have k1 := hp_tr (A := cbA A t i (-1)) (h0 := h0) ht
  have k1' : hpx (sTr A t (aRu A t) (aBl A t + -1) (aMa A t) (aMw A t) (if aDp A i = 0 then aLb A t + -1 else aLb A t) (aLf A t)) h0 (517 + 6 * t) = some (eTr (cbA A t i (-1)) t) := k1
  repeat (first | refine go_pure hM rfl ?_ | (refine go_get (fs := ?_) (v := ?_) hM rfl ?_ ?_ ?_; rotate_left 2; assumption; rfl) | refine go_ldc hM rfl ?_)
  refine go_cV hM rfl rfl rfl (hp_po (A := cbA A t i (-1))) rfl (c_Pool_giveBack (A := cbA A t i (-1)) hi h1) rfl ?_
  exact go_vret hM rfl rfl ⟨rfl, rfl, rfl⟩
/-- the lowest level with room, below a level -/
def lwr (A : cA) (t : Nat) : Nat → Int
  | 0 => -1
  | k + 1 => if (aRm A (aWy A t k) : Int) ≤ aEn A (aWy A t k) then lwr A t k else k
set_option maxHeartbeats 1000000 in
theorem c_levelWithRoom (ok : aOk A) (ht : t < 4) (hl : aLf A t = (l : Int)) (hl6 : l < 6) (hw : ∀ k, k ≤ l → aWy A t k < 260) : Rd G m_Tree_levelWithRoom [vR (517 + 6 * t)] N (hpx A h0) (some (vI (lwr A t (l + 1)))) N (hpx A h0) := by
  refine Rn.of rfl rfl rfl ?_
  have hM := ok_Tree_levelWithRoom
  have k1 := hp_tr (A := A) (h0 := h0) ht
  have k2 := hp_wy (A := A) (h0 := h0) ht
  have loop : ∀ (k : Nat), k ≤ l + 1 → lwr A t k = lwr A t (l + 1) → Go G m_Tree_levelWithRoom (gFin G (gEq (some (vI (lwr A t (l + 1)))) N (hpx A h0)) gNo) 5 [some (vR (517 + 6 * t)), some (vI ((k : Int) - 1))] [] N (hpx A h0) 0 0 := by
    intro k
    induction k with
    | zero =>
      intro h1 h2
      repeat (first | refine go_pure hM rfl ?_ | (refine go_get (fs := ?_) (v := ?_) hM rfl ?_ ?_ ?_; rotate_left 2; assumption; rfl) | refine go_ldc hM rfl ?_)
      refine go_if_lt hM rfl (by omega) (fun hc => ?_) (fun hc => absurd hc (by omega))
      repeat (first | refine go_pure hM rfl ?_ | (refine go_get (fs := ?_) (v := ?_) hM rfl ?_ ?_ ?_; rotate_left 2; assumption; rfl) | refine go_ldc hM rfl ?_)
      exact go_iret hM rfl rfl ⟨by rw [← h2]; rfl, rfl, rfl⟩
    | succ k ih =>
      intro h1 h2
      have e0 : ((k + 1 : Nat) : Int) - 1 = k := by omega
      rw [e0]
      have w1 := hw k (by omega)
      have e1 : (k : Int).toNat = k := by omega
      repeat (first | refine go_pure hM rfl ?_ | (refine go_get (fs := ?_) (v := ?_) hM rfl ?_ ?_ ?_; rotate_left 2; assumption; rfl) | refine go_ldc hM rfl ?_)
      refine go_if_lt hM rfl (by omega) (fun hc => absurd hc (by omega)) (fun hc => ?_)
      repeat (first | refine go_pure hM rfl ?_ | (refine go_get (fs := ?_) (v := ?_) hM rfl ?_ ?_ ?_; rotate_left 2; assumption; rfl) | refine go_ldc hM rfl ?_)
      refine go_aaldS (r := oA (aWy A t k)) hM rfl k2 rfl (by omega) (by omega) (by omega) (by rw [e1]; exact if_pos (by omega)) ?_
      have q := p_isFull (G := G) (N := N) (h0 := h0) ok w1
      have h3 : lwr A t (k + 1) = if (aRm A (aWy A t k) : Int) ≤ aEn A (aWy A t k) then lwr A t k else k := rfl
      by_cases hc : (aRm A (aWy A t k) : Int) ≤ aEn A (aWy A t k)
      · rw [if_pos hc] at q h3
        refine go_cV hM rfl rfl rfl (hp_nd w1) rfl q rfl ?_
        refine go_if_eq hM rfl (by omega) (fun hc2 => absurd hc2 (by omega)) (fun hc2 => ?_)
        refine go_pure hM rfl ?_
        have e2 : (k : Int) + (-1) = (k : Int) - 1 := by omega
        rw [e2]
        repeat (first | exact ih (by omega) (h3.symm.trans h2) | refine go_pure hM rfl ?_ | (refine go_get (fs := ?_) (v := ?_) hM rfl ?_ ?_ ?_; rotate_left 2; assumption; rfl) | refine go_ldc hM rfl ?_)
      · rw [if_neg hc] at q h3
        refine go_cV hM rfl rfl rfl (hp_nd w1) rfl q rfl ?_
        refine go_if_eq hM rfl (by omega) (fun hc2 => ?_) (fun hc2 => absurd rfl hc2)
        repeat (first | refine go_pure hM rfl ?_ | (refine go_get (fs := ?_) (v := ?_) hM rfl ?_ ?_ ?_; rotate_left 2; assumption; rfl) | refine go_ldc hM rfl ?_)
        exact go_iret hM rfl rfl ⟨by rw [← h2, h3], rfl, rfl⟩
  have e0 : ((l + 1 : Nat) : Int) - 1 = l := by omega
  have l0 := loop (l + 1) (by omega) rfl
  rw [e0] at l0
  refine go_pure hM rfl ?_
  refine go_get hM rfl k1 rfl ?_
  rw [hl]
  repeat (first | exact l0 | refine go_pure hM rfl ?_ | (refine go_get (fs := ?_) (v := ?_) hM rfl ?_ ?_ ?_; rotate_left 2; assumption; rfl) | refine go_ldc hM rfl ?_)
/-- where the nodes begin is told above them, up from a level -/
def rfA (A : cA) (t : Nat) : Nat → cA
  | 0 => A
  | k + 1 => rfA (sWf A (aWy A t k) (gF (aWf A (aWy A t k)) (aPl A t k * 3).toNat (gWd (aWf A (aWy A t (k + 1))) (aEn A (aWy A t (k + 1))) 0 0))) t k
theorem aOk_rf {t : Nat} : ∀ (k : Nat) {A : cA}, aOk A → (∀ j, j ≤ k → aWy A t j < 260) → aOk (rfA A t k) := by
  intro k
  induction k with
  | zero => intro A ok _; exact ok
  | succ k ih =>
    intro A ok hw
    exact ih (A := sWf A (aWy A t k) _) (aOk_sWf ok (gF_r (ok.2.2 _ (hw k (by omega))).2.2 (ok.wd (hw (k + 1) (by omega)) 0 0))) (fun j hj => hw j (by omega))
set_option maxHeartbeats 1000000 in
theorem c_refreshFirsts (ht : t < 4) (hl6 : l < 6) (ok0 : aOk A) (hw0 : ∀ k, k ≤ l → aWy A t k < 260) (hp0 : ∀ k, k < l → 0 ≤ aPl A t k ∧ aPl A t k < aEn A (aWy A t k)) : Rd G m_Tree_refreshFirsts [vR (517 + 6 * t), vI l] N (hpx A h0) none N (hpx (rfA A t l) h0) := by
  refine Rn.of rfl rfl rfl ?_
  have hM := ok_Tree_refreshFirsts
  have loop : ∀ (k : Nat) (B : cA), k < 6 → aOk B → (∀ j, j ≤ k → aWy B t j < 260) → (∀ j, j < k → 0 ≤ aPl B t j ∧ aPl B t j < aEn B (aWy B t j)) → rfA B t k = rfA A t l → Go G m_Tree_refreshFirsts (gFin G (gEq none N (hpx (rfA A t l) h0)) gNo) 2 [some (vR (517 + 6 * t)), some (vI l), some (vI k)] [] N (hpx B h0) 0 0 := by
    intro k
    induction k with
    | zero =>
      intro B _ ok hw hp he
      repeat (first | refine go_pure hM rfl ?_ | (refine go_get (fs := ?_) (v := ?_) hM rfl ?_ ?_ ?_; rotate_left 2; assumption; rfl) | refine go_ldc hM rfl ?_)
      refine go_if_le hM rfl (by omega) (fun hc => ?_) (fun hc => absurd hc (by omega))
      refine go_vret hM rfl rfl ⟨rfl, rfl, ?_⟩
      rw [← he]
      rfl
    | succ k ih =>
      intro B hk6 ok hw hp he
      have k1 := hp_tr (A := B) (h0 := h0) ht
      have k2 := hp_wy (A := B) (h0 := h0) ht
      have k3 := hp_pl (A := B) (h0 := h0) ht
      have w1 := hw k (by omega)
      have w2 := hw (k + 1) (by omega)
      have p1 := hp k (by omega)
      have e0 : ((k + 1 : Nat) : Int) - 1 = k := by omega
      have e1 : (k : Int).toNat = k := by omega
      have e2 : ((k + 1 : Nat) : Int).toNat = k + 1 := by omega
      have r1 := ok.2.2 _ w1
      have r2 := ok.rm (aWy B t k)
      repeat (first | refine go_pure hM rfl ?_ | (refine go_get (fs := ?_) (v := ?_) hM rfl ?_ ?_ ?_; rotate_left 2; assumption; rfl) | refine go_ldc hM rfl ?_)
      refine go_if_le hM rfl (by omega) (fun hc => absurd hc (by omega)) (fun hc => ?_)
      repeat (first | refine go_pure hM rfl ?_ | (refine go_get (fs := ?_) (v := ?_) hM rfl ?_ ?_ ?_; rotate_left 2; assumption; rfl) | refine go_ldc hM rfl ?_)
      rw [e0]
      refine go_aaldS (r := oA (aWy B t k)) hM rfl k2 rfl (by omega) (by omega) (by omega) (by rw [e1]; exact if_pos (by omega)) ?_
      repeat (first | refine go_pure hM rfl ?_ | (refine go_get (fs := ?_) (v := ?_) hM rfl ?_ ?_ ?_; rotate_left 2; assumption; rfl) | refine go_ldc hM rfl ?_)
      rw [e0]
      refine go_iald hM rfl k3 (by omega) (by omega) (by omega) ?_
      rw [e1]
      repeat (first | refine go_pure hM rfl ?_ | (refine go_get (fs := ?_) (v := ?_) hM rfl ?_ ?_ ?_; rotate_left 2; assumption; rfl) | refine go_ldc hM rfl ?_)
      refine go_aaldS (r := oA (aWy B t (k + 1))) hM rfl k2 rfl (by omega) (by omega) (by omega) (by rw [e2]; exact if_pos (by omega)) ?_
      repeat (first | refine go_pure hM rfl ?_ | (refine go_get (fs := ?_) (v := ?_) hM rfl ?_ ?_ ?_; rotate_left 2; assumption; rfl) | refine go_ldc hM rfl ?_)
      refine go_cV hM rfl rfl rfl (hp_nd w2) rfl (p_firstAt ok w2 (by omega)) rfl ?_
      refine go_cV hM rfl rfl rfl (hp_nd w1) rfl (p_setFirst ok w1 p1) rfl ?_
      refine go_pure hM rfl ?_
      have e3 : ((k + 1 : Nat) : Int) + (-1) = k := by omega
      rw [e3]
      have ok2 : aOk (sWf B (aWy B t k) (gF (aWf B (aWy B t k)) (aPl B t k * 3).toNat (gWd (aWf B (aWy B t (k + 1))) (aEn B (aWy B t (k + 1))) 0 0))) := aOk_sWf ok (gF_r r1.2.2 (ok.wd w2 0 0))
      repeat (first | exact ih (sWf B (aWy B t k) _) (by omega) ok2 (fun j hj => hw j (by omega)) (fun j hj => hp j (by omega)) he | refine go_pure hM rfl ?_ | (refine go_get (fs := ?_) (v := ?_) hM rfl ?_ ?_ ?_; rotate_left 2; assumption; rfl) | refine go_ldc hM rfl ?_)
  repeat (first | exact loop l A hl6 ok0 hw0 hp0 rfl | refine go_pure hM rfl ?_ | (refine go_get (fs := ?_) (v := ?_) hM rfl ?_ ?_ ?_; rotate_left 2; assumption; rfl) | refine go_ldc hM rfl ?_)
/-- the run found is another one -/
def srA (A : cA) (t l : Nat) (x n v w : Int) : cA := rfA (sWf A (aWy A t l) (gT3 (aWf A (aWy A t l)) (aPl A t l * 3).toNat x (if w = 1 then n else n + 32768) v)) t l
theorem c_setRun {x n v w : Int} (ok : aOk A) (ht : t < 4) (hl : aLf A t = (l : Int)) (hl6 : l < 6) (hw : ∀ k, k ≤ l → aWy A t k < 260) (hp : ∀ k, k ≤ l → 0 ≤ aPl A t k ∧ aPl A t k < aEn A (aWy A t k)) (hx : 0 ≤ x ∧ x ≤ 65536) (hn : 0 ≤ n ∧ n ≤ 32768) (hv : 0 ≤ v ∧ v ≤ 16777216) (hww : w = 0 ∨ w = 1) : Rd G m_Tree_setRun [vR (517 + 6 * t), vI x, vI n, vI v, vI w] N (hpx A h0) none N (hpx (srA A t l x n v w) h0) := by
  refine Rn.of rfl rfl rfl ?_
  have hM := ok_Tree_setRun
  have w1 := hw l (Nat.le_refl l)
  have p1 := hp l (Nat.le_refl l)
  have r1 := ok.2.2 _ w1
  have k1 := hp_tr (A := A) (h0 := h0) ht
  have k2 := hp_wy (A := A) (h0 := h0) ht
  have k3 := hp_pl (A := A) (h0 := h0) ht
  have e9 : (aLf A t).toNat = l := by omega
  repeat (first | refine go_pure hM rfl ?_ | (refine go_get (fs := ?_) (v := ?_) hM rfl ?_ ?_ ?_; rotate_left 2; assumption; rfl) | refine go_ldc hM rfl ?_)
  refine go_aaldS (r := oA (aWy A t l)) hM rfl k2 rfl (by omega) (by omega) (by omega) (by rw [e9]; exact if_pos hl6) ?_
  repeat (first | refine go_pure hM rfl ?_ | (refine go_get (fs := ?_) (v := ?_) hM rfl ?_ ?_ ?_; rotate_left 2; assumption; rfl) | refine go_ldc hM rfl ?_)
  refine go_iald hM rfl k3 (by omega) (by omega) (by omega) ?_
  rw [e9]
  repeat (first | refine go_pure hM rfl ?_ | (refine go_get (fs := ?_) (v := ?_) hM rfl ?_ ?_ ?_; rotate_left 2; assumption; rfl) | refine go_ldc hM rfl ?_)
  refine go_cS hM rfl rfl rfl (c_marked hww) rfl ?_
  repeat (first | refine go_pure hM rfl ?_ | (refine go_get (fs := ?_) (v := ?_) hM rfl ?_ ?_ ?_; rotate_left 2; assumption; rfl) | refine go_ldc hM rfl ?_)
  refine go_cV hM rfl rfl rfl (hp_nd w1) rfl (p_setEntry ok w1 p1) rfl ?_
  have ok2 : aOk (sWf A (aWy A t l) (gT3 (aWf A (aWy A t l)) (aPl A t l * 3).toNat x (if w = 1 then n else n + 32768) v)) := aOk_sWf ok (gT3_r r1.2.2 (by omega) (by split <;> omega) hv)
  have j1 := hp_tr (A := sWf A (aWy A t l) (gT3 (aWf A (aWy A t l)) (aPl A t l * 3).toNat x (if w = 1 then n else n + 32768) v)) (h0 := h0) ht
  refine go_pure hM rfl ?_
  refine go_pure hM rfl ?_
  refine go_get hM rfl j1 rfl ?_
  have e8 : aLf (sWf A (aWy A t l) (gT3 (aWf A (aWy A t l)) (aPl A t l * 3).toNat x (if w = 1 then n else n + 32768) v)) t = (l : Int) := hl
  rw [e8]
  refine go_cV hM rfl rfl rfl j1 rfl (c_refreshFirsts (A := sWf A (aWy A t l) _) ht hl6 ok2 hw (fun k hk => hp k (by omega))) rfl ?_
  exact go_vret hM rfl rfl ⟨rfl, rfl, rfl⟩
end
end
section
/-! more rules: two of the stack doubled, remainders, shifts, longs, arrays of booleans -/
section
variable {G : gG} {M : gM} {F : gK → State → Prop} {pc : Nat} {lv lv' : List (Option gV)} {st st' : List gV} {N : Option Nat} {h : gH} {c s : Nat} {pc0 nx k j : Nat} {z : Int}
theorem go_dup2 {a : Int} {b : Nat} (hM : gOk M) (hi : gAt (mT M) pc = some (pc0, .dup2, nx, z, k, j)) (kk : Go G M F nx lv (vI a :: vR b :: vI a :: vR b :: st) N h c s) : Go G M F pc lv (vI a :: vR b :: st) N h c s := by
  intro κ H locs ls cells slots hC hH hl hr
  obtain ⟨p, e, R, s0, m, args, below, meth, cd⟩ := κ
  obtain ⟨hd, rfl, ho⟩ := gdec' (len := 1) hM hi rfl (by decide)
  obtain ⟨htr, hx, hb, hrt, hml, hown, hts, hlk, hnm, hfr, hlo, het, hE⟩ := id hC
  exact lv_dup2_11 (va := .int (Int32.ofInt a)) (vb := .ref (ga G b)) hx hb hd rfl rfl (kk _ H locs ls cells slots hC hH hl hr)
theorem go_i2l {a : Int} (hM : gOk M) (hi : gAt (mT M) pc = some (pc0, .i2l, nx, z, k, j)) (kk : Go G M F nx lv (vL (Int32.ofInt a).toInt64 :: st) N h c s) : Go G M F pc lv (vI a :: st) N h c s := by
  intro κ H locs ls cells slots hC hH hl hr
  obtain ⟨p, e, R, s0, m, args, below, meth, cd⟩ := κ
  obtain ⟨hd, rfl, ho⟩ := gdec' (len := 1) hM hi rfl (by decide)
  obtain ⟨htr, hx, hb, hrt, hml, hown, hts, hlk, hnm, hfr, hlo, het, hE⟩ := id hC
  exact lv_i2l hx hb hd rfl (kk _ H locs ls cells slots hC hH hl hr)
theorem go_lconst {x : Fin 2} (hM : gOk M) (hi : gAt (mT M) pc = some (pc0, .lconst x, nx, z, k, j)) (kk : Go G M F nx lv (vL (Int64.ofNat x.val) :: st) N h c s) : Go G M F pc lv st N h c s := by
  intro κ H locs ls cells slots hC hH hl hr
  obtain ⟨p, e, R, s0, m, args, below, meth, cd⟩ := κ
  obtain ⟨hd, rfl, ho⟩ := gdec' (len := 1) hM hi rfl (by decide)
  obtain ⟨htr, hx, hb, hrt, hml, hown, hts, hlk, hnm, hfr, hlo, het, hE⟩ := id hC
  exact lv_lconst hx hb hd rfl (kk _ H locs ls cells slots hC hH hl hr)
theorem go_lcmp {x y : Int64} (hM : gOk M) (hi : gAt (mT M) pc = some (pc0, .lcmp, nx, z, k, j)) (kk : Go G M F nx lv (vI (lg_cmp x y).toInt :: st) N h c s) : Go G M F pc lv (vL y :: vL x :: st) N h c s := by
  intro κ H locs ls cells slots hC hH hl hr
  obtain ⟨p, e, R, s0, m, args, below, meth, cd⟩ := κ
  obtain ⟨hd, rfl, ho⟩ := gdec' (len := 1) hM hi rfl (by decide)
  obtain ⟨htr, hx, hb, hrt, hml, hown, hts, hlk, hnm, hfr, hlo, het, hE⟩ := id hC
  refine W.lcmp hx hb hd ?_
  have h9 := kk _ H locs ls cells slots hC hH hl hr
  have e9 : gz G (vI (lg_cmp x y).toInt) = .int (lg_cmp x y) := by simp [gz]
  simp only [gWk, List.map_cons, e9] at h9
  exact h9
theorem go_irem {a b : Int} (hM : gOk M) (hi : gAt (mT M) pc = some (pc0, .irem, nx, z, k, j)) (ha : 0 ≤ a ∧ a ≤ 2147483647) (hb9 : 0 < b ∧ b ≤ 2147483647) (kk : Go G M F nx lv (vI (a % b) :: st) N h c s) : Go G M F pc lv (vI b :: vI a :: st) N h c s := by
  intro κ H locs ls cells slots hC hH hl hr
  obtain ⟨p, e, R, s0, m, args, below, meth, cd⟩ := κ
  obtain ⟨hd, rfl, ho⟩ := gdec' (len := 1) hM hi rfl (by decide)
  obtain ⟨htr, hx, hb, hrt, hml, hown, hts, hlk, hnm, hfr, hlo, het, hE⟩ := id hC
  refine lv_irem (x := Int32.ofInt a) (y := Int32.ofInt b) hx hb hd (fun h9 => ?_) ?_
  · rw [gI_0] at h9
    have := (gI_inj (by omega) (by omega)).mp h9
    omega
  · have e9 : Int32.ofInt a - Int32.ofInt a / Int32.ofInt b * Int32.ofInt b = Int32.ofInt (a % b) := by
      rw [gI_div ha.1 ha.2 hb9.1 hb9.2, ← Int32.ofInt_mul, ← Int32.ofInt_sub]
      congr 1
      have := Int.emod_def a b
      rw [this, Int.mul_comm]
    rw [e9]
    exact kk _ H locs ls cells slots hC hH hl hr
theorem go_ishr {a b : Int} (w : Nat) (hM : gOk M) (hi : gAt (mT M) pc = some (pc0, .ishr, nx, z, k, j)) (hw : ((Int32.ofInt b &&& 31).toBitVec.smod 32).toNat = w) (ha : 0 ≤ a ∧ a ≤ 2147483647) (kk : Go G M F nx lv (vI (a / 2 ^ w) :: st) N h c s) : Go G M F pc lv (vI b :: vI a :: st) N h c s := by
  intro κ H locs ls cells slots hC hH hl hr
  obtain ⟨p, e, R, s0, m, args, below, meth, cd⟩ := κ
  obtain ⟨hd, rfl, ho⟩ := gdec' (len := 1) hM hi rfl (by decide)
  obtain ⟨htr, hx, hb, hrt, hml, hown, hts, hlk, hnm, hfr, hlo, het, hE⟩ := id hC
  refine lv_ishr (x := Int32.ofInt a) (y := Int32.ofInt b) hx hb hd ?_
  have h1 : a = (a.toNat : Int) := (Int.toNat_of_nonneg ha.1).symm
  have h2 : Int32.ofInt a >>> (Int32.ofInt b &&& 31) = Int32.ofInt (a / 2 ^ w) := by
    rw [h1, gI_nat, pk_shrN (by omega) _ w hw, ← gI_nat]
    push_cast
    rfl
  rw [h2]
  exact kk _ H locs ls cells slots hC hH hl hr
theorem go_zald {a n : Nat} {i : Int} {f : Nat → Int} (hM : gOk M) (hi : gAt (mT M) pc = some (pc0, .baload, nx, z, k, j)) (hh : h a = some (.inl (4, n, .inl f))) (h0 : 0 ≤ i) (h1 : i < n) (hn : n ≤ 2147483647) (kk : Go G M F nx lv (vI (f i.toNat) :: st) N h c s) : Go G M F pc lv (vI i :: vR a :: st) N h c s := by
  intro κ H locs ls cells slots hC hH hl hr
  obtain ⟨p, e, R, s0, m, args, below, meth, cd⟩ := κ
  obtain ⟨hd, rfl, ho⟩ := gdec' (len := 1) hM hi rfl (by decide)
  obtain ⟨htr, hx, hb, hrt, hml, hown, hts, hlk, hnm, hfr, hlo, het, hE⟩ := id hC
  obtain ⟨ea, hat⟩ := hH.1.at hh
  show W p (gl G) e R s0 m args below meth cd H locs cells slots (F (p, e, R, s0, m, args, below, meth, cd)) (F0 m pc ls (.int (Int32.ofInt i) :: .ref (ga G a) :: st.map (gz G)))
  rw [ea]
  refine va_zald (f := fun i => Int32.ofInt (f i)) hx hb (gK1 hE (k := 4) rfl) (gP1 hat) 0 0 rfl rfl (gI_in h0 h1 hn) hd ?_
  rw [gI_cl h0 (by omega)]
  exact kk _ H locs ls cells slots hC hH hl hr
end
end
section
/-! Tree: a root grows, a block is split -/
/-- another way, other places, other new blocks, another leaf -/
def fH (A : cA) (t : Nat) (f : Nat → Nat) (g : Nat → Int) (q : Nat → Nat) (x : Int) : cA := (aTk A, aDp A, aEn A, aWf A, aRu A, aBl A, aMa A, aMw A, aLb A, gF (aLf A) t x, gF (aWy A) t f, gF (aPl A) t g, gF (aFs A) t q, aLe A, aM A)
section
variable {A : cA} {t : Nat} {f f' : Nat → Nat} {g g' : Nat → Int} {q q' : Nat → Nat} {x y : Int}
theorem fH_0 : fH A t (aWy A t) (aPl A t) (aFs A t) (aLf A t) = A := by
  unfold fH
  rw [gF_same, gF_same, gF_same, gF_same]
theorem fH_wy : aWy (fH A t f g q x) t = f := gF_s _ _ _
theorem fH_pl : aPl (fH A t f g q x) t = g := gF_s _ _ _
theorem fH_fs : aFs (fH A t f g q x) t = q := gF_s _ _ _
theorem fH_lf : aLf (fH A t f g q x) t = x := gF_s _ _ _
theorem sWy_fH : sWy (fH A t f g q x) t f' = fH A t f' g q x := by
  show (aTk A, aDp A, aEn A, aWf A, aRu A, aBl A, aMa A, aMw A, aLb A, gF (aLf A) t x, gF (gF (aWy A) t f) t f', gF (aPl A) t g, gF (aFs A) t q, aLe A, aM A) = _
  rw [gF_uu]
  rfl
theorem sPl_fH : sPl (fH A t f g q x) t g' = fH A t f g' q x := by
  show (aTk A, aDp A, aEn A, aWf A, aRu A, aBl A, aMa A, aMw A, aLb A, gF (aLf A) t x, gF (aWy A) t f, gF (gF (aPl A) t g) t g', gF (aFs A) t q, aLe A, aM A) = _
  rw [gF_uu]
  rfl
theorem sFs_fH : sFs (fH A t f g q x) t q' = fH A t f g q' x := by
  show (aTk A, aDp A, aEn A, aWf A, aRu A, aBl A, aMa A, aMw A, aLb A, gF (aLf A) t x, gF (aWy A) t f, gF (aPl A) t g, gF (gF (aFs A) t q) t q', aLe A, aM A) = _
  rw [gF_uu]
  rfl
theorem sLf_fH : sLf (fH A t f g q x) t y = fH A t f g q y := by
  show (aTk A, aDp A, aEn A, aWf A, gF (aRu A) t (aRu A t), gF (aBl A) t (aBl A t), gF (aMa A) t (aMa A t), gF (aMw A) t (aMw A t), gF (aLb A) t (aLb A t), gF (gF (aLf A) t x) t y, gF (aWy A) t f, gF (aPl A) t g, gF (aFs A) t q, aLe A, aM A) = _
  rw [gF_uu, gF_same, gF_same, gF_same, gF_same, gF_same]
  rfl
end
/-- what lies at 1 .. l lies one further, from k + 1 on -/
def shf {α : Type} (f : Nat → α) (k l : Nat) : Nat → α := fun j => if k + 1 < j ∧ j ≤ l + 1 then f (j - 1) else f j
theorem shf_0 {α : Type} (f : Nat → α) (l : Nat) : shf f l l = f := by
  funext j
  unfold shf
  rw [if_neg (by omega)]
theorem shf_s {α : Type} (f : Nat → α) {k l : Nat} (hk : k + 1 ≤ l) : gF (shf f (k + 1) l) (k + 2) (f (k + 1)) = shf f k l := by
  funext j
  unfold gF shf
  by_cases h1 : j = k + 2
  · rw [if_pos h1, if_pos (by omega), h1]
    rfl
  · rw [if_neg h1]
    by_cases h2 : k + 1 + 1 < j ∧ j ≤ l + 1
    · rw [if_pos h2, if_pos (by omega)]
    · rw [if_neg h2, if_neg (by omega)]
theorem shf_lo {α : Type} (f : Nat → α) {k l j : Nat} (hj : j ≤ k + 1) : shf f k l j = f j := if_neg (by omega)
def gw2 (B : cA) (t l b : Nat) : cA := fH B t (gF (shf (aWy B t) 0 l) 1 b) (gF (gF (shf (aPl B t) 0 l) 1 (aPl B t 0)) 0 0) (shf (aFs B t) 0 l) (l + 1)
section
variable {G : gG} {N : Option Nat} {A B : cA} {h0 : gH} {t l b : Nat}
/-- the tree's row with another leaf -/
theorem up_lf {x : Int} (ht : t < 4) : gU (hpx A h0) (517 + 6 * t) (.inr (2, [vR (oA (256 + t)), vI (aRu A t), vI (aBl A t), vI (aMa A t), vI (aMw A t), vI (aLb A t), vR 2, vR (520 + 6 * t), vR (521 + 6 * t), vI x, vR (522 + 6 * t)])) = hpx (sLf A t x) h0 := up_tr ht
set_option maxHeartbeats 4000000 in
theorem c_grow2 (ht : t < 4) (hl5 : l < 5) (hl : aLf B t = (l : Int)) (hw : ∀ k, k ≤ l → aWy B t k < 260) (hf : ∀ k, k ≤ l → aFs B t k < 260) (hb : b < 260) : Go G m_Tree_growRoot (gFin G (gEq none N (hpx (gw2 B t l b) h0)) gNo) 53 [some (vR (517 + 6 * t)), some (vR (oA b)), none] [] N (hpx B h0) 0 0 := by
  have hM := ok_Tree_growRoot
  have loop : ∀ (k : Nat), k ≤ l → Go G m_Tree_growRoot (gFin G (gEq none N (hpx (gw2 B t l b) h0)) gNo) 58 [some (vR (517 + 6 * t)), some (vR (oA b)), some (vI k)] [] N (hpx (fH B t (shf (aWy B t) k l) (shf (aPl B t) k l) (shf (aFs B t) k l) l) h0) 0 0 := by
    intro k
    induction k with
    | zero =>
      intro h1
      generalize hC : fH B t (shf (aWy B t) 0 l) (shf (aPl B t) 0 l) (shf (aFs B t) 0 l) l = C
      have cw : aWy C t = shf (aWy B t) 0 l := by rw [← hC]; exact fH_wy
      have cp : aPl C t = shf (aPl B t) 0 l := by rw [← hC]; exact fH_pl
      have k1 := hp_tr (A := C) (h0 := h0) ht
      have k2 := hp_wy (A := C) (h0 := h0) ht
      repeat (first | refine go_pure hM rfl ?_ | (refine go_get (fs := ?_) (v := ?_) hM rfl ?_ ?_ ?_; rotate_left 2; assumption; rfl) | refine go_ldc hM rfl ?_)
      refine go_if_le hM rfl (by omega) (fun hc => ?_) (fun hc => absurd hc (by omega))
      repeat (first | refine go_pure hM rfl ?_ | (refine go_get (fs := ?_) (v := ?_) hM rfl ?_ ?_ ?_; rotate_left 2; assumption; rfl) | refine go_ldc hM rfl ?_)
      refine go_aast hM rfl k2 rfl (hp_nd hb) rfl (by omega) (by omega) (by omega) ?_
      have e1 : ((1 : Int)).toNat = 1 := rfl
      rw [e1, eRf_set (by omega), up_wy ht]
      generalize hC1 : sWy C t (gF (aWy C t) 1 b) = C1
      have e2 : C1 = fH B t (gF (shf (aWy B t) 0 l) 1 b) (shf (aPl B t) 0 l) (shf (aFs B t) 0 l) l := by rw [← hC1, cw, ← hC, sWy_fH]
      have cp1 : aPl C1 t = shf (aPl B t) 0 l := by rw [e2]; exact fH_pl
      have j1 := hp_tr (A := C1) (h0 := h0) ht
      have j3 := hp_pl (A := C1) (h0 := h0) ht
      repeat (first | refine go_pure hM rfl ?_ | (refine go_get (fs := ?_) (v := ?_) hM rfl ?_ ?_ ?_; rotate_left 2; assumption; rfl) | refine go_ldc hM rfl ?_)
      refine go_iald hM rfl j3 (by omega) (by omega) (by omega) ?_
      refine go_iast hM rfl j3 (by omega) (by omega) (by omega) ?_
      have e3 : ((0 : Int)).toNat = 0 := rfl
      rw [e1, e3, up_pl ht]
      generalize hC2 : sPl C1 t (gF (aPl C1 t) 1 (aPl C1 t 0)) = C2
      have e4 : C2 = fH B t (gF (shf (aWy B t) 0 l) 1 b) (gF (shf (aPl B t) 0 l) 1 (aPl B t 0)) (shf (aFs B t) 0 l) l := by rw [← hC2, cp1, e2, sPl_fH]; rfl
      have cp2 : aPl C2 t = gF (shf (aPl B t) 0 l) 1 (aPl B t 0) := by rw [e4]; exact fH_pl
      have i1 := hp_tr (A := C2) (h0 := h0) ht
      have i3 := hp_pl (A := C2) (h0 := h0) ht
      repeat (first | refine go_pure hM rfl ?_ | (refine go_get (fs := ?_) (v := ?_) hM rfl ?_ ?_ ?_; rotate_left 2; assumption; rfl) | refine go_ldc hM rfl ?_)
      refine go_iast hM rfl i3 (by omega) (by omega) (by omega) ?_
      rw [e3, up_pl ht]
      generalize hC3 : sPl C2 t (gF (aPl C2 t) 0 0) = C3
      have e5 : C3 = fH B t (gF (shf (aWy B t) 0 l) 1 b) (gF (gF (shf (aPl B t) 0 l) 1 (aPl B t 0)) 0 0) (shf (aFs B t) 0 l) l := by rw [← hC3, cp2, e4, sPl_fH]
      have cl3 : aLf C3 t = (l : Int) := by rw [e5]; exact fH_lf
      have m1 := hp_tr (A := C3) (h0 := h0) ht
      repeat (first | refine go_pure hM rfl ?_ | (refine go_get (fs := ?_) (v := ?_) hM rfl ?_ ?_ ?_; rotate_left 2; assumption; rfl) | refine go_ldc hM rfl ?_)
      refine go_put hM rfl m1 rfl rfl ?_
      rw [up_lf ht, cl3]
      refine go_vret hM rfl rfl ⟨rfl, rfl, ?_⟩
      rw [e5, sLf_fH]
      rfl
    | succ k ih =>
      intro h1
      generalize hC : fH B t (shf (aWy B t) (k + 1) l) (shf (aPl B t) (k + 1) l) (shf (aFs B t) (k + 1) l) l = C
      have cw : aWy C t = shf (aWy B t) (k + 1) l := by rw [← hC]; exact fH_wy
      have w1 := hw (k + 1) h1
      have f1 := hf (k + 1) h1
      have k1 := hp_tr (A := C) (h0 := h0) ht
      have k2 := hp_wy (A := C) (h0 := h0) ht
      have e1 : ((k + 1 : Nat) : Int).toNat = k + 1 := by omega
      have e2 : (((k + 1 : Nat) : Int) + 1).toNat = k + 2 := by omega
      repeat (first | refine go_pure hM rfl ?_ | (refine go_get (fs := ?_) (v := ?_) hM rfl ?_ ?_ ?_; rotate_left 2; assumption; rfl) | refine go_ldc hM rfl ?_)
      refine go_if_le hM rfl (by omega) (fun hc => absurd hc (by omega)) (fun hc => ?_)
      repeat (first | refine go_pure hM rfl ?_ | (refine go_get (fs := ?_) (v := ?_) hM rfl ?_ ?_ ?_; rotate_left 2; assumption; rfl) | refine go_ldc hM rfl ?_)
      refine go_aaldS (r := oA (aWy B t (k + 1))) hM rfl k2 rfl (by omega) (by omega) (by omega) (by rw [e1, cw]; show (if k + 1 < 6 then some (oA (shf (aWy B t) (k + 1) l (k + 1))) else none) = _; rw [if_pos (by omega), shf_lo _ (by omega)]) ?_
      refine go_aast hM rfl k2 rfl (hp_nd w1) rfl (by omega) (by omega) (by omega) ?_
      rw [e2, eRf_set (by omega), up_wy ht]
      generalize hC1 : sWy C t (gF (aWy C t) (k + 2) (aWy B t (k + 1))) = C1
      have e3 : C1 = fH B t (shf (aWy B t) k l) (shf (aPl B t) (k + 1) l) (shf (aFs B t) (k + 1) l) l := by rw [← hC1, cw, shf_s _ h1, ← hC, sWy_fH]
      have cp1 : aPl C1 t = shf (aPl B t) (k + 1) l := by rw [e3]; exact fH_pl
      have j1 := hp_tr (A := C1) (h0 := h0) ht
      have j3 := hp_pl (A := C1) (h0 := h0) ht
      repeat (first | refine go_pure hM rfl ?_ | (refine go_get (fs := ?_) (v := ?_) hM rfl ?_ ?_ ?_; rotate_left 2; assumption; rfl) | refine go_ldc hM rfl ?_)
      refine go_iald hM rfl j3 (by omega) (by omega) (by omega) ?_
      refine go_iast hM rfl j3 (by omega) (by omega) (by omega) ?_
      rw [e1, e2, up_pl ht]
      generalize hC2 : sPl C1 t (gF (aPl C1 t) (k + 2) (aPl C1 t (k + 1))) = C2
      have e4 : C2 = fH B t (shf (aWy B t) k l) (shf (aPl B t) k l) (shf (aFs B t) (k + 1) l) l := by rw [← hC2, cp1, shf_lo _ (by omega), shf_s _ h1, e3, sPl_fH]
      have cf2 : aFs C2 t = shf (aFs B t) (k + 1) l := by rw [e4]; exact fH_fs
      have i1 := hp_tr (A := C2) (h0 := h0) ht
      have i3 := hp_fs (A := C2) (h0 := h0) ht
      repeat (first | refine go_pure hM rfl ?_ | (refine go_get (fs := ?_) (v := ?_) hM rfl ?_ ?_ ?_; rotate_left 2; assumption; rfl) | refine go_ldc hM rfl ?_)
      refine go_aaldS (r := oA (aFs B t (k + 1))) hM rfl i3 rfl (by omega) (by omega) (by omega) (by rw [e1, cf2]; show (if k + 1 < 6 then some (oA (shf (aFs B t) (k + 1) l (k + 1))) else none) = _; rw [if_pos (by omega), shf_lo _ (by omega)]) ?_
      refine go_aast hM rfl i3 rfl (hp_nd f1) rfl (by omega) (by omega) (by omega) ?_
      rw [e2, eRf_set (by omega), up_fs ht]
      have e5 : sFs C2 t (gF (aFs C2 t) (k + 2) (aFs B t (k + 1))) = fH B t (shf (aWy B t) k l) (shf (aPl B t) k l) (shf (aFs B t) k l) l := by rw [cf2, shf_s _ h1, e4, sFs_fH]
      rw [e5]
      refine go_pure hM rfl ?_
      have e6 : ((k + 1 : Nat) : Int) + (-1) = k := by omega
      rw [e6]
      repeat (first | exact ih (by omega) | refine go_pure hM rfl ?_ | (refine go_get (fs := ?_) (v := ?_) hM rfl ?_ ?_ ?_; rotate_left 2; assumption; rfl) | refine go_ldc hM rfl ?_)
  have l0 := loop l (Nat.le_refl l)
  rw [shf_0, shf_0, shf_0, ← hl, fH_0] at l0
  have k1 := hp_tr (A := B) (h0 := h0) ht
  repeat (first | exact l0 | refine go_pure hM rfl ?_ | (refine go_get (fs := ?_) (v := ?_) hM rfl ?_ ?_ ?_; rotate_left 2; assumption; rfl) | refine go_ldc hM rfl ?_)
/-- the root's row goes into the new block, the root has one entry -/
def gwB (A : cA) (t b : Nat) : cA := cbA (mvA A (256 + t) 0 b) t b 1
def gwC (A : cA) (t b : Nat) : cA := sNd (gwB A t b) (256 + t) (aTk (gwB A t b) (256 + t)) (aDp (gwB A t b) b + 1) (aEn (gwB A t b) (256 + t))
def gw1 (A : cA) (t b : Nat) : cA := insA (gwC A t b) (256 + t) 0 (gWd (aWf (gwC A t b) b) (aEn (gwC A t b) b) 0 0) (nNo b) 0
theorem mv_en {p : Int} {i j : Nat} : aEn (mvA A i p j) i = p := gF_s _ _ _
theorem mv_dpj {p : Int} {i j : Nat} (h : j ≠ i) : aDp (mvA A i p j) j = aDp A i := by
  show gF (gF (aDp A) j (aDp A i)) i (aDp A i) j = _
  rw [gF_n h, gF_s]
theorem nNo_r {i : Nat} (h : i < 260) : 0 ≤ nNo i ∧ nNo i ≤ 255 := by
  unfold nNo
  split <;> omega
set_option maxHeartbeats 4000000 in
theorem c_growRoot (ok : aOk A) (ht : t < 4) (hl5 : l < 5) (hl : aLf A t = (l : Int)) (hw : ∀ k, k ≤ l → aWy A t k < 260) (hf : ∀ k, k ≤ l → aFs A t k < 260) (hb : aFs A t 0 = b) (hb2 : b < 256) (hd : aDp A (256 + t) ≤ 4) : Rd G m_Tree_growRoot [vR (517 + 6 * t)] N (hpx A h0) none none (hpx (gw2 (gw1 A t b) t l b) h0) := by
  refine Rn.of rfl rfl rfl ?_
  have hM := ok_Tree_growRoot
  have k1 := hp_tr (A := A) (h0 := h0) ht
  have k2 := hp_fs (A := A) (h0 := h0) ht
  have hr : 256 + t < 260 := by omega
  have hne : 256 + t ≠ b := by omega
  have e4 : aRm A (256 + t) = 4 := if_neg (by omega)
  have r1 := ok.2.2 _ hr
  have r2 := ok.rm b
  have r3 := nNo_r (i := b) (by omega)
  have okM : aOk (mvA A (256 + t) 0 b) := aOk_mv ok hr (by omega) (by omega) (by omega)
  have okB : aOk (gwB A t b) := okM
  have enB : aEn (gwB A t b) (256 + t) = 0 := mv_en
  have dpB : aDp (gwB A t b) b = aDp A (256 + t) := mv_dpj (Ne.symm hne)
  have rmB : aRm (gwB A t b) (256 + t) = 4 := e4
  have okC : aOk (gwC A t b) := aOk_sNd okB (by rw [dpB]; omega) (by rw [enB, rmB]; omega)
  have enC : aEn (gwC A t b) (256 + t) = 0 := by
    show gF (aEn (gwB A t b)) (256 + t) (aEn (gwB A t b) (256 + t)) (256 + t) = 0
    rw [gF_s, enB]
  have rmC : aRm (gwC A t b) (256 + t) = 4 := e4
  repeat (first | refine go_pure hM rfl ?_ | (refine go_get (fs := ?_) (v := ?_) hM rfl ?_ ?_ ?_; rotate_left 2; assumption; rfl) | refine go_ldc hM rfl ?_)
  refine go_aaldS (r := oA b) hM rfl k2 rfl (by omega) (by omega) (by omega) (by rw [← hb]; exact if_pos (by decide)) ?_
  repeat (first | refine go_pure hM rfl ?_ | (refine go_get (fs := ?_) (v := ?_) hM rfl ?_ ?_ ?_; rotate_left 2; assumption; rfl) | refine go_ldc hM rfl ?_)
  refine go_cV hM rfl rfl rfl (hp_nd hr) rfl (p_moveTail ok hr (by omega : b < 260) hne (by omega) (by omega)) rfl ?_
  repeat (first | refine go_pure hM rfl ?_ | (refine go_get (fs := ?_) (v := ?_) hM rfl ?_ ?_ ?_; rotate_left 2; assumption; rfl) | refine go_ldc hM rfl ?_)
  refine go_cV hM rfl rfl rfl (hp_tr ht) rfl (c_countBlock (A := mvA A (256 + t) 0 b) (i := b) okM ht (by omega)) rfl ?_
  have j1 : hpx (sTr (mvA A (256 + t) 0 b) t (aRu (mvA A (256 + t) 0 b) t) (aBl (mvA A (256 + t) 0 b) t + 1) (aMa (mvA A (256 + t) 0 b) t) (aMw (mvA A (256 + t) 0 b) t) (if aDp (mvA A (256 + t) 0 b) b = 0 then aLb (mvA A (256 + t) 0 b) t + 1 else aLb (mvA A (256 + t) 0 b) t) (aLf (mvA A (256 + t) 0 b) t)) h0 = hpx (gwB A t b) h0 := rfl
  rw [j1]
  have i1 := hp_tr (A := gwB A t b) (h0 := h0) ht
  have i2 := hp_nd (A := gwB A t b) (h0 := h0) (i := b) (by omega)
  have i3 := hp_nd (A := gwB A t b) (h0 := h0) hr
  repeat (first | refine go_pure hM rfl ?_ | (refine go_get (fs := ?_) (v := ?_) hM rfl ?_ ?_ ?_; rotate_left 2; assumption; rfl) | refine go_ldc hM rfl ?_)
  refine go_put hM rfl i3 rfl rfl ?_
  rw [up_nd hr]
  have j2 : hpx (sNd (gwB A t b) (256 + t) (aTk (gwB A t b) (256 + t)) (aDp (gwB A t b) b + 1) (aEn (gwB A t b) (256 + t))) h0 = hpx (gwC A t b) h0 := rfl
  rw [j2]
  have m1 := hp_tr (A := gwC A t b) (h0 := h0) ht
  have m2 := hp_nd (A := gwC A t b) (h0 := h0) (i := b) (by omega)
  have m3 := hp_nd (A := gwC A t b) (h0 := h0) hr
  repeat (first | refine go_pure hM rfl ?_ | (refine go_get (fs := ?_) (v := ?_) hM rfl ?_ ?_ ?_; rotate_left 2; assumption; rfl) | refine go_ldc hM rfl ?_)
  refine go_cV hM rfl rfl rfl m2 rfl (p_firstAt okC (by omega) (by omega)) rfl ?_
  repeat (first | refine go_pure hM rfl ?_ | (refine go_get (fs := ?_) (v := ?_) hM rfl ?_ ?_ ?_; rotate_left 2; assumption; rfl) | refine go_ldc hM rfl ?_)
  refine go_cV hM rfl rfl rfl m3 rfl (p_insert okC hr (by omega) (by rw [enC, rmC]; omega)) rfl ?_
  exact c_grow2 (B := gw1 A t b) ht hl5 ((gF_s (aLf A) t (aLf A t)).trans hl) hw hf (by omega)
/-- a block is split -/
def spB (A : cA) (t k : Nat) : cA := cbA (mvA A (aWy A t k) (((aRm A (aWy A t k) : Int) + 1) / 2) (aFs A t k)) t (aFs A t k) 1
def spC (A : cA) (t k : Nat) : cA := insA (spB A t k) (aWy A t (k - 1)) (aPl A t (k - 1) + 1) (gWd (aWf (spB A t k) (aFs A t k)) (aEn (spB A t k) (aFs A t k)) 0 0) (nNo (aFs A t k)) 0
def spA (A : cA) (t k : Nat) : cA := if ((aRm A (aWy A t k) : Int) + 1) / 2 < aPl A t k + 1 then fH (spC A t k) t (gF (aWy A t) k (aFs A t k)) (gF (gF (aPl A t) k (aPl A t k - ((aRm A (aWy A t k) : Int) + 1) / 2)) (k - 1) (aPl A t (k - 1) + 1)) (aFs A t) (aLf A t) else spC A t k
set_option maxHeartbeats 4000000 in
theorem c_splitBlock {k o b q : Nat} (ok : aOk A) (ht : t < 4) (hk : 1 ≤ k ∧ k < 6) (ho : aWy A t k = o) (ho2 : o < 256) (hb : aFs A t k = b) (hb2 : b < 256) (hob : o ≠ b) (hq : aWy A t (k - 1) = q) (hq2 : q < 260) (hqo : q ≠ o) (hqb : q ≠ b) (hfull : aEn A o = aRm A o) (hroom : aEn A q < aRm A q) (hpk : -1 ≤ aPl A t k ∧ aPl A t k < aRm A o) (hpq : 0 ≤ aPl A t (k - 1) ∧ aPl A t (k - 1) < aEn A q) : Rd G m_Tree_splitBlock [vR (517 + 6 * t), vI k] N (hpx A h0) none none (hpx (spA A t k) h0) := by
  refine Rn.of rfl rfl rfl ?_
  have hM := ok_Tree_splitBlock
  have k1 := hp_tr (A := A) (h0 := h0) ht
  have k2 := hp_wy (A := A) (h0 := h0) ht
  have k3 := hp_fs (A := A) (h0 := h0) ht
  have k4 := hp_nd (A := A) (h0 := h0) (i := o) (by omega)
  have e1 : (k : Int).toNat = k := by omega
  have e0 : ((k : Int) - 1).toNat = k - 1 := by omega
  have r1 := ok.2.2 o (by omega)
  have r2 := ok.rm o
  have r5 := ok.rm b
  have r6 := ok.rm q
  have r7 := ok.2.2 q hq2
  have r3 := nNo_r (i := b) (by omega)
  have rob : aRm A o = aRm A b := by
    unfold aRm
    rw [if_pos ho2, if_pos hb2]
  obtain ⟨hf, hhf⟩ : ∃ hf : Int, ((aRm A o : Int) + 1) / 2 = hf := ⟨_, rfl⟩
  have okM : aOk (mvA A o hf b) := aOk_mv ok (by omega) (by omega) (by omega) (by omega)
  have hB : spB A t k = cbA (mvA A o hf b) t b 1 := by
    unfold spB
    rw [ho, hb, hhf]
  have okB : aOk (spB A t k) := by
    rw [hB]
    exact okM
  have enq : aEn (spB A t k) q = aEn A q := by
    rw [hB]
    show gF (gF (aEn A) b (aEn A o - hf)) o hf q = _
    rw [gF_n hqo, gF_n hqb]
  have rmq : aRm (spB A t k) q = aRm A q := by
    rw [hB]
    rfl
  repeat (first | refine go_pure hM rfl ?_ | (refine go_get (fs := ?_) (v := ?_) hM rfl ?_ ?_ ?_; rotate_left 2; assumption; rfl) | refine go_ldc hM rfl ?_)
  refine go_aaldS (r := oA o) hM rfl k2 rfl (by omega) (by omega) (by omega) (by rw [e1, ho]; exact if_pos (by omega)) ?_
  repeat (first | refine go_pure hM rfl ?_ | (refine go_get (fs := ?_) (v := ?_) hM rfl ?_ ?_ ?_; rotate_left 2; assumption; rfl) | refine go_ldc hM rfl ?_)
  refine go_aaldS (r := oA b) hM rfl k3 rfl (by omega) (by omega) (by omega) (by rw [e1, hb]; exact if_pos (by omega)) ?_
  repeat (first | refine go_pure hM rfl ?_ | (refine go_get (fs := ?_) (v := ?_) hM rfl ?_ ?_ ?_; rotate_left 2; assumption; rfl) | refine go_ldc hM rfl ?_)
  refine go_idiv hM rfl (by omega) (by omega) ?_
  rw [hhf]
  repeat (first | refine go_pure hM rfl ?_ | (refine go_get (fs := ?_) (v := ?_) hM rfl ?_ ?_ ?_; rotate_left 2; assumption; rfl) | refine go_ldc hM rfl ?_)
  refine go_cV hM rfl rfl rfl k4 rfl (p_moveTail ok (by omega : o < 260) (by omega : b < 260) hob (by omega) (by omega)) rfl ?_
  repeat (first | refine go_pure hM rfl ?_ | (refine go_get (fs := ?_) (v := ?_) hM rfl ?_ ?_ ?_; rotate_left 2; assumption; rfl) | refine go_ldc hM rfl ?_)
  refine go_cV hM rfl rfl rfl (hp_tr ht) rfl (c_countBlock (A := mvA A o hf b) (i := b) okM ht (by omega)) rfl ?_
  have j1 : hpx (sTr (mvA A o hf b) t (aRu (mvA A o hf b) t) (aBl (mvA A o hf b) t + 1) (aMa (mvA A o hf b) t) (aMw (mvA A o hf b) t) (if aDp (mvA A o hf b) b = 0 then aLb (mvA A o hf b) t + 1 else aLb (mvA A o hf b) t) (aLf (mvA A o hf b) t)) h0 = hpx (spB A t k) h0 := by rw [hB]; rfl
  rw [j1]
  have wB : aWy (spB A t k) t = aWy A t := by rw [hB]; rfl
  have pB : aPl (spB A t k) t = aPl A t := by rw [hB]; rfl
  have i1 := hp_tr (A := spB A t k) (h0 := h0) ht
  have i2 := hp_wy (A := spB A t k) (h0 := h0) ht
  have i3 := hp_pl (A := spB A t k) (h0 := h0) ht
  have i4 := hp_nd (A := spB A t k) (h0 := h0) (i := b) (by omega)
  have i5 := hp_nd (A := spB A t k) (h0 := h0) hq2
  rw [wB] at i2
  rw [pB] at i3
  repeat (first | refine go_pure hM rfl ?_ | (refine go_get (fs := ?_) (v := ?_) hM rfl ?_ ?_ ?_; rotate_left 2; assumption; rfl) | refine go_ldc hM rfl ?_)
  refine go_aaldS (r := oA q) hM rfl i2 rfl (by omega) (by omega) (by omega) (by rw [e0, hq]; exact if_pos (by omega)) ?_
  repeat (first | refine go_pure hM rfl ?_ | (refine go_get (fs := ?_) (v := ?_) hM rfl ?_ ?_ ?_; rotate_left 2; assumption; rfl) | refine go_ldc hM rfl ?_)
  refine go_iald hM rfl i3 (by omega) (by omega) (by omega) ?_
  rw [e0]
  repeat (first | refine go_pure hM rfl ?_ | (refine go_get (fs := ?_) (v := ?_) hM rfl ?_ ?_ ?_; rotate_left 2; assumption; rfl) | refine go_ldc hM rfl ?_)
  refine go_cV hM rfl rfl rfl i4 rfl (p_firstAt okB (by omega) (by omega)) rfl ?_
  repeat (first | refine go_pure hM rfl ?_ | (refine go_get (fs := ?_) (v := ?_) hM rfl ?_ ?_ ?_; rotate_left 2; assumption; rfl) | refine go_ldc hM rfl ?_)
  refine go_cV hM rfl rfl rfl i5 rfl (p_insert okB hq2 (by rw [enq]; omega) (by rw [enq, rmq]; exact hroom)) rfl ?_
  have hC : spC A t k = insA (spB A t k) q (aPl A t (k - 1) + 1) (gWd (aWf (spB A t k) b) (aEn (spB A t k) b) 0 0) (nNo b) 0 := by
    unfold spC
    rw [hq, hb]
  have j2 : hpx (sNd (sWf (spB A t k) q (gIns (aWf (spB A t k) q) (aEn (spB A t k) q) (aPl A t (k - 1) + 1) (gWd (aWf (spB A t k) b) (aEn (spB A t k) b) 0 0) (nNo b) 0)) q (aTk (spB A t k) q) (aDp (spB A t k) q) (aEn (spB A t k) q + 1)) h0 = hpx (spC A t k) h0 := by rw [hC]; rfl
  rw [j2]
  have wC : aWy (spC A t k) t = aWy A t := by rw [hC]; exact wB
  have pC : aPl (spC A t k) t = aPl A t := by rw [hC]; exact pB
  have fC : aFs (spC A t k) t = aFs A t := by rw [hC, hB]; rfl
  have lC : aLf (spC A t k) t = aLf A t := by rw [hC, hB]; exact gF_s _ _ _
  have m1 := hp_tr (A := spC A t k) (h0 := h0) ht
  have m2 := hp_wy (A := spC A t k) (h0 := h0) ht
  have m3 := hp_pl (A := spC A t k) (h0 := h0) ht
  repeat (first | refine go_pure hM rfl ?_ | (refine go_get (fs := ?_) (v := ?_) hM rfl ?_ ?_ ?_; rotate_left 2; assumption; rfl) | refine go_ldc hM rfl ?_)
  refine go_iald hM rfl m3 (by omega) (by omega) (by omega) ?_
  rw [e1, pC]
  repeat (first | refine go_pure hM rfl ?_ | (refine go_get (fs := ?_) (v := ?_) hM rfl ?_ ?_ ?_; rotate_left 2; assumption; rfl) | refine go_ldc hM rfl ?_)
  have spE : spA A t k = if hf < aPl A t k + 1 then fH (spC A t k) t (gF (aWy A t) k b) (gF (gF (aPl A t) k (aPl A t k - hf)) (k - 1) (aPl A t (k - 1) + 1)) (aFs A t) (aLf A t) else spC A t k := by
    unfold spA
    rw [ho, hb, hhf]
  refine go_icmp_le hM rfl (by omega) (by omega) (fun hc => ?_) (fun hc => ?_)
  · rw [if_neg (by omega)] at spE
    exact go_vret hM rfl rfl ⟨rfl, rfl, by rw [spE]⟩
  · rw [if_pos (by omega)] at spE
    have hD : spC A t k = fH (spC A t k) t (aWy A t) (aPl A t) (aFs A t) (aLf A t) := by
      rw [← wC, ← pC, ← fC, ← lC, fH_0]
    repeat (first | refine go_pure hM rfl ?_ | (refine go_get (fs := ?_) (v := ?_) hM rfl ?_ ?_ ?_; rotate_left 2; assumption; rfl) | refine go_ldc hM rfl ?_)
    refine go_aast (i := (k : Int)) hM rfl m2 rfl (hp_nd (i := b) (by omega)) rfl (by omega) (by omega) (by omega) ?_
    rw [e1, eRf_set (by omega), up_wy ht]
    generalize hC1 : sWy (spC A t k) t (gF (aWy (spC A t k) t) k b) = C1
    have e3 : C1 = fH (spC A t k) t (gF (aWy A t) k b) (aPl A t) (aFs A t) (aLf A t) := by
      rw [← hC1, wC]
      conv => lhs; rw [hD]
      rw [sWy_fH]
    have cp1 : aPl C1 t = aPl A t := by rw [e3]; exact fH_pl
    have n1 := hp_tr (A := C1) (h0 := h0) ht
    have n3 := hp_pl (A := C1) (h0 := h0) ht
    repeat (first | refine go_pure hM rfl ?_ | (refine go_get (fs := ?_) (v := ?_) hM rfl ?_ ?_ ?_; rotate_left 2; assumption; rfl) | refine go_ldc hM rfl ?_)
    refine go_dup2 hM rfl ?_
    refine go_iald hM rfl n3 (by omega) (by omega) (by omega) ?_
    repeat (first | refine go_pure hM rfl ?_ | (refine go_get (fs := ?_) (v := ?_) hM rfl ?_ ?_ ?_; rotate_left 2; assumption; rfl) | refine go_ldc hM rfl ?_)
    refine go_iast hM rfl n3 (by omega) (by omega) (by omega) ?_
    rw [e1, up_pl ht]
    generalize hC2 : sPl C1 t (gF (aPl C1 t) k (aPl C1 t k - hf)) = C2
    have e4 : C2 = fH (spC A t k) t (gF (aWy A t) k b) (gF (aPl A t) k (aPl A t k - hf)) (aFs A t) (aLf A t) := by rw [← hC2, cp1, e3, sPl_fH]
    have cp2 : aPl C2 t = gF (aPl A t) k (aPl A t k - hf) := by rw [e4]; exact fH_pl
    have o1 := hp_tr (A := C2) (h0 := h0) ht
    have o3 := hp_pl (A := C2) (h0 := h0) ht
    repeat (first | refine go_pure hM rfl ?_ | (refine go_get (fs := ?_) (v := ?_) hM rfl ?_ ?_ ?_; rotate_left 2; assumption; rfl) | refine go_ldc hM rfl ?_)
    refine go_dup2 hM rfl ?_
    refine go_iald hM rfl o3 (by omega) (by omega) (by omega) ?_
    repeat (first | refine go_pure hM rfl ?_ | (refine go_get (fs := ?_) (v := ?_) hM rfl ?_ ?_ ?_; rotate_left 2; assumption; rfl) | refine go_ldc hM rfl ?_)
    refine go_iast hM rfl o3 (by omega) (by omega) (by omega) ?_
    rw [e0, up_pl ht]
    refine go_vret hM rfl rfl ⟨rfl, rfl, ?_⟩
    rw [spE, cp2, e4, sPl_fH, gF_n (by omega)]
end
end
section
/-! Tree.insertRun -/
def leastFree (A : cA) (b : Nat) : Prop := (1 ≤ b ∧ b < 256) ∧ aTk A b = 0 ∧ ∀ j, 1 ≤ j → j < b → aTk A j = 1
/-- a block is taken for a level -/
def tk1 (A : cA) (t k b : Nat) : cA := sFs (sLe (sNd A b 1 (aDp A b) (aEn A b)) (aLe A - 1)) t (gF (aFs A t) k b)
/-- .. for n levels, from l up -/
def tkS (A : cA) (t : Nat) (bs : Nat → Nat) (l : Nat) : Nat → cA
  | 0 => A
  | n + 1 => tk1 (tkS A t bs l n) t (l - n) (bs (l - n))
/-- n blocks are split, from level k down -/
def spS (A : cA) (t k : Nat) : Nat → cA
  | 0 => A
  | n + 1 => spA (spS A t k n) t (k + n)
def SplitOk (A : cA) (t k : Nat) : Prop := aOk A ∧ (1 ≤ k ∧ k < 6) ∧ aWy A t k < 256 ∧ aFs A t k < 256 ∧ aWy A t k ≠ aFs A t k ∧ aWy A t (k - 1) < 260 ∧ aWy A t (k - 1) ≠ aWy A t k ∧ aWy A t (k - 1) ≠ aFs A t k ∧ aEn A (aWy A t k) = aRm A (aWy A t k) ∧ aEn A (aWy A t (k - 1)) < aRm A (aWy A t (k - 1)) ∧ (-1 ≤ aPl A t k ∧ aPl A t k < aRm A (aWy A t k)) ∧ (0 ≤ aPl A t (k - 1) ∧ aPl A t (k - 1) < aEn A (aWy A t (k - 1)))
/-- the new entry, and what is told above it -/
def irI (A : cA) (t l : Nat) (x n v w : Int) : cA := insA A (aWy A t l) (aPl A t l + 1) x (if w = 1 then n else n + 32768) v
def irF (A : cA) (t l : Nat) (x n v w : Int) : cA := sTr (rfA (irI A t l x n v w) t l) t (aRu A t + 1) (aBl A t) (aMa A t) (aMw A t) (aLb A t) (aLf A t)
def LeafOk (A : cA) (t l : Nat) : Prop := aOk A ∧ l < 6 ∧ aLf A t = (l : Int) ∧ (∀ k, k ≤ l → aWy A t k < 260) ∧ (∀ k, k < l → 0 ≤ aPl A t k ∧ aPl A t k < aEn A (aWy A t k) ∧ aWy A t k ≠ aWy A t l) ∧ aEn A (aWy A t l) < aRm A (aWy A t l) ∧ (-1 ≤ aPl A t l ∧ aPl A t l < aEn A (aWy A t l))
theorem rf_ru {t : Nat} : ∀ (k : Nat) (A : cA), aRu (rfA A t k) = aRu A ∧ aBl (rfA A t k) = aBl A ∧ aMa (rfA A t k) = aMa A ∧ aMw (rfA A t k) = aMw A ∧ aLb (rfA A t k) = aLb A ∧ aLf (rfA A t k) = aLf A ∧ aWy (rfA A t k) = aWy A ∧ aPl (rfA A t k) = aPl A ∧ aFs (rfA A t k) = aFs A ∧ aEn (rfA A t k) = aEn A ∧ aDp (rfA A t k) = aDp A ∧ aTk (rfA A t k) = aTk A ∧ aLe (rfA A t k) = aLe A ∧ aM (rfA A t k) = aM A := by
  intro k
  induction k with
  | zero => intro A; exact ⟨rfl, rfl, rfl, rfl, rfl, rfl, rfl, rfl, rfl, rfl, rfl, rfl, rfl, rfl⟩
  | succ k ih => intro A; exact ih _
section
variable {G : gG} {N : Option Nat} {A B : cA} {h0 : gH} {t l : Nat} {x n v w : Int}
theorem sp_lf {k : Nat} : aLf (spA A t k) t = aLf A t := by
  have h1 : aLf (spC A t k) t = aLf A t := gF_s _ _ _
  unfold spA
  split
  · exact fH_lf
  · exact h1
theorem sps_lf {k : Nat} : ∀ m, aLf (spS A t k m) t = aLf A t := by
  intro m
  induction m with
  | zero => rfl
  | succ m ih => exact sp_lf.trans ih
set_option maxHeartbeats 4000000 in
/-- the splits, the entry, the firsts, one run more -/
theorem c_ins_tail {r : Nat} (ht : t < 4) (hr : r ≤ l) (hl6 : l < 6) (hl : aLf B t = (l : Int)) (hs : ∀ m, m < l - r → SplitOk (spS B t (r + 1) m) t (r + 1 + m)) (hf : LeafOk (spS B t (r + 1) (l - r)) t l) (hx : 0 ≤ x ∧ x ≤ 65536) (hn : 0 ≤ n ∧ n ≤ 32768) (hv : 0 ≤ v ∧ v ≤ 16777216) (hw : w = 0 ∨ w = 1) (y : Option gV) : Go G m_Tree_insertRun (gFin G (gEq none none (hpx (irF (spS B t (r + 1) (l - r)) t l x n v w) h0)) gNo) 68 [some (vR (517 + 6 * t)), some (vI x), some (vI n), some (vI v), some (vI w), some (vI r), y] [] none (hpx B h0) 0 0 := by
  have hM := ok_Tree_insertRun
  generalize hZ : irF (spS B t (r + 1) (l - r)) t l x n v w = Z
  have loop : ∀ (q m : Nat), q + m = l - r → Go G m_Tree_insertRun (gFin G (gEq none none (hpx Z h0)) gNo) 74 [some (vR (517 + 6 * t)), some (vI x), some (vI n), some (vI v), some (vI w), some (vI r), some (vI ((r + 1 + m : Nat) : Int))] [] none (hpx (spS B t (r + 1) m) h0) 0 0 := by
    intro q
    induction q with
    | zero =>
      intro m hm
      have hm : m = l - r := by omega
      subst hm
      generalize spS B t (r + 1) (l - r) = C at hf hZ
      obtain ⟨ok, -, hlf, hwy, hpl, hro, hp⟩ := hf
      have w1 := hwy l (Nat.le_refl l)
      have k1 := hp_tr (A := C) (h0 := h0) ht
      have k2 := hp_wy (A := C) (h0 := h0) ht
      have k3 := hp_pl (A := C) (h0 := h0) ht
      have k4 := hp_nd (A := C) (h0 := h0) w1
      have e9 : (aLf C t).toNat = l := by omega
      repeat (first | refine go_pure hM rfl ?_ | (refine go_get (fs := ?_) (v := ?_) hM rfl ?_ ?_ ?_; rotate_left 2; assumption; rfl) | refine go_ldc hM rfl ?_)
      refine go_icmp_gt hM rfl (by omega) (by omega) (fun hc => ?_) (fun hc => absurd hc (by omega))
      repeat (first | refine go_pure hM rfl ?_ | (refine go_get (fs := ?_) (v := ?_) hM rfl ?_ ?_ ?_; rotate_left 2; assumption; rfl) | refine go_ldc hM rfl ?_)
      refine go_aaldS (r := oA (aWy C t l)) hM rfl k2 rfl (by omega) (by omega) (by omega) (by rw [e9]; exact if_pos hl6) ?_
      repeat (first | refine go_pure hM rfl ?_ | (refine go_get (fs := ?_) (v := ?_) hM rfl ?_ ?_ ?_; rotate_left 2; assumption; rfl) | refine go_ldc hM rfl ?_)
      refine go_iald hM rfl k3 (by omega) (by omega) (by omega) ?_
      rw [e9]
      repeat (first | refine go_pure hM rfl ?_ | (refine go_get (fs := ?_) (v := ?_) hM rfl ?_ ?_ ?_; rotate_left 2; assumption; rfl) | refine go_ldc hM rfl ?_)
      refine go_cS hM rfl rfl rfl (c_marked hw) rfl ?_
      repeat (first | refine go_pure hM rfl ?_ | (refine go_get (fs := ?_) (v := ?_) hM rfl ?_ ?_ ?_; rotate_left 2; assumption; rfl) | refine go_ldc hM rfl ?_)
      refine go_cV hM rfl rfl rfl k4 rfl (p_insert ok w1 (by omega) hro) rfl ?_
      have j1 : hpx (sNd (sWf C (aWy C t l) (gIns (aWf C (aWy C t l)) (aEn C (aWy C t l)) (aPl C t l + 1) x (if w = 1 then n else n + 32768) v)) (aWy C t l) (aTk C (aWy C t l)) (aDp C (aWy C t l)) (aEn C (aWy C t l) + 1)) h0 = hpx (irI C t l x n v w) h0 := rfl
      rw [j1]
      have ok2 : aOk (irI C t l x n v w) := aOk_ins ok w1 hro (by omega) (by split <;> omega) hv
      have i1 := hp_tr (A := irI C t l x n v w) (h0 := h0) ht
      refine go_pure hM rfl ?_
      refine go_pure hM rfl ?_
      refine go_get hM rfl i1 rfl ?_
      have e8 : aLf (irI C t l x n v w) t = (l : Int) := hlf
      rw [e8]
      refine go_cV hM rfl rfl rfl i1 rfl (c_refreshFirsts (A := irI C t l x n v w) ht hl6 ok2 hwy (fun k hk => ?_)) rfl ?_
      · obtain ⟨p1, p2, p3⟩ := hpl k hk
        refine ⟨p1, ?_⟩
        show aPl C t k < gF (aEn C) (aWy C t l) (aEn C (aWy C t l) + 1) (aWy C t k)
        rw [gF_n p3]
        exact p2
      have m1 := hp_tr (A := rfA (irI C t l x n v w) t l) (h0 := h0) ht
      obtain ⟨f1, f2, f3, f4, f5, f6, -⟩ := rf_ru (t := t) l (irI C t l x n v w)
      repeat (first | refine go_pure hM rfl ?_ | (refine go_get (fs := ?_) (v := ?_) hM rfl ?_ ?_ ?_; rotate_left 2; assumption; rfl) | refine go_ldc hM rfl ?_)
      refine go_put hM rfl m1 rfl rfl ?_
      rw [up_tr ht, f1, f2, f3, f4, f5, f6]
      refine go_vret hM rfl rfl ⟨rfl, rfl, ?_⟩
      rw [← hZ]
      rfl
    | succ q ih =>
      intro m hm
      obtain ⟨ok, h1, h2, h3, h4, h5, h6, h7, h8, h9, h10, h11⟩ := hs m (by omega)
      have hlm : aLf (spS B t (r + 1) m) t = (l : Int) := (sps_lf m).trans hl
      have k1 := hp_tr (A := spS B t (r + 1) m) (h0 := h0) ht
      repeat (first | refine go_pure hM rfl ?_ | (refine go_get (fs := ?_) (v := ?_) hM rfl ?_ ?_ ?_; rotate_left 2; assumption; rfl) | refine go_ldc hM rfl ?_)
      rw [hlm]
      refine go_icmp_gt hM rfl (by omega) (by omega) (fun hc => absurd hc (by omega)) (fun hc => ?_)
      repeat (first | refine go_pure hM rfl ?_ | (refine go_get (fs := ?_) (v := ?_) hM rfl ?_ ?_ ?_; rotate_left 2; assumption; rfl) | refine go_ldc hM rfl ?_)
      refine go_cV hM rfl rfl rfl k1 rfl (c_splitBlock (k := r + 1 + m) ok ht h1 rfl h2 rfl h3 h4 rfl h5 h6 h7 h8 h9 h10 h11) rfl ?_
      refine go_pure hM rfl ?_
      have e2 : ((r + 1 + m : Nat) : Int) + 1 = ((r + 1 + (m + 1) : Nat) : Int) := by omega
      rw [e2]
      repeat (first | exact ih (m + 1) (by omega) | refine go_pure hM rfl ?_ | (refine go_get (fs := ?_) (v := ?_) hM rfl ?_ ?_ ?_; rotate_left 2; assumption; rfl) | refine go_ldc hM rfl ?_)
  have l0 := loop (l - r) 0 (by omega)
  have e3 : ((r + 1 + 0 : Nat) : Int) = (r : Int) + 1 := by omega
  rw [e3] at l0
  repeat (first | exact l0 | refine go_pure hM rfl ?_ | (refine go_get (fs := ?_) (v := ?_) hM rfl ?_ ?_ ?_; rotate_left 2; assumption; rfl) | refine go_ldc hM rfl ?_)
end
end
section
/-! Tree.insertRun, from its head -/
section
variable {G : gG} {N : Option Nat} {A B : cA} {h0 : gH} {t l : Nat} {x n v w : Int} {bs : Nat → Nat}
theorem tks_same : ∀ m, aLf (tkS A t bs l m) = aLf A ∧ aWy (tkS A t bs l m) = aWy A ∧ aPl (tkS A t bs l m) = aPl A ∧ aEn (tkS A t bs l m) = aEn A ∧ aDp (tkS A t bs l m) = aDp A ∧ aWf (tkS A t bs l m) = aWf A ∧ aM (tkS A t bs l m) = aM A := by
  intro m
  induction m with
  | zero => exact ⟨rfl, rfl, rfl, rfl, rfl, rfl, rfl⟩
  | succ m ih =>
    obtain ⟨h1, h2, h3, h4, h5, h6, h7⟩ := ih
    refine ⟨h1, h2, h3, ?_, ?_, h6, h7⟩
    · show gF (aEn (tkS A t bs l m)) _ (aEn (tkS A t bs l m) _) = aEn A
      rw [gF_same, h4]
    · show gF (aDp (tkS A t bs l m)) _ (aDp (tkS A t bs l m) _) = aDp A
      rw [gF_same, h5]
theorem tks_ok (ok : aOk A) (m : Nat) : aOk (tkS A t bs l m) := by
  obtain ⟨h1, h2, h3, h4, h5, h6, h7⟩ := tks_same (A := A) (t := t) (bs := bs) (l := l) m
  refine ⟨by rw [h7]; exact ok.1, by rw [h7]; exact ok.2.1, fun i hi => ?_⟩
  have h8 : aRm (tkS A t bs l m) i = aRm A i := by
    unfold aRm
    rw [h7]
  rw [h4, h5, h6, h8]
  exact ok.2.2 i hi
set_option maxHeartbeats 4000000 in
theorem c_ins_takes {ρ : Int} {c : Nat} {F : gK → State → Prop} (ht : t < 4) (hl6 : l < 6) (hc : (c : Int) = l - ρ) (hρ : -1 ≤ ρ ∧ ρ ≤ l) (hb : ∀ m, m < c → leastFree (tkS A t bs l m) (bs (l - m))) (kk : Go G m_Tree_insertRun F 56 [some (vR (517 + 6 * t)), some (vI x), some (vI n), some (vI v), some (vI w), some (vI ρ), some (vI ρ)] [] N (hpx (tkS A t bs l c) h0) 0 0) :
    ∀ (q m : Nat), q + m = c → Go G m_Tree_insertRun F 29 [some (vR (517 + 6 * t)), some (vI x), some (vI n), some (vI v), some (vI w), some (vI ρ), some (vI ((l : Int) - m))] [] N (hpx (tkS A t bs l m) h0) 0 0 := by
  have hM := ok_Tree_insertRun
  intro q
  induction q with
  | zero =>
    intro m hm
    have hm : m = c := by omega
    subst hm
    have e1 : (l : Int) - m = ρ := by omega
    rw [e1]
    repeat (first | refine go_pure hM rfl ?_ | (refine go_get (fs := ?_) (v := ?_) hM rfl ?_ ?_ ?_; rotate_left 2; assumption; rfl) | refine go_ldc hM rfl ?_)
    exact go_icmp_le hM rfl (by omega) (by omega) (fun _ => kk) (fun hc => absurd (Int.le_refl _) hc)
  | succ q ih =>
    intro m hm
    obtain ⟨b1, b2, b3⟩ := hb m (by omega)
    have k1 := hp_tr (A := tkS A t bs l m) (h0 := h0) ht
    have e1 : ((l : Int) - m).toNat = l - m := by omega
    repeat (first | refine go_pure hM rfl ?_ | (refine go_get (fs := ?_) (v := ?_) hM rfl ?_ ?_ ?_; rotate_left 2; assumption; rfl) | refine go_ldc hM rfl ?_)
    refine go_icmp_le hM rfl (by omega) (by omega) (fun hc => absurd hc (by omega)) (fun _ => ?_)
    repeat (first | refine go_pure hM rfl ?_ | (refine go_get (fs := ?_) (v := ?_) hM rfl ?_ ?_ ?_; rotate_left 2; assumption; rfl) | refine go_ldc hM rfl ?_)
    refine go_cV hM rfl rfl rfl hp_po rfl (c_takeLeast b1 b2 b3) rfl ?_
    generalize hC : sLe (sNd (tkS A t bs l m) (bs (l - m)) 1 (aDp (tkS A t bs l m) (bs (l - m))) (aEn (tkS A t bs l m) (bs (l - m)))) (aLe (tkS A t bs l m) - 1) = C
    have k3 := hp_fs (A := C) (h0 := h0) ht
    have fC : aFs C t = aFs (tkS A t bs l m) t := by rw [← hC]; rfl
    refine go_aast hM rfl k3 rfl (hp_nd (i := bs (l - m)) (by omega)) rfl (by omega) (by omega) (by omega) ?_
    rw [e1, eRf_set (by omega), up_fs ht]
    have e3 : sFs C t (gF (aFs C t) (l - m) (bs (l - m))) = tkS A t bs l (m + 1) := by
      rw [fC, ← hC]
      rfl
    rw [e3]
    refine go_pure hM rfl ?_
    have e2 : (l : Int) - m + (-1) = (l : Int) - ((m + 1 : Nat) : Int) := by omega
    rw [e2]
    repeat (first | exact ih (m + 1) (by omega) | refine go_pure hM rfl ?_ | (refine go_get (fs := ?_) (v := ?_) hM rfl ?_ ?_ ?_; rotate_left 2; assumption; rfl) | refine go_ldc hM rfl ?_)
set_option maxHeartbeats 4000000 in
/-- a level of the way has room -/
theorem c_insertRun_a {r : Nat} (ok : aOk A) (ht : t < 4) (hl : aLf A t = (l : Int)) (hl6 : l < 6) (hwy : ∀ k, k ≤ l → aWy A t k < 260) (hlw : lwr A t (l + 1) = (r : Int)) (hr : r ≤ l) (hb : ∀ m, m < l - r → leastFree (tkS A t bs l m) (bs (l - m))) (hs : ∀ m, m < l - r → SplitOk (spS (tkS A t bs l (l - r)) t (r + 1) m) t (r + 1 + m)) (hf : LeafOk (spS (tkS A t bs l (l - r)) t (r + 1) (l - r)) t l) (hx : 0 ≤ x ∧ x ≤ 65536) (hn : 0 ≤ n ∧ n ≤ 32768) (hv : 0 ≤ v ∧ v ≤ 16777216) (hw : w = 0 ∨ w = 1) :
    Rd G m_Tree_insertRun [vR (517 + 6 * t), vI x, vI n, vI v, vI w] N (hpx A h0) none none (hpx (irF (spS (tkS A t bs l (l - r)) t (r + 1) (l - r)) t l x n v w) h0) := by
  refine Rn.of rfl rfl rfl ?_
  have hM := ok_Tree_insertRun
  have k1 := hp_tr (A := A) (h0 := h0) ht
  repeat (first | refine go_pure hM rfl ?_ | (refine go_get (fs := ?_) (v := ?_) hM rfl ?_ ?_ ?_; rotate_left 2; assumption; rfl) | refine go_ldc hM rfl ?_)
  refine go_cV hM rfl rfl rfl k1 rfl (c_levelWithRoom ok ht hl hl6 hwy) rfl ?_
  rw [hlw]
  repeat (first | refine go_pure hM rfl ?_ | (refine go_get (fs := ?_) (v := ?_) hM rfl ?_ ?_ ?_; rotate_left 2; assumption; rfl) | refine go_ldc hM rfl ?_)
  refine go_if_ge hM rfl (by omega) (fun _ => ?_) (fun hc => absurd hc (by omega))
  have hlB : aLf (tkS A t bs l (l - r)) t = (l : Int) := by rw [(tks_same (l - r)).1]; exact hl
  have t0 := c_ins_takes (G := G) (N := N) (h0 := h0) (x := x) (n := n) (v := v) (w := w) (A := A) (bs := bs) (F := gFin G (gEq none none (hpx (irF (spS (tkS A t bs l (l - r)) t (r + 1) (l - r)) t l x n v w) h0)) gNo) (ρ := r) (c := l - r) ht hl6 (by omega) (by omega) hb (by
    repeat (first | refine go_pure hM rfl ?_ | (refine go_get (fs := ?_) (v := ?_) hM rfl ?_ ?_ ?_; rotate_left 2; assumption; rfl) | refine go_ldc hM rfl ?_)
    refine go_if_ge hM rfl (by omega) (fun _ => ?_) (fun hc => absurd hc (by omega))
    exact go_drop (c_ins_tail (B := tkS A t bs l (l - r)) ht hr hl6 hlB hs hf hx hn hv hw _)) (l - r) 0 (by omega)
  have e0 : (l : Int) - ((0 : Nat) : Int) = l := by omega
  rw [e0] at t0
  refine go_pure hM rfl ?_
  refine go_get hM rfl k1 rfl ?_
  rw [hl]
  repeat (first | exact t0 | refine go_pure hM rfl ?_ | (refine go_get (fs := ?_) (v := ?_) hM rfl ?_ ?_ ?_; rotate_left 2; assumption; rfl) | refine go_ldc hM rfl ?_)
set_option maxHeartbeats 4000000 in
/-- the whole way is full: the root grows -/
theorem c_insertRun_b (ok : aOk A) (ht : t < 4) (hl : aLf A t = (l : Int)) (hl5 : l < 5) (hwy : ∀ k, k ≤ l → aWy A t k < 260) (hlw : lwr A t (l + 1) = -1) (hb : ∀ m, m < l + 1 → leastFree (tkS A t bs l m) (bs (l - m))) (hd : aDp A (256 + t) ≤ 4) (hb0 : aFs (tkS A t bs l (l + 1)) t 0 = bs 0) (hfs : ∀ k, k ≤ l → aFs (tkS A t bs l (l + 1)) t k < 260)
    (hs : ∀ m, m < l → SplitOk (spS (gw2 (gw1 (tkS A t bs l (l + 1)) t (bs 0)) t l (bs 0)) t 2 m) t (2 + m)) (hf : LeafOk (spS (gw2 (gw1 (tkS A t bs l (l + 1)) t (bs 0)) t l (bs 0)) t 2 l) t (l + 1)) (hx : 0 ≤ x ∧ x ≤ 65536) (hn : 0 ≤ n ∧ n ≤ 32768) (hv : 0 ≤ v ∧ v ≤ 16777216) (hw : w = 0 ∨ w = 1) :
    Rd G m_Tree_insertRun [vR (517 + 6 * t), vI x, vI n, vI v, vI w] N (hpx A h0) none none (hpx (irF (spS (gw2 (gw1 (tkS A t bs l (l + 1)) t (bs 0)) t l (bs 0)) t 2 l) t (l + 1) x n v w) h0) := by
  refine Rn.of rfl rfl rfl ?_
  have hM := ok_Tree_insertRun
  have k1 := hp_tr (A := A) (h0 := h0) ht
  obtain ⟨s1, s2, s3, s4, s5, s6, s7⟩ := tks_same (A := A) (t := t) (bs := bs) (l := l) (l + 1)
  have bb := (hb l (by omega)).1
  rw [show l - l = 0 by omega] at bb
  repeat (first | refine go_pure hM rfl ?_ | (refine go_get (fs := ?_) (v := ?_) hM rfl ?_ ?_ ?_; rotate_left 2; assumption; rfl) | refine go_ldc hM rfl ?_)
  refine go_cV hM rfl rfl rfl k1 rfl (c_levelWithRoom ok ht hl (by omega) hwy) rfl ?_
  rw [hlw]
  repeat (first | refine go_pure hM rfl ?_ | (refine go_get (fs := ?_) (v := ?_) hM rfl ?_ ?_ ?_; rotate_left 2; assumption; rfl) | refine go_ldc hM rfl ?_)
  refine go_if_ge hM rfl (by omega) (fun hc => absurd hc (by omega)) (fun _ => ?_)
  repeat (first | refine go_pure hM rfl ?_ | (refine go_get (fs := ?_) (v := ?_) hM rfl ?_ ?_ ?_; rotate_left 2; assumption; rfl) | refine go_ldc hM rfl ?_)
  rw [hl]
  refine go_icmp_lt hM rfl (by omega) (by omega) (fun _ => ?_) (fun hc => absurd hc (by omega))
  have hlB : aLf (tkS A t bs l (l + 1)) t = (l : Int) := by rw [s1]; exact hl
  have okT : aOk (tkS A t bs l (l + 1)) := tks_ok ok _
  have t0 := c_ins_takes (G := G) (N := N) (h0 := h0) (x := x) (n := n) (v := v) (w := w) (A := A) (bs := bs) (F := gFin G (gEq none none (hpx (irF (spS (gw2 (gw1 (tkS A t bs l (l + 1)) t (bs 0)) t l (bs 0)) t 2 l) t (l + 1) x n v w) h0)) gNo) (ρ := -1) (c := l + 1) ht (by omega) (by omega) (by omega) hb (by
    repeat (first | refine go_pure hM rfl ?_ | (refine go_get (fs := ?_) (v := ?_) hM rfl ?_ ?_ ?_; rotate_left 2; assumption; rfl) | refine go_ldc hM rfl ?_)
    refine go_if_ge hM rfl (by omega) (fun hc => absurd hc (by omega)) (fun _ => ?_)
    repeat (first | refine go_pure hM rfl ?_ | (refine go_get (fs := ?_) (v := ?_) hM rfl ?_ ?_ ?_; rotate_left 2; assumption; rfl) | refine go_ldc hM rfl ?_)
    refine go_cV hM rfl rfl rfl (hp_tr ht) rfl (c_growRoot (b := bs 0) okT ht hl5 hlB (by rw [s2]; exact hwy) hfs hb0 (by omega) (by rw [s5]; exact hd)) rfl ?_
    have hlG : aLf (gw2 (gw1 (tkS A t bs l (l + 1)) t (bs 0)) t l (bs 0)) t = ((l + 1 : Nat) : Int) := fH_lf
    have ti := c_ins_tail (G := G) (h0 := h0) (r := 1) (l := l + 1) (B := gw2 (gw1 (tkS A t bs l (l + 1)) t (bs 0)) t l (bs 0)) (x := x) (n := n) (v := v) (w := w) ht (by omega) (by omega) hlG (fun m hm => hs m (by omega)) (by rw [show l + 1 - 1 = l by omega]; exact hf) hx hn hv hw (some (vI (-1)))
    rw [show l + 1 - 1 = l by omega] at ti
    repeat (first | exact ti | refine go_pure hM rfl ?_ | (refine go_get (fs := ?_) (v := ?_) hM rfl ?_ ?_ ?_; rotate_left 2; assumption; rfl) | refine go_ldc hM rfl ?_)) (l + 1) 0 (by omega)
  have e0 : (l : Int) - ((0 : Nat) : Int) = l := by omega
  rw [e0] at t0
  refine go_pure hM rfl ?_
  refine go_get hM rfl k1 rfl ?_
  rw [hl]
  repeat (first | exact t0 | refine go_pure hM rfl ?_ | (refine go_get (fs := ?_) (v := ?_) hM rfl ?_ ?_ ?_; rotate_left 2; assumption; rfl) | refine go_ldc hM rfl ?_)
end
end
section
/-! Tree.removeRun, Tree.settle -/
/-- the entry of the run goes; m empty blocks above it are given back, and their entries go -/
def rmS (A : cA) (t l : Nat) : Nat → cA
  | 0 => remA A (aWy A t l) (aPl A t l)
  | m + 1 => remA (gbA (rmS A t l m) t (aWy A t (l - m))) (aWy A t (l - m - 1)) (aPl A t (l - m - 1))
def rmD (D : cA) (t : Nat) : cA := if aEn D (256 + t) = 0 then sNd D (256 + t) (aTk D (256 + t)) 0 (aEn D (256 + t)) else D
def rmE (D : cA) (t k : Nat) : cA := sTr (rfA (rmD D t) t k) t (aRu D t - 1) (aBl D t) (aMa D t) (aMw D t) (aLb D t) (aLf D t)
def RmOk (A : cA) (t l m : Nat) : Prop := aEn (rmS A t l m) (aWy A t (l - m)) = 0 ∧ aTk (rmS A t l m) (aWy A t (l - m)) = 1 ∧ 0 ≤ aPl A t (l - m - 1) ∧ aPl A t (l - m - 1) < aEn (gbA (rmS A t l m) t (aWy A t (l - m))) (aWy A t (l - m - 1))
section
variable {G : gG} {N : Option Nat} {A B : cA} {h0 : gH} {t l c : Nat}
theorem rms_same : ∀ m, aWy (rmS A t l m) = aWy A ∧ aPl (rmS A t l m) = aPl A ∧ aLf (rmS A t l m) t = aLf A t := by
  intro m
  induction m with
  | zero => exact ⟨rfl, rfl, rfl⟩
  | succ m ih =>
    refine ⟨ih.1, ih.2.1, ?_⟩
    show gF (aLf (rmS A t l m)) t (aLf (rmS A t l m) t) t = _
    rw [gF_s, ih.2.2]
set_option maxHeartbeats 4000000 in
theorem c_removeRun (ok : aOk A) (ht : t < 4) (hl : aLf A t = (l : Int)) (hl6 : l < 6) (hwy : ∀ k, k ≤ l → aWy A t k < 260) (hp : 0 ≤ aPl A t l ∧ aPl A t l < aEn A (aWy A t l)) (hcl : c ≤ l) (hm : ∀ m, m < c → RmOk A t l m) (he : c = l ∨ aEn (rmS A t l c) (aWy A t (l - c)) ≠ 0) (hr : ∀ k, k < l - c → 0 ≤ aPl A t k ∧ aPl A t k < aEn (rmS A t l c) (aWy A t k)) : Rd G m_Tree_removeRun [vR (517 + 6 * t)] N (hpx A h0) none none (hpx (rmE (rmS A t l c) t (l - c)) h0) := by
  refine Rn.of rfl rfl rfl ?_
  have hM := ok_Tree_removeRun
  have k1 := hp_tr (A := A) (h0 := h0) ht
  have k2 := hp_wy (A := A) (h0 := h0) ht
  have k3 := hp_pl (A := A) (h0 := h0) ht
  have w1 := hwy l (Nat.le_refl l)
  have e1 : (l : Int).toNat = l := by omega
  have oks : ∀ m, m ≤ c → aOk (rmS A t l m) := by
    intro m
    induction m with
    | zero => intro _; exact aOk_rem ok w1 (by omega)
    | succ m ih =>
      intro h9
      obtain ⟨q1, q2, q3, q4⟩ := hm m (by omega)
      exact aOk_rem (aOk_gb (ih (by omega)) (hwy _ (by omega))) (hwy _ (by omega)) (by omega)
  have loop : ∀ (q m : Nat), q + m = c → Go G m_Tree_removeRun (gFin G (gEq none none (hpx (rmE (rmS A t l c) t (l - c)) h0)) gNo) 20 [some (vR (517 + 6 * t)), some (vI ((l - m : Nat) : Int))] [] none (hpx (rmS A t l m) h0) 0 0 := by
    intro q
    induction q with
    | zero =>
      intro m hmc
      have hmc : m = c := by omega
      subst hmc
      have okD := oks m (Nat.le_refl m)
      obtain ⟨g1, g2, g3⟩ := rms_same (A := A) (t := t) (l := l) m
      have fin : Go G m_Tree_removeRun (gFin G (gEq none none (hpx (rmE (rmS A t l m) t (l - m)) h0)) gNo) 67 [some (vR (517 + 6 * t)), some (vI ((l - m : Nat) : Int))] [] none (hpx (rmS A t l m) h0) 0 0 := by
        generalize hD : rmS A t l m = D at okD g1 g2 g3 hr
        have hrt : 256 + t < 260 := by omega
        have i1 := hp_tr (A := D) (h0 := h0) ht
        have i2 := hp_nd (A := D) (h0 := h0) hrt
        have rD := (okD.2.2 _ hrt).1
        have rmD9 := okD.rm (256 + t)
        have tail : ∀ D1 : cA, D1 = rmD D t → aOk D1 → aWy D1 = aWy A → aPl D1 = aPl A → aEn D1 = aEn D → aRu D1 = aRu D → aBl D1 = aBl D → aMa D1 = aMa D → aMw D1 = aMw D → aLb D1 = aLb D → aLf D1 = aLf D → Go G m_Tree_removeRun (gFin G (gEq none none (hpx (rmE D t (l - m)) h0)) gNo) 85 [some (vR (517 + 6 * t)), some (vI ((l - m : Nat) : Int))] [] none (hpx D1 h0) 0 0 := by
          intro D1 hD1 ok1 y1 y2 y3 y4 y5 y6 y7 y8 y9
          have j1 := hp_tr (A := D1) (h0 := h0) ht
          repeat (first | refine go_pure hM rfl ?_ | (refine go_get (fs := ?_) (v := ?_) hM rfl ?_ ?_ ?_; rotate_left 2; assumption; rfl) | refine go_ldc hM rfl ?_)
          refine go_cV hM rfl rfl rfl j1 rfl (c_refreshFirsts (A := D1) (l := l - m) ht (by omega) ok1 (fun k hk => by rw [y1]; exact hwy k (by omega)) (fun k hk => by rw [y1, y2, y3]; exact hr k hk)) rfl ?_
          have m1 := hp_tr (A := rfA D1 t (l - m)) (h0 := h0) ht
          obtain ⟨f1, f2, f3, f4, f5, f6, -⟩ := rf_ru (t := t) (l - m) D1
          repeat (first | refine go_pure hM rfl ?_ | (refine go_get (fs := ?_) (v := ?_) hM rfl ?_ ?_ ?_; rotate_left 2; assumption; rfl) | refine go_ldc hM rfl ?_)
          refine go_put hM rfl m1 rfl rfl ?_
          rw [up_tr ht, f1, f2, f3, f4, f5, f6, y4, y5, y6, y7, y8, y9]
          refine go_vret hM rfl rfl ⟨rfl, rfl, ?_⟩
          rw [hD1]
          rfl
        repeat (first | refine go_pure hM rfl ?_ | (refine go_get (fs := ?_) (v := ?_) hM rfl ?_ ?_ ?_; rotate_left 2; assumption; rfl) | refine go_ldc hM rfl ?_)
        by_cases hz : aEn D (256 + t) = 0
        · refine go_if_ne hM rfl (by omega) (fun hc => absurd hz hc) (fun _ => ?_)
          repeat (first | refine go_pure hM rfl ?_ | (refine go_get (fs := ?_) (v := ?_) hM rfl ?_ ?_ ?_; rotate_left 2; assumption; rfl) | refine go_ldc hM rfl ?_)
          refine go_put hM rfl i2 rfl rfl ?_
          rw [up_nd hrt]
          refine tail _ ?_ (aOk_sNd okD (by omega) (by omega)) g1 g2 ?_ rfl rfl rfl rfl rfl rfl
          · unfold rmD
            rw [if_pos hz]
          · show gF (aEn D) (256 + t) (aEn D (256 + t)) = aEn D
            exact gF_same _ _
        · refine go_if_ne hM rfl (by omega) (fun _ => ?_) (fun hc => absurd hc hz)
          exact tail D (by unfold rmD; rw [if_neg hz]) okD g1 g2 rfl rfl rfl rfl rfl rfl rfl
      have j1 := hp_tr (A := rmS A t l m) (h0 := h0) ht
      have j2 := hp_wy (A := rmS A t l m) (h0 := h0) ht
      rw [g1] at j2
      by_cases hz : m = l
      · repeat (first | refine go_pure hM rfl ?_ | (refine go_get (fs := ?_) (v := ?_) hM rfl ?_ ?_ ?_; rotate_left 2; assumption; rfl) | refine go_ldc hM rfl ?_)
        refine go_if_le hM rfl (by omega) (fun _ => ?_) (fun hc => absurd hc (by omega))
        exact fin
      · have hne := he.resolve_left hz
        have wm := hwy (l - m) (by omega)
        have j4 := hp_nd (A := rmS A t l m) (h0 := h0) wm
        have rE := (okD.2.2 _ wm).1
        have rR := okD.rm (aWy A t (l - m))
        have e2 : ((l - m : Nat) : Int).toNat = l - m := by omega
        repeat (first | refine go_pure hM rfl ?_ | (refine go_get (fs := ?_) (v := ?_) hM rfl ?_ ?_ ?_; rotate_left 2; assumption; rfl) | refine go_ldc hM rfl ?_)
        refine go_if_le hM rfl (by omega) (fun hc => absurd hc (by omega)) (fun _ => ?_)
        repeat (first | refine go_pure hM rfl ?_ | (refine go_get (fs := ?_) (v := ?_) hM rfl ?_ ?_ ?_; rotate_left 2; assumption; rfl) | refine go_ldc hM rfl ?_)
        refine go_aaldS (r := oA (aWy A t (l - m))) hM rfl j2 rfl (by omega) (by omega) (by omega) (by rw [e2]; exact if_pos (by omega)) ?_
        repeat (first | refine go_pure hM rfl ?_ | (refine go_get (fs := ?_) (v := ?_) hM rfl ?_ ?_ ?_; rotate_left 2; assumption; rfl) | refine go_ldc hM rfl ?_)
        refine go_if_ne hM rfl (by omega) (fun _ => ?_) (fun hc => absurd hc hne)
        exact fin
    | succ q ih =>
      intro m hmc
      obtain ⟨q1, q2, q3, q4⟩ := hm m (by omega)
      have okD := oks m (by omega)
      obtain ⟨g1, g2, g3⟩ := rms_same (A := A) (t := t) (l := l) m
      have j1 := hp_tr (A := rmS A t l m) (h0 := h0) ht
      have j2 := hp_wy (A := rmS A t l m) (h0 := h0) ht
      rw [g1] at j2
      have wm := hwy (l - m) (by omega)
      have wm1 := hwy (l - m - 1) (by omega)
      have j4 := hp_nd (A := rmS A t l m) (h0 := h0) wm
      have e2 : ((l - m : Nat) : Int).toNat = l - m := by omega
      repeat (first | refine go_pure hM rfl ?_ | (refine go_get (fs := ?_) (v := ?_) hM rfl ?_ ?_ ?_; rotate_left 2; assumption; rfl) | refine go_ldc hM rfl ?_)
      refine go_if_le hM rfl (by omega) (fun hc => absurd hc (by omega)) (fun _ => ?_)
      repeat (first | refine go_pure hM rfl ?_ | (refine go_get (fs := ?_) (v := ?_) hM rfl ?_ ?_ ?_; rotate_left 2; assumption; rfl) | refine go_ldc hM rfl ?_)
      refine go_aaldS (r := oA (aWy A t (l - m))) hM rfl j2 rfl (by omega) (by omega) (by omega) (by rw [e2]; exact if_pos (by omega)) ?_
      repeat (first | refine go_pure hM rfl ?_ | (refine go_get (fs := ?_) (v := ?_) hM rfl ?_ ?_ ?_; rotate_left 2; assumption; rfl) | refine go_ldc hM rfl ?_)
      rw [q1]
      refine go_if_ne hM rfl (by omega) (fun hc => absurd rfl hc) (fun _ => ?_)
      repeat (first | refine go_pure hM rfl ?_ | (refine go_get (fs := ?_) (v := ?_) hM rfl ?_ ?_ ?_; rotate_left 2; assumption; rfl) | refine go_ldc hM rfl ?_)
      refine go_aaldS (r := oA (aWy A t (l - m))) hM rfl j2 rfl (by omega) (by omega) (by omega) (by rw [e2]; exact if_pos (by omega)) ?_
      refine go_cV hM rfl rfl rfl j1 rfl (c_Tree_giveBack okD ht wm q2) rfl ?_
      have okG : aOk (gbA (rmS A t l m) t (aWy A t (l - m))) := aOk_gb okD wm
      have i1 := hp_tr (A := gbA (rmS A t l m) t (aWy A t (l - m))) (h0 := h0) ht
      have i2 : hpx (gbA (rmS A t l m) t (aWy A t (l - m))) h0 (520 + 6 * t) = some (eRf (aWy A t)) := by
        rw [← g1]
        exact hp_wy ht
      have i3 : hpx (gbA (rmS A t l m) t (aWy A t (l - m))) h0 (521 + 6 * t) = some (gIA 6 (aPl A t)) := by
        rw [← g2]
        exact hp_pl ht
      refine go_pure hM rfl ?_
      have e4 : ((l - m : Nat) : Int) + (-1) = ((l - (m + 1) : Nat) : Int) := by omega
      have e5 : ((l - (m + 1) : Nat) : Int).toNat = l - m - 1 := by omega
      rw [e4]
      repeat (first | refine go_pure hM rfl ?_ | (refine go_get (fs := ?_) (v := ?_) hM rfl ?_ ?_ ?_; rotate_left 2; assumption; rfl) | refine go_ldc hM rfl ?_)
      refine go_aaldS (r := oA (aWy A t (l - m - 1))) hM rfl i2 rfl (by omega) (by omega) (by omega) (by rw [e5]; exact if_pos (by omega)) ?_
      repeat (first | refine go_pure hM rfl ?_ | (refine go_get (fs := ?_) (v := ?_) hM rfl ?_ ?_ ?_; rotate_left 2; assumption; rfl) | refine go_ldc hM rfl ?_)
      refine go_iald hM rfl i3 (by omega) (by omega) (by omega) ?_
      rw [e5]
      refine go_cV hM rfl rfl rfl (hp_nd wm1) rfl (p_remove okG wm1 ⟨q3, q4⟩) rfl ?_
      repeat (first | exact ih (m + 1) (by omega) | refine go_pure hM rfl ?_ | (refine go_get (fs := ?_) (v := ?_) hM rfl ?_ ?_ ?_; rotate_left 2; assumption; rfl) | refine go_ldc hM rfl ?_)
  have l0 := loop c 0 (by omega)
  rw [Nat.sub_zero] at l0
  refine go_pure hM rfl ?_
  refine go_get hM rfl k1 rfl ?_
  rw [hl]
  repeat (first | refine go_pure hM rfl ?_ | (refine go_get (fs := ?_) (v := ?_) hM rfl ?_ ?_ ?_; rotate_left 2; assumption; rfl) | refine go_ldc hM rfl ?_)
  refine go_aaldS (r := oA (aWy A t l)) hM rfl k2 rfl (by omega) (by omega) (by omega) (by rw [e1]; exact if_pos hl6) ?_
  repeat (first | refine go_pure hM rfl ?_ | (refine go_get (fs := ?_) (v := ?_) hM rfl ?_ ?_ ?_; rotate_left 2; assumption; rfl) | refine go_ldc hM rfl ?_)
  refine go_iald hM rfl k3 (by omega) (by omega) (by omega) ?_
  rw [e1]
  refine go_cV hM rfl rfl rfl (hp_nd w1) rfl (p_remove ok w1 hp) rfl ?_
  repeat (first | exact l0 | refine go_pure hM rfl ?_ | (refine go_get (fs := ?_) (v := ?_) hM rfl ?_ ?_ ?_; rotate_left 2; assumption; rfl) | refine go_ldc hM rfl ?_)
/-- the one block below the root -/
def stI (A : cA) (t : Nat) : Nat := (gWd (aWf A (256 + t)) (aEn A (256 + t)) 0 1).toNat
def stS (A : cA) (t : Nat) : Nat → cA
  | 0 => A
  | m + 1 => gbA (mvA (stS A t m) (stI (stS A t m) t) 0 (256 + t)) t (stI (stS A t m) t)
def StOk (A : cA) (t : Nat) : Prop := aEn A (256 + t) = 1 ∧ stI A t < 256 ∧ aEn A (stI A t) ≤ 4 ∧ aTk A (stI A t) = 1
set_option maxHeartbeats 4000000 in
theorem c_settle {d : Nat} (ok : aOk A) (ht : t < 4) (hd : aDp A (256 + t) = (d : Int)) (hd5 : d ≤ 5) (hc : c ≤ d) (hm : ∀ m, m < c → StOk (stS A t m) t) (he : c = d ∨ aEn (stS A t c) (256 + t) ≠ 1 ∨ (aEn (stS A t c) (256 + t) = 1 ∧ stI (stS A t c) t < 256 ∧ 4 < aEn (stS A t c) (stI (stS A t c) t))) : Rd G m_Tree_settle [vR (517 + 6 * t)] none (hpx A h0) none none (hpx (stS A t c) h0) := by
  refine Rn.of rfl rfl rfl ?_
  have hM := ok_Tree_settle
  have hrt : 256 + t < 260 := by omega
  have oks : ∀ m, m ≤ c → aOk (stS A t m) := by
    intro m
    induction m with
    | zero => intro _; exact ok
    | succ m ih =>
      intro h9
      obtain ⟨q1, q2, q3, q4⟩ := hm m (by omega)
      have o1 := ih (by omega)
      have r1 := (o1.2.2 (stI (stS A t m) t) (by omega)).1
      have r2 := o1.rm (256 + t)
      exact aOk_gb (aOk_mv o1 (by omega) hrt (by omega) (by omega)) (by omega)
  have nxt : ∀ B : cA, aOk B → aEn B (256 + t) = 1 → stI B t < 256 → gWd (aWf B (256 + t)) (aEn B (256 + t)) 0 1 = (stI B t : Int) := by
    intro B o1 h1 h2
    have := o1.wd hrt 0 1
    unfold stI
    omega
  have rm4 : ∀ B : cA, aRm B (256 + t) = 4 := fun B => if_neg (by omega)
  have loop : ∀ (q m : Nat) (y : Option gV), q + m = c → Go G m_Tree_settle (gFin G (gEq none none (hpx (stS A t c) h0)) gNo) 8 [some (vR (517 + 6 * t)), some (vI ((d - m : Nat) : Int)), y] [] none (hpx (stS A t m) h0) 0 0 := by
    intro q
    induction q with
    | zero =>
      intro m y hmc
      have hmc : m = c := by omega
      subst hmc
      have o1 := oks m (Nat.le_refl m)
      generalize stS A t m = B at o1 he
      have r1 := (o1.2.2 _ hrt).1
      have r2 := o1.rm (256 + t)
      have k1 := hp_tr (A := B) (h0 := h0) ht
      have k2 := hp_nd (A := B) (h0 := h0) hrt
      rcases he with he | he | ⟨h1, h2, h3⟩
      · repeat (first | refine go_pure hM rfl ?_ | (refine go_get (fs := ?_) (v := ?_) hM rfl ?_ ?_ ?_; rotate_left 2; assumption; rfl) | refine go_ldc hM rfl ?_)
        refine go_if_le hM rfl (by omega) (fun _ => ?_) (fun hc => absurd hc (by omega))
        exact go_vret hM rfl rfl ⟨rfl, rfl, rfl⟩
      · by_cases hz : d - m = 0
        · repeat (first | refine go_pure hM rfl ?_ | (refine go_get (fs := ?_) (v := ?_) hM rfl ?_ ?_ ?_; rotate_left 2; assumption; rfl) | refine go_ldc hM rfl ?_)
          refine go_if_le hM rfl (by omega) (fun _ => ?_) (fun hc => absurd hc (by omega))
          exact go_vret hM rfl rfl ⟨rfl, rfl, rfl⟩
        · repeat (first | refine go_pure hM rfl ?_ | (refine go_get (fs := ?_) (v := ?_) hM rfl ?_ ?_ ?_; rotate_left 2; assumption; rfl) | refine go_ldc hM rfl ?_)
          refine go_if_le hM rfl (by omega) (fun hc => absurd hc (by omega)) (fun _ => ?_)
          repeat (first | refine go_pure hM rfl ?_ | (refine go_get (fs := ?_) (v := ?_) hM rfl ?_ ?_ ?_; rotate_left 2; assumption; rfl) | refine go_ldc hM rfl ?_)
          refine go_icmp_ne hM rfl (by omega) (by omega) (fun _ => ?_) (fun hc => absurd hc he)
          exact go_vret hM rfl rfl ⟨rfl, rfl, rfl⟩
      · by_cases hz : d - m = 0
        · repeat (first | refine go_pure hM rfl ?_ | (refine go_get (fs := ?_) (v := ?_) hM rfl ?_ ?_ ?_; rotate_left 2; assumption; rfl) | refine go_ldc hM rfl ?_)
          refine go_if_le hM rfl (by omega) (fun _ => ?_) (fun hc => absurd hc (by omega))
          exact go_vret hM rfl rfl ⟨rfl, rfl, rfl⟩
        · have k4 := hp_nd (A := B) (h0 := h0) (i := stI B t) (by omega)
          have r3 := (o1.2.2 (stI B t) (by omega)).1
          have r4 := o1.rm (stI B t)
          repeat (first | refine go_pure hM rfl ?_ | (refine go_get (fs := ?_) (v := ?_) hM rfl ?_ ?_ ?_; rotate_left 2; assumption; rfl) | refine go_ldc hM rfl ?_)
          refine go_if_le hM rfl (by omega) (fun hc => absurd hc (by omega)) (fun _ => ?_)
          repeat (first | refine go_pure hM rfl ?_ | (refine go_get (fs := ?_) (v := ?_) hM rfl ?_ ?_ ?_; rotate_left 2; assumption; rfl) | refine go_ldc hM rfl ?_)
          refine go_icmp_ne hM rfl (by omega) (by omega) (fun hc => absurd h1 hc) (fun _ => ?_)
          repeat (first | refine go_pure hM rfl ?_ | (refine go_get (fs := ?_) (v := ?_) hM rfl ?_ ?_ ?_; rotate_left 2; assumption; rfl) | refine go_ldc hM rfl ?_)
          refine go_cV hM rfl rfl rfl k2 rfl (p_belowAt o1 hrt (by omega)) rfl ?_
          rw [nxt B o1 h1 h2]
          refine go_cV hM rfl rfl rfl (hp_po (A := B)) rfl (c_Pool_node (A := B) (by omega)) rfl ?_
          have e9 : ((stI B t : Nat) : Int).toNat = stI B t := by omega
          rw [e9]
          repeat (first | refine go_pure hM rfl ?_ | (refine go_get (fs := ?_) (v := ?_) hM rfl ?_ ?_ ?_; rotate_left 2; assumption; rfl) | refine go_ldc hM rfl ?_)
          rw [rm4 B]
          refine go_icmp_le hM rfl (by omega) (by omega) (fun hc => absurd hc (by omega)) (fun _ => ?_)
          exact go_vret hM rfl rfl ⟨rfl, rfl, rfl⟩
    | succ q ih =>
      intro m y hmc
      obtain ⟨h1, h2, h3, h4⟩ := hm m (by omega)
      have o1 := oks m (by omega)
      have ihm := fun y => ih (m + 1) y (by omega)
      have e7 : stS A t (m + 1) = gbA (mvA (stS A t m) (stI (stS A t m) t) 0 (256 + t)) t (stI (stS A t m) t) := rfl
      rw [e7] at ihm
      generalize stS A t m = B at o1 h1 h2 h3 h4 ihm
      have r1 := (o1.2.2 _ hrt).1
      have r2 := o1.rm (256 + t)
      have r3 := (o1.2.2 (stI B t) (by omega)).1
      have r4 := o1.rm (stI B t)
      have k1 := hp_tr (A := B) (h0 := h0) ht
      have k2 := hp_nd (A := B) (h0 := h0) hrt
      have k4 := hp_nd (A := B) (h0 := h0) (i := stI B t) (by omega)
      have okM : aOk (mvA B (stI B t) 0 (256 + t)) := aOk_mv o1 (by omega) hrt (by omega) (by omega)
      have tkM : aTk (mvA B (stI B t) 0 (256 + t)) (stI B t) = 1 := by
        show gF (gF (aTk B) (256 + t) (aTk B (256 + t))) (stI B t) (aTk B (stI B t)) (stI B t) = 1
        rw [gF_s, h4]
      repeat (first | refine go_pure hM rfl ?_ | (refine go_get (fs := ?_) (v := ?_) hM rfl ?_ ?_ ?_; rotate_left 2; assumption; rfl) | refine go_ldc hM rfl ?_)
      refine go_if_le hM rfl (by omega) (fun hc => absurd hc (by omega)) (fun _ => ?_)
      repeat (first | refine go_pure hM rfl ?_ | (refine go_get (fs := ?_) (v := ?_) hM rfl ?_ ?_ ?_; rotate_left 2; assumption; rfl) | refine go_ldc hM rfl ?_)
      refine go_icmp_ne hM rfl (by omega) (by omega) (fun hc => absurd h1 hc) (fun _ => ?_)
      repeat (first | refine go_pure hM rfl ?_ | (refine go_get (fs := ?_) (v := ?_) hM rfl ?_ ?_ ?_; rotate_left 2; assumption; rfl) | refine go_ldc hM rfl ?_)
      refine go_cV hM rfl rfl rfl k2 rfl (p_belowAt o1 hrt (by omega)) rfl ?_
      rw [nxt B o1 h1 h2]
      refine go_cV hM rfl rfl rfl (hp_po (A := B)) rfl (c_Pool_node (A := B) (by omega)) rfl ?_
      have e9 : ((stI B t : Nat) : Int).toNat = stI B t := by omega
      rw [e9]
      repeat (first | refine go_pure hM rfl ?_ | (refine go_get (fs := ?_) (v := ?_) hM rfl ?_ ?_ ?_; rotate_left 2; assumption; rfl) | refine go_ldc hM rfl ?_)
      rw [rm4 B]
      refine go_icmp_le hM rfl (by omega) (by omega) (fun _ => ?_) (fun hc => absurd hc (by omega))
      repeat (first | refine go_pure hM rfl ?_ | (refine go_get (fs := ?_) (v := ?_) hM rfl ?_ ?_ ?_; rotate_left 2; assumption; rfl) | refine go_ldc hM rfl ?_)
      refine go_cV hM rfl rfl rfl k4 rfl (p_moveTail o1 (by omega : stI B t < 260) hrt (by omega) (by omega) (by omega)) rfl ?_
      repeat (first | refine go_pure hM rfl ?_ | (refine go_get (fs := ?_) (v := ?_) hM rfl ?_ ?_ ?_; rotate_left 2; assumption; rfl) | refine go_ldc hM rfl ?_)
      refine go_cV hM rfl rfl rfl (hp_tr ht) rfl (c_Tree_giveBack (A := mvA B (stI B t) 0 (256 + t)) okM ht (by omega) tkM) rfl ?_
      refine go_pure hM rfl ?_
      have e4 : ((d - m : Nat) : Int) + (-1) = ((d - (m + 1) : Nat) : Int) := by omega
      rw [e4]
      repeat (first | exact ihm _ | refine go_pure hM rfl ?_ | (refine go_get (fs := ?_) (v := ?_) hM rfl ?_ ?_ ?_; rotate_left 2; assumption; rfl) | refine go_ldc hM rfl ?_)
  have k1 := hp_tr (A := A) (h0 := h0) ht
  have k2 := hp_nd (A := A) (h0 := h0) hrt
  have l0 := loop c 0 none (by omega)
  rw [Nat.sub_zero] at l0
  refine go_pure hM rfl ?_
  refine go_get hM rfl k1 rfl ?_
  refine go_get hM rfl k2 rfl ?_
  rw [hd]
  repeat (first | exact l0 | refine go_pure hM rfl ?_ | (refine go_get (fs := ?_) (v := ?_) hM rfl ?_ ?_ ?_; rotate_left 2; assumption; rfl) | refine go_ldc hM rfl ?_)
end
end
section
/-! a contract with a weaker end -/
theorem Rn.imp {G : gG} {M : gM} {av : List gV} {N : Option Nat} {h : gH} {mc ms : Nat} {Q Q' : Option gV → Option Nat → gH → Prop} {X : String → gH → Prop} (hR : Rn G M av N h mc ms Q X) (hq : ∀ v N' h', Q v N' h' → Q' v N' h') : Rn G M av N h mc ms Q' X := by
  intro htr p e a1 a2 a3 s m args below hf happ hP hK
  obtain ⟨n, o, h1, h2, h3, h4⟩ := hR htr p e a1 a2 a3 s m args below hf happ hP hK
  refine ⟨n, o, h1, h2, h3, ?_⟩
  rcases h4 with ⟨⟨⟨v, N', h', e1, e2, e3⟩, e4⟩, e5⟩ | h4
  · exact Or.inl ⟨⟨⟨v, N', h', e1, hq _ _ _ e2, e3⟩, e4⟩, e5⟩
  · exact Or.inr h4
end
section
/-! THE MODEL of a file: its runs in order, and how many entries each node of each level has (the root is the one node of level d) -/
def sm (f : Nat → Nat) : Nat → Nat
  | 0 => 0
  | p + 1 => sm f p + f p
theorem sm_mono {f : Nat → Nat} {a b : Nat} (h : a ≤ b) : sm f a ≤ sm f b := by
  induction b with
  | zero =>
    have : a = 0 := by omega
    subst this
    exact Nat.le_refl _
  | succ b ih =>
    by_cases h1 : a = b + 1
    · subst h1
      exact Nat.le_refl _
    · exact Nat.le_trans (ih (by omega)) (Nat.le_add_right _ _)
theorem sm_lt {f : Nat → Nat} {K a b : Nat} (hf : ∀ p, p < K → 1 ≤ f p) (h : a < b) (hb : b ≤ K) : sm f a < sm f b := by
  have h1 : sm f (a + 1) ≤ sm f b := sm_mono (by omega)
  have h2 := hf a (by omega)
  have h3 : sm f (a + 1) = sm f a + f a := rfl
  omega
theorem sm_congr {f g : Nat → Nat} {K : Nat} (h : ∀ p, p < K → f p = g p) : sm f K = sm g K := by
  induction K with
  | zero => rfl
  | succ K ih =>
    show sm f K + f K = sm g K + g K
    rw [ih (fun p hp => h p (by omega)), h K (by omega)]
/-- the node that has an item -/
def lc (f : Nat → Nat) (q : Nat) : Nat → Nat
  | 0 => 0
  | p + 1 => if sm f p ≤ q then p else lc f q p
theorem lc_spec {f : Nat → Nat} {q : Nat} : ∀ K, q < sm f K → lc f q K < K ∧ sm f (lc f q K) ≤ q ∧ q < sm f (lc f q K) + f (lc f q K) := by
  intro K
  induction K with
  | zero => intro h; exact absurd h (Nat.not_lt_zero _)
  | succ K ih =>
    intro h
    unfold lc
    by_cases h1 : sm f K ≤ q
    · rw [if_pos h1]
      exact ⟨by omega, h1, h⟩
    · rw [if_neg h1]
      obtain ⟨a, b, c⟩ := ih (by omega)
      exact ⟨by omega, b, c⟩
theorem lc_uniq {f : Nat → Nat} {K p p' q : Nat} (h1 : sm f p ≤ q) (h2 : q < sm f p + f p) (h3 : sm f p' ≤ q) (h4 : q < sm f p' + f p') : p = p' := by
  rcases Nat.lt_trichotomy p p' with h | h | h
  · have : sm f (p + 1) ≤ sm f p' := sm_mono h
    have h5 : sm f (p + 1) = sm f p + f p := rfl
    omega
  · exact h
  · have : sm f (p' + 1) ≤ sm f p := sm_mono h
    have h5 : sm f (p' + 1) = sm f p' + f p' := rfl
    omega
/-- runs: how many, first file block, length, first volume block, 1 if written; depth; of each level how many nodes, their blocks, their entries -/
abbrev mS : Type := Nat × (Nat → Int) × (Nat → Int) × (Nat → Int) × (Nat → Int) × Nat × (Nat → Nat) × (Nat → Nat → Nat) × (Nat → Nat → Nat)
abbrev mn (S : mS) : Nat := S.1
abbrev ms (S : mS) : Nat → Int := S.2.1
abbrev ml (S : mS) : Nat → Int := S.2.2.1
abbrev mv (S : mS) : Nat → Int := S.2.2.2.1
abbrev mw (S : mS) : Nat → Int := S.2.2.2.2.1
abbrev md (S : mS) : Nat := S.2.2.2.2.2.1
abbrev mK (S : mS) : Nat → Nat := S.2.2.2.2.2.2.1
abbrev mb (S : mS) : Nat → Nat → Nat := S.2.2.2.2.2.2.2.1
abbrev mc (S : mS) : Nat → Nat → Nat := S.2.2.2.2.2.2.2.2
/-- the first run of an item -/
def fr (c : Nat → Nat → Nat) : Nat → Nat → Nat
  | 0, q => q
  | l + 1, q => fr c l (sm (c l) q)
def mI (S : mS) (l : Nat) : Nat := match l with
  | 0 => mn S
  | l + 1 => mK S l
/-- the shape -/
def mSh (S : mS) (t m : Nat) : Prop := md S ≤ 5 ∧ mK S (md S) = 1 ∧ mb S (md S) 0 = 256 + t ∧ (∀ l, l ≤ md S → sm (mc S l) (mK S l) = mI S l) ∧ (∀ l, l < md S → ∀ p, p < mK S l → 1 ≤ mc S l p ∧ mc S l p ≤ m ∧ 1 ≤ mb S l p ∧ mb S l p ≤ 255) ∧ mc S (md S) 0 ≤ 4 ∧ (0 < md S → 1 ≤ mc S (md S) 0)
/-- the runs -/
def mRn (S : mS) : Prop := (∀ i, i < mn S → 0 ≤ ms S i ∧ 1 ≤ ml S i ∧ ms S i + ml S i ≤ 65536 ∧ (mw S i = 0 ∨ mw S i = 1) ∧ ml S i ≤ 32767 + mw S i ∧ 1 ≤ mv S i ∧ mv S i + ml S i ≤ 16777217) ∧ ∀ i, i + 1 < mn S → ms S i + ml S i ≤ ms S (i + 1)
/-- the class's nodes are this tree -/
def mAb (A : cA) (t : Nat) (S : mS) : Prop := ∀ l, l ≤ md S → ∀ p, p < mK S l → aDp A (mb S l p) = l ∧ aEn A (mb S l p) = mc S l p ∧ ∀ j, j < mc S l p → aWf A (mb S l p) (j * 3) = ms S (fr (mc S) l (sm (mc S l) p + j)) ∧ aWf A (mb S l p) (j * 3 + 1) = (match l with | 0 => ml S (sm (mc S l) p + j) + (1 - mw S (sm (mc S l) p + j)) * 32768 | l + 1 => (mb S l (sm (mc S (l + 1)) p + j) : Int)) ∧ aWf A (mb S l p) (j * 3 + 2) = (match l with | 0 => mv S (sm (mc S l) p + j) | _ + 1 => 0)
section
variable {S : mS} {t m : Nat}
theorem mRn.mono (hr : mRn S) {i j : Nat} (h : i < j) (hj : j < mn S) : ms S i + ml S i ≤ ms S j := by
  induction j with
  | zero => omega
  | succ j ih =>
    by_cases h1 : i = j
    · subst h1
      exact hr.2 i hj
    · have h2 := ih (by omega) (by omega)
      have h3 := hr.2 j hj
      have h4 := (hr.1 j (by omega)).2.1
      omega
theorem mRn.lt (hr : mRn S) {i j : Nat} (h : i < j) (hj : j < mn S) : ms S i < ms S j := by
  have h1 := hr.mono h hj
  have h2 := (hr.1 i (by omega)).2.1
  omega
theorem mSh.pos (hs : mSh S t m) (hn : 0 < mn S) {l p : Nat} (hl : l ≤ md S) (hp : p < mK S l) : 1 ≤ mc S l p := by
  by_cases h : l < md S
  · exact (hs.2.2.2.2.1 l h p hp).1
  · have : l = md S := by omega
    subst this
    by_cases h1 : 0 < md S
    · have hp0 : p = 0 := by have := hs.2.1; omega
      subst hp0
      exact hs.2.2.2.2.2.2 h1
    · have h2 : md S = 0 := by omega
      have h3 := hs.2.2.2.1 (md S) (Nat.le_refl _)
      rw [hs.2.1, h2] at h3
      have h4 : sm (mc S 0) 1 = 0 + mc S 0 0 := rfl
      have h5 : mI S 0 = mn S := rfl
      have hp0 : p = 0 := by have := hs.2.1; omega
      rw [h2, hp0]
      omega
/-- items and runs -/
theorem fr_top (hs : mSh S t m) : ∀ l, l ≤ md S + 1 → fr (mc S) l (mI S l) = mn S := by
  intro l
  induction l with
  | zero => intro _; rfl
  | succ l ih =>
    intro h
    show fr (mc S) l (sm (mc S l) (mK S l)) = mn S
    rw [hs.2.2.2.1 l (by omega)]
    exact ih (by omega)
theorem fr_lt (hs : mSh S t m) (hn : 0 < mn S) : ∀ l, l ≤ md S + 1 → ∀ a b, a < b → b ≤ mI S l → fr (mc S) l a < fr (mc S) l b := by
  intro l
  induction l with
  | zero => intro _ a b h _; exact h
  | succ l ih =>
    intro hl a b h hb
    have hb' : b ≤ mK S l := hb
    refine ih (by omega) _ _ (sm_lt (K := mK S l) (fun p hp => hs.pos hn (by omega) hp) h hb') ?_
    rw [← hs.2.2.2.1 l (by omega)]
    exact sm_mono hb'
theorem fr_le (hs : mSh S t m) (hn : 0 < mn S) {l a b : Nat} (hl : l ≤ md S + 1) (h : a ≤ b) (hb : b ≤ mI S l) : fr (mc S) l a ≤ fr (mc S) l b := by
  by_cases h1 : a = b
  · subst h1
    exact Nat.le_refl _
  · exact Nat.le_of_lt (fr_lt hs hn l hl a b (by omega) hb)
theorem fr_n (hs : mSh S t m) (hn : 0 < mn S) {l a : Nat} (hl : l ≤ md S + 1) (h : a < mI S l) : fr (mc S) l a < mn S := by
  have := fr_lt hs hn l hl a (mI S l) h (Nat.le_refl _)
  rw [fr_top hs l hl] at this
  exact this
theorem fr_0 : ∀ (c : Nat → Nat → Nat) (l : Nat), fr c l 0 = 0 := by
  intro c l
  induction l with
  | zero => rfl
  | succ l ih => exact ih
/-- the way to a run: the item of each level that has it -/
def mQ (S : mS) (i : Nat) : Nat → Nat
  | 0 => i
  | l + 1 => lc (mc S l) (mQ S i l) (mK S l)
theorem mQ_lt (hs : mSh S t m) {i : Nat} (hi : i < mn S) : ∀ l, l ≤ md S + 1 → mQ S i l < mI S l := by
  intro l
  induction l with
  | zero => intro _; exact hi
  | succ l ih =>
    intro h
    exact (lc_spec (mK S l) (by rw [hs.2.2.2.1 l (by omega)]; exact ih (by omega))).1
theorem mQ_in (hs : mSh S t m) {i l : Nat} (hi : i < mn S) (hl : l ≤ md S) : mQ S i (l + 1) < mK S l ∧ sm (mc S l) (mQ S i (l + 1)) ≤ mQ S i l ∧ mQ S i l < sm (mc S l) (mQ S i (l + 1)) + mc S l (mQ S i (l + 1)) := lc_spec (mK S l) (by rw [hs.2.2.2.1 l hl]; exact mQ_lt hs hi l (by omega))
theorem mQ_fr (hs : mSh S t m) {i : Nat} (hi : i < mn S) : ∀ l, l ≤ md S + 1 → fr (mc S) l (mQ S i l) ≤ i ∧ i < fr (mc S) l (mQ S i l + 1) := by
  intro l
  induction l with
  | zero => intro _; exact ⟨Nat.le_refl _, Nat.lt_succ_self _⟩
  | succ l ih =>
    intro h
    obtain ⟨a1, a2, a3⟩ := mQ_in hs hi (show l ≤ md S by omega)
    obtain ⟨b1, b2⟩ := ih (by omega)
    have hn : 0 < mn S := by omega
    have hq := mQ_lt hs hi l (by omega)
    have hb : sm (mc S l) (mQ S i (l + 1)) + mc S l (mQ S i (l + 1)) ≤ mI S l := by
      have h1 : sm (mc S l) (mQ S i (l + 1) + 1) ≤ sm (mc S l) (mK S l) := sm_mono a1
      rw [hs.2.2.2.1 l (by omega)] at h1
      exact h1
    refine ⟨?_, ?_⟩
    · show fr (mc S) l (sm (mc S l) (mQ S i (l + 1))) ≤ i
      exact Nat.le_trans (fr_le hs hn (by omega) a2 (by omega)) b1
    · show i < fr (mc S) l (sm (mc S l) (mQ S i (l + 1) + 1))
      have h2 : sm (mc S l) (mQ S i (l + 1) + 1) = sm (mc S l) (mQ S i (l + 1)) + mc S l (mQ S i (l + 1)) := rfl
      rw [h2]
      exact Nat.lt_of_lt_of_le b2 (fr_le hs hn (by omega) (by omega) hb)
theorem mQ_top (hs : mSh S t m) {i : Nat} (hi : i < mn S) : mQ S i (md S + 1) = 0 := by
  have h1 := (mQ_in hs hi (Nat.le_refl (md S))).1
  have h2 := hs.2.1
  omega
end
end
section
/-! the way that find goes is the way to the last run that begins at a block or before it -/
def pW (S : mS) (i : Int) (k : Nat) : Nat := mb S (md S - k) (mQ S i.toNat (md S - k + 1))
def pP (S : mS) (i : Int) (k : Nat) : Int := if k = md S then i - sm (mc S 0) (mQ S i.toNat 1) else (mQ S i.toNat (md S - k) : Int) - sm (mc S (md S - k)) (mQ S i.toNat (md S - k + 1))
section
variable {A : cA} {S : mS} {t m : Nat} {b : Int}
theorem mSh.Kpos (hs : mSh S t m) : ∀ k, k ≤ md S → 0 < mK S (md S - k) := by
  intro k
  induction k with
  | zero =>
    intro _
    have := hs.2.1
    rw [Nat.sub_zero]
    omega
  | succ k ih =>
    intro h
    have h1 := ih (by omega)
    have h2 := hs.2.2.2.1 (md S - k) (by omega)
    have e : md S - k = (md S - (k + 1)) + 1 := by omega
    have h3 : mI S (md S - k) = mK S (md S - (k + 1)) := by
      rw [e]
      rfl
    rw [h3] at h2
    have h4 : sm (mc S (md S - k)) 1 ≤ sm (mc S (md S - k)) (mK S (md S - k)) := sm_mono h1
    have h5 : sm (mc S (md S - k)) 1 = 0 + mc S (md S - k) 0 := rfl
    have h6 : 1 ≤ mc S (md S - k) 0 := by
      by_cases h7 : k = 0
      · subst h7
        rw [Nat.sub_zero]
        exact hs.2.2.2.2.2.2 (by omega)
      · exact (hs.2.2.2.2.1 (md S - k) (by omega) 0 h1).1
    omega
theorem mSh.npos (hs : mSh S t m) (hd : 0 < md S) : 0 < mn S := by
  have h1 := hs.Kpos (md S) (Nat.le_refl _)
  rw [Nat.sub_self] at h1
  have h2 := hs.2.2.2.1 0 (by omega)
  have h3 : mI S 0 = mn S := rfl
  have h4 : sm (mc S 0) 1 ≤ sm (mc S 0) (mK S 0) := sm_mono h1
  have h5 : sm (mc S 0) 1 = 0 + mc S 0 0 := rfl
  have h6 := (hs.2.2.2.2.1 0 hd 0 h1).1
  omega
theorem mSh.bl (hs : mSh S t m) (ht : t < 4) {l p : Nat} (hl : l ≤ md S) (hp : p < mK S l) : mb S l p < 260 := by
  by_cases h : l < md S
  · have := (hs.2.2.2.2.1 l h p hp).2.2.2
    omega
  · have : l = md S := by omega
    subst this
    have hp0 : p = 0 := by have := hs.2.1; omega
    rw [hp0, hs.2.2.1]
    omega
theorem mSh.off (hs : mSh S t m) {l p : Nat} (hl : l ≤ md S) (hp : p < mK S l) : sm (mc S l) p + mc S l p ≤ mI S l := by
  have h1 : sm (mc S l) (p + 1) ≤ sm (mc S l) (mK S l) := sm_mono hp
  rw [hs.2.2.2.1 l hl] at h1
  exact h1
theorem mQ_z (hs : mSh S t m) (hn : 0 < mn S) {l : Nat} (hl : l ≤ md S + 1) : mQ S 0 l = 0 := by
  have h1 := (mQ_fr hs hn l hl).1
  by_cases h : mQ S 0 l = 0
  · exact h
  · have h2 := fr_lt hs hn l hl 0 (mQ S 0 l) (by omega) (Nat.le_of_lt (mQ_lt hs hn l hl))
    rw [fr_0] at h2
    omega
theorem ab_srt (ht : t < 4) (hs : mSh S t m) (hr : mRn S) (ha : mAb A t S) {l p : Nat} (hl : l ≤ md S) (hp : p < mK S l) : gSrt (aWf A (mb S l p)) (aEn A (mb S l p)) := by
  intro x y hxy hy
  obtain ⟨h1, h2, h3⟩ := ha l hl p hp
  rw [h2] at hy
  have hy' : y < mc S l p := by omega
  rw [(h3 x (by omega)).1, (h3 y hy').1]
  have ho := hs.off hl hp
  have hn : 0 < mn S := by
    by_cases hz : 0 < mn S
    · exact hz
    · have hd0 : md S = 0 := by
        by_cases h9 : 0 < md S
        · exact absurd (hs.npos h9) hz
        · omega
      have hl0 : l = 0 := by omega
      subst hl0
      have h8 : mI S 0 = mn S := rfl
      omega
  by_cases he : x = y
  · subst he
    exact Int.le_refl _
  · have h4 := fr_lt hs hn l (by omega) (sm (mc S l) p + x) (sm (mc S l) p + y) (by omega) (by omega)
    have h5 := fr_n hs hn (l := l) (by omega) (show sm (mc S l) p + y < mI S l by omega)
    exact Int.le_of_lt (hr.lt h4 h5)
/-- the choice in a node of the way -/
theorem ab_lu (ht : t < 4) (hs : mSh S t m) (hr : mRn S) (ha : mAb A t S) {i l : Nat} (hi : i < mn S) (h1 : ms S i ≤ b) (h2 : i + 1 < mn S → b < ms S (i + 1)) (hl : l ≤ md S) : gLu (aWf A (mb S l (mQ S i (l + 1)))) b (aEn A (mb S l (mQ S i (l + 1)))).toNat = (mQ S i l : Int) - sm (mc S l) (mQ S i (l + 1)) := by
  obtain ⟨a1, a2, a3⟩ := mQ_in hs hi hl
  obtain ⟨b1, b2, b3⟩ := ha l hl _ a1
  obtain ⟨c1, c2⟩ := mQ_fr hs hi l (by omega)
  have ho := hs.off hl a1
  have hn : 0 < mn S := by omega
  generalize mQ S i (l + 1) = p at *
  generalize mQ S i l = q at *
  rw [b2]
  have e : ((mc S l p : Nat) : Int).toNat = mc S l p := by omega
  rw [e, gLu_eq (q - sm (mc S l) p + 1) (fun x hx => ?_) (mc S l p) (by omega) (fun x hx hx2 => ?_)]
  · omega
  · rw [(b3 x (by omega)).1]
    have h3 := fr_le hs hn (l := l) (a := sm (mc S l) p + x) (b := q) (by omega) (by omega) (by omega)
    by_cases h4 : fr (mc S) l (sm (mc S l) p + x) = i
    · rw [h4]
      exact h1
    · have := hr.lt (i := fr (mc S) l (sm (mc S l) p + x)) (j := i) (by omega) hi
      omega
  · rw [(b3 x hx2).1]
    have h3 := fr_le hs hn (l := l) (a := q + 1) (b := sm (mc S l) p + x) (by omega) (by omega) (by omega)
    have h4 := fr_n hs hn (l := l) (by omega) (show sm (mc S l) p + x < mI S l by omega)
    have h5 := h2 (by omega)
    by_cases h6 : fr (mc S) l (sm (mc S l) p + x) = i + 1
    · rw [h6]
      exact h5
    · have := hr.lt (i := i + 1) (j := fr (mc S) l (sm (mc S l) p + x)) (by omega) h4
      omega
/-- .. where no run begins so early -/
theorem ab_lu0 (hs : mSh S t m) (hr : mRn S) (ha : mAb A t S) {l : Nat} (h2 : 0 < mn S → b < ms S 0) (hl : l ≤ md S) (hp : 0 < mK S l) : gLu (aWf A (mb S l 0)) b (aEn A (mb S l 0)).toNat = -1 := by
  obtain ⟨b1, b2, b3⟩ := ha l hl 0 hp
  have ho := hs.off hl hp
  rw [b2]
  have e : ((mc S l 0 : Nat) : Int).toNat = mc S l 0 := by omega
  rw [e, gLu_eq 0 (fun x hx => absurd hx (by omega)) (mc S l 0) (by omega) (fun x _ hx2 => ?_)]
  · rfl
  · have hn : 0 < mn S := by
      by_cases hd : 0 < md S
      · exact hs.npos hd
      · have hl0 : l = 0 := by omega
        subst hl0
        have h8 : mI S 0 = mn S := rfl
        omega
    rw [(b3 x hx2).1]
    have h3 := h2 hn
    have h4 := fr_n hs hn (l := l) (by omega) (show sm (mc S l) 0 + x < mI S l by omega)
    by_cases h6 : fr (mc S) l (sm (mc S l) 0 + x) = 0
    · rw [h6]
      exact h3
    · have := hr.lt (i := 0) (j := fr (mc S) l (sm (mc S l) 0 + x)) (by omega) h4
      omega
theorem path_of (ht : t < 4) (hs : mSh S t m) (hr : mRn S) (ha : mAb A t S) {i : Int} (hi : -1 ≤ i ∧ i < mn S) (h1 : 0 ≤ i → ms S i.toNat ≤ b) (h2 : i + 1 < mn S → b < ms S (i + 1).toNat) : PathTo A t b (md S) (pW S i) (pP S i) := by
  have hQK : ∀ l, l ≤ md S → mQ S i.toNat (l + 1) < mK S l := by
    intro l hl
    by_cases hn : 0 < mn S
    · exact (mQ_in hs (i := i.toNat) (by omega) hl).1
    · have hd0 : md S = 0 := by
        by_cases h9 : 0 < md S
        · exact absurd (hs.npos h9) hn
        · omega
      have hl0 : l = 0 := by omega
      subst hl0
      have hk := hs.2.1
      rw [hd0] at hk
      show lc (mc S 0) (mQ S i.toNat 0) (mK S 0) < mK S 0
      rw [hk]
      unfold lc
      rw [if_pos (show sm (mc S 0) 0 ≤ mQ S i.toNat 0 from Nat.zero_le _)]
      exact Nat.zero_lt_one
  refine ⟨hs.1, ?_, fun k hk => ?_, fun k hk => ?_⟩
  · unfold pW
    rw [Nat.sub_zero]
    have h3 := hQK (md S) (Nat.le_refl _)
    have h4 := hs.2.1
    rw [show mQ S i.toNat (md S + 1) = 0 by omega]
    exact hs.2.2.1
  · have hl : md S - k ≤ md S := by omega
    have hq := hQK (md S - k) hl
    refine ⟨hs.bl ht hl hq, ?_, ab_srt ht hs hr ha hl hq, ?_⟩
    · have := (ha (md S - k) hl _ hq).1
      unfold pW
      rw [this]
      omega
    · by_cases hi0 : 0 ≤ i
      · have hii : i.toNat < mn S := by omega
        have e := ab_lu (b := b) ht hs hr ha hii (h1 hi0) (fun h9 => by have := h2 (by omega); rwa [show (i + 1).toNat = i.toNat + 1 by omega] at this) hl
        have a2 := (mQ_in hs hii hl).2.1
        unfold pW
        rw [e]
        unfold pP
        by_cases hkd : k = md S
        · rw [if_pos hkd, if_pos hkd, hkd, Nat.sub_self]
          show i - ((sm (mc S 0) (mQ S i.toNat 1) : Nat) : Int) = ((i.toNat : Nat) : Int) - ((sm (mc S 0) (mQ S i.toNat 1) : Nat) : Int)
          omega
        · rw [if_neg hkd, if_neg hkd, if_neg (by omega)]
      · have hi1 : i = -1 := by omega
        have hz : mQ S i.toNat (md S - k + 1) = 0 := by
          by_cases hn : 0 < mn S
          · rw [show i.toNat = 0 by omega]
            exact mQ_z hs hn (by omega)
          · have hd0 : md S = 0 := by
              by_cases h9 : 0 < md S
              · exact absurd (hs.npos h9) hn
              · omega
            have h3 := hQK (md S - k) hl
            have h4 := hs.2.1
            rw [show md S - k = md S by omega] at h3 ⊢
            omega
        have e := ab_lu0 (b := b) hs hr ha (fun h9 => by have := h2 (by omega); rwa [show (i + 1).toNat = 0 by omega] at this) hl (by omega : 0 < mK S (md S - k))
        unfold pW
        rw [hz, e]
        unfold pP
        by_cases hkd : k = md S
        · rw [if_pos hkd, if_pos hkd]
          rw [hkd, Nat.sub_self] at hz
          rw [hz, hi1]
          rfl
        · rw [if_neg hkd, if_neg hkd, if_pos (by omega), hz]
          have hn : 0 < mn S := hs.npos (by omega)
          rw [show i.toNat = 0 by omega, mQ_z hs hn (by omega)]
          rfl
  · obtain ⟨l, hl⟩ : ∃ l, md S - k = l + 1 := ⟨md S - k - 1, by omega⟩
    have hq := hQK (l + 1) (by omega)
    have hq2 := hQK l (by omega)
    have hn : 0 < mn S := hs.npos (by omega)
    obtain ⟨b1, b2, b3⟩ := ha (l + 1) (by omega) _ hq
    obtain ⟨a1, a2, a3⟩ := mQ_in hs (i := i.toNat) (by omega) (show l + 1 ≤ md S by omega)
    have e1 : pW S i k = mb S (l + 1) (mQ S i.toNat (l + 1 + 1)) := by
      unfold pW
      rw [hl]
    have e2 : pW S i (k + 1) = mb S l (mQ S i.toNat (l + 1)) := by
      unfold pW
      rw [show md S - (k + 1) = l by omega]
    have e3 : pP S i k = (mQ S i.toNat (l + 1) : Int) - sm (mc S (l + 1)) (mQ S i.toNat (l + 1 + 1)) := by
      unfold pP
      rw [if_neg (by omega), hl]
    rw [e1, e2, e3]
    refine ⟨?_, ?_⟩
    · rw [b2, gWd_in (by omega)]
      have e4 : (((mQ S i.toNat (l + 1) : Int) - sm (mc S (l + 1)) (mQ S i.toNat (l + 1 + 1))) * 3 + 1).toNat = (mQ S i.toNat (l + 1) - sm (mc S (l + 1)) (mQ S i.toNat (l + 1 + 1))) * 3 + 1 := by omega
      rw [e4, (b3 _ (by omega)).2.1]
      show ((mb S l (sm (mc S (l + 1)) (mQ S i.toNat (l + 1 + 1)) + (mQ S i.toNat (l + 1) - sm (mc S (l + 1)) (mQ S i.toNat (l + 1 + 1)))) : Nat) : Int) = _
      rw [show sm (mc S (l + 1)) (mQ S i.toNat (l + 1 + 1)) + (mQ S i.toNat (l + 1) - sm (mc S (l + 1)) (mQ S i.toNat (l + 1 + 1))) = mQ S i.toNat (l + 1) by omega]
    · have := (hs.2.2.2.2.1 l (by omega) _ hq2).2.2.2
      omega
end
end
section
/-! what is asked of a file, by its runs -/
/-- the last run that begins at a block or before it, or -1 -/
def lsR (s : Nat → Int) (b : Int) : Nat → Int
  | 0 => -1
  | k + 1 => if s k ≤ b then (k : Int) else lsR s b k
theorem lsR_spec {S : mS} (hr : mRn S) (b : Int) : (-1 ≤ lsR (ms S) b (mn S) ∧ lsR (ms S) b (mn S) < mn S) ∧ (0 ≤ lsR (ms S) b (mn S) → ms S (lsR (ms S) b (mn S)).toNat ≤ b) ∧ (lsR (ms S) b (mn S) + 1 < mn S → b < ms S (lsR (ms S) b (mn S) + 1).toNat) := by
  have key : ∀ k, k ≤ mn S → (-1 ≤ lsR (ms S) b k ∧ lsR (ms S) b k < k) ∧ (0 ≤ lsR (ms S) b k → ms S (lsR (ms S) b k).toNat ≤ b) ∧ (lsR (ms S) b k + 1 < k → b < ms S (lsR (ms S) b k + 1).toNat) := by
    intro k
    induction k with
    | zero =>
      intro _
      refine ⟨by simp [lsR], fun h => ?_, fun h => ?_⟩
      · exact absurd h (by simp [lsR])
      · exact absurd h (by simp [lsR])
    | succ k ih =>
      intro hk
      obtain ⟨a1, a2, a3⟩ := ih (by omega)
      unfold lsR
      by_cases h : ms S k ≤ b
      · rw [if_pos h]
        refine ⟨by omega, fun _ => ?_, fun h9 => by omega⟩
        rw [show (k : Int).toNat = k by omega]
        exact h
      · rw [if_neg h]
        refine ⟨by omega, a2, fun h9 => ?_⟩
        by_cases h8 : lsR (ms S) b k + 1 < k
        · exact a3 h8
        · rw [show (lsR (ms S) b k + 1).toNat = k by omega]
          omega
  exact key (mn S) (Nat.le_refl _)
section
variable {A : cA} {S : mS} {t m : Nat} {b i : Int}
/-- the run found -/
theorem run_at (ht : t < 4) (hs : mSh S t m) (hr : mRn S) (ha : mAb A t S) (hi : 0 ≤ i ∧ i < mn S) : eF A (pW S i (md S)) (pP S i (md S)) = ms S i.toNat ∧ eL A (pW S i (md S)) (pP S i (md S)) = ml S i.toNat ∧ eV A (pW S i (md S)) (pP S i (md S)) = mv S i.toNat ∧ eW A (pW S i (md S)) (pP S i (md S)) = mw S i.toNat := by
  obtain ⟨a1, a2, a3⟩ := mQ_in hs (i := i.toNat) (l := 0) (by omega) (by omega)
  have a1 : mQ S i.toNat 1 < mK S 0 := a1
  have a2 : sm (mc S 0) (mQ S i.toNat 1) ≤ i.toNat := a2
  have a3 : i.toNat < sm (mc S 0) (mQ S i.toNat 1) + mc S 0 (mQ S i.toNat 1) := a3
  obtain ⟨b1, b2, b3⟩ := ha 0 (by omega) (mQ S i.toNat 1) a1
  have e1 : pW S i (md S) = mb S 0 (mQ S i.toNat 1) := by
    unfold pW
    rw [Nat.sub_self]
  have e2 : pP S i (md S) = ((i.toNat - sm (mc S 0) (mQ S i.toNat 1) : Nat) : Int) := by
    unfold pP
    rw [if_pos rfl]
    omega
  obtain ⟨c1, c2, c3⟩ := b3 (i.toNat - sm (mc S 0) (mQ S i.toNat 1)) (by omega)
  have e3 : sm (mc S 0) (mQ S i.toNat 1) + (i.toNat - sm (mc S 0) (mQ S i.toNat 1)) = i.toNat := by omega
  have c1 : aWf A (mb S 0 (mQ S i.toNat 1)) ((i.toNat - sm (mc S 0) (mQ S i.toNat 1)) * 3) = ms S i.toNat := by
    have := c1
    rw [e3] at this
    exact this
  have c2 : aWf A (mb S 0 (mQ S i.toNat 1)) ((i.toNat - sm (mc S 0) (mQ S i.toNat 1)) * 3 + 1) = ml S i.toNat + (1 - mw S i.toNat) * 32768 := by
    have := c2
    simp only at this
    rw [e3] at this
    exact this
  have c3 : aWf A (mb S 0 (mQ S i.toNat 1)) ((i.toNat - sm (mc S 0) (mQ S i.toNat 1)) * 3 + 2) = mv S i.toNat := by
    have := c3
    simp only at this
    rw [e3] at this
    exact this
  obtain ⟨r1, r2, r3, r4, r5, r6, r7⟩ := hr.1 i.toNat (by omega)
  generalize i.toNat - sm (mc S 0) (mQ S i.toNat 1) = j at *
  generalize mQ S i.toNat 1 = p at *
  have hin : 0 ≤ (j : Int) ∧ (j : Int) < aEn A (mb S 0 p) := by
    rw [b2]
    omega
  rw [e1, e2]
  have g0 : gWd (aWf A (mb S 0 p)) (aEn A (mb S 0 p)) j 0 = ms S i.toNat := by
    rw [gWd_in hin, show ((j : Int) * 3 + 0).toNat = j * 3 by omega]
    exact c1
  have g1 : gWd (aWf A (mb S 0 p)) (aEn A (mb S 0 p)) j 1 = ml S i.toNat + (1 - mw S i.toNat) * 32768 := by
    rw [gWd_in hin, show ((j : Int) * 3 + 1).toNat = j * 3 + 1 by omega]
    exact c2
  have g2 : gWd (aWf A (mb S 0 p)) (aEn A (mb S 0 p)) j 2 = mv S i.toNat := by
    rw [gWd_in hin, show ((j : Int) * 3 + 2).toNat = j * 3 + 2 by omega]
    exact c3
  refine ⟨g0, ?_, g2, ?_⟩
  · unfold eL
    rw [g1]
    unfold gLn
    rcases r4 with h | h <;> rw [h] at r5 ⊢ <;> split <;> omega
  · unfold eW
    rw [g1]
    rcases r4 with h | h
    · rw [if_neg (by rw [h]; omega), h]
    · rw [if_pos ⟨hin, by rw [h]; omega⟩, h]
/-- no run found reads as zeros -/
theorem run_no : eF A (pW S (-1) (md S)) (pP S (-1) (md S)) = 0 ∧ eL A (pW S (-1) (md S)) (pP S (-1) (md S)) = 0 ∧ eV A (pW S (-1) (md S)) (pP S (-1) (md S)) = 0 ∧ eW A (pW S (-1) (md S)) (pP S (-1) (md S)) = 0 := by
  have h : pP S (-1) (md S) < 0 := by
    unfold pP
    rw [if_pos rfl]
    omega
  generalize pP S (-1) (md S) = p at *
  refine ⟨?_, ?_, ?_, ?_⟩
  · unfold eF
    rw [gWd_out (by omega)]
  · unfold eL
    rw [gWd_out (by omega)]
    rfl
  · unfold eV
    rw [gWd_out (by omega)]
  · unfold eW
    rw [if_neg (by omega)]
/-- the places of the way -/
theorem pP_b (hs : mSh S t m) (hi : -1 ≤ i ∧ i < mn S) {k : Nat} (hk : k ≤ md S) : mQ S i.toNat (md S - k + 1) < mK S (md S - k) ∧ -1 ≤ pP S i k ∧ pP S i k + 1 ≤ mc S (md S - k) (mQ S i.toNat (md S - k + 1)) ∧ (k < md S → pP S i k = (mQ S i.toNat (md S - k) : Int) - sm (mc S (md S - k)) (mQ S i.toNat (md S - k + 1)) ∧ 0 ≤ pP S i k) := by
  by_cases hn : 0 < mn S
  · obtain ⟨a1, a2, a3⟩ := mQ_in hs (i := i.toNat) (l := md S - k) (by omega) (by omega)
    refine ⟨a1, ?_⟩
    unfold pP
    by_cases hkd : k = md S
    · rw [if_pos hkd]
      rw [hkd, Nat.sub_self] at a2 a3 ⊢
      have a2 : sm (mc S 0) (mQ S i.toNat 1) ≤ i.toNat := a2
      have a3 : i.toNat < sm (mc S 0) (mQ S i.toNat 1) + mc S 0 (mQ S i.toNat 1) := a3
      refine ⟨by omega, ?_, fun h => by omega⟩
      show i - _ + 1 ≤ ((mc S 0 (mQ S i.toNat 1) : Nat) : Int)
      omega
    · rw [if_neg hkd]
      exact ⟨by omega, by omega, fun _ => ⟨rfl, by omega⟩⟩
  · have hd0 : md S = 0 := by
      by_cases h9 : 0 < md S
      · exact absurd (hs.npos h9) hn
      · omega
    have hk0 : k = 0 := by omega
    have hK := hs.2.1
    have hi1 : i = -1 := by omega
    have hz : mQ S i.toNat 1 = 0 := by
      show lc (mc S 0) (mQ S i.toNat 0) (mK S 0) = 0
      rw [hd0] at hK
      rw [hK]
      unfold lc
      rw [if_pos (show sm (mc S 0) 0 ≤ mQ S i.toNat 0 from Nat.zero_le _)]
    have e0 : md S - k = 0 := by omega
    rw [e0]
    have hz' : mQ S i.toNat (0 + 1) = 0 := hz
    rw [hz']
    rw [hd0] at hK
    refine ⟨by omega, ?_, ?_, fun h => by omega⟩
    · unfold pP
      rw [if_pos (by omega), hz, hi1]
      exact Int.le_refl _
    · unfold pP
      rw [if_pos (by omega), hz, hi1]
      show (-1 : Int) - ((0 : Nat) : Int) + 1 ≤ _
      omega
/-- the first block of the run behind the one found -/
theorem nf_at (hs : mSh S t m) (ha : mAb A t S) (hi : -1 ≤ i ∧ i < mn S) : nf (fnd A t (pW S i) (pP S i) (md S + 1) (md S)) t (md S + 1) = if i + 1 < mn S then ms S (i + 1).toNat else 65536 := by
  have key : ∀ k, k ≤ md S → (∀ q : Nat, (q : Int) = sm (mc S (md S - k)) (mQ S i.toNat (md S - k + 1)) + pP S i k + 1 → ((fr (mc S) (md S - k) q : Nat) : Int) = i + 1) → nf (fnd A t (pW S i) (pP S i) (md S + 1) (md S)) t (k + 1) = if i + 1 < mn S then ms S (i + 1).toNat else 65536 := by
    intro k
    induction k with
    | zero =>
      intro hk hq
      obtain ⟨p1, p2, p3, p4⟩ := pP_b hs hi hk
      obtain ⟨b1, b2, b3⟩ := ha (md S - 0) (by omega) _ p1
      have ho := hs.off (show md S - 0 ≤ md S by omega) p1
      show (if 0 ≤ aPl (fnd A t (pW S i) (pP S i) (md S + 1) (md S)) t 0 + 1 ∧ aPl (fnd A t (pW S i) (pP S i) (md S + 1) (md S)) t 0 + 1 < aEn A (aWy (fnd A t (pW S i) (pP S i) (md S + 1) (md S)) t 0) then gWd (aWf A (aWy (fnd A t (pW S i) (pP S i) (md S + 1) (md S)) t 0)) (aEn A (aWy (fnd A t (pW S i) (pP S i) (md S + 1) (md S)) t 0)) (aPl (fnd A t (pW S i) (pP S i) (md S + 1) (md S)) t 0 + 1) 0 else 65536) = _
      rw [fnd_wy (Nat.zero_le _), fnd_pl (Nat.zero_le _)]
      have hq1 := hq (sm (mc S (md S - 0)) (mQ S i.toNat (md S - 0 + 1)) + (pP S i 0 + 1).toNat) (by omega)
      have e1 : pW S i 0 = mb S (md S - 0) (mQ S i.toNat (md S - 0 + 1)) := rfl
      rw [e1, b2]
      by_cases hc : 0 ≤ pP S i 0 + 1 ∧ pP S i 0 + 1 < mc S (md S - 0) (mQ S i.toNat (md S - 0 + 1))
      · rw [if_pos hc, gWd_in hc, show ((pP S i 0 + 1) * 3 + 0).toNat = (pP S i 0 + 1).toNat * 3 by omega, (b3 _ (by omega)).1]
        have hn : 0 < mn S := by
          by_cases hd : 0 < md S
          · exact hs.npos hd
          · have h8 : mI S (md S - 0) = mn S := by rw [show md S - 0 = 0 by omega]; rfl
            omega
        have h5 := fr_n hs hn (l := md S - 0) (by omega) (show sm (mc S (md S - 0)) (mQ S i.toNat (md S - 0 + 1)) + (pP S i 0 + 1).toNat < mI S (md S - 0) by omega)
        rw [if_pos (by omega)]
        congr 1
        omega
      · rw [if_neg hc]
        have e2 : sm (mc S (md S - 0)) (mQ S i.toNat (md S - 0 + 1)) + (pP S i 0 + 1).toNat = mI S (md S - 0) := by
          have h6 := hs.2.2.2.1 (md S - 0) (by omega)
          have h7 := hs.2.1
          rw [Nat.sub_zero] at *
          have h8 : mQ S i.toNat (md S + 1) = 0 := by omega
          rw [h7] at h6
          have h9 : sm (mc S (md S)) 1 = 0 + mc S (md S) 0 := rfl
          rw [h8] at p3 hc ⊢
          have h10 : sm (mc S (md S)) 0 = 0 := rfl
          omega
        rw [e2, fr_top hs _ (by omega)] at hq1
        rw [if_neg (by omega)]
    | succ k ih =>
      intro hk hq
      obtain ⟨p1, p2, p3, p4⟩ := pP_b hs hi hk
      obtain ⟨b1, b2, b3⟩ := ha (md S - (k + 1)) (by omega) _ p1
      have ho := hs.off (show md S - (k + 1) ≤ md S by omega) p1
      have hn : 0 < mn S := hs.npos (by omega)
      show (if 0 ≤ aPl (fnd A t (pW S i) (pP S i) (md S + 1) (md S)) t (k + 1) + 1 ∧ aPl (fnd A t (pW S i) (pP S i) (md S + 1) (md S)) t (k + 1) + 1 < aEn A (aWy (fnd A t (pW S i) (pP S i) (md S + 1) (md S)) t (k + 1)) then gWd (aWf A (aWy (fnd A t (pW S i) (pP S i) (md S + 1) (md S)) t (k + 1))) (aEn A (aWy (fnd A t (pW S i) (pP S i) (md S + 1) (md S)) t (k + 1))) (aPl (fnd A t (pW S i) (pP S i) (md S + 1) (md S)) t (k + 1) + 1) 0 else nf (fnd A t (pW S i) (pP S i) (md S + 1) (md S)) t (k + 1)) = _
      rw [fnd_wy hk, fnd_pl hk]
      have hq1 := hq (sm (mc S (md S - (k + 1))) (mQ S i.toNat (md S - (k + 1) + 1)) + (pP S i (k + 1) + 1).toNat) (by omega)
      have e1 : pW S i (k + 1) = mb S (md S - (k + 1)) (mQ S i.toNat (md S - (k + 1) + 1)) := rfl
      rw [e1, b2]
      by_cases hc : 0 ≤ pP S i (k + 1) + 1 ∧ pP S i (k + 1) + 1 < mc S (md S - (k + 1)) (mQ S i.toNat (md S - (k + 1) + 1))
      · rw [if_pos hc, gWd_in hc, show ((pP S i (k + 1) + 1) * 3 + 0).toNat = (pP S i (k + 1) + 1).toNat * 3 by omega, (b3 _ (by omega)).1]
        have h5 := fr_n hs hn (l := md S - (k + 1)) (by omega) (show sm (mc S (md S - (k + 1))) (mQ S i.toNat (md S - (k + 1) + 1)) + (pP S i (k + 1) + 1).toNat < mI S (md S - (k + 1)) by omega)
        rw [if_pos (by omega)]
        congr 1
        omega
      · rw [if_neg hc]
        refine ih (by omega) (fun q hq9 => ?_)
        obtain ⟨l, hl⟩ : ∃ l, md S - (k + 1) = l ∧ md S - k = l + 1 := ⟨md S - (k + 1), rfl, by omega⟩
        obtain ⟨hl1, hl2⟩ := hl
        have p5 := ((pP_b hs hi (show k ≤ md S by omega)).2.2.2 (by omega)).1
        rw [hl2] at p5 hq9 ⊢
        rw [hl1] at hq1 p3 hc
        have e2 : q = mQ S i.toNat (l + 1) + 1 := by omega
        have e3 : sm (mc S l) (mQ S i.toNat (l + 1)) + (pP S i (k + 1) + 1).toNat = sm (mc S l) (mQ S i.toNat (l + 1) + 1) := by
          show _ = sm (mc S l) (mQ S i.toNat (l + 1)) + mc S l (mQ S i.toNat (l + 1))
          omega
        rw [e2]
        show ((fr (mc S) l (sm (mc S l) (mQ S i.toNat (l + 1) + 1)) : Nat) : Int) = i + 1
        rw [← e3]
        exact hq1
  refine key (md S) (Nat.le_refl _) (fun q hq => ?_)
  rw [Nat.sub_self] at hq ⊢
  have e1 : pP S i (md S) = i - sm (mc S 0) (mQ S i.toNat 1) := by
    unfold pP
    rw [if_pos rfl]
  have hq : (q : Int) = sm (mc S 0) (mQ S i.toNat 1) + pP S i (md S) + 1 := hq
  show ((q : Nat) : Int) = i + 1
  omega
end
end
section
/-! ExtentTree: what is asked; what is thrown -/
def gExc : List String := ["java/lang/RuntimeException", "java/lang/Exception"]
theorem thr_a : gOkT "ExtentTree" 51 55 "java/lang/IllegalArgumentException" gExc = true := by decide +kernel
theorem thr_s : gOkT "ExtentTree" 61 65 "java/lang/IllegalStateException" gExc = true := by decide +kernel
theorem thr_u : gOkT "ExtentTree" 70 74 "java/lang/UnsupportedOperationException" gExc = true := by decide +kernel
theorem thr_i : gOkT "ExtentTree" 148 152 "java/lang/IndexOutOfBoundsException" gExc = true := by decide +kernel
/-- sums over the first n -/
def smI (f : Nat → Int) : Nat → Int
  | 0 => 0
  | n + 1 => smI f n + f n
/-- how many of the blocks 1 .. k are free -/
def cnF (f : Nat → Int) : Nat → Int
  | 0 => 0
  | k + 1 => cnF f k + if f (k + 1) = 0 then 1 else 0
/-- a block that is a file's -/
def mOwn (SS : Nat → mS) (b t l p : Nat) : Prop := t < 4 ∧ l < md (SS t) ∧ p < mK (SS t) l ∧ mb (SS t) l p = b
/-- THE CLASS HOLDS THESE FILES -/
def Cl (A : cA) (SS : Nat → mS) : Prop := aOk A ∧ (∀ t, t < 4 → mSh (SS t) t (aM A) ∧ mRn (SS t) ∧ mAb A t (SS t) ∧ aRu A t = mn (SS t) ∧ aBl A t = sm (mK (SS t)) (md (SS t)) ∧ aMa A t = smI (ml (SS t)) (mn (SS t)) ∧ aMw A t = smI (fun i => mw (SS t) i * ml (SS t) i) (mn (SS t)) ∧ aLb A t = if md (SS t) = 0 then 0 else mK (SS t) 0) ∧
  (∀ b t l p t' l' p', mOwn SS b t l p → mOwn SS b t' l' p' → t = t' ∧ l = l' ∧ p = p') ∧ (∀ b, 1 ≤ b → b < 256 → (aTk A b = 1 ∧ ∃ t l p, mOwn SS b t l p) ∨ (aTk A b = 0 ∧ aEn A b = 0 ∧ ∀ t l p, ¬ mOwn SS b t l p)) ∧ aTk A 0 = 0 ∧ aLe A = cnF (aTk A) 255
theorem Cl_fnd {A : cA} {SS : Nat → mS} {t k : Nat} {W : Nat → Nat} {P : Nat → Int} {x : Int} (hc : Cl A SS) : Cl (fnd A t W P k x) SS := hc
section
variable {G : gG} {N : Option Nat} {h : gH}
theorem c_isFile {f : Int} (rf : (-2147483648 ≤ f ∧ f ≤ 2147483647)) : Rd G m_ET_isFile [vI f] N h (some (vI (if 0 ≤ f ∧ f < 4 then 1 else 0))) N h := by
  refine Rn.of rfl rfl rfl ?_
  have hM := ok_ET_isFile
  repeat (first | refine go_pure hM rfl ?_ | (refine go_get (fs := ?_) (v := ?_) hM rfl ?_ ?_ ?_; rotate_left 2; assumption; rfl) | refine go_ldc hM rfl ?_)
  refine go_if_lt hM rfl rf (fun hc => ?_) (fun hc => ?_)
  · repeat (first | refine go_pure hM rfl ?_ | (refine go_get (fs := ?_) (v := ?_) hM rfl ?_ ?_ ?_; rotate_left 2; assumption; rfl) | refine go_ldc hM rfl ?_)
    exact go_zret hM rfl rfl (Or.inl rfl) ⟨by rw [if_neg (by omega)], rfl, rfl⟩
  · repeat (first | refine go_pure hM rfl ?_ | (refine go_get (fs := ?_) (v := ?_) hM rfl ?_ ?_ ?_; rotate_left 2; assumption; rfl) | refine go_ldc hM rfl ?_)
    refine go_icmp_ge hM rfl rf (by omega) (fun hc1 => ?_) (fun hc1 => ?_)
    · repeat (first | refine go_pure hM rfl ?_ | (refine go_get (fs := ?_) (v := ?_) hM rfl ?_ ?_ ?_; rotate_left 2; assumption; rfl) | refine go_ldc hM rfl ?_)
      exact go_zret hM rfl rfl (Or.inl rfl) ⟨by rw [if_neg (by omega)], rfl, rfl⟩
    · repeat (first | refine go_pure hM rfl ?_ | (refine go_get (fs := ?_) (v := ?_) hM rfl ?_ ?_ ?_; rotate_left 2; assumption; rfl) | refine go_ldc hM rfl ?_)
      exact go_zret hM rfl rfl (Or.inr rfl) ⟨by rw [if_pos (by omega)], rfl, rfl⟩
theorem c_areFileBlocks {x n : Int} (rx : (-2147483648 ≤ x ∧ x ≤ 2147483647)) (rn : (-2147483648 ≤ n ∧ n ≤ 2147483647)) : Rd G m_ET_areFileBlocks [vI x, vI n] N h (some (vI (if 0 ≤ x ∧ x < 65536 ∧ 1 ≤ n ∧ x + n ≤ 65536 then 1 else 0))) N h := by
  refine Rn.of rfl rfl rfl ?_
  have hM := ok_ET_areFileBlocks
  repeat (first | refine go_pure hM rfl ?_ | (refine go_get (fs := ?_) (v := ?_) hM rfl ?_ ?_ ?_; rotate_left 2; assumption; rfl) | refine go_ldc hM rfl ?_)
  refine go_if_lt hM rfl rx (fun hc => ?_) (fun hc => ?_)
  · repeat (first | refine go_pure hM rfl ?_ | (refine go_get (fs := ?_) (v := ?_) hM rfl ?_ ?_ ?_; rotate_left 2; assumption; rfl) | refine go_ldc hM rfl ?_)
    exact go_zret hM rfl rfl (Or.inl rfl) ⟨by rw [if_neg (by omega)], rfl, rfl⟩
  · repeat (first | refine go_pure hM rfl ?_ | (refine go_get (fs := ?_) (v := ?_) hM rfl ?_ ?_ ?_; rotate_left 2; assumption; rfl) | refine go_ldc hM rfl ?_)
    refine go_icmp_ge hM rfl rx (by omega) (fun hc1 => ?_) (fun hc1 => ?_)
    · repeat (first | refine go_pure hM rfl ?_ | (refine go_get (fs := ?_) (v := ?_) hM rfl ?_ ?_ ?_; rotate_left 2; assumption; rfl) | refine go_ldc hM rfl ?_)
      exact go_zret hM rfl rfl (Or.inl rfl) ⟨by rw [if_neg (by omega)], rfl, rfl⟩
    · repeat (first | refine go_pure hM rfl ?_ | (refine go_get (fs := ?_) (v := ?_) hM rfl ?_ ?_ ?_; rotate_left 2; assumption; rfl) | refine go_ldc hM rfl ?_)
      refine go_icmp_lt hM rfl rn (by omega) (fun hc2 => ?_) (fun hc2 => ?_)
      · repeat (first | refine go_pure hM rfl ?_ | (refine go_get (fs := ?_) (v := ?_) hM rfl ?_ ?_ ?_; rotate_left 2; assumption; rfl) | refine go_ldc hM rfl ?_)
        exact go_zret hM rfl rfl (Or.inl rfl) ⟨by rw [if_neg (by omega)], rfl, rfl⟩
      · repeat (first | refine go_pure hM rfl ?_ | (refine go_get (fs := ?_) (v := ?_) hM rfl ?_ ?_ ?_; rotate_left 2; assumption; rfl) | refine go_ldc hM rfl ?_)
        refine go_icmp_gt hM rfl rn (by omega) (fun hc3 => ?_) (fun hc3 => ?_)
        · repeat (first | refine go_pure hM rfl ?_ | (refine go_get (fs := ?_) (v := ?_) hM rfl ?_ ?_ ?_; rotate_left 2; assumption; rfl) | refine go_ldc hM rfl ?_)
          exact go_zret hM rfl rfl (Or.inl rfl) ⟨by rw [if_neg (by omega)], rfl, rfl⟩
        · repeat (first | refine go_pure hM rfl ?_ | (refine go_get (fs := ?_) (v := ?_) hM rfl ?_ ?_ ?_; rotate_left 2; assumption; rfl) | refine go_ldc hM rfl ?_)
          exact go_zret hM rfl rfl (Or.inr rfl) ⟨by rw [if_pos (by omega)], rfl, rfl⟩
theorem c_areVolumeBlocks {x n : Int} (rx : (-2147483648 ≤ x ∧ x ≤ 2147483647)) (rn : (-2147483648 ≤ n ∧ n ≤ 2147483647)) : Rd G m_ET_areVolumeBlocks [vI x, vI n] N h (some (vI (if 1 ≤ x ∧ x ≤ 16777216 ∧ x + n ≤ 16777217 then 1 else 0))) N h := by
  refine Rn.of rfl rfl rfl ?_
  have hM := ok_ET_areVolumeBlocks
  repeat (first | refine go_pure hM rfl ?_ | (refine go_get (fs := ?_) (v := ?_) hM rfl ?_ ?_ ?_; rotate_left 2; assumption; rfl) | refine go_ldc hM rfl ?_)
  refine go_icmp_lt hM rfl rx (by omega) (fun hc => ?_) (fun hc => ?_)
  · repeat (first | refine go_pure hM rfl ?_ | (refine go_get (fs := ?_) (v := ?_) hM rfl ?_ ?_ ?_; rotate_left 2; assumption; rfl) | refine go_ldc hM rfl ?_)
    exact go_zret hM rfl rfl (Or.inl rfl) ⟨by rw [if_neg (by omega)], rfl, rfl⟩
  · repeat (first | refine go_pure hM rfl ?_ | (refine go_get (fs := ?_) (v := ?_) hM rfl ?_ ?_ ?_; rotate_left 2; assumption; rfl) | refine go_ldc hM rfl ?_)
    refine go_icmp_gt hM rfl rx (by omega) (fun hc1 => ?_) (fun hc1 => ?_)
    · repeat (first | refine go_pure hM rfl ?_ | (refine go_get (fs := ?_) (v := ?_) hM rfl ?_ ?_ ?_; rotate_left 2; assumption; rfl) | refine go_ldc hM rfl ?_)
      exact go_zret hM rfl rfl (Or.inl rfl) ⟨by rw [if_neg (by omega)], rfl, rfl⟩
    · repeat (first | refine go_pure hM rfl ?_ | (refine go_get (fs := ?_) (v := ?_) hM rfl ?_ ?_ ?_; rotate_left 2; assumption; rfl) | refine go_ldc hM rfl ?_)
      refine go_icmp_gt hM rfl rn (by omega) (fun hc2 => ?_) (fun hc2 => ?_)
      · repeat (first | refine go_pure hM rfl ?_ | (refine go_get (fs := ?_) (v := ?_) hM rfl ?_ ?_ ?_; rotate_left 2; assumption; rfl) | refine go_ldc hM rfl ?_)
        exact go_zret hM rfl rfl (Or.inl rfl) ⟨by rw [if_neg (by omega)], rfl, rfl⟩
      · repeat (first | refine go_pure hM rfl ?_ | (refine go_get (fs := ?_) (v := ?_) hM rfl ?_ ?_ ?_; rotate_left 2; assumption; rfl) | refine go_ldc hM rfl ?_)
        exact go_zret hM rfl rfl (Or.inr rfl) ⟨by rw [if_pos (by omega)], rfl, rfl⟩
/-- the file blocks x, x + st, .. are there -/
def okSer (x st n : Int) : Prop := (1 ≤ st ∧ st ≤ 2000) ∧ (1 ≤ n ∧ n ≤ 2000) ∧ 0 ≤ x ∧ x < 65536 ∧ x + ((n - 1) * st + 1) ≤ 65536
theorem c_isSeries {x st n : Int} (rx : (-2147483648 ≤ x ∧ x ≤ 2147483647)) (rs : (-2147483648 ≤ st ∧ st ≤ 2147483647)) (rn : (-2147483648 ≤ n ∧ n ≤ 2147483647)) : Rn G m_ET_isSeries [vI x, vI st, vI n] N h 0 0 (fun v N' h' => (v = some (vI 1) ∧ okSer x st n ∨ v = some (vI 0) ∧ ¬ okSer x st n) ∧ N' = N ∧ h' = h) gNo := by
  refine Rn.of rfl rfl rfl ?_
  have hM := ok_ET_isSeries
  have bad : ∀ st9, ¬ okSer x st n → Go G m_ET_isSeries (gFin G (fun v N' h' => (v = some (vI 1) ∧ okSer x st n ∨ v = some (vI 0) ∧ ¬ okSer x st n) ∧ N' = N ∧ h' = h) gNo) 52 st9 [vI 0] N h 0 0 → True := fun _ _ _ => trivial
  repeat (first | refine go_pure hM rfl ?_ | (refine go_get (fs := ?_) (v := ?_) hM rfl ?_ ?_ ?_; rotate_left 2; assumption; rfl) | refine go_ldc hM rfl ?_)
  refine go_icmp_lt hM rfl rs (by omega) (fun hc => ?_) (fun hc => ?_)
  · repeat (first | refine go_pure hM rfl ?_ | (refine go_get (fs := ?_) (v := ?_) hM rfl ?_ ?_ ?_; rotate_left 2; assumption; rfl) | refine go_ldc hM rfl ?_)
    exact go_zret hM rfl rfl (Or.inl rfl) ⟨Or.inr ⟨rfl, fun h9 => by have := h9.1; omega⟩, rfl, rfl⟩
  repeat (first | refine go_pure hM rfl ?_ | (refine go_get (fs := ?_) (v := ?_) hM rfl ?_ ?_ ?_; rotate_left 2; assumption; rfl) | refine go_ldc hM rfl ?_)
  refine go_icmp_gt hM rfl rs (by omega) (fun hc1 => ?_) (fun hc1 => ?_)
  · repeat (first | refine go_pure hM rfl ?_ | (refine go_get (fs := ?_) (v := ?_) hM rfl ?_ ?_ ?_; rotate_left 2; assumption; rfl) | refine go_ldc hM rfl ?_)
    exact go_zret hM rfl rfl (Or.inl rfl) ⟨Or.inr ⟨rfl, fun h9 => by have := h9.1; omega⟩, rfl, rfl⟩
  repeat (first | refine go_pure hM rfl ?_ | (refine go_get (fs := ?_) (v := ?_) hM rfl ?_ ?_ ?_; rotate_left 2; assumption; rfl) | refine go_ldc hM rfl ?_)
  refine go_icmp_lt hM rfl rn (by omega) (fun hc2 => ?_) (fun hc2 => ?_)
  · repeat (first | refine go_pure hM rfl ?_ | (refine go_get (fs := ?_) (v := ?_) hM rfl ?_ ?_ ?_; rotate_left 2; assumption; rfl) | refine go_ldc hM rfl ?_)
    exact go_zret hM rfl rfl (Or.inl rfl) ⟨Or.inr ⟨rfl, fun h9 => by have := h9.2.1; omega⟩, rfl, rfl⟩
  repeat (first | refine go_pure hM rfl ?_ | (refine go_get (fs := ?_) (v := ?_) hM rfl ?_ ?_ ?_; rotate_left 2; assumption; rfl) | refine go_ldc hM rfl ?_)
  refine go_icmp_gt hM rfl rn (by omega) (fun hc3 => ?_) (fun hc3 => ?_)
  · repeat (first | refine go_pure hM rfl ?_ | (refine go_get (fs := ?_) (v := ?_) hM rfl ?_ ?_ ?_; rotate_left 2; assumption; rfl) | refine go_ldc hM rfl ?_)
    exact go_zret hM rfl rfl (Or.inl rfl) ⟨Or.inr ⟨rfl, fun h9 => by have := h9.2.1; omega⟩, rfl, rfl⟩
  repeat (first | refine go_pure hM rfl ?_ | (refine go_get (fs := ?_) (v := ?_) hM rfl ?_ ?_ ?_; rotate_left 2; assumption; rfl) | refine go_ldc hM rfl ?_)
  have hm1 : 0 ≤ (n - 1) * st := Int.mul_nonneg (by omega) (by omega)
  have hm2 : (n - 1) * st ≤ 1999 * 2000 := Int.mul_le_mul (by omega) (by omega) (by omega) (by omega)
  have q := c_areFileBlocks (G := G) (N := N) (h := h) (x := x) (n := (n - 1) * st + 1) rx (by omega)
  by_cases hc4 : 0 ≤ x ∧ x < 65536 ∧ 1 ≤ (n - 1) * st + 1 ∧ x + ((n - 1) * st + 1) ≤ 65536
  · rw [if_pos hc4] at q
    refine go_cS hM rfl rfl rfl q rfl ?_
    refine go_if_eq hM rfl (by omega) (fun hc5 => absurd hc5 (by omega)) (fun _ => ?_)
    repeat (first | refine go_pure hM rfl ?_ | (refine go_get (fs := ?_) (v := ?_) hM rfl ?_ ?_ ?_; rotate_left 2; assumption; rfl) | refine go_ldc hM rfl ?_)
    exact go_zret hM rfl rfl (Or.inr rfl) ⟨Or.inl ⟨rfl, by omega, by omega, hc4.1, hc4.2.1, hc4.2.2.2⟩, rfl, rfl⟩
  · rw [if_neg hc4] at q
    refine go_cS hM rfl rfl rfl q rfl ?_
    refine go_if_eq hM rfl (by omega) (fun _ => ?_) (fun hc5 => absurd rfl hc5)
    repeat (first | refine go_pure hM rfl ?_ | (refine go_get (fs := ?_) (v := ?_) hM rfl ?_ ?_ ?_; rotate_left 2; assumption; rfl) | refine go_ldc hM rfl ?_)
    exact go_zret hM rfl rfl (Or.inl rfl) ⟨Or.inr ⟨rfl, fun h9 => hc4 ⟨h9.2.2.1, h9.2.2.2.1, by omega, h9.2.2.2.2⟩⟩, rfl, rfl⟩
end
/-- the answers, by the runs -/
def lookS (S : mS) (b : Int) : Int := if 0 ≤ lsR (ms S) b (mn S) ∧ b < ms S (lsR (ms S) b (mn S)).toNat + ml S (lsR (ms S) b (mn S)).toNat then mv S (lsR (ms S) b (mn S)).toNat + (b - ms S (lsR (ms S) b (mn S)).toNat) else -1
def wrtS (S : mS) (b : Int) : Int := if (0 ≤ lsR (ms S) b (mn S) ∧ b < ms S (lsR (ms S) b (mn S)).toNat + ml S (lsR (ms S) b (mn S)).toNat) ∧ mw S (lsR (ms S) b (mn S)).toNat = 1 then 1 else 0
def rchS (S : mS) (b : Int) : Int := (if 0 ≤ lsR (ms S) b (mn S) ∧ b < ms S (lsR (ms S) b (mn S)).toNat + ml S (lsR (ms S) b (mn S)).toNat then ms S (lsR (ms S) b (mn S)).toNat + ml S (lsR (ms S) b (mn S)).toNat else if lsR (ms S) b (mn S) + 1 < mn S then ms S (lsR (ms S) b (mn S) + 1).toNat else 65536) - b
section
variable {G : gG} {N : Option Nat} {A : cA} {h0 : gH} {SS : Nat → mS} {t : Nat} {b : Int}
theorem Cl.path (hc : Cl A SS) (ht : t < 4) (b : Int) : PathTo A t b (md (SS t)) (pW (SS t) (lsR (ms (SS t)) b (mn (SS t)))) (pP (SS t) (lsR (ms (SS t)) b (mn (SS t)))) := by
  obtain ⟨h1, h2, h3, -⟩ := hc.2.1 t ht
  obtain ⟨g1, g2, g3⟩ := lsR_spec h2 b
  exact path_of ht h1 h2 h3 g1 g2 g3
/-- the run found, or zeros -/
theorem Cl.run (hc : Cl A SS) (ht : t < 4) (b : Int) : (0 ≤ lsR (ms (SS t)) b (mn (SS t)) ∧ lsR (ms (SS t)) b (mn (SS t)) < mn (SS t) ∧ eF A (pW (SS t) (lsR (ms (SS t)) b (mn (SS t))) (md (SS t))) (pP (SS t) (lsR (ms (SS t)) b (mn (SS t))) (md (SS t))) = ms (SS t) (lsR (ms (SS t)) b (mn (SS t))).toNat ∧ eL A (pW (SS t) (lsR (ms (SS t)) b (mn (SS t))) (md (SS t))) (pP (SS t) (lsR (ms (SS t)) b (mn (SS t))) (md (SS t))) = ml (SS t) (lsR (ms (SS t)) b (mn (SS t))).toNat ∧ eV A (pW (SS t) (lsR (ms (SS t)) b (mn (SS t))) (md (SS t))) (pP (SS t) (lsR (ms (SS t)) b (mn (SS t))) (md (SS t))) = mv (SS t) (lsR (ms (SS t)) b (mn (SS t))).toNat ∧ eW A (pW (SS t) (lsR (ms (SS t)) b (mn (SS t))) (md (SS t))) (pP (SS t) (lsR (ms (SS t)) b (mn (SS t))) (md (SS t))) = mw (SS t) (lsR (ms (SS t)) b (mn (SS t))).toNat) ∨
    (lsR (ms (SS t)) b (mn (SS t)) = -1 ∧ eF A (pW (SS t) (lsR (ms (SS t)) b (mn (SS t))) (md (SS t))) (pP (SS t) (lsR (ms (SS t)) b (mn (SS t))) (md (SS t))) = 0 ∧ eL A (pW (SS t) (lsR (ms (SS t)) b (mn (SS t))) (md (SS t))) (pP (SS t) (lsR (ms (SS t)) b (mn (SS t))) (md (SS t))) = 0 ∧ eV A (pW (SS t) (lsR (ms (SS t)) b (mn (SS t))) (md (SS t))) (pP (SS t) (lsR (ms (SS t)) b (mn (SS t))) (md (SS t))) = 0 ∧ eW A (pW (SS t) (lsR (ms (SS t)) b (mn (SS t))) (md (SS t))) (pP (SS t) (lsR (ms (SS t)) b (mn (SS t))) (md (SS t))) = 0) := by
  obtain ⟨h1, h2, h3, -⟩ := hc.2.1 t ht
  obtain ⟨g1, g2, g3⟩ := lsR_spec h2 b
  by_cases h : 0 ≤ lsR (ms (SS t)) b (mn (SS t))
  · obtain ⟨e1, e2, e3, e4⟩ := run_at (A := A) ht h1 h2 h3 (i := lsR (ms (SS t)) b (mn (SS t))) ⟨h, g1.2⟩
    exact Or.inl ⟨h, g1.2, e1, e2, e3, e4⟩
  · have h9 : lsR (ms (SS t)) b (mn (SS t)) = -1 := by omega
    obtain ⟨e1, e2, e3, e4⟩ := run_no (A := A) (S := SS t)
    rw [h9]
    exact Or.inr ⟨rfl, e1, e2, e3, e4⟩
theorem s_volumeOf (hc : Cl A SS) (ht : t < 4) (hb : 0 ≤ b ∧ b ≤ 65535) : Rn G m_Tree_volumeOf [vR (517 + 6 * t), vI b] N (hpx A h0) 0 0 (fun v N' h' => v = some (vI (lookS (SS t) b)) ∧ N' = N ∧ ∃ A', Cl A' SS ∧ h' = hpx A' h0) gNo := by
  have q := c_volumeOf (G := G) (N := N) (h0 := h0) hc.1 ht (by omega) (hc.path ht b)
  refine Rn.imp q (fun v N' h' hq => ?_)
  obtain ⟨rfl, rfl, rfl⟩ := hq
  refine ⟨?_, rfl, _, Cl_fnd hc, rfl⟩
  rcases hc.run ht b with ⟨r1, r2, r3, r4, r5, r6⟩ | ⟨r1, r2, r3, r4, r5⟩
  · rw [r3, r4, r5]
    unfold lookS
    by_cases h9 : b < ms (SS t) (lsR (ms (SS t)) b (mn (SS t))).toNat + ml (SS t) (lsR (ms (SS t)) b (mn (SS t))).toNat
    · rw [if_pos h9, if_pos ⟨r1, h9⟩]
    · rw [if_neg h9, if_neg (fun q => h9 q.2)]
  · rw [r2, r3]
    unfold lookS
    rw [if_neg (by omega), if_neg (by omega)]
end
end
section
/-! ExtentTree: look, written, reach, count, free, rootByte, nodeByte -/
abbrev xA : String := "java/lang/IllegalArgumentException"
abbrev xS : String := "java/lang/IllegalStateException"
abbrev xU : String := "java/lang/UnsupportedOperationException"
abbrev xI : String := "java/lang/IndexOutOfBoundsException"
/-- an answer; the files are as they were -/
abbrev qRd (SS : Nat → mS) (h0 : gH) (ok : Prop) (v : gV) : Option gV → Option Nat → gH → Prop := fun v' N' h' => ok ∧ v' = some v ∧ N' = none ∧ ∃ A', Cl A' SS ∧ h' = hpx A' h0
abbrev okFB (f b : Int) : Prop := (0 ≤ f ∧ f < 4) ∧ 0 ≤ b ∧ b < 65536
section
variable {G : gG} {N : Option Nat} {A : cA} {h0 : gH} {SS : Nat → mS} {t : Nat} {b f : Int}
theorem s_isWritten (hc : Cl A SS) (ht : t < 4) (hb : 0 ≤ b ∧ b ≤ 65535) : Rn G m_Tree_isWritten [vR (517 + 6 * t), vI b] N (hpx A h0) 0 0 (fun v N' h' => v = some (vI (wrtS (SS t) b)) ∧ N' = N ∧ ∃ A', Cl A' SS ∧ h' = hpx A' h0) gNo := by
  have q := c_isWritten (G := G) (N := N) (h0 := h0) hc.1 ht (by omega) (hc.path ht b)
  refine Rn.imp q (fun v N' h' hq => ?_)
  obtain ⟨rfl, rfl, rfl⟩ := hq
  refine ⟨?_, rfl, _, Cl_fnd hc, rfl⟩
  rcases hc.run ht b with ⟨r1, r2, r3, r4, r5, r6⟩ | ⟨r1, r2, r3, r4, r5⟩
  · rw [r3, r4, r6]
    unfold wrtS
    congr 3
    exact propext ⟨fun q => ⟨⟨r1, q.1⟩, q.2⟩, fun q => ⟨q.1.2, q.2⟩⟩
  · rw [r5]
    unfold wrtS
    rw [if_neg (by omega), if_neg (by omega)]
theorem s_alikeFrom (hc : Cl A SS) (ht : t < 4) (hb : 0 ≤ b ∧ b ≤ 65535) : Rn G m_Tree_alikeFrom [vR (517 + 6 * t), vI b] N (hpx A h0) 0 0 (fun v N' h' => v = some (vI (rchS (SS t) b)) ∧ N' = N ∧ ∃ A', Cl A' SS ∧ h' = hpx A' h0) gNo := by
  have q := c_alikeFrom (G := G) (N := N) (h0 := h0) hc.1 ht (by omega) (hc.path ht b)
  refine Rn.imp q (fun v N' h' hq => ?_)
  obtain ⟨rfl, rfl, rfl⟩ := hq
  refine ⟨?_, rfl, _, Cl_fnd hc, rfl⟩
  obtain ⟨h1, h2, h3, -⟩ := hc.2.1 t ht
  obtain ⟨g1, g2, g3⟩ := lsR_spec h2 b
  rw [nf_at h1 h3 g1]
  unfold rchS
  rcases hc.run ht b with ⟨r1, r2, r3, r4, r5, r6⟩ | ⟨r1, r2, r3, r4, r5⟩
  · rw [r3, r4]
    by_cases h9 : b < ms (SS t) (lsR (ms (SS t)) b (mn (SS t))).toNat + ml (SS t) (lsR (ms (SS t)) b (mn (SS t))).toNat
    · rw [if_pos h9, if_pos ⟨r1, h9⟩]
    · rw [if_neg h9, if_neg (fun q : 0 ≤ lsR (ms (SS t)) b (mn (SS t)) ∧ _ => h9 q.2)]
  · rw [r2, r3, if_neg (by omega : ¬ b < 0 + 0), if_neg (fun q : 0 ≤ lsR (ms (SS t)) b (mn (SS t)) ∧ _ => absurd q.1 (by omega))]
set_option maxHeartbeats 1000000 in
theorem s_look (hc : Cl A SS) (rf : (-2147483648 ≤ f ∧ f ≤ 2147483647)) (rb : (-2147483648 ≤ b ∧ b ≤ 2147483647)) : Rn G m_ET_look [vR 1, vI f, vI b] none (hpx A h0) 1 6 (qRd SS h0 (okFB f b) (vI (lookS (SS f.toNat) b))) (fun E h' => ¬ okFB f b ∧ E = xA ∧ h' = hpx A h0) := by
  refine Rn.of rfl rfl rfl ?_
  have hM := ok_ET_look
  have q1 := c_isFile (G := G) (N := none) (h := hpx A h0) rf
  have q2 := c_areFileBlocks (G := G) (N := none) (h := hpx A h0) (n := 1) rb (by omega)
  repeat (first | refine go_pure hM rfl ?_ | (refine go_get (fs := ?_) (v := ?_) hM rfl ?_ ?_ ?_; rotate_left 2; assumption; rfl) | refine go_ldc hM rfl ?_)
  by_cases hf : 0 ≤ f ∧ f < 4
  · rw [if_pos hf] at q1
    refine go_cS hM rfl rfl rfl q1 rfl ?_
    refine go_if_eq hM rfl (by omega) (fun hc5 => absurd hc5 (by omega)) (fun _ => ?_)
    repeat (first | refine go_pure hM rfl ?_ | (refine go_get (fs := ?_) (v := ?_) hM rfl ?_ ?_ ?_; rotate_left 2; assumption; rfl) | refine go_ldc hM rfl ?_)
    by_cases hb : 0 ≤ b ∧ b < 65536 ∧ (1 : Int) ≤ 1 ∧ b + 1 ≤ 65536
    · rw [if_pos hb] at q2
      refine go_cS hM rfl rfl rfl q2 rfl ?_
      refine go_if_ne hM rfl (by omega) (fun _ => ?_) (fun hc5 => absurd hc5 (by omega))
      obtain ⟨t, rfl⟩ : ∃ t : Nat, f = t := ⟨f.toNat, by omega⟩
      have ht : t < 4 := by omega
      have e0 : ((t : Nat) : Int).toNat = t := by omega
      have k1 := hp_et (A := A) (h0 := h0)
      repeat (first | refine go_pure hM rfl ?_ | (refine go_get (fs := ?_) (v := ?_) hM rfl ?_ ?_ ?_; rotate_left 2; assumption; rfl) | refine go_ldc hM rfl ?_)
      refine go_aaldS (r := 517 + 6 * t) hM rfl (hp_ts (A := A) (h0 := h0)) rfl (by omega) (by omega) (by omega) (by rw [e0]; exact if_pos ht) ?_
      repeat (first | refine go_pure hM rfl ?_ | (refine go_get (fs := ?_) (v := ?_) hM rfl ?_ ?_ ?_; rotate_left 2; assumption; rfl) | refine go_ldc hM rfl ?_)
      refine go_callV (mc := 0) (ms := 0) hM rfl rfl rfl (hp_tr ht) rfl (s_volumeOf hc ht (by omega)) rfl (fun v N' h' hq => ?_) (fun _ _ q => q.elim)
      obtain ⟨rfl, rfl, A', hA', rfl⟩ := hq
      exact go_iret hM rfl rfl ⟨⟨hf, hb.1, hb.2.1⟩, by rw [e0], rfl, A', hA', rfl⟩
    · rw [if_neg hb] at q2
      refine go_cS hM rfl rfl rfl q2 rfl ?_
      refine go_if_ne hM rfl (by omega) (fun hc5 => absurd rfl hc5) (fun _ => ?_)
      exact go_throw (c := 0) (s := 0) (b3 := 0) (b4 := 0) (y3 := 0) (e6 := 0) hM rfl rfl rfl rfl rfl thr_a rfl rfl rfl rfl ⟨fun q => hb ⟨q.2.1, q.2.2, by omega, by omega⟩, rfl, rfl⟩
  · rw [if_neg hf] at q1
    refine go_cS hM rfl rfl rfl q1 rfl ?_
    refine go_if_eq hM rfl (by omega) (fun _ => ?_) (fun hc5 => absurd rfl hc5)
    exact go_throw (c := 0) (s := 0) (b3 := 0) (b4 := 0) (y3 := 0) (e6 := 0) hM rfl rfl rfl rfl rfl thr_a rfl rfl rfl rfl ⟨fun q => hf q.1, rfl, rfl⟩
set_option maxHeartbeats 1000000 in
theorem s_written (hc : Cl A SS) (rf : (-2147483648 ≤ f ∧ f ≤ 2147483647)) (rb : (-2147483648 ≤ b ∧ b ≤ 2147483647)) : Rn G m_ET_written [vR 1, vI f, vI b] none (hpx A h0) 1 6 (qRd SS h0 (okFB f b) (vI (wrtS (SS f.toNat) b))) (fun E h' => ¬ okFB f b ∧ E = xA ∧ h' = hpx A h0) := by
  refine Rn.of rfl rfl rfl ?_
  have hM := ok_ET_written
  have q1 := c_isFile (G := G) (N := none) (h := hpx A h0) rf
  have q2 := c_areFileBlocks (G := G) (N := none) (h := hpx A h0) (n := 1) rb (by omega)
  repeat (first | refine go_pure hM rfl ?_ | (refine go_get (fs := ?_) (v := ?_) hM rfl ?_ ?_ ?_; rotate_left 2; assumption; rfl) | refine go_ldc hM rfl ?_)
  by_cases hf : 0 ≤ f ∧ f < 4
  · rw [if_pos hf] at q1
    refine go_cS hM rfl rfl rfl q1 rfl ?_
    refine go_if_eq hM rfl (by omega) (fun hc5 => absurd hc5 (by omega)) (fun _ => ?_)
    repeat (first | refine go_pure hM rfl ?_ | (refine go_get (fs := ?_) (v := ?_) hM rfl ?_ ?_ ?_; rotate_left 2; assumption; rfl) | refine go_ldc hM rfl ?_)
    by_cases hb : 0 ≤ b ∧ b < 65536 ∧ (1 : Int) ≤ 1 ∧ b + 1 ≤ 65536
    · rw [if_pos hb] at q2
      refine go_cS hM rfl rfl rfl q2 rfl ?_
      refine go_if_ne hM rfl (by omega) (fun _ => ?_) (fun hc5 => absurd hc5 (by omega))
      obtain ⟨t, rfl⟩ : ∃ t : Nat, f = t := ⟨f.toNat, by omega⟩
      have ht : t < 4 := by omega
      have e0 : ((t : Nat) : Int).toNat = t := by omega
      have k1 := hp_et (A := A) (h0 := h0)
      repeat (first | refine go_pure hM rfl ?_ | (refine go_get (fs := ?_) (v := ?_) hM rfl ?_ ?_ ?_; rotate_left 2; assumption; rfl) | refine go_ldc hM rfl ?_)
      refine go_aaldS (r := 517 + 6 * t) hM rfl (hp_ts (A := A) (h0 := h0)) rfl (by omega) (by omega) (by omega) (by rw [e0]; exact if_pos ht) ?_
      repeat (first | refine go_pure hM rfl ?_ | (refine go_get (fs := ?_) (v := ?_) hM rfl ?_ ?_ ?_; rotate_left 2; assumption; rfl) | refine go_ldc hM rfl ?_)
      refine go_callV (mc := 0) (ms := 0) hM rfl rfl rfl (hp_tr ht) rfl (s_isWritten hc ht (by omega)) rfl (fun v N' h' hq => ?_) (fun _ _ q => q.elim)
      obtain ⟨rfl, rfl, A', hA', rfl⟩ := hq
      exact go_zret hM rfl rfl (by unfold wrtS; split <;> omega) ⟨⟨hf, hb.1, hb.2.1⟩, by rw [e0], rfl, A', hA', rfl⟩
    · rw [if_neg hb] at q2
      refine go_cS hM rfl rfl rfl q2 rfl ?_
      refine go_if_ne hM rfl (by omega) (fun hc5 => absurd rfl hc5) (fun _ => ?_)
      exact go_throw (c := 0) (s := 0) (b3 := 0) (b4 := 0) (y3 := 0) (e6 := 0) hM rfl rfl rfl rfl rfl thr_a rfl rfl rfl rfl ⟨fun q => hb ⟨q.2.1, q.2.2, by omega, by omega⟩, rfl, rfl⟩
  · rw [if_neg hf] at q1
    refine go_cS hM rfl rfl rfl q1 rfl ?_
    refine go_if_eq hM rfl (by omega) (fun _ => ?_) (fun hc5 => absurd rfl hc5)
    exact go_throw (c := 0) (s := 0) (b3 := 0) (b4 := 0) (y3 := 0) (e6 := 0) hM rfl rfl rfl rfl rfl thr_a rfl rfl rfl rfl ⟨fun q => hf q.1, rfl, rfl⟩
set_option maxHeartbeats 1000000 in
theorem s_reach (hc : Cl A SS) (rf : (-2147483648 ≤ f ∧ f ≤ 2147483647)) (rb : (-2147483648 ≤ b ∧ b ≤ 2147483647)) : Rn G m_ET_reach [vR 1, vI f, vI b] none (hpx A h0) 1 6 (qRd SS h0 (okFB f b) (vI (rchS (SS f.toNat) b))) (fun E h' => ¬ okFB f b ∧ E = xA ∧ h' = hpx A h0) := by
  refine Rn.of rfl rfl rfl ?_
  have hM := ok_ET_reach
  have q1 := c_isFile (G := G) (N := none) (h := hpx A h0) rf
  have q2 := c_areFileBlocks (G := G) (N := none) (h := hpx A h0) (n := 1) rb (by omega)
  repeat (first | refine go_pure hM rfl ?_ | (refine go_get (fs := ?_) (v := ?_) hM rfl ?_ ?_ ?_; rotate_left 2; assumption; rfl) | refine go_ldc hM rfl ?_)
  by_cases hf : 0 ≤ f ∧ f < 4
  · rw [if_pos hf] at q1
    refine go_cS hM rfl rfl rfl q1 rfl ?_
    refine go_if_eq hM rfl (by omega) (fun hc5 => absurd hc5 (by omega)) (fun _ => ?_)
    repeat (first | refine go_pure hM rfl ?_ | (refine go_get (fs := ?_) (v := ?_) hM rfl ?_ ?_ ?_; rotate_left 2; assumption; rfl) | refine go_ldc hM rfl ?_)
    by_cases hb : 0 ≤ b ∧ b < 65536 ∧ (1 : Int) ≤ 1 ∧ b + 1 ≤ 65536
    · rw [if_pos hb] at q2
      refine go_cS hM rfl rfl rfl q2 rfl ?_
      refine go_if_ne hM rfl (by omega) (fun _ => ?_) (fun hc5 => absurd hc5 (by omega))
      obtain ⟨t, rfl⟩ : ∃ t : Nat, f = t := ⟨f.toNat, by omega⟩
      have ht : t < 4 := by omega
      have e0 : ((t : Nat) : Int).toNat = t := by omega
      have k1 := hp_et (A := A) (h0 := h0)
      repeat (first | refine go_pure hM rfl ?_ | (refine go_get (fs := ?_) (v := ?_) hM rfl ?_ ?_ ?_; rotate_left 2; assumption; rfl) | refine go_ldc hM rfl ?_)
      refine go_aaldS (r := 517 + 6 * t) hM rfl (hp_ts (A := A) (h0 := h0)) rfl (by omega) (by omega) (by omega) (by rw [e0]; exact if_pos ht) ?_
      repeat (first | refine go_pure hM rfl ?_ | (refine go_get (fs := ?_) (v := ?_) hM rfl ?_ ?_ ?_; rotate_left 2; assumption; rfl) | refine go_ldc hM rfl ?_)
      refine go_callV (mc := 0) (ms := 0) hM rfl rfl rfl (hp_tr ht) rfl (s_alikeFrom hc ht (by omega)) rfl (fun v N' h' hq => ?_) (fun _ _ q => q.elim)
      obtain ⟨rfl, rfl, A', hA', rfl⟩ := hq
      exact go_iret hM rfl rfl ⟨⟨hf, hb.1, hb.2.1⟩, by rw [e0], rfl, A', hA', rfl⟩
    · rw [if_neg hb] at q2
      refine go_cS hM rfl rfl rfl q2 rfl ?_
      refine go_if_ne hM rfl (by omega) (fun hc5 => absurd rfl hc5) (fun _ => ?_)
      exact go_throw (c := 0) (s := 0) (b3 := 0) (b4 := 0) (y3 := 0) (e6 := 0) hM rfl rfl rfl rfl rfl thr_a rfl rfl rfl rfl ⟨fun q => hb ⟨q.2.1, q.2.2, by omega, by omega⟩, rfl, rfl⟩
  · rw [if_neg hf] at q1
    refine go_cS hM rfl rfl rfl q1 rfl ?_
    refine go_if_eq hM rfl (by omega) (fun _ => ?_) (fun hc5 => absurd rfl hc5)
    exact go_throw (c := 0) (s := 0) (b3 := 0) (b4 := 0) (y3 := 0) (e6 := 0) hM rfl rfl rfl rfl rfl thr_a rfl rfl rfl rfl ⟨fun q => hf q.1, rfl, rfl⟩
/-- count's answers -/
def cntS (S : mS) (w : Int) : Int := if w = 0 then mn S else if w = 1 then md S else if w = 2 then sm (mK S) (md S) else if w = 3 then smI (ml S) (mn S) else if w = 4 then smI (fun i => mw S i * ml S i) (mn S) else if md S = 0 then 1 else mK S 0
theorem Cl.root (hc : Cl A SS) (ht : t < 4) : aDp A (256 + t) = md (SS t) ∧ aEn A (256 + t) = mc (SS t) (md (SS t)) 0 := by
  obtain ⟨h1, h2, h3, -⟩ := hc.2.1 t ht
  obtain ⟨a, b, -⟩ := h3 (md (SS t)) (Nat.le_refl _) 0 (by rw [h1.2.1]; omega)
  rw [h1.2.2.1] at a b
  exact ⟨a, b⟩
set_option maxHeartbeats 1000000 in
theorem s_count {w : Int} (hc : Cl A SS) (rf : (-2147483648 ≤ f ∧ f ≤ 2147483647)) (rw9 : (-2147483648 ≤ w ∧ w ≤ 2147483647)) : Rn G m_ET_count [vR 1, vI f, vI w] none (hpx A h0) 1 6 (qRd SS h0 ((0 ≤ f ∧ f < 4) ∧ 0 ≤ w ∧ w ≤ 5) (vI (cntS (SS f.toNat) w))) (fun E h' => ¬ ((0 ≤ f ∧ f < 4) ∧ 0 ≤ w ∧ w ≤ 5) ∧ E = xA ∧ h' = hpx A h0) := by
  refine Rn.of rfl rfl rfl ?_
  have hM := ok_ET_count
  have q1 := c_isFile (G := G) (N := none) (h := hpx A h0) rf
  repeat (first | refine go_pure hM rfl ?_ | (refine go_get (fs := ?_) (v := ?_) hM rfl ?_ ?_ ?_; rotate_left 2; assumption; rfl) | refine go_ldc hM rfl ?_)
  by_cases hf : 0 ≤ f ∧ f < 4
  · rw [if_pos hf] at q1
    refine go_cS hM rfl rfl rfl q1 rfl ?_
    refine go_if_eq hM rfl (by omega) (fun hc5 => absurd hc5 (by omega)) (fun _ => ?_)
    repeat (first | refine go_pure hM rfl ?_ | (refine go_get (fs := ?_) (v := ?_) hM rfl ?_ ?_ ?_; rotate_left 2; assumption; rfl) | refine go_ldc hM rfl ?_)
    refine go_if_lt hM rfl rw9 (fun hc1 => ?_) (fun hc1 => ?_)
    · exact go_throw (c := 0) (s := 0) (b3 := 0) (b4 := 0) (y3 := 0) (e6 := 0) hM rfl rfl rfl rfl rfl thr_a rfl rfl rfl rfl ⟨by omega, rfl, rfl⟩
    repeat (first | refine go_pure hM rfl ?_ | (refine go_get (fs := ?_) (v := ?_) hM rfl ?_ ?_ ?_; rotate_left 2; assumption; rfl) | refine go_ldc hM rfl ?_)
    refine go_icmp_le hM rfl rw9 (by omega) (fun hc2 => ?_) (fun hc2 => ?_)
    · obtain ⟨t, rfl⟩ : ∃ t : Nat, f = t := ⟨f.toNat, by omega⟩
      have ht : t < 4 := by omega
      have e0 : ((t : Nat) : Int).toNat = t := by omega
      obtain ⟨d1, d2⟩ := hc.root ht
      obtain ⟨h1, h2, h3, h4, h5, h6, h7, h8⟩ := hc.2.1 t ht
      have k1 := hp_et (A := A) (h0 := h0)
      have k2 := hp_tr (A := A) (h0 := h0) ht
      have k3 := hp_nd (A := A) (h0 := h0) (i := 256 + t) (by omega)
      repeat (first | refine go_pure hM rfl ?_ | (refine go_get (fs := ?_) (v := ?_) hM rfl ?_ ?_ ?_; rotate_left 2; assumption; rfl) | refine go_ldc hM rfl ?_)
      refine go_aaldS (r := 517 + 6 * t) hM rfl (hp_ts (A := A) (h0 := h0)) rfl (by omega) (by omega) (by omega) (by rw [e0]; exact if_pos ht) ?_
      repeat (first | refine go_pure hM rfl ?_ | (refine go_get (fs := ?_) (v := ?_) hM rfl ?_ ?_ ?_; rotate_left 2; assumption; rfl) | refine go_ldc hM rfl ?_)
      have e9 : ∀ x : Int, x = cntS (SS ((t : Int)).toNat) w → qRd SS h0 ((0 ≤ (t : Int) ∧ (t : Int) < 4) ∧ 0 ≤ w ∧ w ≤ 5) (vI (cntS (SS ((t : Int)).toNat) w)) (some (vI x)) none (hpx A h0) := fun x hx => ⟨⟨hf, by omega, hc2⟩, by rw [hx], rfl, A, hc, rfl⟩
      by_cases w0 : w = 0
      · subst w0
        refine go_tswIn (tgt := 68) hM rfl (by omega) (by omega) (by omega) rfl rfl ?_
        repeat (first | refine go_pure hM rfl ?_ | (refine go_get (fs := ?_) (v := ?_) hM rfl ?_ ?_ ?_; rotate_left 2; assumption; rfl) | refine go_ldc hM rfl ?_)
        exact go_iret hM rfl rfl (e9 _ (by rw [h4, e0]; rfl))
      by_cases w1 : w = 1
      · subst w1
        refine go_tswIn (tgt := 73) hM rfl (by omega) (by omega) (by omega) rfl rfl ?_
        repeat (first | refine go_pure hM rfl ?_ | (refine go_get (fs := ?_) (v := ?_) hM rfl ?_ ?_ ?_; rotate_left 2; assumption; rfl) | refine go_ldc hM rfl ?_)
        exact go_iret hM rfl rfl (e9 _ (by rw [d1, e0]; rfl))
      by_cases w2 : w = 2
      · subst w2
        refine go_tswIn (tgt := 81) hM rfl (by omega) (by omega) (by omega) rfl rfl ?_
        repeat (first | refine go_pure hM rfl ?_ | (refine go_get (fs := ?_) (v := ?_) hM rfl ?_ ?_ ?_; rotate_left 2; assumption; rfl) | refine go_ldc hM rfl ?_)
        exact go_iret hM rfl rfl (e9 _ (by rw [h5, e0]; rfl))
      by_cases w3 : w = 3
      · subst w3
        refine go_tswIn (tgt := 86) hM rfl (by omega) (by omega) (by omega) rfl rfl ?_
        repeat (first | refine go_pure hM rfl ?_ | (refine go_get (fs := ?_) (v := ?_) hM rfl ?_ ?_ ?_; rotate_left 2; assumption; rfl) | refine go_ldc hM rfl ?_)
        exact go_iret hM rfl rfl (e9 _ (by rw [h6, e0]; rfl))
      by_cases w4 : w = 4
      · subst w4
        refine go_tswIn (tgt := 91) hM rfl (by omega) (by omega) (by omega) rfl rfl ?_
        repeat (first | refine go_pure hM rfl ?_ | (refine go_get (fs := ?_) (v := ?_) hM rfl ?_ ?_ ?_; rotate_left 2; assumption; rfl) | refine go_ldc hM rfl ?_)
        exact go_iret hM rfl rfl (e9 _ (by rw [h7, e0]; rfl))
      · refine go_tswOut (tgt := 96) hM rfl (by omega) (by omega) rfl ?_
        repeat (first | refine go_pure hM rfl ?_ | (refine go_get (fs := ?_) (v := ?_) hM rfl ?_ ?_ ?_; rotate_left 2; assumption; rfl) | refine go_ldc hM rfl ?_)
        refine go_cV hM rfl rfl rfl k2 rfl (c_leaves hc.1 ht) rfl ?_
        refine go_iret hM rfl rfl (e9 _ ?_)
        rw [d1, h8, e0]
        unfold cntS
        rw [if_neg w0, if_neg w1, if_neg w2, if_neg w3, if_neg w4]
        by_cases h9 : md (SS t) = 0
        · rw [if_pos (by omega), if_pos h9]
        · rw [if_neg (by omega), if_neg h9, if_neg h9]
    · exact go_throw (c := 0) (s := 0) (b3 := 0) (b4 := 0) (y3 := 0) (e6 := 0) hM rfl rfl rfl rfl rfl thr_a rfl rfl rfl rfl ⟨by omega, rfl, rfl⟩
  · rw [if_neg hf] at q1
    refine go_cS hM rfl rfl rfl q1 rfl ?_
    refine go_if_eq hM rfl (by omega) (fun _ => ?_) (fun hc5 => absurd rfl hc5)
    exact go_throw (c := 0) (s := 0) (b3 := 0) (b4 := 0) (y3 := 0) (e6 := 0) hM rfl rfl rfl rfl rfl thr_a rfl rfl rfl rfl ⟨fun q => hf q.1, rfl, rfl⟩
theorem s_free (hc : Cl A SS) : Rd G m_ET_free [vR 1] N (hpx A h0) (some (vI (cnF (aTk A) 255))) N (hpx A h0) := by
  refine Rn.of rfl rfl rfl ?_
  have hM := ok_ET_free
  have k1 := hp_et (A := A) (h0 := h0)
  have k2 := hp_po (A := A) (h0 := h0)
  repeat (first | refine go_pure hM rfl ?_ | (refine go_get (fs := ?_) (v := ?_) hM rfl ?_ ?_ ?_; rotate_left 2; assumption; rfl) | refine go_ldc hM rfl ?_)
  exact go_iret hM rfl rfl ⟨by rw [hc.2.2.2.2.2], rfl, rfl⟩
end
end
section
/-! what refreshFirsts mends: the keys of the way -/
/-- a node is as the model has it, but perhaps the key of one entry -/
def mNd (A : cA) (S : mS) (l p : Nat) (ex : Nat → Prop) : Prop := aDp A (mb S l p) = l ∧ aEn A (mb S l p) = mc S l p ∧ ∀ j, j < mc S l p → (¬ ex j → aWf A (mb S l p) (j * 3) = ms S (fr (mc S) l (sm (mc S l) p + j))) ∧ aWf A (mb S l p) (j * 3 + 1) = (match l with | 0 => ml S (sm (mc S l) p + j) + (1 - mw S (sm (mc S l) p + j)) * 32768 | l + 1 => (mb S l (sm (mc S (l + 1)) p + j) : Int)) ∧ aWf A (mb S l p) (j * 3 + 2) = (match l with | 0 => mv S (sm (mc S l) p + j) | _ + 1 => 0)
theorem mNd_full {A : cA} {S : mS} {t : Nat} : mAb A t S ↔ ∀ l, l ≤ md S → ∀ p, p < mK S l → mNd A S l p (fun _ => False) := by
  constructor
  · intro h l hl p hp
    obtain ⟨a, b, c⟩ := h l hl p hp
    exact ⟨a, b, fun j hj => ⟨fun _ => (c j hj).1, (c j hj).2.1, (c j hj).2.2⟩⟩
  · intro h l hl p hp
    obtain ⟨a, b, c⟩ := h l hl p hp
    exact ⟨a, b, fun j hj => ⟨(c j hj).1 (fun q => q), (c j hj).2.1, (c j hj).2.2⟩⟩
/-- a node that isn't touched -/
theorem mNd_keep {A B : cA} {S : mS} {l p : Nat} {ex : Nat → Prop} (h : mNd A S l p ex) (h1 : aDp B (mb S l p) = aDp A (mb S l p)) (h2 : aEn B (mb S l p) = aEn A (mb S l p)) (h3 : aWf B (mb S l p) = aWf A (mb S l p)) : mNd B S l p ex := by
  obtain ⟨a, b, c⟩ := h
  exact ⟨h1.trans a, h2.trans b, fun j hj => by rw [h3]; exact c j hj⟩
/-- no two nodes of a file are one block -/
def mInj (S : mS) : Prop := ∀ l p l' p', l ≤ md S → p < mK S l → l' ≤ md S → p' < mK S l' → mb S l p = mb S l' p' → l = l' ∧ p = p'
/-- a way down, R l its node of level l -/
def mWay (S : mS) (R : Nat → Nat) : Prop := (∀ l, l ≤ md S → R l < mK S l) ∧ ∀ l, l < md S → sm (mc S (l + 1)) (R (l + 1)) ≤ R l ∧ R l < sm (mc S (l + 1)) (R (l + 1)) + mc S (l + 1) (R (l + 1))
theorem rf_fix {S : mS} {t : Nat} {R : Nat → Nat} (hj : mInj S) (hw : mWay S R) (hpos : ∀ l, l < md S → 1 ≤ mc S l (R l)) : ∀ (k : Nat) (B : cA), k ≤ md S → (∀ x, x ≤ md S → aWy B t x = mb S (md S - x) (R (md S - x))) → (∀ x, x < md S → aPl B t x = (R (md S - x - 1) : Int) - sm (mc S (md S - x)) (R (md S - x))) →
    (∀ l, l ≤ md S → ∀ p, p < mK S l → mNd B S l p (fun j => md S - k < l ∧ p = R l ∧ sm (mc S l) p + j = R (l - 1))) → mAb (rfA B t k) t S := by
  intro k
  induction k with
  | zero =>
    intro B _ _ _ h
    refine mNd_full.mpr (fun l hl p hp => ?_)
    obtain ⟨a, b, c⟩ := h l hl p hp
    exact ⟨a, b, fun j hj => ⟨fun _ => (c j hj).1 (fun q => by omega), (c j hj).2.1, (c j hj).2.2⟩⟩
  | succ k ih =>
    intro B hk hW hP h
    obtain ⟨L, hL, hL1⟩ : ∃ L, md S - (k + 1) = L ∧ md S - k = L + 1 := ⟨md S - (k + 1), rfl, by omega⟩
    have w1 : aWy B t k = mb S (L + 1) (R (L + 1)) := by rw [hW k (by omega), hL1]
    have w2 : aWy B t (k + 1) = mb S L (R L) := by rw [hW (k + 1) hk, hL]
    have p1 : aPl B t k = (R L : Int) - sm (mc S (L + 1)) (R (L + 1)) := by
      have := hP k (by omega)
      rw [hL1] at this
      exact this
    have r1 := hw.1 (L + 1) (by omega)
    have r2 := hw.1 L (by omega)
    obtain ⟨q1, q2⟩ := hw.2 L (by omega)
    obtain ⟨a1, b1, c1⟩ := h L (by omega) (R L) r2
    have hp1 := hpos L (by omega)
    have key : gWd (aWf B (aWy B t (k + 1))) (aEn B (aWy B t (k + 1))) 0 0 = ms S (fr (mc S) (L + 1) (R L)) := by
      rw [w2, b1, gWd_in (by omega)]
      have := (c1 0 (by omega)).1 (fun q => by omega)
      exact this
    have e5 : (aPl B t k * 3).toNat = (R L - sm (mc S (L + 1)) (R (L + 1))) * 3 := by
      rw [p1]
      omega
    show mAb (rfA (sWf B (aWy B t k) (gF (aWf B (aWy B t k)) (aPl B t k * 3).toNat (gWd (aWf B (aWy B t (k + 1))) (aEn B (aWy B t (k + 1))) 0 0))) t k) t S
    rw [key, e5]
    refine ih _ (by omega) hW hP (fun l hl p hp => ?_)
    by_cases hlp : l = L + 1 ∧ p = R (L + 1)
    · obtain ⟨rfl, rfl⟩ := hlp
      obtain ⟨a, b, c⟩ := h (L + 1) hl _ hp
      refine ⟨a, b, fun j hj9 => ?_⟩
      have ew : ∀ x, aWf (sWf B (aWy B t k) (gF (aWf B (aWy B t k)) ((R L - sm (mc S (L + 1)) (R (L + 1))) * 3) (ms S (fr (mc S) (L + 1) (R L))))) (mb S (L + 1) (R (L + 1))) x = gF (aWf B (mb S (L + 1) (R (L + 1)))) ((R L - sm (mc S (L + 1)) (R (L + 1))) * 3) (ms S (fr (mc S) (L + 1) (R L))) x := by
        intro x
        rw [w1]
        show gF (aWf B) (mb S (L + 1) (R (L + 1))) _ (mb S (L + 1) (R (L + 1))) x = _
        rw [gF_s]
      rw [ew, ew, ew]
      refine ⟨fun _ => ?_, ?_, ?_⟩
      · by_cases hj2 : j = R L - sm (mc S (L + 1)) (R (L + 1))
        · rw [hj2, gF_s]
          congr 2
          omega
        · rw [gF_n (by omega)]
          exact (c j hj9).1 (fun q => hj2 (by have := q.2.2; rw [show L + 1 - 1 = L by omega] at this; omega))
      · rw [gF_n (by omega)]
        exact (c j hj9).2.1
      · rw [gF_n (by omega)]
        exact (c j hj9).2.2
    · have hne : mb S l p ≠ aWy B t k := by
        rw [w1]
        intro q
        exact hlp (hj l p (L + 1) (R (L + 1)) hl hp (by omega) r1 q)
      obtain ⟨a, b, c⟩ := h l hl p hp
      refine ⟨a, b, fun j hj9 => ?_⟩
      have ew : aWf (sWf B (aWy B t k) (gF (aWf B (aWy B t k)) ((R L - sm (mc S (L + 1)) (R (L + 1))) * 3) (ms S (fr (mc S) (L + 1) (R L))))) (mb S l p) = aWf B (mb S l p) := by
        show gF (aWf B) (aWy B t k) _ (mb S l p) = _
        rw [gF_n hne]
      rw [ew]
      refine ⟨fun hne2 => (c j hj9).1 (fun q => ?_), (c j hj9).2⟩
      obtain ⟨x1, x2, x3⟩ := q
      by_cases h9 : l = L + 1
      · exact hlp ⟨h9, by rw [x2, h9]⟩
      · exact hne2 ⟨by omega, x2, x3⟩
/-- the way to a run is a way -/
theorem mQ_way {S : mS} {t m : Nat} (hs : mSh S t m) {i : Nat} (hi : i < mn S) : mWay S (fun l => mQ S i (l + 1)) := ⟨fun l hl => (mQ_in hs hi hl).1, fun l hl => ⟨(mQ_in hs hi (show l + 1 ≤ md S by omega)).2.1, (mQ_in hs hi (show l + 1 ≤ md S by omega)).2.2⟩⟩
theorem rfA_fs {t : Nat} : ∀ (k : Nat) (A : cA) (i : Nat), (∀ x, x < k → aWy A t x ≠ i) → aWf (rfA A t k) i = aWf A i := by
  intro k
  induction k with
  | zero => intro A i _; rfl
  | succ k ih =>
    intro A i h
    show aWf (rfA (sWf A (aWy A t k) _) t k) i = _
    rw [ih (sWf A (aWy A t k) _) i (fun x hx => h x (by omega))]
    show gF (aWf A) (aWy A t k) _ i = _
    rw [gF_n (Ne.symm (h k (by omega)))]
end
section
/-! a run becomes another one, in its place -/
def sSet (S : mS) (i : Nat) (x n v w : Int) : mS := (mn S, gF (ms S) i x, gF (ml S) i n, gF (mv S) i v, gF (mw S) i w, md S, mK S, mb S, mc S)
section
variable {A : cA} {S : mS} {t m : Nat} {i : Nat} {x n v w : Int}
theorem fr_is (hs : mSh S t m) (hi : i < mn S) {l q : Nat} (hl : l ≤ md S + 1) (hq : q < mI S l) (h : fr (mc S) l q = i) : q = mQ S i l := by
  obtain ⟨c1, c2⟩ := mQ_fr hs hi l hl
  have hn : 0 < mn S := by omega
  rcases Nat.lt_trichotomy q (mQ S i l) with h1 | h1 | h1
  · have := fr_lt hs hn l hl q (mQ S i l) h1 (Nat.le_of_lt (mQ_lt hs hi l hl))
    omega
  · exact h1
  · have := fr_le hs hn (l := l) (a := mQ S i l + 1) (b := q) hl (by omega) (by omega)
    omega
theorem pW_n (S : mS) (i k : Nat) : pW S (i : Int) k = mb S (md S - k) (mQ S i (md S - k + 1)) := by
  unfold pW
  rw [show ((i : Nat) : Int).toNat = i by omega]
theorem pP_n (hs : mSh S t m) (hi : i < mn S) {k : Nat} (hk : k < md S) : pP S (i : Int) k = (mQ S i (md S - k - 1 + 1) : Int) - sm (mc S (md S - k)) (mQ S i (md S - k + 1)) := by
  unfold pP
  rw [if_neg (by omega), show ((i : Nat) : Int).toNat = i by omega, show md S - k - 1 + 1 = md S - k by omega]
theorem pP_d (S : mS) (i : Nat) : pP S (i : Int) (md S) = (i : Int) - sm (mc S 0) (mQ S i 1) := by
  unfold pP
  rw [if_pos rfl, show ((i : Nat) : Int).toNat = i by omega]
theorem gT3_at {f : Nat → Int} {k : Nat} {a b c : Int} : gT3 f k a b c k = a ∧ gT3 f k a b c (k + 1) = b ∧ gT3 f k a b c (k + 2) = c := by
  unfold gT3
  refine ⟨?_, ?_, ?_⟩
  · rw [gF_n (by omega), gF_n (by omega), gF_s]
  · rw [gF_n (by omega), gF_s]
  · rw [gF_s]
theorem gT3_n {f : Nat → Int} {k j : Nat} {a b c : Int} (h : j < k ∨ k + 2 < j) : gT3 f k a b c j = f j := by
  unfold gT3
  rw [gF_n (by omega), gF_n (by omega), gF_n (by omega)]
set_option maxHeartbeats 1000000 in
theorem ab_set (hs : mSh S t m) (hj : mInj S) (ha : mAb A t S) (hi : i < mn S) (hw : w = 0 ∨ w = 1) : mAb (srA (fnd A t (pW S i) (pP S i) (md S + 1) (md S)) t (md S) x n v w) t (sSet S i x n v w) := by
  obtain ⟨q1, q2, q3⟩ := mQ_in hs hi (Nat.zero_le (md S))
  have q1 : mQ S i 1 < mK S 0 := q1
  have q2 : sm (mc S 0) (mQ S i 1) ≤ i := q2
  have q3 : i < sm (mc S 0) (mQ S i 1) + mc S 0 (mQ S i 1) := q3
  have hn : 0 < mn S := by omega
  have eW : aWy (fnd A t (pW S i) (pP S i) (md S + 1) (md S)) t (md S) = mb S 0 (mQ S i 1) := by
    rw [fnd_wy (Nat.le_refl _), pW_n, Nat.sub_self]
  have eP : aPl (fnd A t (pW S i) (pP S i) (md S + 1) (md S)) t (md S) = (i : Int) - sm (mc S 0) (mQ S i 1) := by
    rw [fnd_pl (Nat.le_refl _), pP_d]
  have e0 : (aPl (fnd A t (pW S i) (pP S i) (md S + 1) (md S)) t (md S) * 3).toNat = (i - sm (mc S 0) (mQ S i 1)) * 3 := by
    rw [eP]
    omega
  unfold srA
  rw [e0, eW]
  refine rf_fix (S := sSet S i x n v w) (R := fun l => mQ S i (l + 1)) hj (mQ_way hs hi) (fun l hl => hs.pos hn (Nat.le_of_lt hl) (mQ_in hs hi (Nat.le_of_lt hl)).1) (md S) _ (Nat.le_refl _) (fun k hk => ?_) (fun k hk => ?_) (fun l hl p hp => ?_)
  · show aWy (fnd A t (pW S i) (pP S i) (md S + 1) (md S)) t k = _
    have hk : k ≤ md S := hk
    rw [fnd_wy hk, pW_n]
    rfl
  · show aPl (fnd A t (pW S i) (pP S i) (md S + 1) (md S)) t k = _
    have hk : k < md S := hk
    rw [fnd_pl (Nat.le_of_lt hk), pP_n hs hi hk]
    rfl
  · have hl : l ≤ md S := hl
    have hp : p < mK S l := hp
    obtain ⟨a, b, c⟩ := ha l hl p hp
    have ho := hs.off hl hp
    refine ⟨a, b, fun j hj9 => ?_⟩
    have hj9 : j < mc S l p := hj9
    obtain ⟨c1, c2, c3⟩ := c j hj9
    by_cases hlf : l = 0 ∧ p = mQ S i 1
    · obtain ⟨rfl, rfl⟩ := hlf
      have ew : ∀ y, aWf (sWf (fnd A t (pW S i) (pP S i) (md S + 1) (md S)) (mb S 0 (mQ S i 1)) (gT3 (aWf (fnd A t (pW S i) (pP S i) (md S + 1) (md S)) (mb S 0 (mQ S i 1))) ((i - sm (mc S 0) (mQ S i 1)) * 3) x (if w = 1 then n else n + 32768) v)) (mb S 0 (mQ S i 1)) y = gT3 (aWf A (mb S 0 (mQ S i 1))) ((i - sm (mc S 0) (mQ S i 1)) * 3) x (if w = 1 then n else n + 32768) v y := by
        intro y
        show gF (aWf A) (mb S 0 (mQ S i 1)) _ (mb S 0 (mQ S i 1)) y = _
        rw [gF_s]
        rfl
      show (_ → aWf (sWf _ _ _) (mb S 0 (mQ S i 1)) (j * 3) = gF (ms S) i x (sm (mc S 0) (mQ S i 1) + j)) ∧ aWf (sWf _ _ _) (mb S 0 (mQ S i 1)) (j * 3 + 1) = gF (ml S) i n (sm (mc S 0) (mQ S i 1) + j) + (1 - gF (mw S) i w (sm (mc S 0) (mQ S i 1) + j)) * 32768 ∧ aWf (sWf _ _ _) (mb S 0 (mQ S i 1)) (j * 3 + 2) = gF (mv S) i v (sm (mc S 0) (mQ S i 1) + j)
      rw [ew, ew, ew]
      by_cases hji : sm (mc S 0) (mQ S i 1) + j = i
      · have hjj : j = i - sm (mc S 0) (mQ S i 1) := by omega
        obtain ⟨g1, g2, g3⟩ := gT3_at (f := aWf A (mb S 0 (mQ S i 1))) (k := (i - sm (mc S 0) (mQ S i 1)) * 3) (a := x) (b := if w = 1 then n else n + 32768) (c := v)
        rw [hji, gF_s, gF_s, gF_s, gF_s, hjj]
        refine ⟨fun _ => g1, ?_, g3⟩
        rw [g2]
        rcases hw with h | h <;> rw [h]
        · rw [if_neg (by decide)]
          omega
        · rw [if_pos rfl]
          omega
      · rw [gF_n hji, gF_n hji, gF_n hji, gF_n hji, gT3_n (by omega), gT3_n (by omega), gT3_n (by omega)]
        exact ⟨fun _ => c1, c2, c3⟩
    · have hne : mb S l p ≠ mb S 0 (mQ S i 1) := fun q => hlf (hj l p 0 (mQ S i 1) hl hp (Nat.zero_le _) q1 q)
      have ew : aWf (sWf (fnd A t (pW S i) (pP S i) (md S + 1) (md S)) (mb S 0 (mQ S i 1)) (gT3 (aWf (fnd A t (pW S i) (pP S i) (md S + 1) (md S)) (mb S 0 (mQ S i 1))) ((i - sm (mc S 0) (mQ S i 1)) * 3) x (if w = 1 then n else n + 32768) v)) (mb S l p) = aWf A (mb S l p) := by
        show gF (aWf A) (mb S 0 (mQ S i 1)) _ (mb S l p) = _
        rw [gF_n hne]
      show (_ → aWf (sWf _ _ _) (mb S l p) (j * 3) = gF (ms S) i x (fr (mc S) l (sm (mc S l) p + j))) ∧ aWf (sWf _ _ _) (mb S l p) (j * 3 + 1) = _ ∧ aWf (sWf _ _ _) (mb S l p) (j * 3 + 2) = _
      rw [ew]
      cases l with
      | zero =>
        have hji : sm (mc S 0) p + j ≠ i := by
          intro q
          refine hlf ⟨rfl, ?_⟩
          exact lc_uniq (f := mc S 0) (K := mK S 0) (q := i) (by omega) (by omega) q2 q3
        show (_ → _ = gF (ms S) i x (sm (mc S 0) p + j)) ∧ _ = gF (ml S) i n (sm (mc S 0) p + j) + (1 - gF (mw S) i w (sm (mc S 0) p + j)) * 32768 ∧ _ = gF (mv S) i v (sm (mc S 0) p + j)
        rw [gF_n hji, gF_n hji, gF_n hji, gF_n hji]
        exact ⟨fun _ => c1, c2, c3⟩
      | succ l =>
        refine ⟨fun hex => ?_, c2, c3⟩
        have hji : fr (mc S) (l + 1) (sm (mc S (l + 1)) p + j) ≠ i := by
          intro q
          have e9 := fr_is hs hi (l := l + 1) (by omega) (show sm (mc S (l + 1)) p + j < mI S (l + 1) by omega) q
          obtain ⟨z1, z2, z3⟩ := mQ_in hs hi hl
          have e8 : p = mQ S i (l + 1 + 1) := lc_uniq (f := mc S (l + 1)) (K := mK S (l + 1)) (q := mQ S i (l + 1)) (by omega) (by omega) z2 z3
          refine hex ⟨?_, e8, ?_⟩
          · show md S - md S < l + 1
            omega
          · show sm (mc S (l + 1)) p + j = mQ S i (l + 1 - 1 + 1)
            rw [show l + 1 - 1 + 1 = l + 1 by omega]
            exact e9
        rw [gF_n hji]
        exact c1
end
end
section
/-! a node of the model splits in two -/
def insN {α : Type} (f : Nat → α) (p : Nat) (x : α) : Nat → α := fun q => if q < p then f q else if q = p then x else f (q - 1)
def splN (f : Nat → Nat) (p h : Nat) : Nat → Nat := fun q => if q < p then f q else if q = p then h else if q = p + 1 then f p - h else f (q - 1)
def incN (f : Nat → Nat) (p : Nat) : Nat → Nat := gF f p (f p + 1)
section
variable {α : Type} {f : Nat → Nat} {g : Nat → α} {x : α} {p q h : Nat}
theorem insN_lo (hq : q < p) : insN g p x q = g q := if_pos hq
theorem insN_at : insN g p x p = x := by
  unfold insN
  rw [if_neg (by omega), if_pos rfl]
theorem insN_hi (hq : p ≤ q) : insN g p x (q + 1) = g q := by
  unfold insN
  rw [if_neg (by omega), if_neg (by omega), Nat.add_sub_cancel]
theorem spl_lo (hq : q < p) : splN f p h q = f q := if_pos hq
theorem spl_at : splN f p h p = h := by
  unfold splN
  rw [if_neg (by omega), if_pos rfl]
theorem spl_nx : splN f p h (p + 1) = f p - h := by
  unfold splN
  rw [if_neg (by omega), if_neg (by omega), if_pos rfl]
theorem spl_hi (hq : p < q) : splN f p h (q + 1) = f q := by
  unfold splN
  rw [if_neg (by omega), if_neg (by omega), if_neg (by omega), Nat.add_sub_cancel]
theorem sm_spl_lo (hq : q ≤ p) : sm (splN f p h) q = sm f q := sm_congr (fun x hx => spl_lo (by omega))
theorem sm_spl_at : sm (splN f p h) (p + 1) = sm f p + h := by
  show sm (splN f p h) p + splN f p h p = _
  rw [spl_at, sm_spl_lo (Nat.le_refl _)]
theorem sm_spl_hi (hh : h ≤ f p) : ∀ q, p < q → sm (splN f p h) (q + 1) = sm f q := by
  intro q
  induction q with
  | zero => intro h9; omega
  | succ q ih =>
    intro hq
    by_cases h1 : q = p
    · subst h1
      show sm (splN f q h) (q + 1) + splN f q h (q + 1) = sm f q + f q
      rw [sm_spl_at, spl_nx]
      omega
    · show sm (splN f p h) (q + 1) + splN f p h (q + 1) = sm f q + f q
      rw [ih (by omega), spl_hi (by omega)]
theorem inc_at : incN f p p = f p + 1 := gF_s _ _ _
theorem inc_n (hq : q ≠ p) : incN f p q = f q := gF_n hq
theorem sm_inc_lo (hq : q ≤ p) : sm (incN f p) q = sm f q := sm_congr (fun x hx => inc_n (by omega))
theorem sm_inc_hi : ∀ q, p < q → sm (incN f p) q = sm f q + 1 := by
  intro q
  induction q with
  | zero => intro h9; omega
  | succ q ih =>
    intro hq
    show sm (incN f p) q + incN f p q = sm f q + f q + 1
    by_cases h1 : q = p
    · subst h1
      rw [sm_inc_lo (Nat.le_refl _), inc_at]
      omega
    · rw [ih (by omega), inc_n h1]
      omega
theorem fr_congr {c c' : Nat → Nat → Nat} : ∀ k, (∀ j, j < k → c j = c' j) → ∀ q, fr c k q = fr c' k q := by
  intro k
  induction k with
  | zero => intro _ q; rfl
  | succ k ih =>
    intro h9 q
    show fr c k (sm (c k) q) = fr c' k (sm (c' k) q)
    rw [h9 k (by omega)]
    exact ih (fun j hj => h9 j (by omega)) _
end
/-- what is a way to a run is the way -/
theorem mQ_is {S : mS} {t m i : Nat} (hs : mSh S t m) (hi : i < mn S) (R : Nat → Nat) (h0 : R 0 = i) (h : ∀ k, k ≤ md S → sm (mc S k) (R (k + 1)) ≤ R k ∧ R k < sm (mc S k) (R (k + 1)) + mc S k (R (k + 1))) : ∀ k, k ≤ md S + 1 → mQ S i k = R k := by
  intro k
  induction k with
  | zero => intro _; exact h0.symm
  | succ k ih =>
    intro hk
    have e := ih (by omega)
    obtain ⟨a1, a2, a3⟩ := mQ_in hs hi (show k ≤ md S by omega)
    obtain ⟨b1, b2⟩ := h k (by omega)
    rw [e] at a2 a3
    exact lc_uniq (f := mc S k) (K := mK S k) (q := R k) a2 a3 b1 b2
def sSp (S : mS) (l p P h b : Nat) : mS := (mn S, ms S, ml S, mv S, mw S, md S, gF (mK S) l (mK S l + 1), gF (mb S) l (insN (mb S l) (p + 1) b), gF (gF (mc S) l (splN (mc S l) p h)) (l + 1) (incN (mc S (l + 1)) P))
/-- node p of level l, entry of node P above it, can be split before its entry h -/
def SpO (S : mS) (m l p P h b : Nat) : Prop := l < md S ∧ p < mK S l ∧ P < mK S (l + 1) ∧ (sm (mc S (l + 1)) P ≤ p ∧ p < sm (mc S (l + 1)) P + mc S (l + 1) P) ∧ (1 ≤ h ∧ h < mc S l p) ∧ (1 ≤ b ∧ b ≤ 255) ∧ (∀ k q, k ≤ md S → q < mK S k → mb S k q ≠ b) ∧ mc S (l + 1) P < (if l + 1 = md S then 4 else m)
section
variable {S : mS} {t m l p P h b : Nat}
theorem ssp_cl : mc (sSp S l p P h b) l = splN (mc S l) p h := by
  show gF (gF (mc S) l _) (l + 1) _ l = _
  rw [gF_n (by omega), gF_s]
theorem ssp_cu : mc (sSp S l p P h b) (l + 1) = incN (mc S (l + 1)) P := gF_s _ _ _
theorem ssp_co {k : Nat} (h1 : k ≠ l) (h2 : k ≠ l + 1) : mc (sSp S l p P h b) k = mc S k := by
  show gF (gF (mc S) l _) (l + 1) _ k = _
  rw [gF_n h2, gF_n h1]
theorem ssp_kl : mK (sSp S l p P h b) l = mK S l + 1 := gF_s _ _ _
theorem ssp_ko {k : Nat} (h1 : k ≠ l) : mK (sSp S l p P h b) k = mK S k := gF_n h1
theorem ssp_bl : mb (sSp S l p P h b) l = insN (mb S l) (p + 1) b := gF_s _ _ _
theorem ssp_bo {k : Nat} (h1 : k ≠ l) : mb (sSp S l p P h b) k = mb S k := gF_n h1
theorem ssp_fl {k : Nat} (hk : k ≤ l) (q : Nat) : fr (mc (sSp S l p P h b)) k q = fr (mc S) k q := fr_congr k (fun j hj => ssp_co (by omega) (by omega)) q
theorem ssp_f1 (q : Nat) : fr (mc (sSp S l p P h b)) (l + 1) q = fr (mc S) l (sm (splN (mc S l) p h) q) := by
  show fr _ l (sm (mc (sSp S l p P h b) l) q) = _
  rw [ssp_cl, ssp_fl (Nat.le_refl _)]
theorem ssp_f1_lo {q : Nat} (hq : q ≤ p) : fr (mc (sSp S l p P h b)) (l + 1) q = fr (mc S) (l + 1) q := by
  rw [ssp_f1, sm_spl_lo hq]
  rfl
theorem ssp_f1_at : fr (mc (sSp S l p P h b)) (l + 1) (p + 1) = fr (mc S) l (sm (mc S l) p + h) := by
  rw [ssp_f1, sm_spl_at]
theorem ssp_f1_hi {q : Nat} (hh : h ≤ mc S l p) (hq : p < q) : fr (mc (sSp S l p P h b)) (l + 1) (q + 1) = fr (mc S) (l + 1) q := by
  rw [ssp_f1, sm_spl_hi hh q hq]
  rfl
theorem ssp_f2 (o : SpO S m l p P h b) : ∀ k, l + 2 ≤ k → ∀ q, fr (mc (sSp S l p P h b)) k q = fr (mc S) k q := by
  obtain ⟨o1, o2, o3, ⟨o4, o5⟩, ⟨o6, o7⟩, o8, o9, o10⟩ := o
  intro k
  induction k with
  | zero => intro h9; omega
  | succ k ih =>
    intro hk q
    by_cases h1 : k = l + 1
    · subst h1
      show fr _ (l + 1) (sm (mc (sSp S l p P h b) (l + 1)) q) = fr (mc S) (l + 1) (sm (mc S (l + 1)) q)
      rw [ssp_cu]
      by_cases h2 : q ≤ P
      · have h3 : sm (mc S (l + 1)) q ≤ sm (mc S (l + 1)) P := sm_mono h2
        rw [sm_inc_lo h2, ssp_f1_lo (by omega)]
      · have h3 : sm (mc S (l + 1)) (P + 1) ≤ sm (mc S (l + 1)) q := sm_mono (by omega)
        have h4 : sm (mc S (l + 1)) (P + 1) = sm (mc S (l + 1)) P + mc S (l + 1) P := rfl
        rw [sm_inc_hi q (by omega), ssp_f1_hi (by omega) (by omega)]
    · show fr _ k (sm (mc (sSp S l p P h b) k) q) = fr (mc S) k (sm (mc S k) q)
      rw [ssp_co (by omega) h1]
      exact ih (by omega) _
theorem ssp_sh (hs : mSh S t m) (o : SpO S m l p P h b) : mSh (sSp S l p P h b) t m := by
  obtain ⟨o1, o2, o3, ⟨o4, o5⟩, ⟨o6, o7⟩, o8, o9, o10⟩ := o
  obtain ⟨s1, s2, s3, s4, s5, s6, s7⟩ := hs
  refine ⟨s1, ?_, ?_, fun k hk => ?_, fun k hk q hq => ?_, ?_, ?_⟩
  · show mK (sSp S l p P h b) (md S) = 1
    rw [ssp_ko (by omega)]
    exact s2
  · show mb (sSp S l p P h b) (md S) 0 = _
    rw [ssp_bo (by omega)]
    exact s3
  · have hk : k ≤ md S := hk
    have e := s4 k hk
    by_cases h1 : k = l
    · subst h1
      rw [ssp_cl, ssp_kl, sm_spl_hi (by omega) _ o2, e]
      cases k with
      | zero => rfl
      | succ k =>
        show mK S k = mK (sSp S (k + 1) p P h b) k
        rw [ssp_ko (by omega)]
    · by_cases h2 : k = l + 1
      · subst h2
        rw [ssp_cu, ssp_ko (by omega), sm_inc_hi _ o3, e]
        show mK S l + 1 = mK (sSp S l p P h b) l
        rw [ssp_kl]
      · rw [ssp_co h1 h2, ssp_ko h1, e]
        cases k with
        | zero => rfl
        | succ k =>
          show mK S k = mK (sSp S l p P h b) k
          rw [ssp_ko (by omega)]
  · have hk : k < md S := hk
    by_cases h1 : k = l
    · subst h1
      rw [ssp_cl, ssp_bl]
      rw [ssp_kl] at hq
      have w := s5 k hk p o2
      rcases Nat.lt_trichotomy q p with h9 | h9 | h9
      · rw [spl_lo h9, insN_lo (by omega)]
        exact s5 k hk q (by omega)
      · subst h9
        rw [spl_at, insN_lo (by omega)]
        omega
      · by_cases h8 : q = p + 1
        · subst h8
          rw [spl_nx, insN_at]
          omega
        · obtain ⟨r, rfl⟩ : ∃ r, q = r + 1 := ⟨q - 1, by omega⟩
          rw [spl_hi (by omega), insN_hi (by omega)]
          exact s5 k hk r (by omega)
    · rw [ssp_bo h1]
      rw [ssp_ko h1] at hq
      have w := s5 k hk q hq
      by_cases h2 : k = l + 1
      · subst h2
        rw [ssp_cu]
        by_cases h3 : q = P
        · subst h3
          rw [inc_at]
          rw [if_neg (by omega)] at o10
          omega
        · rw [inc_n h3]
          exact w
      · rw [ssp_co h1 h2]
        exact w
  · show mc (sSp S l p P h b) (md S) 0 ≤ 4
    by_cases h2 : md S = l + 1
    · have hP : P = 0 := by
        rw [← h2] at o3
        omega
      rw [h2, ssp_cu, hP, inc_at]
      rw [if_pos h2.symm, hP] at o10
      omega
    · rw [ssp_co (by omega) h2]
      exact s6
  · intro hd
    show 1 ≤ mc (sSp S l p P h b) (md S) 0
    have hd : 0 < md S := hd
    by_cases h2 : md S = l + 1
    · have hP : P = 0 := by
        rw [← h2] at o3
        omega
      rw [h2, ssp_cu, hP, inc_at]
      omega
    · rw [ssp_co (by omega) h2]
      exact s7 hd
/-- the nodes: the new one, and the old ones -/
theorem ssp_old {k q : Nat} (o2 : p < mK S l) (hq : q < mK (sSp S l p P h b) k) : (k = l ∧ q = p + 1 ∧ mb (sSp S l p P h b) k q = b) ∨ ∃ r, r < mK S k ∧ mb (sSp S l p P h b) k q = mb S k r ∧ q = if k = l ∧ p < r then r + 1 else r := by
  by_cases h1 : k = l
  · subst h1
    rw [ssp_kl] at hq
    rw [ssp_bl]
    by_cases h9 : q ≤ p
    · exact Or.inr ⟨q, by omega, insN_lo (by omega), by rw [if_neg (by omega)]⟩
    · by_cases h8 : q = p + 1
      · subst h8
        exact Or.inl ⟨rfl, rfl, insN_at⟩
      · obtain ⟨r, rfl⟩ : ∃ r, q = r + 1 := ⟨q - 1, by omega⟩
        exact Or.inr ⟨r, by omega, insN_hi (by omega), by rw [if_pos ⟨rfl, by omega⟩]⟩
  · rw [ssp_ko h1] at hq
    rw [ssp_bo h1]
    exact Or.inr ⟨q, hq, rfl, by rw [if_neg (fun z => h1 z.1)]⟩
theorem ssp_inj (hj : mInj S) (o : SpO S m l p P h b) : mInj (sSp S l p P h b) := by
  obtain ⟨o1, o2, o3, ⟨o4, o5⟩, ⟨o6, o7⟩, o8, o9, o10⟩ := o
  intro k q k' q' hk hq hk' hq' e
  have hk : k ≤ md S := hk
  have hk' : k' ≤ md S := hk'
  rcases ssp_old o2 hq with ⟨a1, a2, a3⟩ | ⟨r, a1, a2, a3⟩ <;> rcases ssp_old o2 hq' with ⟨b1, b2, b3⟩ | ⟨r', b1, b2, b3⟩
  · exact ⟨by omega, by omega⟩
  · rw [a3, b2] at e
    exact absurd e.symm (o9 k' r' hk' b1)
  · rw [a2, b3] at e
    exact absurd e (o9 k r hk a1)
  · rw [a2, b2] at e
    obtain ⟨rfl, rfl⟩ := hj k r k' r' hk a1 hk' b1 e
    exact ⟨rfl, by rw [a3, b3]⟩
/-- the way to a run -/
def spQ (S : mS) (i l h : Nat) (k : Nat) : Nat := if k = l + 1 then (if sm (mc S l) (mQ S i (l + 1)) + h ≤ mQ S i l then mQ S i (l + 1) + 1 else mQ S i (l + 1)) else mQ S i k
theorem ssp_mQ {i : Nat} (hs : mSh S t m) (hi : i < mn S) (o : SpO S m l (mQ S i (l + 1)) (mQ S i (l + 2)) h b) : ∀ k, k ≤ md S + 1 → mQ (sSp S l (mQ S i (l + 1)) (mQ S i (l + 2)) h b) i k = spQ S i l h k := by
  have hs' := ssp_sh hs o
  have o' := o
  obtain ⟨o1, o2, o3, ⟨o4, o5⟩, ⟨o6, o7⟩, o8, o9, o10⟩ := o
  refine mQ_is hs' hi (spQ S i l h) (if_neg (by omega)) (fun k hk => ?_)
  have hk : k ≤ md S := hk
  obtain ⟨a1, a2, a3⟩ := mQ_in hs hi hk
  have eo : ∀ k, k ≠ l + 1 → spQ S i l h k = mQ S i k := fun k h9 => if_neg h9
  by_cases h1 : k = l
  · subst h1
    rw [ssp_cl, eo k (by omega)]
    unfold spQ
    rw [if_pos rfl]
    by_cases h2 : sm (mc S k) (mQ S i (k + 1)) + h ≤ mQ S i k
    · rw [if_pos h2, sm_spl_at, spl_nx]
      omega
    · rw [if_neg h2, sm_spl_lo (Nat.le_refl _), spl_at]
      omega
  · by_cases h2 : k = l + 1
    · subst h2
      rw [ssp_cu, eo (l + 1 + 1) (by omega), inc_at, sm_inc_lo (Nat.le_refl _)]
      unfold spQ
      rw [if_pos rfl]
      split
      · omega
      · omega
    · rw [ssp_co h1 h2, eo k h2, eo (k + 1) (by omega)]
      exact ⟨a2, a3⟩
end
end
section
/-! the tree by its items; a node splits -/
def wd1 (S : mS) (l x : Nat) : Int := match l with
  | 0 => ml S x + (1 - mw S x) * 32768
  | l + 1 => (mb S l x : Int)
def wd2 (S : mS) (l x : Nat) : Int := match l with
  | 0 => mv S x
  | _ + 1 => 0
/-- word e of item x of level l -/
def it (S : mS) (l x e : Nat) : Int := if e = 0 then ms S (fr (mc S) l x) else if e = 1 then wd1 S l x else wd2 S l x
/-- a node has c items, from item a on -/
def Nd (A : cA) (o : Nat) (S : mS) (l c a : Nat) : Prop := aDp A o = (l : Int) ∧ aEn A o = (c : Int) ∧ ∀ j, j < c → ∀ e, e < 3 → aWf A o (j * 3 + e) = it S l (a + j) e
theorem ab_nd {A : cA} {t : Nat} {S : mS} : mAb A t S ↔ ∀ l, l ≤ md S → ∀ p, p < mK S l → Nd A (mb S l p) S l (mc S l p) (sm (mc S l) p) := by
  constructor
  · intro h l hl p hp
    obtain ⟨a, b, c⟩ := h l hl p hp
    refine ⟨a, b, fun j hj e he => ?_⟩
    obtain ⟨c1, c2, c3⟩ := c j hj
    match e, he with
    | 0, _ => exact c1
    | 1, _ =>
      refine c2.trans ?_
      cases l <;> rfl
    | 2, _ =>
      refine c3.trans ?_
      cases l <;> rfl
  · intro h l hl p hp
    obtain ⟨a, b, c⟩ := h l hl p hp
    refine ⟨a, b, fun j hj => ⟨c j hj 0 (by omega), (c j hj 1 (by omega)).trans ?_, (c j hj 2 (by omega)).trans ?_⟩⟩
    · cases l <;> rfl
    · cases l <;> rfl
/-- .. but perhaps the key of one entry -/
def NdX (A : cA) (o : Nat) (S : mS) (l c a : Nat) (ex : Nat → Prop) : Prop := aDp A o = (l : Int) ∧ aEn A o = (c : Int) ∧ ∀ j, j < c → ∀ e, e < 3 → ¬ (e = 0 ∧ ex j) → aWf A o (j * 3 + e) = it S l (a + j) e
theorem ndx_m {A : cA} {S : mS} {l p : Nat} {ex : Nat → Prop} (h : NdX A (mb S l p) S l (mc S l p) (sm (mc S l) p) ex) : mNd A S l p ex := by
  obtain ⟨a, b, c⟩ := h
  refine ⟨a, b, fun j hj => ⟨fun h9 => c j hj 0 (by omega) (fun z => h9 z.2), (c j hj 1 (by omega) (fun z => by omega)).trans ?_, (c j hj 2 (by omega) (fun z => by omega)).trans ?_⟩⟩
  · cases l <;> rfl
  · cases l <;> rfl
theorem Nd.X {A : cA} {o : Nat} {S : mS} {l c a : Nat} (h : Nd A o S l c a) (ex : Nat → Prop) : NdX A o S l c a ex := ⟨h.1, h.2.1, fun j hj e he _ => h.2.2 j hj e he⟩
/-- a node that isn't touched, or the same items under other numbers -/
theorem Nd.keep {A B : cA} {o : Nat} {S T : mS} {l c a a' : Nat} (h : Nd A o S l c a) (h1 : aDp B o = aDp A o) (h2 : aEn B o = aEn A o) (h3 : aWf B o = aWf A o) (h4 : ∀ j, j < c → ∀ e, e < 3 → it T l (a' + j) e = it S l (a + j) e) : Nd B o T l c a' :=
  ⟨h1.trans h.1, h2.trans h.2.1, fun j hj e he => by rw [h3, h4 j hj e he]; exact h.2.2 j hj e he⟩
theorem it_eq {S T : mS} {l x y e : Nat} (h1 : ms T (fr (mc T) l x) = ms S (fr (mc S) l y)) (h2 : wd1 T l x = wd1 S l y) (h3 : wd2 T l x = wd2 S l y) : it T l x e = it S l y e := by
  unfold it
  rw [h1, h2, h3]
section
variable {f : Nat → Int} {ent i x y z : Int} {j e : Nat}
theorem gIns_lo (hi : 0 ≤ i ∧ i ≤ ent) (he : e < 3) (hj : (j : Int) < i) : gIns f ent i x y z (j * 3 + e) = f (j * 3 + e) := by
  unfold gIns
  rw [gT3_n (by omega)]
  unfold gCp
  rw [if_neg (by omega)]
theorem gIns_at : gIns f ent i x y z (i * 3).toNat = x ∧ gIns f ent i x y z ((i * 3).toNat + 1) = y ∧ gIns f ent i x y z ((i * 3).toNat + 2) = z := gT3_at
theorem gIns_hi (hi : 0 ≤ i ∧ i ≤ ent) (he : e < 3) (hj : i ≤ j) (hj2 : (j : Int) < ent) : gIns f ent i x y z ((j + 1) * 3 + e) = f (j * 3 + e) := by
  unfold gIns
  rw [gT3_n (by omega)]
  unfold gCp
  rw [if_pos (by omega)]
  congr 1
  omega
end
section
variable {S : mS} {t m l p P h b : Nat}
theorem ssp_it {y x e : Nat} (hl : y ≤ l) : it (sSp S l p P h b) y x e = it S y x e := by
  refine it_eq ?_ ?_ ?_
  · rw [ssp_fl hl]
    rfl
  · cases y with
    | zero => rfl
    | succ y =>
      show ((mb (sSp S l p P h b) y x : Nat) : Int) = _
      rw [ssp_bo (by omega)]
      rfl
  · cases y <;> rfl
theorem ssp_it2 (o : SpO S m l p P h b) {y x e : Nat} (hl : l + 2 ≤ y) : it (sSp S l p P h b) y x e = it S y x e := by
  refine it_eq ?_ ?_ ?_
  · rw [ssp_f2 o y hl]
    rfl
  · cases y with
    | zero => rfl
    | succ y =>
      show ((mb (sSp S l p P h b) y x : Nat) : Int) = _
      rw [ssp_bo (by omega)]
      rfl
  · cases y <;> rfl
theorem ssp_it_lo {x e : Nat} (hx : x ≤ p) : it (sSp S l p P h b) (l + 1) x e = it S (l + 1) x e := by
  refine it_eq ?_ ?_ rfl
  · rw [ssp_f1_lo hx]
    rfl
  · show ((mb (sSp S l p P h b) l x : Nat) : Int) = _
    rw [ssp_bl, insN_lo (by omega)]
    rfl
theorem ssp_it_hi {x e : Nat} (hh : h ≤ mc S l p) (hx : p < x) : it (sSp S l p P h b) (l + 1) (x + 1) e = it S (l + 1) x e := by
  refine it_eq ?_ ?_ rfl
  · rw [ssp_f1_hi hh hx]
    rfl
  · show ((mb (sSp S l p P h b) l (x + 1) : Nat) : Int) = _
    rw [ssp_bl, insN_hi (by omega)]
    rfl
theorem ssp_it_at {e : Nat} (he : e < 3) : it (sSp S l p P h b) (l + 1) (p + 1) e = if e = 0 then it S l (sm (mc S l) p + h) 0 else if e = 1 then (b : Int) else 0 := by
  match e, he with
  | 0, _ =>
    show ms S (fr (mc (sSp S l p P h b)) (l + 1) (p + 1)) = ms S (fr (mc S) l (sm (mc S l) p + h))
    rw [ssp_f1_at]
  | 1, _ =>
    show ((mb (sSp S l p P h b) l (p + 1) : Nat) : Int) = _
    rw [ssp_bl, insN_at]
    rfl
  | 2, _ => rfl
end
section
variable {A : cA} {t k : Nat}
theorem sp_same : aDp (spA A t k) = aDp (spC A t k) ∧ aEn (spA A t k) = aEn (spC A t k) ∧ aWf (spA A t k) = aWf (spC A t k) ∧ aTk (spA A t k) = aTk (spC A t k) ∧ aRu (spA A t k) = aRu (spC A t k) ∧ aBl (spA A t k) = aBl (spC A t k) ∧ aMa (spA A t k) = aMa (spC A t k) ∧ aMw (spA A t k) = aMw (spC A t k) ∧ aLb (spA A t k) = aLb (spC A t k) ∧ aLe (spA A t k) = aLe (spC A t k) ∧ aM (spA A t k) = aM (spC A t k) := by
  unfold spA
  split
  · exact ⟨rfl, rfl, rfl, rfl, rfl, rfl, rfl, rfl, rfl, rfl, rfl⟩
  · exact ⟨rfl, rfl, rfl, rfl, rfl, rfl, rfl, rfl, rfl, rfl, rfl⟩
variable {o b q h : Nat}
theorem sp_oth (ho : aWy A t k = o) (hb : aFs A t k = b) (hq : aWy A t (k - 1) = q) (hh : ((aRm A o : Int) + 1) / 2 = h) {x : Nat} (h1 : x ≠ o) (h2 : x ≠ b) (h3 : x ≠ q) : aDp (spA A t k) x = aDp A x ∧ aEn (spA A t k) x = aEn A x ∧ aWf (spA A t k) x = aWf A x := by
  obtain ⟨s1, s2, s3, -⟩ := sp_same (A := A) (t := t) (k := k)
  rw [s1, s2, s3]
  unfold spC spB
  rw [ho, hb, hq, hh]
  refine ⟨?_, ?_, ?_⟩
  · show gF (gF (gF (aDp A) b _) o _) q _ x = _
    rw [gF_n h3, gF_n h1, gF_n h2]
  · show gF (gF (gF (aEn A) b _) o _) q _ x = _
    rw [gF_n h3, gF_n h1, gF_n h2]
  · show gF (gF (aWf A) b _) q _ x = _
    rw [gF_n h3, gF_n h2]
theorem sp_old (ho : aWy A t k = o) (hb : aFs A t k = b) (hq : aWy A t (k - 1) = q) (hh : ((aRm A o : Int) + 1) / 2 = h) (hob : o ≠ b) (hqo : q ≠ o) : aDp (spA A t k) o = aDp A o ∧ aEn (spA A t k) o = h ∧ aWf (spA A t k) o = aWf A o := by
  obtain ⟨s1, s2, s3, -⟩ := sp_same (A := A) (t := t) (k := k)
  rw [s1, s2, s3]
  unfold spC spB
  rw [ho, hb, hq, hh]
  refine ⟨?_, ?_, ?_⟩
  · show gF (gF (gF (aDp A) b _) o (aDp A o)) q _ o = _
    rw [gF_n (Ne.symm hqo), gF_s]
  · show gF (gF (gF (aEn A) b _) o _) q _ o = _
    rw [gF_n (Ne.symm hqo), gF_s]
  · show gF (gF (aWf A) b _) q _ o = _
    rw [gF_n (Ne.symm hqo), gF_n hob]
theorem sp_new (ho : aWy A t k = o) (hb : aFs A t k = b) (hq : aWy A t (k - 1) = q) (hh : ((aRm A o : Int) + 1) / 2 = h) (hob : o ≠ b) (hqb : q ≠ b) : aDp (spA A t k) b = aDp A o ∧ aEn (spA A t k) b = aEn A o - h ∧ aWf (spA A t k) b = gCp (aWf A o) (aWf A b) ((h : Int) * 3).toNat 0 ((aEn A o - h) * 3).toNat := by
  obtain ⟨s1, s2, s3, -⟩ := sp_same (A := A) (t := t) (k := k)
  rw [s1, s2, s3]
  unfold spC spB
  rw [ho, hb, hq, hh]
  refine ⟨?_, ?_, ?_⟩
  · show gF (gF (gF (aDp A) b (aDp A o)) o _) q _ b = _
    rw [gF_n (Ne.symm hqb), gF_n (Ne.symm hob), gF_s]
  · show gF (gF (gF (aEn A) b _) o _) q _ b = _
    rw [gF_n (Ne.symm hqb), gF_n (Ne.symm hob), gF_s]
  · show gF (gF (aWf A) b _) q _ b = _
    rw [gF_n (Ne.symm hqb), gF_s]
theorem sp_up (ho : aWy A t k = o) (hb : aFs A t k = b) (hq : aWy A t (k - 1) = q) (hh : ((aRm A o : Int) + 1) / 2 = h) (hob : o ≠ b) (hqo : q ≠ o) (hqb : q ≠ b) (hho : (h : Int) < aEn A o) : aDp (spA A t k) q = aDp A q ∧ aEn (spA A t k) q = aEn A q + 1 ∧ aWf (spA A t k) q = gIns (aWf A q) (aEn A q) (aPl A t (k - 1) + 1) (aWf A o (h * 3)) (nNo b) 0 := by
  obtain ⟨s1, s2, s3, -⟩ := sp_same (A := A) (t := t) (k := k)
  rw [s1, s2, s3]
  unfold spC spB
  rw [ho, hb, hq, hh]
  have eq : gF (gF (aEn A) b (aEn A o - h)) o h q = aEn A q := by rw [gF_n hqo, gF_n hqb]
  refine ⟨?_, ?_, ?_⟩
  · show gF (gF (gF (aDp A) b (aDp A o)) o _) q (gF (gF (aDp A) b (aDp A o)) o (aDp A o) q) q = _
    rw [gF_s, gF_n hqo, gF_n hqb]
  · show gF (gF (gF (aEn A) b (aEn A o - h)) o h) q (gF (gF (aEn A) b (aEn A o - h)) o h q + 1) q = _
    rw [gF_s, eq]
  · show gF (gF (aWf A) b (gCp (aWf A o) (aWf A b) ((h : Int) * 3).toNat 0 ((aEn A o - h) * 3).toNat)) q (gIns (gF (aWf A) b (gCp (aWf A o) (aWf A b) ((h : Int) * 3).toNat 0 ((aEn A o - h) * 3).toNat) q) (gF (gF (aEn A) b (aEn A o - h)) o h q) (aPl A t (k - 1) + 1) (gWd (gF (aWf A) b (gCp (aWf A o) (aWf A b) ((h : Int) * 3).toNat 0 ((aEn A o - h) * 3).toNat) b) (gF (gF (aEn A) b (aEn A o - h)) o h b) 0 0) (nNo b) 0) q = _
    rw [gF_s, gF_n hqb, eq, gF_s, gF_n (Ne.symm hob), gF_s, gWd_in (by omega)]
    have e1 : gCp (aWf A o) (aWf A b) ((h : Int) * 3).toNat 0 ((aEn A o - h) * 3).toNat ((0 : Int) * 3 + 0).toNat = aWf A o (h * 3) := by
      unfold gCp
      rw [if_pos (by omega)]
      congr 1
    rw [e1]
end
end
section
/-! splitBlock is the split of the model; the way stays the way -/
def WyTo (A : cA) (t : Nat) (S : mS) (i : Int) : Prop := aLf A t = md S ∧ ∀ k, k ≤ md S → aWy A t k = pW S i k ∧ aPl A t k = pP S i k
theorem wy_fnd {A : cA} {t : Nat} {S : mS} {i : Int} : WyTo (fnd A t (pW S i) (pP S i) (md S + 1) (md S)) t S i := ⟨fnd_lf, fun k hk => ⟨fnd_wy hk, fnd_pl hk⟩⟩
section
variable {A : cA} {S : mS} {t k l b h : Nat} {i : Int}
set_option maxHeartbeats 1000000 in
theorem ab_split (ok : aOk A) (ht : t < 4) (hs : mSh S t (aM A)) (hj : mInj S) (ha : mAb A t S) (hw : WyTo A t S i) (hi : -1 ≤ i ∧ i < mn S) (hk : 1 ≤ k ∧ k ≤ md S) (hl : md S - k = l) (hh : (aM A + 1) / 2 = h) (hfull : mc S l (mQ S i.toNat (l + 1)) = aM A) (hroom : mc S (l + 1) (mQ S i.toNat (l + 2)) < if l + 1 = md S then 4 else aM A) (hb : aFs A t k = b) (hb2 : 1 ≤ b ∧ b ≤ 255) (hb3 : ∀ k q, k ≤ md S → q < mK S k → mb S k q ≠ b) :
    SpO S (aM A) l (mQ S i.toNat (l + 1)) (mQ S i.toNat (l + 2)) h b ∧ SplitOk A t k ∧ mAb (spA A t k) t (sSp S l (mQ S i.toNat (l + 1)) (mQ S i.toNat (l + 2)) h b) ∧ WyTo (spA A t k) t (sSp S l (mQ S i.toNat (l + 1)) (mQ S i.toNat (l + 2)) h b) i ∧ aOk (spA A t k) := by
  have hn : 0 < mn S := hs.npos (by omega)
  have hin : i.toNat < mn S := by omega
  have hm := ok.1
  obtain ⟨a1, a2, a3⟩ := mQ_in hs hin (show l ≤ md S by omega)
  obtain ⟨c1, c2, c3⟩ : mQ S i.toNat (l + 2) < mK S (l + 1) ∧ sm (mc S (l + 1)) (mQ S i.toNat (l + 2)) ≤ mQ S i.toNat (l + 1) ∧ mQ S i.toNat (l + 1) < sm (mc S (l + 1)) (mQ S i.toNat (l + 2)) + mc S (l + 1) (mQ S i.toNat (l + 2)) := mQ_in hs hin (show l + 1 ≤ md S by omega)
  have hO : SpO S (aM A) l (mQ S i.toNat (l + 1)) (mQ S i.toNat (l + 2)) h b := ⟨by omega, a1, c1, ⟨c2, c3⟩, by omega, hb2, hb3, hroom⟩
  have hmQ := ssp_mQ hs hin hO
  have hA := ab_nd.mp ha
  have n1 := hA l (by omega) _ a1
  have n2 := hA (l + 1) (by omega) _ c1
  have e1 : aWy A t k = mb S l (mQ S i.toNat (l + 1)) := by
    rw [(hw.2 k hk.2).1]
    unfold pW
    rw [hl]
  have e2 : aWy A t (k - 1) = mb S (l + 1) (mQ S i.toNat (l + 2)) := by
    rw [(hw.2 (k - 1) (by omega)).1]
    unfold pW
    rw [show md S - (k - 1) = l + 1 by omega]
  have e3 : aPl A t (k - 1) = (mQ S i.toNat (l + 1) : Int) - sm (mc S (l + 1)) (mQ S i.toNat (l + 2)) := by
    rw [(hw.2 (k - 1) (by omega)).2]
    unfold pP
    rw [if_neg (by omega), show md S - (k - 1) = l + 1 by omega]
  have e4 : aPl A t k = pP S i k := (hw.2 k hk.2).2
  obtain ⟨f1, f2, f3, -⟩ := pP_b hs hi hk.2
  rw [hl] at f1 f3
  have o256 : mb S l (mQ S i.toNat (l + 1)) < 256 := by
    have := (hs.2.2.2.2.1 l (by omega) _ a1).2.2.2
    omega
  have q260 := hs.bl ht (show l + 1 ≤ md S by omega) c1
  have hob : mb S l (mQ S i.toNat (l + 1)) ≠ b := hb3 _ _ (by omega) a1
  have hqb : mb S (l + 1) (mQ S i.toNat (l + 2)) ≠ b := hb3 _ _ (by omega) c1
  have hqo : mb S (l + 1) (mQ S i.toNat (l + 2)) ≠ mb S l (mQ S i.toNat (l + 1)) := by
    intro z
    have := (hj _ _ _ _ (show l + 1 ≤ md S by omega) c1 (show l ≤ md S by omega) a1 z).1
    omega
  have rmo : aRm A (mb S l (mQ S i.toNat (l + 1))) = aM A := if_pos o256
  have rmq : aRm A (mb S (l + 1) (mQ S i.toNat (l + 2))) = if l + 1 = md S then 4 else aM A := by
    unfold aRm
    by_cases h9 : l + 1 = md S
    · have hP : mQ S i.toNat (l + 2) = 0 := by
        have := hs.2.1
        rw [← h9] at this
        omega
      rw [if_pos h9, hP, h9, hs.2.2.1, if_neg (by omega)]
    · have := (hs.2.2.2.2.1 (l + 1) (by omega) _ c1).2.2.2
      rw [if_neg h9, if_pos (by omega)]
  have hhh : ((aRm A (mb S l (mQ S i.toNat (l + 1))) : Int) + 1) / 2 = (h : Int) := by
    rw [rmo]
    omega
  have hho : (h : Int) < aEn A (mb S l (mQ S i.toNat (l + 1))) := by
    rw [n1.2.1]
    omega
  obtain ⟨u1, u2, u3⟩ := sp_old e1 hb e2 hhh hob hqo
  obtain ⟨v1, v2, v3⟩ := sp_new e1 hb e2 hhh hob hqb
  obtain ⟨w1, w2, w3⟩ := sp_up e1 hb e2 hhh hob hqo hqb hho
  have hoth := fun {x : Nat} => sp_oth (x := x) e1 hb e2 hhh
  have rk := ok.2.2 _ q260
  refine ⟨hO, ?_, ?_, ?_, ?_⟩
  · refine ⟨ok, ⟨hk.1, by have := hs.1; omega⟩, by omega, by omega, by rw [e1, hb]; exact hob, by omega, by rw [e1, e2]; exact hqo, by rw [hb, e2]; exact hqb, ?_, ?_, ?_, ?_⟩
    · rw [e1, n1.2.1, rmo, hfull]
    · rw [e2, n2.2.1, rmq]
      omega
    · rw [e1, rmo, e4]
      omega
    · rw [e2, e3, n2.2.1]
      omega
  · generalize hp : mQ S i.toNat (l + 1) = p at *
    generalize hP : mQ S i.toNat (l + 2) = P at *
    refine ab_nd.mpr (fun y hy z hz => ?_)
    have hy : y ≤ md S := hy
    by_cases y1 : y = l
    · subst y1
      rw [ssp_kl] at hz
      rw [ssp_cl, ssp_bl]
      rcases Nat.lt_trichotomy z p with z1 | z1 | z1
      · rw [insN_lo (by omega), spl_lo z1, sm_spl_lo (by omega)]
        have g := hA y hy z (by omega)
        obtain ⟨x1, x2, x3⟩ := hoth (x := mb S y z) (fun q => by have := (hj _ _ _ _ hy (show z < mK S y by omega) hy a1 q).2; omega) (hb3 _ _ hy (by omega)) (fun q => by have := (hj _ _ _ _ hy (show z < mK S y by omega) (show y + 1 ≤ md S by omega) c1 q).1; omega)
        exact g.keep x1 x2 x3 (fun j _ e _ => ssp_it (Nat.le_refl _))
      · subst z1
        rw [insN_lo (by omega), spl_at, sm_spl_lo (Nat.le_refl _)]
        refine ⟨u1.trans n1.1, u2, fun j hj9 e he => ?_⟩
        rw [u3, ssp_it (Nat.le_refl _)]
        exact n1.2.2 j (by omega) e he
      · by_cases z2 : z = p + 1
        · subst z2
          rw [insN_at, spl_nx, sm_spl_at]
          refine ⟨v1.trans n1.1, by rw [v2, n1.2.1]; omega, fun j hj9 e he => ?_⟩
          rw [v3, ssp_it (Nat.le_refl _), n1.2.1]
          unfold gCp
          rw [if_pos (by omega), show ((h : Int) * 3).toNat + (j * 3 + e - 0) = (h + j) * 3 + e by omega, n1.2.2 (h + j) (by omega) e he, Nat.add_assoc]
        · obtain ⟨r, rfl⟩ : ∃ r, z = r + 1 := ⟨z - 1, by omega⟩
          rw [insN_hi (by omega), spl_hi (by omega), sm_spl_hi (by omega) r (by omega)]
          have g := hA y hy r (by omega)
          obtain ⟨x1, x2, x3⟩ := hoth (x := mb S y r) (fun q => by have := (hj _ _ _ _ hy (show r < mK S y by omega) hy a1 q).2; omega) (hb3 _ _ hy (by omega)) (fun q => by have := (hj _ _ _ _ hy (show r < mK S y by omega) (show y + 1 ≤ md S by omega) c1 q).1; omega)
          exact g.keep x1 x2 x3 (fun j _ e _ => ssp_it (Nat.le_refl _))
    · rw [ssp_ko y1] at hz
      rw [ssp_bo y1]
      have g := hA y hy z hz
      by_cases y2 : y = l + 1
      · subst y2
        rw [ssp_cu]
        by_cases z1 : z = P
        · subst z1
          rw [inc_at, sm_inc_lo (Nat.le_refl _)]
          refine ⟨w1.trans g.1, by rw [w2, g.2.1]; omega, fun j hj9 e he => ?_⟩
          rw [w3, g.2.1, e3]
          rcases Nat.lt_trichotomy (sm (mc S (l + 1)) z + j) (p + 1) with j1 | j1 | j1
          · rw [gIns_lo (by omega) he (by omega), ssp_it_lo (by omega)]
            exact g.2.2 j (by omega) e he
          · rw [j1, ssp_it_at he]
            obtain ⟨t1, t2, t3⟩ := gIns_at (f := aWf A (mb S (l + 1) z)) (ent := ((mc S (l + 1) z : Nat) : Int)) (i := (p : Int) - sm (mc S (l + 1)) z + 1) (x := aWf A (mb S l p) (h * 3)) (y := nNo b) (z := 0)
            rw [show (((p : Int) - sm (mc S (l + 1)) z + 1) * 3).toNat = j * 3 by omega] at t1 t2 t3
            match e, he with
            | 0, _ =>
              refine t1.trans ?_
              exact n1.2.2 h (by omega) 0 (by omega)
            | 1, _ =>
              refine t2.trans ?_
              unfold nNo
              rw [if_pos (by omega)]
              rfl
            | 2, _ => exact t3
          · obtain ⟨r, rfl⟩ : ∃ r, j = r + 1 := ⟨j - 1, by omega⟩
            rw [gIns_hi (by omega) he (by omega) (by omega), show sm (mc S (l + 1)) z + (r + 1) = (sm (mc S (l + 1)) z + r) + 1 by omega, ssp_it_hi (by omega) (by omega)]
            exact g.2.2 r (by omega) e he
        · rw [inc_n z1]
          obtain ⟨x1, x2, x3⟩ := hoth (x := mb S (l + 1) z) (fun q => by have := (hj _ _ _ _ hy hz (show l ≤ md S by omega) a1 q).1; omega) (hb3 _ _ hy hz) (fun q => z1 (hj _ _ _ _ hy hz hy c1 q).2)
          by_cases z2 : z < P
          · have h5 : sm (mc S (l + 1)) (z + 1) ≤ sm (mc S (l + 1)) P := sm_mono z2
            have h6 : sm (mc S (l + 1)) (z + 1) = sm (mc S (l + 1)) z + mc S (l + 1) z := rfl
            rw [sm_inc_lo (by omega)]
            exact g.keep x1 x2 x3 (fun j hj9 e _ => ssp_it_lo (by omega))
          · have h5 : sm (mc S (l + 1)) (P + 1) ≤ sm (mc S (l + 1)) z := sm_mono (by omega)
            have h6 : sm (mc S (l + 1)) (P + 1) = sm (mc S (l + 1)) P + mc S (l + 1) P := rfl
            rw [sm_inc_hi z (by omega)]
            refine g.keep x1 x2 x3 (fun j hj9 e _ => ?_)
            rw [show sm (mc S (l + 1)) z + 1 + j = (sm (mc S (l + 1)) z + j) + 1 by omega]
            exact ssp_it_hi (by omega) (by omega)
      · rw [ssp_co y1 y2]
        obtain ⟨x1, x2, x3⟩ := hoth (x := mb S y z) (fun q => y1 (hj _ _ _ _ hy hz (show l ≤ md S by omega) a1 q).1) (hb3 _ _ hy hz) (fun q => y2 (hj _ _ _ _ hy hz (show l + 1 ≤ md S by omega) c1 q).1)
        refine g.keep x1 x2 x3 (fun j _ e _ => ?_)
        by_cases y3 : y ≤ l
        · exact ssp_it y3
        · exact ssp_it2 hO (by omega)
  · have hspl : aLf (spA A t k) t = md S := sp_lf.trans hw.1
    refine ⟨hspl, fun x hx => ?_⟩
    have hx : x ≤ md S := hx
    have hx0 := hw.2 x hx
    have mo : ∀ y, y ≤ md S + 1 → y ≠ l + 1 → mQ (sSp S l (mQ S i.toNat (l + 1)) (mQ S i.toNat (l + 2)) h b) i.toNat y = mQ S i.toNat y := fun y hy hy1 => (hmQ y hy).trans (if_neg hy1)
    have ml : mQ (sSp S l (mQ S i.toNat (l + 1)) (mQ S i.toNat (l + 2)) h b) i.toNat (l + 1) = if sm (mc S l) (mQ S i.toNat (l + 1)) + h ≤ mQ S i.toNat l then mQ S i.toNat (l + 1) + 1 else mQ S i.toNat (l + 1) := (hmQ (l + 1) (by omega)).trans (if_pos rfl)
    have hcond : (h : Int) < aPl A t k + 1 ↔ sm (mc S l) (mQ S i.toNat (l + 1)) + h ≤ mQ S i.toNat l := by
      rw [e4]
      unfold pP
      by_cases h9 : k = md S
      · rw [if_pos h9]
        have hl0 : l = 0 := by omega
        subst hl0
        have z0 : mQ S i.toNat 0 = i.toNat := rfl
        have z1 : mQ S i.toNat (0 + 1) = mQ S i.toNat 1 := rfl
        rw [z0, z1]
        have : 1 ≤ h := by omega
        constructor
        · intro; omega
        · intro; omega
      · rw [if_neg h9, hl]
        omega
    have unf : spA A t k = if (h : Int) < aPl A t k + 1 then fH (spC A t k) t (gF (aWy A t) k b) (gF (gF (aPl A t) k (aPl A t k - h)) (k - 1) (aPl A t (k - 1) + 1)) (aFs A t) (aLf A t) else spC A t k := by
      unfold spA
      rw [e1, hb, hhh]
    have hrest : ∀ y, y ≠ l → y ≠ l + 1 → y ≤ md S → mb (sSp S l (mQ S i.toNat (l + 1)) (mQ S i.toNat (l + 2)) h b) y (mQ (sSp S l (mQ S i.toNat (l + 1)) (mQ S i.toNat (l + 2)) h b) i.toNat (y + 1)) = mb S y (mQ S i.toNat (y + 1)) := by
      intro y y1 y2 y3
      rw [ssp_bo y1, mo _ (by omega) (by omega)]
    generalize hS' : sSp S l (mQ S i.toNat (l + 1)) (mQ S i.toNat (l + 2)) h b = S' at *
    have hd' : md S' = md S := by rw [← hS']; rfl
    have kc : md S - (k - 1) = l + 1 := by omega
    have cl' : mc S' l = splN (mc S l) (mQ S i.toNat (l + 1)) h := by rw [← hS']; exact ssp_cl
    have cu' : mc S' (l + 1) = incN (mc S (l + 1)) (mQ S i.toNat (l + 2)) := by rw [← hS']; exact ssp_cu
    have co' : ∀ y, y ≠ l → y ≠ l + 1 → mc S' y = mc S y := fun y h1 h2 => by rw [← hS']; exact ssp_co h1 h2
    have bl' : mb S' l = insN (mb S l) (mQ S i.toNat (l + 1) + 1) b := by rw [← hS']; exact ssp_bl
    have bo' : ∀ y, y ≠ l → mb S' y = mb S y := fun y h1 => by rw [← hS']; exact ssp_bo h1
    have w0 : aWy (spC A t k) t = aWy A t := rfl
    have p0 : aPl (spC A t k) t = aPl A t := rfl
    by_cases hc : sm (mc S l) (mQ S i.toNat (l + 1)) + h ≤ mQ S i.toNat l
    · rw [if_pos (hcond.mpr hc)] at unf
      rw [if_pos hc] at ml
      rw [unf, fH_wy, fH_pl]
      by_cases x1 : x = k
      · subst x1
        refine ⟨?_, ?_⟩
        · rw [gF_s]
          unfold pW
          rw [hd', hl, ml, bl', insN_at]
        · rw [gF_n (by omega), gF_s, e4]
          unfold pP
          rw [hd']
          by_cases h9 : x = md S
          · have hl0 : l = 0 := by omega
            subst hl0
            have ml' : mQ S' i.toNat 1 = mQ S i.toNat 1 + 1 := ml
            rw [if_pos h9, if_pos h9, ml', cl', sm_spl_at]
            have z1 : sm (mc S 0) (mQ S i.toNat (0 + 1)) = sm (mc S 0) (mQ S i.toNat 1) := rfl
            omega
          · rw [if_neg h9, if_neg h9, hl, ml, cl', sm_spl_at, mo l (by omega) (by omega)]
            omega
      · by_cases x2 : x = k - 1
        · subst x2
          refine ⟨?_, ?_⟩
          · rw [gF_n x1, e2]
            unfold pW
            rw [hd', kc, mo _ (by omega) (by omega), bo' _ (by omega)]
          · rw [gF_s, e3]
            unfold pP
            rw [hd', if_neg (by omega), kc, ml, mo _ (by omega) (by omega), cu', sm_inc_lo (Nat.le_refl _)]
            omega
        · refine ⟨?_, ?_⟩
          · rw [gF_n x1, hx0.1]
            unfold pW
            rw [hd', hrest _ (by omega) (by omega) (by omega)]
          · rw [gF_n x2, gF_n x1, hx0.2]
            unfold pP
            rw [hd']
            by_cases h9 : x = md S
            · have mo1 : mQ S' i.toNat 1 = mQ S i.toNat 1 := mo 1 (by omega) (by omega)
              rw [if_pos h9, if_pos h9, mo1, co' 0 (by omega) (by omega)]
            · rw [if_neg h9, if_neg h9, mo _ (by omega) (by omega), mo _ (by omega) (by omega), co' _ (by omega) (by omega)]
    · rw [if_neg (fun z => hc (hcond.mp z))] at unf
      rw [if_neg hc] at ml
      rw [unf, w0, p0, hx0.1, hx0.2]
      have mo2 : ∀ y, y ≤ md S + 1 → mQ S' i.toNat y = mQ S i.toNat y := by
        intro y hy
        by_cases h9 : y = l + 1
        · rw [h9, ml]
        · exact mo y hy h9
      have sm2 : ∀ y, y ≤ md S → sm (mc S' y) (mQ S i.toNat (y + 1)) = sm (mc S y) (mQ S i.toNat (y + 1)) := by
        intro y hy
        by_cases h9 : y = l
        · subst h9
          rw [cl', sm_spl_lo (Nat.le_refl _)]
        · by_cases h8 : y = l + 1
          · subst h8
            rw [cu', sm_inc_lo (Nat.le_refl _)]
          · rw [co' y h9 h8]
      refine ⟨?_, ?_⟩
      · unfold pW
        rw [hd', mo2 _ (by omega)]
        by_cases h9 : md S - x = l
        · rw [h9, bl', insN_lo (by omega)]
        · rw [bo' _ h9]
      · unfold pP
        rw [hd']
        by_cases h9 : x = md S
        · have s0 := sm2 0 (by omega)
          have s0 : sm (mc S' 0) (mQ S i.toNat 1) = sm (mc S 0) (mQ S i.toNat 1) := s0
          rw [if_pos h9, if_pos h9, mo2 1 (by omega), s0]
        · rw [if_neg h9, if_neg h9, mo2 _ (by omega), mo2 _ (by omega), sm2 _ (by omega)]
  · have okM : aOk (mvA A (mb S l (mQ S i.toNat (l + 1))) h b) := aOk_mv ok (by omega) (by omega) (by omega) (by
      unfold aRm
      rw [if_pos (by omega), n1.2.1]
      omega)
    have okC : aOk (spC A t k) := by
      unfold spC spB
      rw [e1, hb, e2, hhh]
      refine aOk_ins (aOk_cb okM) q260 ?_ (aOk.wd (aOk_cb okM) (by omega) 0 0) ?_ (by omega)
      · show gF (gF (aEn A) b _) _ _ (mb S (l + 1) (mQ S i.toNat (l + 2))) < _
        rw [gF_n hqo, gF_n hqb, n2.2.1]
        show _ < ((aRm A _ : Nat) : Int)
        rw [rmq]
        omega
      · have := nNo_r (i := b) (by omega)
        omega
    unfold spA
    split
    · exact okC
    · exact okC
end
end
section
/-! a run comes into a leaf with room -/
def sIn (S : mS) (j p : Nat) (x n v w : Int) : mS := (mn S + 1, insN (ms S) j x, insN (ml S) j n, insN (mv S) j v, insN (mw S) j w, md S, mK S, mb S, gF (mc S) 0 (incN (mc S 0) p))
section
variable {A : cA} {S : mS} {t m j p : Nat} {i x n v w : Int}
theorem sin_c0 : mc (sIn S j p x n v w) 0 = incN (mc S 0) p := gF_s (mc S) 0 (incN (mc S 0) p)
theorem sin_co {k : Nat} (h : k ≠ 0) : mc (sIn S j p x n v w) k = mc S k := gF_n h
theorem sin_fr (hs : mSh S t m) (hi : -1 ≤ i ∧ i < mn S) (hp : p = mQ S i.toNat 1) (hn : 0 < mn S) : ∀ k, k ≤ md S → ∀ q, fr (mc (sIn S j p x n v w)) (k + 1) q = if q ≤ mQ S i.toNat (k + 1) then fr (mc S) (k + 1) q else fr (mc S) (k + 1) q + 1 := by
  intro k
  induction k with
  | zero =>
    intro _ q
    show sm (mc (sIn S j p x n v w) 0) q = if q ≤ mQ S i.toNat 1 then sm (mc S 0) q else sm (mc S 0) q + 1
    rw [sin_c0, hp]
    by_cases h : q ≤ mQ S i.toNat 1
    · rw [if_pos h, sm_inc_lo h]
    · rw [if_neg h, sm_inc_hi q (by omega)]
  | succ k ih =>
    intro hk q
    show fr (mc (sIn S j p x n v w)) (k + 1) (sm (mc (sIn S j p x n v w) (k + 1)) q) = if q ≤ mQ S i.toNat (k + 1 + 1) then fr (mc S) (k + 1) (sm (mc S (k + 1)) q) else fr (mc S) (k + 1) (sm (mc S (k + 1)) q) + 1
    rw [sin_co (by omega), ih (by omega)]
    obtain ⟨a1, a2, a3⟩ := mQ_in hs (i := i.toNat) (by omega) hk
    by_cases h : q ≤ mQ S i.toNat (k + 1 + 1)
    · have : sm (mc S (k + 1)) q ≤ sm (mc S (k + 1)) (mQ S i.toNat (k + 1 + 1)) := sm_mono h
      rw [if_pos h, if_pos (by omega)]
    · have h1 : sm (mc S (k + 1)) (mQ S i.toNat (k + 1 + 1) + 1) ≤ sm (mc S (k + 1)) q := sm_mono (by omega)
      have h2 : sm (mc S (k + 1)) (mQ S i.toNat (k + 1 + 1) + 1) = sm (mc S (k + 1)) (mQ S i.toNat (k + 1 + 1)) + mc S (k + 1) (mQ S i.toNat (k + 1 + 1)) := rfl
      rw [if_neg h, if_neg (by omega)]
theorem sin_sh (hs : mSh S t m) (hp : p < mK S 0) (hroom : mc S 0 p < if 0 = md S then 4 else m) : mSh (sIn S j p x n v w) t m := by
  obtain ⟨s1, s2, s3, s4, s5, s6, s7⟩ := hs
  refine ⟨s1, s2, s3, fun k hk => ?_, fun k hk q hq => ?_, ?_, ?_⟩
  · have hk : k ≤ md S := hk
    have e := s4 k hk
    cases k with
    | zero =>
      show sm (mc (sIn S j p x n v w) 0) (mK S 0) = mn S + 1
      rw [sin_c0, sm_inc_hi _ hp, e]
      rfl
    | succ k =>
      show sm (mc (sIn S j p x n v w) (k + 1)) (mK S (k + 1)) = mK S k
      rw [sin_co (by omega)]
      exact e
  · have hk : k < md S := hk
    have hq : q < mK S k := hq
    have w := s5 k hk q hq
    cases k with
    | zero =>
      rw [sin_c0]
      by_cases h : q = p
      · subst h
        rw [inc_at]
        rw [if_neg (by omega)] at hroom
        exact ⟨by omega, by omega, w.2.2⟩
      · rw [inc_n h]
        exact w
    | succ k =>
      rw [sin_co (by omega)]
      exact w
  · show mc (sIn S j p x n v w) (md S) 0 ≤ 4
    by_cases h : md S = 0
    · rw [h] at s2 s6 ⊢
      rw [sin_c0, show p = 0 by omega, inc_at]
      rw [if_pos h.symm, show p = 0 by omega] at hroom
      omega
    · rw [sin_co h]
      exact s6
  · intro hd
    have hd : 0 < md S := hd
    show 1 ≤ mc (sIn S j p x n v w) (md S) 0
    rw [sin_co (by omega)]
    exact s7 hd
theorem sin_it (hs : mSh S t m) (hi : -1 ≤ i ∧ i < mn S) (hj : (j : Int) = i + 1) (hp : p = mQ S i.toNat 1) {y z e : Nat} (hy : y + 1 ≤ md S) (hz : z < mK S y) (he : ¬ (e = 0 ∧ z = mQ S i.toNat (y + 1))) : it (sIn S j p x n v w) (y + 1) z e = it S (y + 1) z e := by
  have hn : 0 < mn S := hs.npos (by omega)
  by_cases he0 : e = 0
  · subst he0
    show insN (ms S) j x (fr (mc (sIn S j p x n v w)) (y + 1) z) = ms S (fr (mc S) (y + 1) z)
    rw [sin_fr hs hi hp hn y (by omega)]
    have hin : i.toNat < mn S := by omega
    obtain ⟨c1, c2⟩ := mQ_fr hs hin (y + 1) (by omega)
    have hql := mQ_lt hs hin (y + 1) (by omega)
    by_cases h : z ≤ mQ S i.toNat (y + 1)
    · have h3 := fr_lt hs hn (y + 1) (by omega) z (mQ S i.toNat (y + 1)) (by omega) (Nat.le_of_lt hql)
      rw [if_pos h, insN_lo (by omega)]
    · have h3 := fr_le hs hn (l := y + 1) (a := mQ S i.toNat (y + 1) + 1) (b := z) (by omega) (by omega) (Nat.le_of_lt hz)
      rw [if_neg h, insN_hi (by omega)]
  · unfold it
    rw [if_neg he0, if_neg he0]
    rfl
set_option maxHeartbeats 1000000 in
theorem ab_ins (ok : aOk A) (ht : t < 4) (hs : mSh S t (aM A)) (hj : mInj S) (ha : mAb A t S) (hw : WyTo A t S i) (hi : -1 ≤ i ∧ i < mn S) (hjj : (j : Int) = i + 1) (hp : p = mQ S i.toNat 1) (hroom : mc S 0 p < if 0 = md S then 4 else aM A) (hx : 0 ≤ x ∧ x ≤ 65536) (hn : 0 ≤ n ∧ n ≤ 32768) (hv : 0 ≤ v ∧ v ≤ 16777216) (hww : w = 0 ∨ w = 1) :
    LeafOk A t (md S) ∧ mAb (irF A t (md S) x n v w) t (sIn S j p x n v w) ∧ aOk (irF A t (md S) x n v w) := by
  have hA := ab_nd.mp ha
  have hP : ∀ k, k ≤ md S → _ := fun k hk => pP_b hs hi hk
  have eW : ∀ k, k ≤ md S → aWy A t k = mb S (md S - k) (mQ S i.toNat (md S - k + 1)) := fun k hk => (hw.2 k hk).1
  have eP : ∀ k, k ≤ md S → aPl A t k = pP S i k := fun k hk => (hw.2 k hk).2
  obtain ⟨p1, p2, p3, -⟩ := hP (md S) (Nat.le_refl _)
  rw [Nat.sub_self] at p1 p3
  have p1 : mQ S i.toNat 1 < mK S 0 := p1
  have p3 : pP S i (md S) + 1 ≤ mc S 0 (mQ S i.toNat 1) := p3
  rw [← hp] at p1 p3
  have eWd : aWy A t (md S) = mb S 0 p := by
    rw [eW _ (Nat.le_refl _), Nat.sub_self, hp]
  have eP0 : pP S i (md S) = i - sm (mc S 0) p := by
    unfold pP
    rw [if_pos rfl, hp]
  have w260 : ∀ k, k ≤ md S → aWy A t k < 260 := fun k hk => by
    rw [eW k hk]
    exact hs.bl ht (by omega) (hP k hk).1
  have n0 := hA 0 (by omega) p p1
  have rm0 : aRm A (mb S 0 p) = if 0 = md S then 4 else aM A := by
    unfold aRm
    by_cases h9 : 0 = md S
    · have h8 := hs.2.1
      have h7 := hs.2.2.1
      rw [← h9] at h8 h7
      rw [if_pos h9, show p = 0 by omega, h7, if_neg (by omega)]
    · have := (hs.2.2.2.2.1 0 (by omega) _ p1).2.2.2
      rw [if_neg h9, if_pos (by omega)]
  have hmk : 0 ≤ (if w = 1 then n else n + 32768) ∧ (if w = 1 then n else n + 32768) ≤ 16777216 := by
    split <;> omega
  have hL : LeafOk A t (md S) := by
    refine ⟨ok, by have := hs.1; omega, hw.1, w260, fun k hk => ?_, ?_, ?_⟩
    · obtain ⟨g1, g2, g3, g4⟩ := hP k (by omega)
      obtain ⟨g5, g6⟩ := g4 hk
      refine ⟨by rw [eP k (by omega)]; exact g6, ?_, ?_⟩
      · rw [eP k (by omega), eW k (by omega), (hA _ (by omega) _ g1).2.1]
        have hin : i.toNat < mn S := by
          have := hs.npos (by omega)
          omega
        obtain ⟨z1, z2, z3⟩ := mQ_in hs hin (show md S - k ≤ md S by omega)
        omega
      · rw [eW k (by omega), eWd]
        intro q
        have := (hj _ _ _ _ (by omega) g1 (Nat.zero_le _) p1 q).1
        omega
    · rw [eWd, n0.2.1, rm0]
      omega
    · rw [eWd, n0.2.1, eP _ (Nat.le_refl _)]
      omega
  have okI : aOk (irI A t (md S) x n v w) := by
    unfold irI
    refine aOk_ins ok (w260 _ (Nat.le_refl _)) ?_ (by omega) hmk (by omega)
    rw [eWd, n0.2.1, rm0]
    omega
  refine ⟨hL, ?_, ?_⟩
  · have key : mAb (rfA (irI A t (md S) x n v w) t (md S)) t (sIn S j p x n v w) := by
      have wI : aWy (irI A t (md S) x n v w) t = aWy A t := rfl
      have pI : aPl (irI A t (md S) x n v w) t = aPl A t := rfl
      refine rf_fix (S := sIn S j p x n v w) (R := fun l => mQ S i.toNat (l + 1)) hj ⟨fun l hl => ?_, fun l hl => ?_⟩ (fun l hl => ?_) (md S) _ (Nat.le_refl _) (fun k hk => ?_) (fun k hk => ?_) (fun l hl z hz => ?_)
      · have hl : l ≤ md S := hl
        have := (hP (md S - l) (by omega)).1
        rw [show md S - (md S - l) = l by omega] at this
        exact this
      · have hl : l < md S := hl
        have hin : i.toNat < mn S := by
          have := hs.npos (by omega)
          omega
        rw [sin_co (by omega)]
        exact ⟨(mQ_in hs hin (show l + 1 ≤ md S by omega)).2.1, (mQ_in hs hin (show l + 1 ≤ md S by omega)).2.2⟩
      · have hl : l < md S := hl
        have hn0 : 0 < mn S := hs.npos (by omega)
        have hin : i.toNat < mn S := by omega
        have g := hs.pos hn0 (show l ≤ md S by omega) (mQ_in hs hin (show l ≤ md S by omega)).1
        cases l with
        | zero =>
          rw [sin_c0]
          show 1 ≤ incN (mc S 0) p (mQ S i.toNat 1)
          rw [← hp, inc_at]
          omega
        | succ l =>
          rw [sin_co (by omega)]
          exact g
      · have hk : k ≤ md S := hk
        rw [wI, eW k hk]
        rfl
      · have hk : k < md S := hk
        rw [pI, eP k (by omega), ((hP k (by omega)).2.2.2 hk).1]
        show _ = ((mQ S i.toNat (md S - k - 1 + 1) : Nat) : Int) - (sm (mc (sIn S j p x n v w) (md S - k)) (mQ S i.toNat (md S - k + 1)) : Nat)
        rw [sin_co (by omega), show md S - k - 1 + 1 = md S - k by omega]
      · have hl : l ≤ md S := hl
        have hz : z < mK S l := hz
        have g := hA l hl z hz
        have ho := hs.off hl hz
        refine ndx_m ?_
        show NdX _ (mb S l z) (sIn S j p x n v w) l (mc (sIn S j p x n v w) l z) (sm (mc (sIn S j p x n v w) l) z) _
        cases l with
        | zero =>
          rw [sin_c0]
          refine Nd.X ?_ _
          have it0 : ∀ y e, it (sIn S j p x n v w) 0 y e = if e = 0 then insN (ms S) j x y else if e = 1 then insN (ml S) j n y + (1 - insN (mw S) j w y) * 32768 else insN (mv S) j v y := fun y e => rfl
          by_cases z1 : z = p
          · subst z1
            rw [inc_at, sm_inc_lo (Nat.le_refl _)]
            have f1 : aWf (irI A t (md S) x n v w) (mb S 0 z) = gIns (aWf A (mb S 0 z)) (mc S 0 z) (i - sm (mc S 0) z + 1) x (if w = 1 then n else n + 32768) v := by
              unfold irI
              rw [eWd, eP _ (Nat.le_refl _), eP0, ← g.2.1]
              exact gF_s _ _ _
            refine ⟨?_, ?_, fun y hy e he => ?_⟩
            · unfold irI
              rw [eWd]
              exact (gF_s _ _ _).trans g.1
            · unfold irI
              rw [eWd]
              refine (gF_s _ _ _).trans ?_
              show aEn A (mb S 0 z) + 1 = _
              rw [g.2.1]
              omega
            · rw [f1, it0]
              rcases Nat.lt_trichotomy (sm (mc S 0) z + y) j with y1 | y1 | y1
              · rw [gIns_lo (by omega) he (by omega), insN_lo y1, insN_lo y1, insN_lo y1, insN_lo y1, g.2.2 y (by omega) e he]
                rfl
              · obtain ⟨t1, t2, t3⟩ := gIns_at (f := aWf A (mb S 0 z)) (ent := ((mc S 0 z : Nat) : Int)) (i := i - sm (mc S 0) z + 1) (x := x) (y := if w = 1 then n else n + 32768) (z := v)
                rw [show ((i - sm (mc S 0) z + 1) * 3).toNat = y * 3 by omega] at t1 t2 t3
                rw [y1, insN_at, insN_at, insN_at, insN_at]
                match e, he with
                | 0, _ => exact t1
                | 1, _ =>
                  refine t2.trans ?_
                  show _ = n + (1 - w) * 32768
                  rcases hww with h9 | h9 <;> rw [h9]
                  · rw [if_neg (by decide)]
                    omega
                  · rw [if_pos rfl]
                    omega
                | 2, _ => exact t3
              · obtain ⟨r, rfl⟩ : ∃ r, y = r + 1 := ⟨y - 1, by omega⟩
                rw [gIns_hi (by omega) he (by omega) (by omega), show sm (mc S 0) z + (r + 1) = (sm (mc S 0) z + r) + 1 by omega, insN_hi (by omega), insN_hi (by omega), insN_hi (by omega), insN_hi (by omega), g.2.2 r (by omega) e he]
                rfl
          · have hne : mb S 0 z ≠ mb S 0 p := fun q => z1 (hj _ _ _ _ (Nat.zero_le _) hz (Nat.zero_le _) p1 q).2
            rw [inc_n z1]
            refine g.keep ?_ ?_ ?_ (fun y hy e he => ?_)
            · unfold irI
              rw [eWd]
              exact gF_n hne
            · unfold irI
              rw [eWd]
              exact gF_n hne
            · unfold irI
              rw [eWd]
              exact gF_n hne
            · rw [it0]
              by_cases z2 : z < p
              · have h5 : sm (mc S 0) (z + 1) ≤ sm (mc S 0) p := sm_mono z2
                have h6 : sm (mc S 0) (z + 1) = sm (mc S 0) z + mc S 0 z := rfl
                have y1 : sm (mc S 0) z + y < j := by omega
                rw [sm_inc_lo (by omega), insN_lo y1, insN_lo y1, insN_lo y1, insN_lo y1]
                rfl
              · have h5 : sm (mc S 0) (p + 1) ≤ sm (mc S 0) z := sm_mono (by omega)
                have h6 : sm (mc S 0) (p + 1) = sm (mc S 0) p + mc S 0 p := rfl
                have y1 : j ≤ sm (mc S 0) z + y := by omega
                rw [sm_inc_hi z (by omega), show sm (mc S 0) z + 1 + y = (sm (mc S 0) z + y) + 1 by omega, insN_hi y1, insN_hi y1, insN_hi y1, insN_hi y1]
                rfl
        | succ l =>
          rw [sin_co (by omega)]
          have hne : mb S (l + 1) z ≠ mb S 0 p := fun q => by
            have := (hj _ _ _ _ hl hz (Nat.zero_le _) p1 q).1
            omega
          refine ⟨?_, ?_, fun y hy e he hex => ?_⟩
          · unfold irI
            rw [eWd]
            exact (gF_n hne).trans g.1
          · unfold irI
            rw [eWd]
            exact (gF_n hne).trans g.2.1
          · have f1 : aWf (irI A t (md S) x n v w) (mb S (l + 1) z) = aWf A (mb S (l + 1) z) := by
              unfold irI
              rw [eWd]
              exact gF_n hne
            rw [f1, g.2.2 y hy e he, sin_it hs hi hjj hp hl (by have : mI S (l + 1) = mK S l := rfl; omega)]
            intro q
            refine hex ⟨q.1, ?_, ?_, ?_⟩
            · show md S - md S < l + 1
              omega
            · have hin : i.toNat < mn S := by
                have := hs.npos (by omega)
                omega
              obtain ⟨z1, z2, z3⟩ := mQ_in hs hin hl
              exact lc_uniq (f := mc S (l + 1)) (K := mK S (l + 1)) (q := mQ S i.toNat (l + 1)) (by omega) (by omega) z2 z3
            · show sm (mc S (l + 1)) z + y = mQ S i.toNat (l + 1 - 1 + 1)
              rw [show l + 1 - 1 + 1 = l + 1 by omega]
              exact q.2
    exact key
  · exact aOk_rf (md S) okI w260
end
end
section
/-! the root goes into a block, and has it as its one entry -/
def sGw (S : mS) (t b : Nat) : mS := (mn S, ms S, ml S, mv S, mw S, md S + 1, gF (mK S) (md S + 1) 1, gF (gF (mb S) (md S) (fun _ => b)) (md S + 1) (fun _ => 256 + t), gF (mc S) (md S + 1) (fun _ => 1))
section
variable {A : cA} {S : mS} {t m b : Nat} {i : Int}
theorem sgw_kt : mK (sGw S t b) (md S + 1) = 1 := gF_s _ _ _
theorem sgw_ko {k : Nat} (h : k ≤ md S) : mK (sGw S t b) k = mK S k := gF_n (by omega)
theorem sgw_ct : mc (sGw S t b) (md S + 1) = fun _ => 1 := gF_s _ _ _
theorem sgw_co {k : Nat} (h : k ≤ md S) : mc (sGw S t b) k = mc S k := gF_n (by omega)
theorem sgw_bt : mb (sGw S t b) (md S + 1) = fun _ => 256 + t := gF_s _ _ _
theorem sgw_bd : mb (sGw S t b) (md S) = fun _ => b := by
  show gF (gF (mb S) (md S) _) (md S + 1) _ (md S) = _
  rw [gF_n (by omega), gF_s]
theorem sgw_bo {k : Nat} (h : k < md S) : mb (sGw S t b) k = mb S k := by
  show gF (gF (mb S) (md S) _) (md S + 1) _ k = _
  rw [gF_n (by omega), gF_n (by omega)]
theorem sgw_fr {k : Nat} (h : k ≤ md S + 1) (q : Nat) : fr (mc (sGw S t b)) k q = fr (mc S) k q := fr_congr k (fun j hj => sgw_co (by omega)) q
theorem sgw_sh (hs : mSh S t m) (hd : md S < 5) (hm : 4 ≤ m) (hb : 1 ≤ b ∧ b ≤ 255) (hr : 1 ≤ mc S (md S) 0) : mSh (sGw S t b) t m := by
  obtain ⟨s1, s2, s3, s4, s5, s6, s7⟩ := hs
  refine ⟨?_, ?_, ?_, fun k hk => ?_, fun k hk q hq => ?_, ?_, ?_⟩
  · show md S + 1 ≤ 5
    omega
  · exact sgw_kt
  · show mb (sGw S t b) (md S + 1) 0 = _
    rw [sgw_bt]
  · have hk : k ≤ md S + 1 := hk
    by_cases h1 : k = md S + 1
    · subst h1
      rw [sgw_ct, sgw_kt]
      show 0 + 1 = mK (sGw S t b) (md S)
      rw [sgw_ko (Nat.le_refl _), s2]
    · rw [sgw_co (by omega), sgw_ko (by omega), s4 k (by omega)]
      cases k with
      | zero => rfl
      | succ k =>
        show mK S k = mK (sGw S t b) k
        rw [sgw_ko (by omega)]
  · have hk : k < md S + 1 := hk
    rw [sgw_ko (by omega)] at hq
    rw [sgw_co (by omega)]
    by_cases h1 : k = md S
    · subst h1
      rw [sgw_bd, show q = 0 by omega]
      exact ⟨hr, by omega, hb.1, hb.2⟩
    · rw [sgw_bo (by omega)]
      exact s5 k (by omega) q hq
  · show mc (sGw S t b) (md S + 1) 0 ≤ 4
    rw [sgw_ct]
    decide
  · intro _
    show 1 ≤ mc (sGw S t b) (md S + 1) 0
    rw [sgw_ct]
    exact Nat.le_refl _
/-- the nodes: the root, the new block, the old ones -/
theorem sgw_old (hs : mSh S t m) {k q : Nat} (hk : k ≤ md S + 1) (hq : q < mK (sGw S t b) k) : (k = md S + 1 ∧ q = 0 ∧ mb (sGw S t b) k q = 256 + t) ∨ (k = md S ∧ q = 0 ∧ mb (sGw S t b) k q = b) ∨ (k < md S ∧ q < mK S k ∧ mb (sGw S t b) k q = mb S k q) := by
  by_cases h1 : k = md S + 1
  · subst h1
    rw [sgw_kt] at hq
    rw [sgw_bt]
    exact Or.inl ⟨rfl, by omega, rfl⟩
  · rw [sgw_ko (by omega)] at hq
    by_cases h2 : k = md S
    · subst h2
      rw [hs.2.1] at hq
      rw [sgw_bd]
      exact Or.inr (Or.inl ⟨rfl, by omega, rfl⟩)
    · rw [sgw_bo (by omega)]
      exact Or.inr (Or.inr ⟨by omega, hq, rfl⟩)
theorem sgw_inj (hs : mSh S t m) (hj : mInj S) (hb : 1 ≤ b ∧ b ≤ 255) (hb3 : ∀ k q, k ≤ md S → q < mK S k → mb S k q ≠ b) : mInj (sGw S t b) := by
  intro k q k' q' hk hq hk' hq' e
  rcases sgw_old hs hk hq with ⟨a1, a2, a3⟩ | ⟨a1, a2, a3⟩ | ⟨a1, a2, a3⟩ <;> rcases sgw_old hs hk' hq' with ⟨b1, b2, b3⟩ | ⟨b1, b2, b3⟩ | ⟨b1, b2, b3⟩ <;> rw [a3, b3] at e
  · exact ⟨by omega, by omega⟩
  · omega
  · have := (hs.2.2.2.2.1 k' b1 q' b2).2.2.2
    omega
  · omega
  · exact ⟨by omega, by omega⟩
  · exact absurd e.symm (hb3 _ _ (by omega) b2)
  · have := (hs.2.2.2.2.1 k a1 q a2).2.2.2
    omega
  · exact absurd e (hb3 _ _ (by omega) a2)
  · exact hj _ _ _ _ (by omega) a2 (by omega) b2 e
theorem sgw_mQ (hs : mSh S t m) (hs' : mSh (sGw S t b) t m) {j : Nat} (hj : j < mn S) : (∀ k, k ≤ md S + 1 → mQ (sGw S t b) j k = mQ S j k) ∧ mQ (sGw S t b) j (md S + 2) = 0 := by
  have ht := mQ_top hs hj
  have key := mQ_is hs' (i := j) hj (fun k => if k = md S + 2 then 0 else mQ S j k) (if_neg (by omega)) (fun k hk => by
    have hk : k ≤ md S + 1 := hk
    by_cases h1 : k = md S + 1
    · subst h1
      rw [if_pos rfl, if_neg (by omega), sgw_ct, ht]
      exact ⟨Nat.le_refl _, by decide⟩
    · rw [if_neg (by omega), if_neg (by omega), sgw_co (by omega)]
      exact (mQ_in hs hj (show k ≤ md S by omega)).2)
  refine ⟨fun k hk => ?_, ?_⟩
  · rw [key k (show k ≤ md S + 1 + 1 by omega)]
    exact if_neg (by omega)
  · rw [key (md S + 2) (Nat.le_refl _)]
    exact if_pos rfl
theorem gw_same {l : Nat} : aDp (gw2 (gw1 A t b) t l b) = aDp (gw1 A t b) ∧ aEn (gw2 (gw1 A t b) t l b) = aEn (gw1 A t b) ∧ aWf (gw2 (gw1 A t b) t l b) = aWf (gw1 A t b) ∧ aTk (gw2 (gw1 A t b) t l b) = aTk (gw1 A t b) := ⟨rfl, rfl, rfl, rfl⟩
set_option maxHeartbeats 1000000 in
theorem ab_grow (ok : aOk A) (ht : t < 4) (hs : mSh S t (aM A)) (hj : mInj S) (ha : mAb A t S) (hw : WyTo A t S i) (hi : -1 ≤ i ∧ i < mn S) (hd : md S < 5) (hr : 1 ≤ mc S (md S) 0) (hb2 : 1 ≤ b ∧ b ≤ 255) (hb3 : ∀ k q, k ≤ md S → q < mK S k → mb S k q ≠ b) :
    mAb (gw2 (gw1 A t b) t (md S) b) t (sGw S t b) ∧ WyTo (gw2 (gw1 A t b) t (md S) b) t (sGw S t b) i ∧ aOk (gw2 (gw1 A t b) t (md S) b) := by
  have hA := ab_nd.mp ha
  have hm := ok.1
  have hs' := sgw_sh (b := b) hs hd (by omega) hb2 hr
  have n0 := hA (md S) (Nat.le_refl _) 0 (by have := hs.2.1; omega)
  rw [hs.2.2.1] at n0
  have hne : b ≠ 256 + t := by omega
  have hn : 0 < mn S := by
    by_cases h9 : 0 < md S
    · exact hs.npos h9
    · have h8 := hs.off (Nat.le_refl (md S)) (show 0 < mK S (md S) by have := hs.2.1; omega)
      have h7 : md S = 0 := by omega
      rw [h7] at h8 hr
      have h6 : mI S 0 = mn S := rfl
      omega
  have c4 := hs.2.2.2.2.2.1
  have b1 : aDp (gw1 A t b) b = md S := by
    show gF (gF (gF (gF (aDp A) b (aDp A (256 + t))) (256 + t) _) (256 + t) _) (256 + t) _ b = _
    rw [gF_n hne, gF_n hne, gF_n hne, gF_s]
    exact n0.1
  have b2 : aEn (gw1 A t b) b = mc S (md S) 0 := by
    show gF (gF (gF (gF (aEn A) b (aEn A (256 + t) - 0)) (256 + t) _) (256 + t) _) (256 + t) _ b = _
    rw [gF_n hne, gF_n hne, gF_n hne, gF_s, n0.2.1]
    omega
  have b3 : aWf (gw1 A t b) b = gCp (aWf A (256 + t)) (aWf A b) 0 0 (mc S (md S) 0 * 3) := by
    show gF (gF (aWf A) b (gCp (aWf A (256 + t)) (aWf A b) ((0 : Int) * 3).toNat 0 ((aEn A (256 + t) - 0) * 3).toNat)) (256 + t) _ b = _
    rw [gF_n hne, gF_s, n0.2.1]
    congr 1
  have r1 : aDp (gw1 A t b) (256 + t) = md S + 1 := by
    show gF (gF (gF (gF (aDp A) b (aDp A (256 + t))) (256 + t) (aDp A (256 + t))) (256 + t) (gF (gF (aDp A) b (aDp A (256 + t))) (256 + t) (aDp A (256 + t)) b + 1)) (256 + t) (gF (gF (gF (aDp A) b (aDp A (256 + t))) (256 + t) (aDp A (256 + t))) (256 + t) (gF (gF (aDp A) b (aDp A (256 + t))) (256 + t) (aDp A (256 + t)) b + 1) (256 + t)) (256 + t) = _
    rw [gF_s, gF_s, gF_n hne, gF_s, n0.1]
  have r2 : aEn (gw1 A t b) (256 + t) = 1 := by
    show gF (gF (gF (gF (aEn A) b (aEn A (256 + t) - 0)) (256 + t) 0) (256 + t) (gF (gF (aEn A) b (aEn A (256 + t) - 0)) (256 + t) 0 (256 + t))) (256 + t) (gF (gF (gF (aEn A) b (aEn A (256 + t) - 0)) (256 + t) 0) (256 + t) (gF (gF (aEn A) b (aEn A (256 + t) - 0)) (256 + t) 0 (256 + t)) (256 + t) + 1) (256 + t) = _
    rw [gF_s, gF_s, gF_s]
    rfl
  have r3 : aWf (gw1 A t b) (256 + t) = gIns (aWf A (256 + t)) 0 0 (aWf A (256 + t) 0) b 0 := by
    have q1 : aWf (gwC A t b) b = gCp (aWf A (256 + t)) (aWf A b) 0 0 (mc S (md S) 0 * 3) := by
      show gF (aWf A) b (gCp (aWf A (256 + t)) (aWf A b) ((0 : Int) * 3).toNat 0 ((aEn A (256 + t) - 0) * 3).toNat) b = _
      rw [gF_s, n0.2.1]
      congr 1
    have q2 : aEn (gwC A t b) b = mc S (md S) 0 := by
      show gF (gF (gF (aEn A) b (aEn A (256 + t) - 0)) (256 + t) _) (256 + t) _ b = _
      rw [gF_n hne, gF_n hne, gF_s, n0.2.1]
      omega
    have q3 : aEn (gwC A t b) (256 + t) = 0 := by
      show gF (gF (gF (aEn A) b (aEn A (256 + t) - 0)) (256 + t) 0) (256 + t) (gF (gF (aEn A) b (aEn A (256 + t) - 0)) (256 + t) 0 (256 + t)) (256 + t) = _
      rw [gF_s, gF_s]
    have q4 : aWf (gwC A t b) (256 + t) = aWf A (256 + t) := by
      show gF (aWf A) b _ (256 + t) = _
      rw [gF_n (Ne.symm hne)]
    have q5 : gWd (aWf (gwC A t b) b) (aEn (gwC A t b) b) 0 0 = aWf A (256 + t) 0 := by
      rw [q1, q2, gWd_in (by omega)]
      unfold gCp
      rw [if_pos (by omega)]
      congr 1
    show gF (aWf (gwC A t b)) (256 + t) (gIns (aWf (gwC A t b) (256 + t)) (aEn (gwC A t b) (256 + t)) 0 (gWd (aWf (gwC A t b) b) (aEn (gwC A t b) b) 0 0) (nNo b) 0) (256 + t) = _
    rw [gF_s, q3, q4, q5]
    unfold nNo
    rw [if_pos (by omega)]
  have oth : ∀ x, x ≠ b → x ≠ 256 + t → aDp (gw1 A t b) x = aDp A x ∧ aEn (gw1 A t b) x = aEn A x ∧ aWf (gw1 A t b) x = aWf A x := by
    intro x x1 x2
    refine ⟨?_, ?_, ?_⟩
    · show gF (gF (gF (gF (aDp A) b _) (256 + t) _) (256 + t) _) (256 + t) _ x = _
      rw [gF_n x2, gF_n x2, gF_n x2, gF_n x1]
    · show gF (gF (gF (gF (aEn A) b _) (256 + t) _) (256 + t) _) (256 + t) _ x = _
      rw [gF_n x2, gF_n x2, gF_n x2, gF_n x1]
    · show gF (gF (aWf A) b _) (256 + t) _ x = _
      rw [gF_n x2, gF_n x1]
  have its : ∀ y x e, y ≤ md S → it (sGw S t b) y x e = it S y x e := by
    intro y x e hy
    refine it_eq ?_ ?_ ?_
    · rw [sgw_fr (by omega)]
      rfl
    · cases y with
      | zero => rfl
      | succ y =>
        show ((mb (sGw S t b) y x : Nat) : Int) = _
        rw [sgw_bo (by omega)]
        rfl
    · cases y <;> rfl
  refine ⟨?_, ?_, ?_⟩
  · refine ab_nd.mpr (fun k hk q hq => ?_)
    have hk : k ≤ md S + 1 := hk
    show Nd (gw1 A t b) _ _ _ _ _
    by_cases h1 : k = md S + 1
    · subst h1
      rw [sgw_kt] at hq
      rw [show q = 0 by omega, sgw_bt, sgw_ct]
      refine ⟨r1, r2, fun j hj9 e he => ?_⟩
      have hj9 : j < 1 := hj9
      rw [show j = 0 by omega, r3]
      obtain ⟨t1, t2, t3⟩ := gIns_at (f := aWf A (256 + t)) (ent := 0) (i := 0) (x := aWf A (256 + t) 0) (y := (b : Int)) (z := 0)
      match e, he with
      | 0, _ =>
        refine t1.trans ?_
        have g := n0.2.2 0 (by omega) 0 (by omega)
        have g : aWf A (256 + t) 0 = ms S (fr (mc S) (md S) 0) := g
        rw [g, fr_0]
        show _ = ms S (fr (mc (sGw S t b)) (md S + 1) 0)
        rw [fr_0]
      | 1, _ =>
        refine t2.trans ?_
        show _ = ((mb (sGw S t b) (md S) 0 : Nat) : Int)
        rw [sgw_bd]
      | 2, _ => exact t3
    · rw [sgw_ko (by omega)] at hq
      rw [sgw_co (by omega)]
      by_cases h2 : k = md S
      · subst h2
        rw [sgw_bd]
        rw [hs.2.1] at hq
        rw [show q = 0 by omega]
        refine ⟨b1, b2, fun j hj9 e he => ?_⟩
        rw [b3, its _ _ _ (Nat.le_refl _)]
        unfold gCp
        rw [if_pos (by omega), show 0 + (j * 3 + e - 0) = j * 3 + e by omega]
        exact n0.2.2 j hj9 e he
      · rw [sgw_bo (by omega)]
        have g := hA k (by omega) q hq
        obtain ⟨x1, x2, x3⟩ := oth (mb S k q) (hb3 _ _ (by omega) hq) (by have := (hs.2.2.2.2.1 k (by omega) q hq).2.2.2; omega)
        exact g.keep x1 x2 x3 (fun j _ e _ => its _ _ _ (by omega))
  · have hin : i.toNat < mn S := by omega
    obtain ⟨m1, m2⟩ := sgw_mQ hs hs' hin
    refine ⟨by show aLf (fH _ t _ _ _ _) t = _; rw [fH_lf]; rfl, fun x hx => ?_⟩
    have hx : x ≤ md S + 1 := hx
    show aWy (fH (gw1 A t b) t (gF (shf (aWy A t) 0 (md S)) 1 b) (gF (gF (shf (aPl A t) 0 (md S)) 1 (aPl A t 0)) 0 0) _ _) t x = _ ∧ aPl (fH (gw1 A t b) t _ (gF (gF (shf (aPl A t) 0 (md S)) 1 (aPl A t 0)) 0 0) _ _) t x = _
    rw [fH_wy, fH_pl]
    have hd' : md (sGw S t b) = md S + 1 := rfl
    match x, hx with
    | 0, _ =>
      refine ⟨?_, ?_⟩
      · rw [gF_n (by decide), shf_lo _ (by omega), (hw.2 0 (by omega)).1]
        unfold pW
        rw [hd', Nat.sub_zero, Nat.sub_zero, mQ_top hs hin, m2, sgw_bt, hs.2.2.1]
      · rw [gF_s]
        unfold pP
        rw [hd', if_neg (by omega), Nat.sub_zero, m1 _ (Nat.le_refl _), m2, mQ_top hs hin]
        rfl
    | 1, _ =>
      refine ⟨?_, ?_⟩
      · rw [gF_s]
        unfold pW
        rw [hd', show md S + 1 - 1 = md S by omega, sgw_bd]
      · rw [gF_n (by decide), gF_s, (hw.2 0 (by omega)).2]
        unfold pP
        rw [hd']
        by_cases h9 : 0 = md S
        · rw [if_pos h9, if_pos (by omega), m1 1 (by omega), sgw_co (by omega)]
        · rw [if_neg h9, if_neg (by omega), show md S + 1 - 1 = md S by omega, Nat.sub_zero, m1 _ (by omega), m1 _ (by omega), sgw_co (by omega)]
    | x + 2, hx =>
      have es : ∀ {α : Type} (f : Nat → α), shf f 0 (md S) (x + 2) = f (x + 1) := fun f => if_pos (by omega)
      refine ⟨?_, ?_⟩
      · rw [gF_n (by omega), es, (hw.2 (x + 1) (by omega)).1]
        unfold pW
        rw [hd', show md S + 1 - (x + 2) = md S - (x + 1) by omega, m1 _ (by omega), sgw_bo (by omega)]
      · rw [gF_n (by omega), gF_n (by omega), es, (hw.2 (x + 1) (by omega)).2]
        unfold pP
        rw [hd']
        by_cases h9 : x + 1 = md S
        · rw [if_pos h9, if_pos (by omega), m1 1 (by omega), sgw_co (by omega)]
        · rw [if_neg h9, if_neg (by omega), show md S + 1 - (x + 2) = md S - (x + 1) by omega, m1 _ (by omega), m1 _ (by omega), sgw_co (by omega)]
  · have hrr : 256 + t < 260 := by omega
    have e4 : aRm A (256 + t) = 4 := if_neg (by omega)
    have rk := ok.2.2 _ hrr
    have rmb := ok.rm b
    have okB : aOk (gwB A t b) := aOk_cb (aOk_mv ok hrr (by omega) (by omega) (by omega))
    have dpB : aDp (gwB A t b) b = aDp A (256 + t) := mv_dpj hne
    have enB : aEn (gwB A t b) (256 + t) = 0 := mv_en
    have okC : aOk (gwC A t b) := aOk_sNd okB (by rw [dpB, n0.1]; omega) (by rw [enB]; omega)
    have r9 := nNo_r (i := b) (by omega)
    refine aOk_ins okC hrr ?_ (okC.wd (by omega) 0 0) (by omega) (by omega)
    show gF (aEn (gwB A t b)) (256 + t) (aEn (gwB A t b) (256 + t)) (256 + t) < ((aRm A (256 + t) : Nat) : Int)
    rw [gF_s, enB, e4]
    decide
end
end
section
/-! the class holds these files, with blocks F taken that are no file's yet; what is mapped is left out -/
def fOk (A : cA) (t : Nat) (S : mS) : Prop := mSh S t (aM A) ∧ mRn S ∧ mAb A t S ∧ aRu A t = mn S ∧ aBl A t = sm (mK S) (md S) ∧ aLb A t = if md S = 0 then 0 else (mK S 0 : Int)
def bOk (A : cA) (b : Nat) (f o : Prop) : Prop := (aTk A b = 1 ∧ ((f ∧ ¬ o) ∨ (¬ f ∧ o))) ∨ (aTk A b = 0 ∧ aEn A b = 0 ∧ ¬ f ∧ ¬ o)
def CX (A : cA) (SS : Nat → mS) (F : Nat → Prop) : Prop := aOk A ∧ (∀ t, t < 4 → fOk A t (SS t)) ∧ (∀ b t l p t' l' p', mOwn SS b t l p → mOwn SS b t' l' p' → t = t' ∧ l = l' ∧ p = p') ∧ (∀ b, 1 ≤ b → b < 256 → bOk A b (F b) (∃ t l p, mOwn SS b t l p)) ∧ (∀ b, F b → 1 ≤ b ∧ b < 256) ∧ aTk A 0 = 0 ∧ aLe A = cnF (aTk A) 255
/-- what is mapped -/
def MX (A : cA) (SS : Nat → mS) : Prop := ∀ t, t < 4 → aMa A t = smI (ml (SS t)) (mn (SS t)) ∧ aMw A t = smI (fun i => mw (SS t) i * ml (SS t) i) (mn (SS t))
theorem cl_cx {A : cA} {SS : Nat → mS} : Cl A SS ↔ CX A SS (fun _ => False) ∧ MX A SS := by
  constructor
  · intro ⟨h1, h2, h3, h4, h5, h6⟩
    refine ⟨⟨h1, fun t ht => ?_, h3, fun b b1 b2 => ?_, fun b h => h.elim, h5, h6⟩, fun t ht => ?_⟩
    · obtain ⟨a1, a2, a3, a4, a5, a6, a7, a8⟩ := h2 t ht
      refine ⟨a1, a2, a3, a4, a5, a8.trans ?_⟩
      split <;> rfl
    · rcases h4 b b1 b2 with ⟨a1, a2⟩ | ⟨a1, a2, a3⟩
      · exact Or.inl ⟨a1, Or.inr ⟨fun z => z, a2⟩⟩
      · exact Or.inr ⟨a1, a2, fun z => z, fun ⟨t, l, p, z⟩ => a3 t l p z⟩
    · obtain ⟨a1, a2, a3, a4, a5, a6, a7, a8⟩ := h2 t ht
      exact ⟨a6, a7⟩
  · intro ⟨⟨h1, h2, h3, h4, h5, h6, h7⟩, h8⟩
    refine ⟨h1, fun t ht => ?_, h3, fun b b1 b2 => ?_, h6, h7⟩
    · obtain ⟨a1, a2, a3, a4, a5, a6⟩ := h2 t ht
      obtain ⟨c1, c2⟩ := h8 t ht
      refine ⟨a1, a2, a3, a4, a5, c1, c2, a6.trans ?_⟩
      split <;> rfl
    · rcases h4 b b1 b2 with ⟨a1, ⟨a2, _⟩ | ⟨_, a3⟩⟩ | ⟨a1, a2, _, a3⟩
      · exact a2.elim
      · exact Or.inl ⟨a1, a3⟩
      · exact Or.inr ⟨a1, a2, fun t l p z => a3 ⟨t, l, p, z⟩⟩
/-- a node of another file -/
def Oth (SS : Nat → mS) (t x : Nat) : Prop := (∃ t', t' ≠ t ∧ t' < 4 ∧ x = 256 + t') ∨ ∃ t' l p, t' ≠ t ∧ mOwn SS x t' l p
def Own (S : mS) (x : Nat) : Prop := ∃ l p, l < md S ∧ p < mK S l ∧ mb S l p = x
section
variable {A B : cA} {SS : Nat → mS} {F F' : Nat → Prop} {t : Nat} {S' : mS}
theorem CX.rng (hc : CX A SS F) {b t l p : Nat} (h : mOwn SS b t l p) : 1 ≤ b ∧ b ≤ 255 := by
  obtain ⟨h1, h2, h3, h4⟩ := h
  have := ((hc.2.1 t h1).1).2.2.2.2.1 l h2 p h3
  rw [h4] at this
  omega
theorem CX.inj (hc : CX A SS F) (ht : t < 4) : mInj (SS t) := by
  intro l p l' p' hl hp hl' hp' e
  have hs := (hc.2.1 t ht).1
  by_cases h1 : l < md (SS t)
  · by_cases h2 : l' < md (SS t)
    · exact (hc.2.2.1 _ t l p t l' p' ⟨ht, h1, hp, rfl⟩ ⟨ht, h2, hp', e.symm⟩).2
    · have h3 : l' = md (SS t) := by omega
      subst h3
      have h4 := hs.2.1
      rw [show p' = 0 by omega, hs.2.2.1] at e
      have := (hs.2.2.2.2.1 l h1 p hp).2.2.2
      omega
  · have h3 : l = md (SS t) := by omega
    subst h3
    have h4 := hs.2.1
    by_cases h2 : l' < md (SS t)
    · rw [show p = 0 by omega, hs.2.2.1] at e
      have := (hs.2.2.2.2.1 l' h2 p' hp').2.2.2
      omega
    · have h5 : l' = md (SS t) := by omega
      subst h5
      exact ⟨rfl, by omega⟩
theorem CX.own (hc : CX A SS F) (ht : t < 4) {x : Nat} (h : Own (SS t) x) : ¬ Oth SS t x := by
  obtain ⟨l, p, h1, h2, h3⟩ := h
  have ho : mOwn SS x t l p := ⟨ht, h1, h2, h3⟩
  rintro (⟨t', z1, z2, z3⟩ | ⟨t', l', p', z1, z2⟩)
  · have := hc.rng ho
    omega
  · exact z1 (hc.2.2.1 _ _ _ _ _ _ _ ho z2).1.symm
theorem CX.fre (hc : CX A SS F) {x : Nat} (h : F x) : ¬ Oth SS t x ∧ ∀ t l p, ¬ mOwn SS x t l p := by
  have h1 := hc.2.2.2.2.1 x h
  have h2 : ∀ t l p, ¬ mOwn SS x t l p := by
    intro t' l p z
    rcases hc.2.2.2.1 x h1.1 h1.2 with ⟨_, ⟨_, a3⟩ | ⟨a2, _⟩⟩ | ⟨_, _, a3, _⟩
    · exact a3 ⟨t', l, p, z⟩
    · exact a2 h
    · exact a3 h
  refine ⟨?_, h2⟩
  rintro (⟨t', z1, z2, z3⟩ | ⟨t', l', p', z1, z2⟩)
  · omega
  · exact h2 _ _ _ z2
theorem CX.root (hc : CX A SS F) : ¬ Oth SS t (256 + t) := by
  rintro (⟨t', z1, z2, z3⟩ | ⟨t', l', p', z1, z2⟩)
  · omega
  · have := hc.rng z2
    omega
theorem CX.ownF (hc : CX A SS F) (ht : t < 4) {x : Nat} (h1 : 1 ≤ x) (h2 : x < 256) (h : ¬ Oth SS t x) : bOk A x (F x) (Own (SS t) x) := by
  have e : (∃ t l p, mOwn SS x t l p) ↔ Own (SS t) x := by
    constructor
    · rintro ⟨t', l, p, z⟩
      by_cases ht' : t' = t
      · subst ht'
        exact ⟨l, p, z.2⟩
      · exact absurd (Or.inr ⟨t', l, p, ht', z⟩) h
    · rintro ⟨l, p, z⟩
      exact ⟨t, l, p, ht, z⟩
  have := hc.2.2.2.1 x h1 h2
  unfold bOk at this ⊢
  rw [e] at this
  exact this
/-- a change of one file -/
theorem CX.step (hc : CX A SS F) (ht : t < 4) (ok : aOk B) (hM : aM B = aM A) (hf : fOk B t S') (hj : mInj S') (hn : ∀ t', t' ≠ t → aRu B t' = aRu A t' ∧ aBl B t' = aBl A t' ∧ aLb B t' = aLb A t') (hx : ∀ x, Oth SS t x → aDp B x = aDp A x ∧ aEn B x = aEn A x ∧ aWf B x = aWf A x ∧ aTk B x = aTk A x) (hw : ∀ x, Own S' x → ¬ Oth SS t x) (hb : ∀ b, 1 ≤ b → b < 256 → ¬ Oth SS t b → bOk B b (F' b) (Own S' b)) (hF : ∀ b, F' b → 1 ≤ b ∧ b < 256) (hF2 : ∀ b, F' b → ¬ Oth SS t b) (h0 : aTk B 0 = 0) (hl : aLe B = cnF (aTk B) 255) : CX B (gF SS t S') F' := by
  have own : ∀ b t' l p, mOwn (gF SS t S') b t' l p → (t' = t ∧ l < md S' ∧ p < mK S' l ∧ mb S' l p = b) ∨ (t' ≠ t ∧ mOwn SS b t' l p) := by
    intro b t' l p ⟨z1, z2, z3, z4⟩
    by_cases e : t' = t
    · subst e
      rw [gF_s] at z2 z3 z4
      exact Or.inl ⟨rfl, z2, z3, z4⟩
    · rw [gF_n e] at z2 z3 z4
      exact Or.inr ⟨e, z1, z2, z3, z4⟩
  have ownT : ∀ b l p, l < md S' → p < mK S' l → mb S' l p = b → mOwn (gF SS t S') b t l p := by
    intro b l p z2 z3 z4
    refine ⟨ht, ?_, ?_, ?_⟩ <;> rw [gF_s] <;> assumption
  have ownO : ∀ b t' l p, t' ≠ t → mOwn SS b t' l p → mOwn (gF SS t S') b t' l p := by
    intro b t' l p e ⟨z1, z2, z3, z4⟩
    refine ⟨z1, ?_, ?_, ?_⟩ <;> rw [gF_n e] <;> assumption
  refine ⟨ok, fun t' ht' => ?_, fun b t1 l1 p1 t2 l2 p2 o1 o2 => ?_, fun b b1 b2 => ?_, hF, h0, hl⟩
  · by_cases e : t' = t
    · subst e
      rw [gF_s]
      exact hf
    · rw [gF_n e]
      obtain ⟨a1, a2, a3, a4, a5, a6⟩ := hc.2.1 t' ht'
      obtain ⟨n1, n2, n3⟩ := hn t' e
      refine ⟨by rw [hM]; exact a1, a2, fun l hl p hp => ?_, by rw [n1]; exact a4, by rw [n2]; exact a5, by rw [n3]; exact a6⟩
      have ho : Oth SS t (mb (SS t') l p) := by
        by_cases hl2 : l < md (SS t')
        · exact Or.inr ⟨t', l, p, e, ht', hl2, hp, rfl⟩
        · have hl3 : l = md (SS t') := by omega
          subst hl3
          have h4 := a1.2.1
          rw [show p = 0 by omega, a1.2.2.1]
          exact Or.inl ⟨t', e, ht', rfl⟩
      obtain ⟨x1, x2, x3, -⟩ := hx _ ho
      rw [x1, x2, x3]
      exact a3 l hl p hp
  · rcases own _ _ _ _ o1 with ⟨e1, c1, c2, c3⟩ | ⟨e1, c1⟩ <;> rcases own _ _ _ _ o2 with ⟨e2, d1, d2, d3⟩ | ⟨e2, d1⟩
    · have := hj l1 p1 l2 p2 (by omega) c2 (by omega) d2 (by rw [c3, d3])
      exact ⟨by omega, this.1, this.2⟩
    · exact absurd (Or.inr ⟨t2, l2, p2, e2, d1⟩) (hw b ⟨l1, p1, c1, c2, c3⟩)
    · exact absurd (Or.inr ⟨t1, l1, p1, e1, c1⟩) (hw b ⟨l2, p2, d1, d2, d3⟩)
    · exact hc.2.2.1 _ _ _ _ _ _ _ c1 d1
  · by_cases ho : Oth SS t b
    · obtain ⟨x1, x2, x3, x4⟩ := hx b ho
      rcases ho with ⟨t', z1, z2, z3⟩ | ⟨t', l', p', z1, z2⟩
      · omega
      · have tk : aTk A b = 1 := by
          rcases hc.2.2.2.1 b b1 b2 with ⟨g1, _⟩ | ⟨_, _, _, g3⟩
          · exact g1
          · exact absurd ⟨t', l', p', z2⟩ g3
        exact Or.inl ⟨by rw [x4]; exact tk, Or.inr ⟨fun z => hF2 b z (Or.inr ⟨t', l', p', z1, z2⟩), ⟨t', l', p', ownO _ _ _ _ z1 z2⟩⟩⟩
    · have e : (∃ t' l p, mOwn (gF SS t S') b t' l p) ↔ Own S' b := by
        constructor
        · rintro ⟨t', l, p, z⟩
          rcases own _ _ _ _ z with ⟨_, c1, c2, c3⟩ | ⟨e1, c1⟩
          · exact ⟨l, p, c1, c2, c3⟩
          · exact absurd (Or.inr ⟨t', l, p, e1, c1⟩) ho
        · rintro ⟨l, p, z1, z2, z3⟩
          exact ⟨t, l, p, ownT _ _ _ z1 z2 z3⟩
      have := hb b b1 b2 ho
      unfold bOk at this ⊢
      rw [e]
      exact this
/-- a block is taken -/
theorem CX.take (hc : CX A SS F) {k b : Nat} (hb : leastFree A b) : CX (tk1 A t k b) SS (fun x => F x ∨ x = b) ∧ ¬ F b ∧ ∀ t l p, ¬ mOwn SS b t l p := by
  obtain ⟨h1, h2, h3⟩ := hb
  have hb2 := hc.2.2.2.1 b h1.1 h1.2
  have fb : ¬ F b ∧ ∀ t l p, ¬ mOwn SS b t l p := by
    rcases hb2 with ⟨g1, _⟩ | ⟨_, _, g2, g3⟩
    · omega
    · exact ⟨g2, fun t l p z => g3 ⟨t, l, p, z⟩⟩
  have eD : aDp (tk1 A t k b) = aDp A := gF_same _ _
  have eE : aEn (tk1 A t k b) = aEn A := gF_same _ _
  have eT : aTk (tk1 A t k b) = gF (aTk A) b 1 := rfl
  refine ⟨⟨?_, fun t' ht' => ?_, hc.2.2.1, fun x x1 x2 => ?_, fun x hx => ?_, ?_, ?_⟩, fb⟩
  · obtain ⟨a1, a2, a3⟩ := hc.1
    refine ⟨a1, a2, fun i hi => ?_⟩
    rw [eD, eE]
    exact a3 i hi
  · obtain ⟨a1, a2, a3, a4, a5, a6⟩ := hc.2.1 t' ht'
    refine ⟨a1, a2, fun l hl p hp => ?_, a4, a5, a6⟩
    rw [eD, eE]
    exact a3 l hl p hp
  · unfold bOk
    rw [eE, eT]
    by_cases e : x = b
    · subst e
      rw [gF_s]
      exact Or.inl ⟨rfl, Or.inl ⟨Or.inr rfl, fun ⟨t, l, p, z⟩ => fb.2 t l p z⟩⟩
    · rw [gF_n e]
      have hx := hc.2.2.2.1 x x1 x2
      unfold bOk at hx
      have ef : (F x ∨ x = b) ↔ F x := ⟨fun z => z.elim id (fun q => absurd q e), Or.inl⟩
      simp only [ef]
      exact hx
  · rcases hx with z | z
    · exact hc.2.2.2.2.1 x z
    · omega
  · rw [eT, gF_n (by omega)]
    exact hc.2.2.2.2.2.1
  · show aLe A - 1 = cnF (gF (aTk A) b 1) 255
    have key : ∀ n, b ≤ n → cnF (gF (aTk A) b 1) n = cnF (aTk A) n - 1 := by
      have lo : ∀ n, n < b → cnF (gF (aTk A) b 1) n = cnF (aTk A) n := by
        intro n
        induction n with
        | zero => intro _; rfl
        | succ n ih =>
          intro hn
          show cnF _ n + (if gF (aTk A) b 1 (n + 1) = 0 then 1 else 0) = cnF _ n + _
          rw [ih (by omega), gF_n (by omega)]
      intro n
      induction n with
      | zero => intro h9; omega
      | succ n ih =>
        intro hn
        show cnF _ n + (if gF (aTk A) b 1 (n + 1) = 0 then 1 else 0) = cnF (aTk A) n + (if aTk A (n + 1) = 0 then 1 else 0) - 1
        by_cases e : n + 1 = b
        · rw [lo n (by omega), e, gF_s, h2, if_neg (by decide), if_pos rfl]
          omega
        · rw [ih (by omega), gF_n e]
          omega
    rw [key 255 (by omega), hc.2.2.2.2.2.2]
end
end
section
/-! the steps of the tree, with all files in view -/
section
variable {A : cA} {SS : Nat → mS} {F : Nat → Prop} {S : mS} {t m k l p P h b : Nat} {i : Int}
theorem ssp_own (o : SpO S m l p P h b) (x : Nat) : Own (sSp S l p P h b) x ↔ Own S x ∨ x = b := by
  obtain ⟨o1, o2, o3, o4, o5, o6, o7, o8⟩ := o
  constructor
  · rintro ⟨y, z, h1, h2, h3⟩
    rcases ssp_old o2 h2 with ⟨a1, a2, a3⟩ | ⟨r, a1, a2, a3⟩
    · exact Or.inr (by rw [← h3, a3])
    · exact Or.inl ⟨y, r, h1, a1, by rw [← a2, h3]⟩
  · rintro (⟨y, r, h1, h2, h3⟩ | h1)
    · by_cases e : y = l
      · subst e
        by_cases e2 : r ≤ p
        · exact ⟨y, r, h1, by rw [ssp_kl]; omega, by rw [ssp_bl, insN_lo (by omega)]; exact h3⟩
        · exact ⟨y, r + 1, h1, by rw [ssp_kl]; omega, by rw [ssp_bl, insN_hi (by omega)]; exact h3⟩
      · exact ⟨y, r, h1, by rw [ssp_ko e]; exact h2, by rw [ssp_bo e]; exact h3⟩
    · exact ⟨l, p + 1, o1, by rw [ssp_kl]; omega, by rw [ssp_bl, insN_at]; exact h1.symm⟩
theorem sp_tk : aTk (spA A t k) = aTk A := by
  obtain ⟨-, -, -, s4, -⟩ := sp_same (A := A) (t := t) (k := k)
  rw [s4]
  have e1 : aTk (spB A t k) = aTk A := by
    show gF (gF (aTk A) (aFs A t k) (aTk A (aFs A t k))) (aWy A t k) (aTk A (aWy A t k)) = _
    rw [gF_same, gF_same]
  show gF (aTk (spB A t k)) (aWy A t (k - 1)) (aTk (spB A t k) (aWy A t (k - 1))) = _
  rw [gF_same, e1]
theorem sp_num (hne : aFs A t k ≠ aWy A t k) : aRu (spA A t k) = aRu A ∧ aBl (spA A t k) = gF (aBl A) t (aBl A t + 1) ∧ aMa (spA A t k) = aMa A ∧ aMw (spA A t k) = aMw A ∧ aLb (spA A t k) = gF (aLb A) t (if aDp A (aWy A t k) = 0 then aLb A t + 1 else aLb A t) ∧ aLe (spA A t k) = aLe A ∧ aM (spA A t k) = aM A ∧ aFs (spA A t k) t = aFs A t := by
  obtain ⟨-, -, -, -, s5, s6, s7, s8, s9, s10, s11⟩ := sp_same (A := A) (t := t) (k := k)
  rw [s5, s6, s7, s8, s9, s10, s11]
  refine ⟨gF_same _ _, rfl, gF_same _ _, gF_same _ _, ?_, rfl, rfl, ?_⟩
  · show gF (aLb A) t (if aDp (mvA A (aWy A t k) (((aRm A (aWy A t k) : Int) + 1) / 2) (aFs A t k)) (aFs A t k) = 0 then aLb A t + 1 else aLb A t) = _
    rw [mv_dpj hne]
  · unfold spA
    split
    · exact fH_fs
    · rfl
/-- a node splits -/
theorem CX.split (hc : CX A SS F) (ht : t < 4) (hS : SS t = S) (hw : WyTo A t S i) (hi : -1 ≤ i ∧ i < mn S) (hk : 1 ≤ k ∧ k ≤ md S) (hl : md S - k = l) (hh : (aM A + 1) / 2 = h) (hfull : mc S l (mQ S i.toNat (l + 1)) = aM A) (hroom : mc S (l + 1) (mQ S i.toNat (l + 2)) < if l + 1 = md S then 4 else aM A) (hb : aFs A t k = b) (hF : F b) :
    SpO S (aM A) l (mQ S i.toNat (l + 1)) (mQ S i.toNat (l + 2)) h b ∧ SplitOk A t k ∧ CX (spA A t k) (gF SS t (sSp S l (mQ S i.toNat (l + 1)) (mQ S i.toNat (l + 2)) h b)) (fun x => F x ∧ x ≠ b) ∧ WyTo (spA A t k) t (sSp S l (mQ S i.toNat (l + 1)) (mQ S i.toNat (l + 2)) h b) i := by
  subst hS
  have hf := hc.2.1 t ht
  obtain ⟨hs, hr, ha, u1, u2, u3⟩ := hf
  have hj := hc.inj ht
  have hb2 := hc.2.2.2.2.1 b hF
  obtain ⟨nb1, nb2⟩ := hc.fre (t := t) hF
  have hb3 : ∀ k q, k ≤ md (SS t) → q < mK (SS t) k → mb (SS t) k q ≠ b := by
    intro y q hy hq e
    by_cases h1 : y < md (SS t)
    · exact nb2 t y q ⟨ht, h1, hq, e⟩
    · have h3 : y = md (SS t) := by omega
      subst h3
      have h4 := hs.2.1
      rw [show q = 0 by omega, hs.2.2.1] at e
      omega
  obtain ⟨hO, hSp, hab, hwy, ok'⟩ := ab_split hc.1 ht hs hj ha hw hi hk hl hh hfull hroom hb (by omega) hb3
  refine ⟨hO, hSp, ?_, hwy⟩
  have hO' := hO
  obtain ⟨o1, o2, o3, o4, o5, o6, o7, o8⟩ := hO'
  obtain ⟨p1, p2, p3, p4, p5, p6, p7, p8, p9, p10, p11, p12⟩ := hSp
  obtain ⟨n1, n2, n3, n4, n5, n6, n7, n8⟩ := sp_num (A := A) (t := t) (k := k) (Ne.symm p5)
  have e1 : aWy A t k = mb (SS t) l (mQ (SS t) i.toNat (l + 1)) := by
    rw [(hw.2 k hk.2).1]
    unfold pW
    rw [hl]
  have e2 : aWy A t (k - 1) = mb (SS t) (l + 1) (mQ (SS t) i.toNat (l + 2)) := by
    rw [(hw.2 (k - 1) (by omega)).1]
    unfold pW
    rw [show md (SS t) - (k - 1) = l + 1 by omega]
  have hq : ¬ Oth SS t (aWy A t (k - 1)) ∧ (aWy A t (k - 1) < 256 → Own (SS t) (aWy A t (k - 1))) := by
    by_cases h1 : l + 1 < md (SS t)
    · have ho : Own (SS t) (aWy A t (k - 1)) := ⟨l + 1, _, h1, o3, e2.symm⟩
      exact ⟨hc.own ht ho, fun _ => ho⟩
    · have h3 : l + 1 = md (SS t) := by omega
      have h4 := hs.2.1
      have h5 : mQ (SS t) i.toNat (l + 2) = 0 := by
        rw [← h3] at h4
        omega
      rw [h5, h3, hs.2.2.1] at e2
      rw [e2]
      exact ⟨hc.root, fun z => by omega⟩
  have hoo : Own (SS t) (aWy A t k) := ⟨l, _, o1, o2, e1.symm⟩
  obtain ⟨hN, hhN⟩ : ∃ hN : Nat, ((aRm A (aWy A t k) : Int) + 1) / 2 = hN := ⟨(((aRm A (aWy A t k) : Int) + 1) / 2).toNat, by omega⟩
  have hoth := fun {x : Nat} => sp_oth (A := A) (t := t) (k := k) (x := x) rfl hb rfl hhN
  have d0 : aDp A (aWy A t k) = l := by
    rw [e1]
    exact (ha l (by omega) _ o2).1
  refine hc.step ht ok' n7 ⟨by rw [n7]; exact ssp_sh hs hO, hr, hab, by rw [n1]; exact u1, ?_, ?_⟩ (ssp_inj hj hO) (fun t' ht' => ⟨by rw [n1], by rw [n2, gF_n ht'], by rw [n5, gF_n ht']⟩) (fun x hx => ?_) (fun x hx => ?_) (fun x x1 x2 hx => ?_) (fun x hx => hc.2.2.2.2.1 x hx.1) (fun x hx => (hc.fre hx.1).1) (by rw [sp_tk]; exact hc.2.2.2.2.2.1) (by rw [sp_tk, n6]; exact hc.2.2.2.2.2.2)
  · rw [n2, gF_s, u2]
    show ((sm (mK (SS t)) (md (SS t)) : Nat) : Int) + 1 = ((sm (incN (mK (SS t)) l) (md (SS t)) : Nat) : Int)
    rw [sm_inc_hi _ o1]
    omega
  · rw [n5, gF_s, u3, d0]
    have hdd : ¬ md (SS t) = 0 := by omega
    show _ = if md (SS t) = 0 then (0 : Int) else ((mK (sSp (SS t) l (mQ (SS t) i.toNat (l + 1)) (mQ (SS t) i.toNat (l + 2)) h b) 0 : Nat) : Int)
    rw [if_neg hdd, if_neg hdd]
    by_cases h9 : l = 0
    · subst h9
      rw [if_pos (show ((0 : Nat) : Int) = 0 from rfl), ssp_kl]
      omega
    · rw [if_neg (by omega), ssp_ko (by omega)]
  · obtain ⟨y1, y2, y3⟩ := hoth (x := x) (fun z => hc.own ht hoo (z ▸ hx)) (fun z => nb1 (z ▸ hx)) (fun z => hq.1 (z ▸ hx))
    exact ⟨y1, y2, y3, by rw [sp_tk]⟩
  · rcases (ssp_own hO x).mp hx with z | z
    · exact hc.own ht z
    · rw [z]
      exact nb1
  · have g := hc.ownF ht x1 x2 hx
    have hoS : Own (sSp (SS t) l (mQ (SS t) i.toNat (l + 1)) (mQ (SS t) i.toNat (l + 2)) h b) x ↔ Own (SS t) x ∨ x = b := ssp_own hO x
    unfold bOk at g ⊢
    rw [sp_tk, hoS]
    by_cases e : x = b
    · subst e
      rcases g with ⟨g1, _⟩ | ⟨_, _, g3, _⟩
      · exact Or.inl ⟨g1, Or.inr ⟨fun z => z.2 rfl, Or.inr rfl⟩⟩
      · exact absurd hF g3
    · rcases g with ⟨g1, ⟨g2, g3⟩ | ⟨g2, g3⟩⟩ | ⟨g1, g2, g3, g4⟩
      · exact Or.inl ⟨g1, Or.inl ⟨⟨g2, e⟩, fun z => z.elim g3 e⟩⟩
      · exact Or.inl ⟨g1, Or.inr ⟨fun z => g2 z.1, Or.inl g3⟩⟩
      · refine Or.inr ⟨g1, ?_, fun z => g3 z.1, fun z => z.elim g4 e⟩
        obtain ⟨y1, y2, y3⟩ := hoth (x := x) (fun z => g4 (z ▸ hoo)) e (fun z => g4 (by rw [z]; exact hq.2 (by omega)))
        rw [y2]
        exact g2
end
end
section
/-! the root grows, a run comes in, a run changes: with all files in view -/
section
variable {A : cA} {SS : Nat → mS} {F : Nat → Prop} {S : mS} {t m k l p P h b j : Nat} {i x n v w : Int}
theorem CX.nob (hc : CX A SS F) (ht : t < 4) (hF : F b) : ∀ k q, k ≤ md (SS t) → q < mK (SS t) k → mb (SS t) k q ≠ b := by
  have hs := (hc.2.1 t ht).1
  have hb2 := hc.2.2.2.2.1 b hF
  intro y q hy hq e
  by_cases h1 : y < md (SS t)
  · exact (hc.fre (t := t) hF).2 t y q ⟨ht, h1, hq, e⟩
  · have h3 : y = md (SS t) := by omega
    subst h3
    have h4 := hs.2.1
    rw [show q = 0 by omega, hs.2.2.1] at e
    omega
/-- a node of the file is no other file's; if it is no root, the file has it -/
theorem CX.node (hc : CX A SS F) (ht : t < 4) {y q : Nat} (hy : y ≤ md (SS t)) (hq : q < mK (SS t) y) : ¬ Oth SS t (mb (SS t) y q) ∧ (mb (SS t) y q < 256 → Own (SS t) (mb (SS t) y q)) := by
  have hs := (hc.2.1 t ht).1
  by_cases h1 : y < md (SS t)
  · have ho : Own (SS t) (mb (SS t) y q) := ⟨y, q, h1, hq, rfl⟩
    exact ⟨hc.own ht ho, fun _ => ho⟩
  · have h3 : y = md (SS t) := by omega
    subst h3
    have h4 := hs.2.1
    rw [show q = 0 by omega, hs.2.2.1]
    exact ⟨hc.root, fun z => by omega⟩
theorem sgw_own (hs : mSh S t m) (x : Nat) : Own (sGw S t b) x ↔ Own S x ∨ x = b := by
  constructor
  · rintro ⟨y, z, h1, h2, h3⟩
    have h1 : y < md S + 1 := h1
    rcases sgw_old hs (Nat.le_of_lt h1) h2 with ⟨a1, a2, a3⟩ | ⟨a1, a2, a3⟩ | ⟨a1, a2, a3⟩
    · omega
    · exact Or.inr (by rw [← h3, a3])
    · exact Or.inl ⟨y, z, a1, a2, by rw [← a3, h3]⟩
  · rintro (⟨y, r, h1, h2, h3⟩ | h1)
    · exact ⟨y, r, show y < md S + 1 by omega, by rw [sgw_ko (by omega)]; exact h2, by rw [sgw_bo h1]; exact h3⟩
    · exact ⟨md S, 0, show md S < md S + 1 by omega, by rw [sgw_ko (Nat.le_refl _), hs.2.1]; exact Nat.zero_lt_one, by rw [sgw_bd]; exact h1.symm⟩
theorem gw_tk : aTk (gw2 (gw1 A t b) t l b) = aTk A := by
  have e1 : aTk (gwB A t b) = aTk A := by
    show gF (gF (aTk A) b (aTk A b)) (256 + t) (aTk A (256 + t)) = _
    rw [gF_same, gF_same]
  have e2 : aTk (gwC A t b) = aTk A := by
    show gF (aTk (gwB A t b)) (256 + t) (aTk (gwB A t b) (256 + t)) = _
    rw [gF_same, e1]
  show gF (aTk (gwC A t b)) (256 + t) (aTk (gwC A t b) (256 + t)) = _
  rw [gF_same, e2]
theorem gw_oth {y : Nat} (x1 : y ≠ b) (x2 : y ≠ 256 + t) : aDp (gw2 (gw1 A t b) t l b) y = aDp A y ∧ aEn (gw2 (gw1 A t b) t l b) y = aEn A y ∧ aWf (gw2 (gw1 A t b) t l b) y = aWf A y := by
  refine ⟨?_, ?_, ?_⟩
  · show gF (gF (gF (gF (aDp A) b _) (256 + t) _) (256 + t) _) (256 + t) _ y = _
    rw [gF_n x2, gF_n x2, gF_n x2, gF_n x1]
  · show gF (gF (gF (gF (aEn A) b _) (256 + t) _) (256 + t) _) (256 + t) _ y = _
    rw [gF_n x2, gF_n x2, gF_n x2, gF_n x1]
  · show gF (gF (aWf A) b _) (256 + t) _ y = _
    rw [gF_n x2, gF_n x1]
theorem gw_num (hne : b ≠ 256 + t) : aRu (gw2 (gw1 A t b) t l b) = aRu A ∧ aBl (gw2 (gw1 A t b) t l b) = gF (aBl A) t (aBl A t + 1) ∧ aMa (gw2 (gw1 A t b) t l b) = aMa A ∧ aMw (gw2 (gw1 A t b) t l b) = aMw A ∧ aLb (gw2 (gw1 A t b) t l b) = gF (aLb A) t (if aDp A (256 + t) = 0 then aLb A t + 1 else aLb A t) ∧ aLe (gw2 (gw1 A t b) t l b) = aLe A ∧ aM (gw2 (gw1 A t b) t l b) = aM A ∧ aFs (gw2 (gw1 A t b) t l b) t = shf (aFs A t) 0 l := by
  refine ⟨gF_same _ _, rfl, gF_same _ _, gF_same _ _, ?_, rfl, rfl, fH_fs⟩
  show gF (aLb A) t (if aDp (mvA A (256 + t) 0 b) b = 0 then aLb A t + 1 else aLb A t) = _
  rw [mv_dpj hne]
/-- the root grows -/
theorem CX.grow (hc : CX A SS F) (ht : t < 4) (hS : SS t = S) (hw : WyTo A t S i) (hi : -1 ≤ i ∧ i < mn S) (hd : md S < 5) (hr1 : 1 ≤ mc S (md S) 0) (hF : F b) : CX (gw2 (gw1 A t b) t (md S) b) (gF SS t (sGw S t b)) (fun x => F x ∧ x ≠ b) ∧ WyTo (gw2 (gw1 A t b) t (md S) b) t (sGw S t b) i := by
  subst hS
  obtain ⟨hs, hr, ha, u1, u2, u3⟩ := hc.2.1 t ht
  have hj := hc.inj ht
  have hb2 := hc.2.2.2.2.1 b hF
  have hm := hc.1.1
  obtain ⟨nb1, nb2⟩ := hc.fre (t := t) hF
  have hb3 := hc.nob ht hF
  obtain ⟨hab, hwy, ok'⟩ := ab_grow hc.1 ht hs hj ha hw hi hd hr1 (by omega) hb3
  refine ⟨?_, hwy⟩
  obtain ⟨n1, n2, n3, n4, n5, n6, n7, n8⟩ := gw_num (A := A) (t := t) (b := b) (l := md (SS t)) (by omega)
  have d0 : aDp A (256 + t) = md (SS t) := by
    have := (ha (md (SS t)) (Nat.le_refl _) 0 (by have := hs.2.1; omega)).1
    rw [hs.2.2.1] at this
    exact this
  refine hc.step ht ok' n7 ⟨by rw [n7]; exact sgw_sh hs hd (by omega) (by omega) hr1, hr, hab, by rw [n1]; exact u1, ?_, ?_⟩ (sgw_inj hs hj (by omega) hb3) (fun t' ht' => ⟨by rw [n1], by rw [n2, gF_n ht'], by rw [n5, gF_n ht']⟩) (fun x hx => ?_) (fun x hx => ?_) (fun x x1 x2 hx => ?_) (fun x hx => hc.2.2.2.2.1 x hx.1) (fun x hx => (hc.fre hx.1).1) (by rw [gw_tk]; exact hc.2.2.2.2.2.1) (by rw [gw_tk, n6]; exact hc.2.2.2.2.2.2)
  · rw [n2, gF_s, u2]
    show ((sm (mK (SS t)) (md (SS t)) : Nat) : Int) + 1 = ((sm (mK (sGw (SS t) t b)) (md (SS t)) + mK (sGw (SS t) t b) (md (SS t)) : Nat) : Int)
    rw [sgw_ko (Nat.le_refl _), hs.2.1, sm_congr (g := mK (SS t)) (fun p hp => sgw_ko (by omega))]
    omega
  · rw [n5, gF_s, u3, d0]
    show _ = if md (SS t) + 1 = 0 then (0 : Int) else ((mK (sGw (SS t) t b) 0 : Nat) : Int)
    rw [if_neg (show ¬ md (SS t) + 1 = 0 by omega), sgw_ko (by omega)]
    by_cases h9 : md (SS t) = 0
    · have h8 := hs.2.1
      rw [h9] at h8
      rw [if_pos (show ((md (SS t) : Nat) : Int) = 0 by omega), if_pos h9, h8]
      rfl
    · rw [if_neg (show ¬ ((md (SS t) : Nat) : Int) = 0 by omega), if_neg h9]
  · obtain ⟨y1, y2, y3⟩ := gw_oth (A := A) (t := t) (b := b) (l := md (SS t)) (y := x) (fun z => nb1 (z ▸ hx)) (fun z => hc.root (z ▸ hx))
    exact ⟨y1, y2, y3, by rw [gw_tk]⟩
  · rcases (sgw_own hs x).mp hx with z | z
    · exact hc.own ht z
    · rw [z]
      exact nb1
  · have g := hc.ownF ht x1 x2 hx
    have hoS : Own (sGw (SS t) t b) x ↔ Own (SS t) x ∨ x = b := sgw_own hs x
    unfold bOk at g ⊢
    rw [gw_tk, hoS]
    by_cases e : x = b
    · subst e
      rcases g with ⟨g1, _⟩ | ⟨_, _, g3, _⟩
      · exact Or.inl ⟨g1, Or.inr ⟨fun z => z.2 rfl, Or.inr rfl⟩⟩
      · exact absurd hF g3
    · rcases g with ⟨g1, ⟨g2, g3⟩ | ⟨g2, g3⟩⟩ | ⟨g1, g2, g3, g4⟩
      · exact Or.inl ⟨g1, Or.inl ⟨⟨g2, e⟩, fun z => z.elim g3 e⟩⟩
      · exact Or.inl ⟨g1, Or.inr ⟨fun z => g2 z.1, Or.inl g3⟩⟩
      · refine Or.inr ⟨g1, ?_, fun z => g3 z.1, fun z => z.elim g4 e⟩
        rw [(gw_oth (A := A) (t := t) (b := b) (l := md (SS t)) (y := x) e (by omega)).2.1]
        exact g2
/-- the words of some nodes of the file change: no block comes or goes -/
theorem CX.same {B : cA} {S' : mS} (hc : CX A SS F) (ht : t < 4) (hd : md S' = md (SS t)) (hK : mK S' = mK (SS t)) (hb : mb S' = mb (SS t)) (ok : aOk B) (hM : aM B = aM A) (hf : fOk B t S') (hn : ∀ t', t' ≠ t → aRu B t' = aRu A t' ∧ aBl B t' = aBl A t' ∧ aLb B t' = aLb A t') (hx : ∀ x, (∀ y q, y ≤ md (SS t) → q < mK (SS t) y → x ≠ mb (SS t) y q) → aDp B x = aDp A x ∧ aEn B x = aEn A x ∧ aWf B x = aWf A x) (htk : aTk B = aTk A) (hle : aLe B = aLe A) : CX B (gF SS t S') F := by
  have hs := (hc.2.1 t ht).1
  have hj := hc.inj ht
  have own : ∀ x, Own S' x ↔ Own (SS t) x := by
    intro x
    unfold Own
    rw [hd, hK, hb]
  have hj' : mInj S' := by
    unfold mInj
    rw [hd, hK, hb]
    exact hj
  refine hc.step ht ok hM hf hj' hn (fun x h9 => ?_) (fun x h9 => hc.own ht ((own x).mp h9)) (fun x x1 x2 h9 => ?_) hc.2.2.2.2.1 (fun x h9 => (hc.fre h9).1) (by rw [htk]; exact hc.2.2.2.2.2.1) (by rw [htk, hle]; exact hc.2.2.2.2.2.2)
  · obtain ⟨y1, y2, y3⟩ := hx x (fun y q hy hq z => (hc.node ht hy hq).1 (z ▸ h9))
    exact ⟨y1, y2, y3, by rw [htk]⟩
  · have g := hc.ownF ht x1 x2 h9
    have ho := own x
    unfold bOk at g ⊢
    rw [htk, ho]
    rcases g with g | ⟨g1, g2, g3, g4⟩
    · exact Or.inl g
    · refine Or.inr ⟨g1, ?_, g3, g4⟩
      rw [(hx x (fun y q hy hq z => g4 (by rw [z]; exact (hc.node ht hy hq).2 (by omega)))).2.1]
      exact g2
/-- a run comes in -/
theorem CX.ins (hc : CX A SS F) (ht : t < 4) (hS : SS t = S) (hw : WyTo A t S i) (hi : -1 ≤ i ∧ i < mn S) (hjj : (j : Int) = i + 1) (hp : p = mQ S i.toNat 1) (hroom : mc S 0 p < if 0 = md S then 4 else aM A) (hx : 0 ≤ x ∧ x ≤ 65536) (hn : 0 ≤ n ∧ n ≤ 32768) (hv : 0 ≤ v ∧ v ≤ 16777216) (hww : w = 0 ∨ w = 1) (hr' : mRn (sIn S j p x n v w)) :
    LeafOk A t (md S) ∧ CX (irF A t (md S) x n v w) (gF SS t (sIn S j p x n v w)) F := by
  subst hS
  obtain ⟨hs, hr, ha, u1, u2, u3⟩ := hc.2.1 t ht
  obtain ⟨h1, h2, h3⟩ := ab_ins hc.1 ht hs (hc.inj ht) ha hw hi hjj hp hroom hx hn hv hww
  refine ⟨h1, ?_⟩
  obtain ⟨r1, r2, r3, r4, r5, r6, r7, r8, r9, r10, r11, r12, r13, r14⟩ := rf_ru (t := t) (md (SS t)) (irI A t (md (SS t)) x n v w)
  have hway : ∀ k, k ≤ md (SS t) → ∃ y q, y ≤ md (SS t) ∧ q < mK (SS t) y ∧ aWy A t k = mb (SS t) y q := fun k hk => ⟨md (SS t) - k, _, by omega, (pP_b hs hi hk).1, (hw.2 k hk).1⟩
  have hp1 : p < mK (SS t) 0 := by
    have := (pP_b hs hi (Nat.le_refl (md (SS t)))).1
    rw [Nat.sub_self] at this
    rw [hp]
    exact this
  refine hc.same ht rfl rfl rfl h3 r14 ⟨by show mSh _ t (aM (rfA (irI A t (md (SS t)) x n v w) t (md (SS t)))); rw [r14]; exact sin_sh hs hp1 hroom, hr', h2, ?_, ?_, ?_⟩ (fun t' ht' => ⟨?_, ?_, ?_⟩) (fun y hy => ⟨?_, ?_, ?_⟩) ?_ r13
  · show gF _ t (aRu A t + 1) t = _
    rw [gF_s, u1]
    rfl
  · show gF _ t (aBl A t) t = _
    rw [gF_s, u2]
    rfl
  · show gF _ t (aLb A t) t = _
    rw [gF_s, u3]
    rfl
  · show gF (aRu (rfA (irI A t (md (SS t)) x n v w) t (md (SS t)))) t _ t' = _
    rw [gF_n ht', r1]
    rfl
  · show gF (aBl (rfA (irI A t (md (SS t)) x n v w) t (md (SS t)))) t _ t' = _
    rw [gF_n ht', r2]
    rfl
  · show gF (aLb (rfA (irI A t (md (SS t)) x n v w) t (md (SS t)))) t _ t' = _
    rw [gF_n ht', r5]
    rfl
  · show aDp (rfA (irI A t (md (SS t)) x n v w) t (md (SS t))) y = _
    rw [r11]
    exact congrFun (gF_same (aDp A) _) y
  · show aEn (rfA (irI A t (md (SS t)) x n v w) t (md (SS t))) y = _
    rw [r10]
    obtain ⟨y9, q9, z1, z2, z3⟩ := hway (md (SS t)) (Nat.le_refl _)
    exact gF_n (by rw [z3]; exact hy y9 q9 z1 z2)
  · show aWf (rfA (irI A t (md (SS t)) x n v w) t (md (SS t))) y = _
    rw [rfA_fs _ _ _ (fun k hk z => by
      obtain ⟨y9, q9, z1, z2, z3⟩ := hway k (by omega)
      exact hy y9 q9 z1 z2 (by rw [← z, ← z3]; rfl))]
    obtain ⟨y9, q9, z1, z2, z3⟩ := hway (md (SS t)) (Nat.le_refl _)
    exact gF_n (by rw [z3]; exact hy y9 q9 z1 z2)
  · show aTk (rfA (irI A t (md (SS t)) x n v w) t (md (SS t))) = _
    rw [r12]
    exact gF_same _ _
/-- a run changes -/
theorem CX.set {q : Nat} (hc : CX A SS F) (ht : t < 4) (hS : SS t = S) (hq : q < mn S) (hx : 0 ≤ x ∧ x ≤ 65536) (hn : 0 ≤ n ∧ n ≤ 32768) (hv : 0 ≤ v ∧ v ≤ 16777216) (hww : w = 0 ∨ w = 1) (hr' : mRn (sSet S q x n v w)) : CX (srA (fnd A t (pW S q) (pP S q) (md S + 1) (md S)) t (md S) x n v w) (gF SS t (sSet S q x n v w)) F := by
  subst hS
  obtain ⟨hs, hr, ha, u1, u2, u3⟩ := hc.2.1 t ht
  have h2 := ab_set (x := x) (n := n) (v := v) (w := w) hs (hc.inj ht) ha hq hww
  have hw : WyTo (fnd A t (pW (SS t) q) (pP (SS t) q) (md (SS t) + 1) (md (SS t))) t (SS t) q := wy_fnd
  have hmk : 0 ≤ (if w = 1 then n else n + 32768) ∧ (if w = 1 then n else n + 32768) ≤ 16777216 := by
    split <;> omega
  have hway : ∀ k, k ≤ md (SS t) → ∃ y z, y ≤ md (SS t) ∧ z < mK (SS t) y ∧ aWy (fnd A t (pW (SS t) q) (pP (SS t) q) (md (SS t) + 1) (md (SS t))) t k = mb (SS t) y z := fun k hk => ⟨md (SS t) - k, _, by omega, (pP_b hs (i := (q : Int)) (by omega) hk).1, (hw.2 k hk).1⟩
  have w260 : ∀ k, k ≤ md (SS t) → aWy (fnd A t (pW (SS t) q) (pP (SS t) q) (md (SS t) + 1) (md (SS t))) t k < 260 := by
    intro k hk
    obtain ⟨y, z, z1, z2, z3⟩ := hway k hk
    rw [z3]
    exact hs.bl ht z1 z2
  have okF : aOk (fnd A t (pW (SS t) q) (pP (SS t) q) (md (SS t) + 1) (md (SS t))) := hc.1
  have same : ∀ (g : Nat → Int), aRu (sWf (fnd A t (pW (SS t) q) (pP (SS t) q) (md (SS t) + 1) (md (SS t))) (aWy (fnd A t (pW (SS t) q) (pP (SS t) q) (md (SS t) + 1) (md (SS t))) t (md (SS t))) g) = aRu A := fun g => rfl
  generalize hB : fnd A t (pW (SS t) q) (pP (SS t) q) (md (SS t) + 1) (md (SS t)) = B at *
  have bR : aRu B = aRu A ∧ aBl B = aBl A ∧ aLb B = aLb A ∧ aDp B = aDp A ∧ aEn B = aEn A ∧ aWf B = aWf A ∧ aTk B = aTk A ∧ aLe B = aLe A ∧ aM B = aM A := by
    rw [← hB]
    exact ⟨rfl, rfl, rfl, rfl, rfl, rfl, rfl, rfl, rfl⟩
  obtain ⟨b1, b2, b3, b4, b5, b6, b7, b8, b9⟩ := bR
  have okS : aOk (sWf B (aWy B t (md (SS t))) (gT3 (aWf B (aWy B t (md (SS t)))) (aPl B t (md (SS t)) * 3).toNat x (if w = 1 then n else n + 32768) v)) := aOk_sWf okF (fun y => gF_r (gF_r (gF_r (fun z => (okF.2.2 _ (w260 _ (Nat.le_refl _))).2.2 z) (by omega)) hmk) (by omega) y)
  have unf : srA B t (md (SS t)) x n v w = rfA (sWf B (aWy B t (md (SS t))) (gT3 (aWf B (aWy B t (md (SS t)))) (aPl B t (md (SS t)) * 3).toNat x (if w = 1 then n else n + 32768) v)) t (md (SS t)) := rfl
  obtain ⟨r1, r2, r3, r4, r5, r6, r7, r8, r9, r10, r11, r12, r13, r14⟩ := rf_ru (t := t) (md (SS t)) (sWf B (aWy B t (md (SS t))) (gT3 (aWf B (aWy B t (md (SS t)))) (aPl B t (md (SS t)) * 3).toNat x (if w = 1 then n else n + 32768) v))
  have c1 : aRu (srA B t (md (SS t)) x n v w) = aRu A := by rw [unf, r1]; exact b1
  have c2 : aBl (srA B t (md (SS t)) x n v w) = aBl A := by rw [unf, r2]; exact b2
  have c3 : aLb (srA B t (md (SS t)) x n v w) = aLb A := by rw [unf, r5]; exact b3
  have c4 : aM (srA B t (md (SS t)) x n v w) = aM A := by rw [unf, r14]; exact b9
  refine hc.same (S' := sSet (SS t) q x n v w) ht rfl rfl rfl (aOk_rf (md (SS t)) okS w260) c4 ⟨by rw [c4]; exact hs, hr', h2, by rw [c1]; exact u1, by rw [c2]; exact u2, by rw [c3]; exact u3⟩ (fun t' _ => ⟨by rw [c1], by rw [c2], by rw [c3]⟩) (fun y hy => ⟨?_, ?_, ?_⟩) ?_ ?_
  · rw [unf, r11]
    exact congrFun b4 y
  · rw [unf, r10]
    exact congrFun b5 y
  · rw [unf, rfA_fs _ _ _ (fun k hk z => by
      obtain ⟨y9, q9, z1, z2, z3⟩ := hway k (by omega)
      exact hy y9 q9 z1 z2 (by rw [← z, ← z3]; rfl))]
    obtain ⟨y9, q9, z1, z2, z3⟩ := hway (md (SS t)) (Nat.le_refl _)
    refine (gF_n (by rw [z3]; exact hy y9 q9 z1 z2)).trans ?_
    rw [b6]
  · rw [unf, r12]
    exact b7
  · rw [unf, r13]
    exact b8
end
end
section
/-! all the splits of one insertion -/
theorem CX.congF {A : cA} {SS : Nat → mS} {F F' : Nat → Prop} (hc : CX A SS F) (h : ∀ x, F x ↔ F' x) : CX A SS F' := by
  have : F = F' := funext (fun x => propext (h x))
  rw [← this]
  exact hc
theorem mQ_congr {S T : mS} {i : Nat} : ∀ y, (∀ k, k < y → mc S k = mc T k ∧ mK S k = mK T k) → mQ S i y = mQ T i y := by
  intro y
  induction y with
  | zero => intro _; rfl
  | succ y ih =>
    intro h
    show lc (mc S y) (mQ S i y) (mK S y) = lc (mc T y) (mQ T i y) (mK T y)
    rw [ih (fun k hk => h k (by omega)), (h y (by omega)).1, (h y (by omega)).2]
/-- n levels split, from level top - 1 down; nb y is the new block of level y -/
def spM (S : mS) (i h : Nat) (nb : Nat → Nat) (top : Nat) : Nat → mS
  | 0 => S
  | n + 1 => sSp (spM S i h nb top n) (top - 1 - n) (mQ (spM S i h nb top n) i (top - 1 - n + 1)) (mQ (spM S i h nb top n) i (top - 1 - n + 2)) h (nb (top - 1 - n))
theorem spM_run {S : mS} {i h : Nat} {nb : Nat → Nat} {top : Nat} : ∀ n, mn (spM S i h nb top n) = mn S ∧ ms (spM S i h nb top n) = ms S ∧ ml (spM S i h nb top n) = ml S ∧ mv (spM S i h nb top n) = mv S ∧ mw (spM S i h nb top n) = mw S ∧ md (spM S i h nb top n) = md S := by
  intro n
  induction n with
  | zero => exact ⟨rfl, rfl, rfl, rfl, rfl, rfl⟩
  | succ n ih => exact ih
theorem spM_lo {S : mS} {i h : Nat} {nb : Nat → Nat} {top : Nat} : ∀ n, n ≤ top → ∀ k, k < top - n → mc (spM S i h nb top n) k = mc S k ∧ mK (spM S i h nb top n) k = mK S k := by
  intro n
  induction n with
  | zero => intro _ k _; exact ⟨rfl, rfl⟩
  | succ n ih =>
    intro hn k hk
    obtain ⟨a1, a2⟩ := ih (by omega) k (by omega)
    refine ⟨?_, ?_⟩
    · show mc (sSp (spM S i h nb top n) _ _ _ _ _) k = _
      rw [ssp_co (by omega) (by omega), a1]
    · show mK (sSp (spM S i h nb top n) _ _ _ _ _) k = _
      rw [ssp_ko (by omega), a2]
section
variable {A : cA} {SS : Nat → mS} {S : mS} {t h top : Nat} {nb : Nat → Nat} {i : Int}
theorem CX.splits (hc : CX A SS (fun x => ∃ y, y < top ∧ x = nb y)) (ht : t < 4) (hS : SS t = S) (hw : WyTo A t S i) (hi : -1 ≤ i ∧ i < mn S) (hh : (aM A + 1) / 2 = h) (htop : top ≤ md S) (hfull : ∀ y, y < top → mc S y (mQ S i.toNat (y + 1)) = aM A) (hroom : mc S top (mQ S i.toNat (top + 1)) < if top = md S then 4 else aM A) (hfs : ∀ y, y < top → aFs A t (md S - y) = nb y) (hne : ∀ y y', y < y' → y' < top → nb y ≠ nb y') : ∀ n, n ≤ top →
    CX (spS A t (md S - top + 1) n) (gF SS t (spM S i.toNat h nb top n)) (fun x => ∃ y, y < top - n ∧ x = nb y) ∧ WyTo (spS A t (md S - top + 1) n) t (spM S i.toNat h nb top n) i ∧ (aFs (spS A t (md S - top + 1) n) t = aFs A t ∧ aM (spS A t (md S - top + 1) n) = aM A ∧ aMa (spS A t (md S - top + 1) n) = aMa A ∧ aMw (spS A t (md S - top + 1) n) = aMw A) ∧ mc (spM S i.toNat h nb top n) (top - n) (mQ (spM S i.toNat h nb top n) i.toNat (top - n + 1)) < (if top - n = md S then 4 else aM A) ∧ ∀ n', n' < n → SplitOk (spS A t (md S - top + 1) n') t (md S - top + 1 + n') := by
  intro n
  induction n with
  | zero =>
    intro _
    refine ⟨?_, hw, ⟨rfl, rfl, rfl, rfl⟩, hroom, fun n' h9 => absurd h9 (Nat.not_lt_zero _)⟩
    show CX A (gF SS t S) _
    rw [← hS, gF_same]
    exact hc
  | succ n ih =>
    intro hn
    obtain ⟨c1, c2, ⟨c3, c4, c5, c6⟩, c7, c8⟩ := ih (by omega)
    obtain ⟨m1, m2, m3, m4, m5, m6⟩ := spM_run (S := S) (i := i.toNat) (h := h) (nb := nb) (top := top) n
    have lo := spM_lo (S := S) (i := i.toNat) (h := h) (nb := nb) (top := top) n (by omega)
    obtain ⟨l, hl⟩ : ∃ l, top - 1 - n = l := ⟨_, rfl⟩
    have hl1 : top - n = l + 1 := by omega
    have hm5 := hc.1.1
    rw [hl1] at c7 c1
    have st := c1.split (k := md S - top + 1 + n) (l := l) (h := h) (b := nb l) ht (gF_s _ _ _) c2 (by rw [m1]; exact hi) (by rw [m6]; omega) (by rw [m6]; omega) (by rw [c4]; exact hh) (by
      rw [(lo l (by omega)).1, c4, mQ_congr (T := S) (l + 1) (fun k hk => lo k (by omega))]
      exact hfull l (by omega)) (by rw [m6, c4]; exact c7) (by
      rw [c3, show md S - top + 1 + n = md S - l by omega]
      exact hfs l (by omega)) ⟨l, by omega, rfl⟩
    obtain ⟨d1, d2, d3, d4⟩ := st
    rw [gF_uu] at d3
    obtain ⟨q1, q2, q3, q4, q5, q6, q7, q8⟩ := sp_num (A := spS A t (md S - top + 1) n) (t := t) (k := md S - top + 1 + n) (Ne.symm d2.2.2.2.2.1)
    have eM : spM S i.toNat h nb top (n + 1) = sSp (spM S i.toNat h nb top n) l (mQ (spM S i.toNat h nb top n) i.toNat (l + 1)) (mQ (spM S i.toNat h nb top n) i.toNat (l + 2)) h (nb l) := by
      rw [← hl]
      rfl
    have eS : spS A t (md S - top + 1) (n + 1) = spA (spS A t (md S - top + 1) n) t (md S - top + 1 + n) := rfl
    rw [eM, eS]
    refine ⟨d3.congF (fun x => ?_), d4, ⟨q8.trans c3, q7.trans c4, q3.trans c5, q4.trans c6⟩, ?_, fun n' h9 => ?_⟩
    · constructor
      · rintro ⟨⟨y, y1, y2⟩, y3⟩
        refine ⟨y, ?_, y2⟩
        have : y ≠ l := fun z => y3 (by rw [y2, z])
        omega
      · rintro ⟨y, y1, y2⟩
        refine ⟨⟨y, by omega, y2⟩, ?_⟩
        rw [y2]
        exact hne y l (by omega) (by omega)
    · rw [show top - (n + 1) = l by omega, if_neg (by omega), ssp_cl]
      have hin : i.toNat < mn (spM S i.toNat h nb top n) := by
        have hs := (c1.2.1 t ht).1
        rw [gF_s] at hs
        have := hs.npos (by rw [m6]; omega)
        omega
      have hs := (c1.2.1 t ht).1
      rw [gF_s] at hs
      rw [c4] at hs d1
      have e1 := ssp_mQ hs hin d1 (l + 1) (by rw [m6]; omega)
      rw [e1]
      unfold spQ
      rw [if_pos rfl]
      have e2 : mc (spM S i.toNat h nb top n) l (mQ (spM S i.toNat h nb top n) i.toNat (l + 1)) = aM A := by
        rw [(lo l (by omega)).1, mQ_congr (T := S) (l + 1) (fun k hk => lo k (by omega))]
        exact hfull l (by omega)
      split
      · rw [spl_nx, e2]
        omega
      · rw [spl_at]
        omega
    · by_cases h8 : n' = n
      · subst h8
        exact d2
      · exact c8 n' (by omega)
end
end
section
/-! insertRun on the model -/
def lfF (T : Nat → Int) : Nat → Nat → Nat
  | 0, k => k
  | n + 1, k => if T k = 0 then k else lfF T n (k + 1)
/-- the least free block -/
def lf (T : Nat → Int) : Nat := lfF T 255 1
/-- n blocks are taken -/
def tkT (T : Nat → Int) : Nat → Nat → Int
  | 0 => T
  | n + 1 => gF (tkT T n) (lf (tkT T n)) 1
def nbT (T : Nat → Int) (y : Nat) : Nat := lf (tkT T y)
theorem lfF_spec {T : Nat → Int} : ∀ n k, (k ≤ lfF T n k ∧ lfF T n k < k + n ∧ T (lfF T n k) = 0 ∧ ∀ j, k ≤ j → j < lfF T n k → T j ≠ 0) ∨ ∀ j, k ≤ j → j < k + n → T j ≠ 0 := by
  intro n
  induction n with
  | zero => intro k; exact Or.inr (fun j h1 h2 => by omega)
  | succ n ih =>
    intro k
    unfold lfF
    by_cases h : T k = 0
    · rw [if_pos h]
      exact Or.inl ⟨Nat.le_refl _, by omega, h, fun j h1 h2 => by omega⟩
    · rw [if_neg h]
      rcases ih (k + 1) with ⟨a1, a2, a3, a4⟩ | a
      · refine Or.inl ⟨by omega, by omega, a3, fun j h1 h2 => ?_⟩
        by_cases e : j = k
        · rw [e]
          exact h
        · exact a4 j (by omega) h2
      · refine Or.inr (fun j h1 h2 => ?_)
        by_cases e : j = k
        · rw [e]
          exact h
        · exact a j (by omega) (by omega)
theorem cnF_0 {T : Nat → Int} : ∀ n, (∀ j, 1 ≤ j → j < 1 + n → T j ≠ 0) → cnF T n = 0 := by
  intro n
  induction n with
  | zero => intro _; rfl
  | succ n ih =>
    intro h
    show cnF T n + (if T (n + 1) = 0 then 1 else 0) = 0
    rw [ih (fun j h1 h2 => h j h1 (by omega)), if_neg (h (n + 1) (by omega) (by omega))]
    rfl
theorem mRn_of {S T : mS} (h : mRn S) (h1 : mn T = mn S) (h2 : ms T = ms S) (h3 : ml T = ml S) (h4 : mv T = mv S) (h5 : mw T = mw S) : mRn T := by
  unfold mRn
  rw [h1, h2, h3, h4, h5]
  exact h
section
variable {G : gG} {N : Option Nat} {h0 : gH} {A : cA} {SS : Nat → mS} {F : Nat → Prop} {S : mS} {t l tt j : Nat} {i x n v w : Int}
theorem CX.least (hc : CX A SS F) (hle : 1 ≤ aLe A) : leastFree A (lf (aTk A)) := by
  rw [hc.2.2.2.2.2.2] at hle
  rcases lfF_spec (T := aTk A) 255 1 with ⟨a1, a2, a3, a4⟩ | a
  · refine ⟨⟨a1, by unfold lf; omega⟩, a3, fun j j1 j2 => ?_⟩
    have h := a4 j j1 j2
    have j2 : j < lfF (aTk A) 255 1 := j2
    rcases hc.2.2.2.1 j j1 (by omega) with ⟨g, _⟩ | ⟨g, _⟩
    · exact g
    · exact absurd g h
  · rw [cnF_0 255 a] at hle
    omega
theorem CX.takes (hc : CX A SS (fun _ => False)) {c : Nat} (hle : (c : Int) ≤ aLe A) (hcl : c ≤ l + 1) : ∀ n, n ≤ c → CX (tkS A t (fun k => nbT (aTk A) (l - k)) l n) SS (fun x => ∃ y, y < n ∧ x = nbT (aTk A) y) ∧ aTk (tkS A t (fun k => nbT (aTk A) (l - k)) l n) = tkT (aTk A) n ∧ (aMa (tkS A t (fun k => nbT (aTk A) (l - k)) l n) = aMa A ∧ aMw (tkS A t (fun k => nbT (aTk A) (l - k)) l n) = aMw A ∧ aLe (tkS A t (fun k => nbT (aTk A) (l - k)) l n) = aLe A - n) ∧ (∀ m, m < n → leastFree (tkS A t (fun k => nbT (aTk A) (l - k)) l m) (nbT (aTk A) (l - (l - m)))) ∧ (∀ y, y < n → aFs (tkS A t (fun k => nbT (aTk A) (l - k)) l n) t (l - y) = nbT (aTk A) y) ∧ ∀ y y', y < y' → y' < n → nbT (aTk A) y ≠ nbT (aTk A) y' := by
  intro n
  induction n with
  | zero =>
    intro _
    refine ⟨hc.congF (fun x => ⟨fun z => z.elim, fun ⟨y, y1, _⟩ => absurd y1 (Nat.not_lt_zero _)⟩), rfl, ⟨rfl, rfl, by show aLe A = aLe A - 0; omega⟩, fun m h => absurd h (Nat.not_lt_zero _), fun y h => absurd h (Nat.not_lt_zero _), fun y y' _ h => absurd h (Nat.not_lt_zero _)⟩
  | succ n ih =>
    intro hn
    obtain ⟨a1, a2, ⟨a3, a4, a5⟩, a6, a7, a8⟩ := ih (by omega)
    have eb : l - (l - n) = n := by omega
    have lft : leastFree (tkS A t (fun k => nbT (aTk A) (l - k)) l n) (nbT (aTk A) n) := by
      have := a1.least (by rw [a5]; omega)
      rw [a2] at this
      exact this
    have eS : tkS A t (fun k => nbT (aTk A) (l - k)) l (n + 1) = tk1 (tkS A t (fun k => nbT (aTk A) (l - k)) l n) t (l - n) (nbT (aTk A) n) := by
      show tk1 _ t (l - n) (nbT (aTk A) (l - (l - n))) = _
      rw [eb]
    obtain ⟨b1, b2, b3⟩ := a1.take (t := t) (k := l - n) lft
    rw [eS]
    refine ⟨b1.congF (fun x => ?_), ?_, ⟨a3, a4, ?_⟩, fun m hm => ?_, fun y hy => ?_, fun y y' h1 h2 => ?_⟩
    · constructor
      · rintro (⟨y, y1, y2⟩ | y2)
        · exact ⟨y, by omega, y2⟩
        · exact ⟨n, by omega, y2⟩
      · rintro ⟨y, y1, y2⟩
        by_cases e : y = n
        · exact Or.inr (by rw [y2, e])
        · exact Or.inl ⟨y, by omega, y2⟩
    · show gF (aTk (tkS A t (fun k => nbT (aTk A) (l - k)) l n)) (nbT (aTk A) n) 1 = _
      rw [a2]
      rfl
    · show aLe (tkS A t (fun k => nbT (aTk A) (l - k)) l n) - 1 = _
      rw [a5]
      omega
    · by_cases e : m = n
      · rw [e, eb]
        exact lft
      · exact a6 m (by omega)
    · show gF (aFs (tkS A t (fun k => nbT (aTk A) (l - k)) l n)) t (gF (aFs (tkS A t (fun k => nbT (aTk A) (l - k)) l n) t) (l - n) (nbT (aTk A) n)) t (l - y) = _
      rw [gF_s]
      by_cases e : y = n
      · rw [e, gF_s]
      · rw [gF_n (by omega)]
        exact a7 y (by omega)
    · by_cases e : y' = n
      · intro z
        exact b2 ⟨y, by omega, by rw [z, e]⟩
      · exact a8 y y' h1 (by omega)
/-- the level with room, by the model -/
theorem lwr_is (ok : aOk A) (ht : t < 4) (hs : mSh S t (aM A)) (ha : mAb A t S) (hw : WyTo A t S i) (hi : -1 ≤ i ∧ i < mn S) (hfull : ∀ y, y < tt → mc S y (mQ S i.toNat (y + 1)) = if y = md S then 4 else aM A) : ∀ y, y ≤ tt → y ≤ md S + 1 → lwr A t (md S + 1 - y) = lwr A t (md S + 1) := by
  intro y
  induction y with
  | zero => intro _ _; rfl
  | succ y ih =>
    intro h1 h2
    rw [← ih (by omega) (by omega)]
    have e : md S + 1 - y = (md S + 1 - (y + 1)) + 1 := by omega
    rw [e]
    have hp := (pP_b hs hi (k := md S - y) (by omega)).1
    have hW := (hw.2 (md S - y) (by omega)).1
    have e2 : md S + 1 - (y + 1) = md S - y := by omega
    rw [show md S - (md S - y) = y by omega] at hp
    unfold pW at hW
    rw [show md S - (md S - y) = y by omega] at hW
    show _ = if (aRm A (aWy A t (md S + 1 - (y + 1))) : Int) ≤ aEn A (aWy A t (md S + 1 - (y + 1))) then _ else _
    rw [e2, hW, (ha y (by omega) _ hp).2.1, hfull y (by omega), if_pos ?_]
    unfold aRm
    by_cases h9 : y = md S
    · rw [if_pos h9]
      split
      · have hb := hs.2.1
        rename_i hlt
        rw [h9] at hp hlt
        rw [show mQ S i.toNat (md S + 1) = 0 by omega, hs.2.2.1] at hlt
        omega
      · exact Int.le_refl _
    · rw [if_neg h9]
      have := (hs.2.2.2.2.1 y (by omega) _ hp).2.2.2
      rw [if_pos (by omega)]
      exact Int.le_refl _
def enS (S : mS) (t m i : Nat) (nb : Nat → Nat) (tt j : Nat) (x n v w : Int) : mS := if tt ≤ md S then sIn (spM S i ((m + 1) / 2) nb tt tt) j (mQ (spM S i ((m + 1) / 2) nb tt tt) i 1) x n v w else sIn (spM (sGw S t (nb (md S))) i ((m + 1) / 2) nb (md S) (md S)) j (mQ (spM (sGw S t (nb (md S))) i ((m + 1) / 2) nb (md S) (md S)) i 1) x n v w
set_option maxHeartbeats 1000000 in
theorem s_insertRun (hc : CX A SS (fun _ => False)) (ht : t < 4) (hS : SS t = S) (hw : WyTo A t S i) (hi : -1 ≤ i ∧ i < mn S) (hjj : (j : Int) = i + 1) (htt : tt ≤ md S + 1) (hfull : ∀ y, y < tt → mc S y (mQ S i.toNat (y + 1)) = if y = md S then 4 else aM A) (hroom : tt ≤ md S → mc S tt (mQ S i.toNat (tt + 1)) < if tt = md S then 4 else aM A) (hd : tt = md S + 1 → md S < 5) (hle : (tt : Int) ≤ aLe A) (hx : 0 ≤ x ∧ x ≤ 65536) (hn : 0 ≤ n ∧ n ≤ 32768) (hv : 0 ≤ v ∧ v ≤ 16777216) (hww : w = 0 ∨ w = 1) (hr' : mRn (sIn S j 0 x n v w)) :
    ∃ A', Rd G m_Tree_insertRun [vR (517 + 6 * t), vI x, vI n, vI v, vI w] N (hpx A h0) none none (hpx A' h0) ∧ CX A' (gF SS t (enS S t (aM A) i.toNat (nbT (aTk A)) tt j x n v w)) (fun _ => False) ∧ aMa A' = aMa A ∧ aMw A' = aMw A ∧ aM A' = aM A ∧ aTk A' = tkT (aTk A) tt := by
  obtain ⟨hs, hr, ha, u1, u2, u3⟩ := hc.2.1 t ht
  rw [hS] at hs hr ha u1 u2 u3
  have h5 := hs.1
  have hm5 := hc.1.1
  have w260 : ∀ k, k ≤ md S → aWy A t k < 260 := fun k hk => by
    rw [(hw.2 k hk).1]
    exact hs.bl ht (by omega) (pP_b hs hi hk).1
  obtain ⟨k1, k2, ⟨k3, k4, k5⟩, k6, k7, k8⟩ := hc.takes (t := t) (l := md S) (c := tt) hle htt tt (Nat.le_refl _)
  obtain ⟨e1, e2, e3, e4, e5, e6, e7⟩ := tks_same (A := A) (t := t) (bs := fun k => nbT (aTk A) (md S - k)) (l := md S) tt
  have hlw := lwr_is hc.1 ht hs ha hw hi hfull tt (Nat.le_refl _) htt
  have hwB : WyTo (tkS A t (fun k => nbT (aTk A) (md S - k)) (md S) tt) t S i := by
    refine ⟨by rw [e1]; exact hw.1, fun k hk => ?_⟩
    rw [e2, e3]
    exact hw.2 k hk
  have irt : ∀ (C : cA) (l9 : Nat), aMa (irF C t l9 x n v w) = aMa C ∧ aMw (irF C t l9 x n v w) = aMw C ∧ aM (irF C t l9 x n v w) = aM C ∧ aTk (irF C t l9 x n v w) = aTk C := by
    intro C l9
    obtain ⟨r1, r2, r3, r4, r5, r6, r7, r8, r9, r10, r11, r12, r13, r14⟩ := rf_ru (t := t) l9 (irI C t l9 x n v w)
    refine ⟨?_, ?_, r14, ?_⟩
    · show gF (aMa (rfA (irI C t l9 x n v w) t l9)) t (aMa C t) = _
      rw [r3]
      exact gF_same _ _
    · show gF (aMw (rfA (irI C t l9 x n v w) t l9)) t (aMw C t) = _
      rw [r4]
      exact gF_same _ _
    · show aTk (rfA (irI C t l9 x n v w) t l9) = _
      rw [r12]
      exact gF_same _ _
  have sptk : ∀ (C : cA) (k9 : Nat) (n9 : Nat), aTk (spS C t k9 n9) = aTk C := by
    intro C k9 n9
    induction n9 with
    | zero => rfl
    | succ n9 ih => exact sp_tk.trans ih
  by_cases hca : tt ≤ md S
  · have hl2 : lwr A t (md S + 1) = ((md S - tt : Nat) : Int) := by
      rw [← hlw, show md S + 1 - tt = (md S - tt) + 1 by omega]
      have hp := (pP_b hs hi (k := md S - tt) (by omega)).1
      have hW := (hw.2 (md S - tt) (by omega)).1
      rw [show md S - (md S - tt) = tt by omega] at hp
      unfold pW at hW
      rw [show md S - (md S - tt) = tt by omega] at hW
      show (if (aRm A (aWy A t (md S - tt)) : Int) ≤ aEn A (aWy A t (md S - tt)) then _ else _) = _
      rw [hW, (ha tt hca _ hp).2.1, if_neg ?_]
      have hro := hroom hca
      unfold aRm
      by_cases h9 : tt = md S
      · rw [if_pos h9] at hro
        have hb := hs.2.1
        rw [h9] at hp hro ⊢
        rw [show mQ S i.toNat (md S + 1) = 0 by omega] at hro ⊢
        rw [hs.2.2.1, if_neg (by omega)]
        omega
      · rw [if_neg h9] at hro
        have := (hs.2.2.2.2.1 tt (by omega) _ hp).2.2.2
        rw [if_pos (by omega)]
        omega
    have sp := k1.splits (h := (aM A + 1) / 2) (nb := nbT (aTk A)) ht hS hwB hi (by rw [e7]) hca (fun y hy => by rw [hfull y hy, e7, if_neg (by omega)]) (by rw [e7]; exact hroom hca) k7 k8 tt (Nat.le_refl _)
    obtain ⟨c1, c2, ⟨c3, c4, c5, c6⟩, c7, c8⟩ := sp
    obtain ⟨m1, m2, m3, m4, m5, m6⟩ := spM_run (S := S) (i := i.toNat) (h := (aM A + 1) / 2) (nb := nbT (aTk A)) (top := tt) tt
    rw [Nat.sub_self] at c1 c7
    have c1 := c1.congF (F' := fun _ => False) (fun x => ⟨fun ⟨y, y1, _⟩ => absurd y1 (Nat.not_lt_zero _), fun z => z.elim⟩)
    have c7 : mc (spM S i.toNat ((aM A + 1) / 2) (nbT (aTk A)) tt tt) 0 (mQ (spM S i.toNat ((aM A + 1) / 2) (nbT (aTk A)) tt tt) i.toNat 1) < if 0 = md S then 4 else aM A := by
      rw [e7] at c7
      exact c7
    have fin := c1.ins (j := j) (p := mQ (spM S i.toNat ((aM A + 1) / 2) (nbT (aTk A)) tt tt) i.toNat 1) (x := x) (n := n) (v := v) (w := w) ht (gF_s _ _ _) c2 (by rw [m1]; exact hi) hjj rfl (by rw [m6, c4, e7]; exact c7) hx hn hv hww (mRn_of hr' (by show _ + 1 = _ + 1; rw [m1]) (by show insN _ _ _ = insN _ _ _; rw [m2]) (by show insN _ _ _ = insN _ _ _; rw [m3]) (by show insN _ _ _ = insN _ _ _; rw [m4]) (by show insN _ _ _ = insN _ _ _; rw [m5]))
    obtain ⟨f1, f2⟩ := fin
    rw [m6] at f1 f2
    rw [gF_uu] at f2
    refine ⟨_, c_insertRun_a (bs := fun k => nbT (aTk A) (md S - k)) (l := md S) (r := md S - tt) hc.1 ht hw.1 (by omega) w260 hl2 (by omega) (fun m hm => k6 m (by omega)) (fun m hm => by rw [show md S - (md S - tt) = tt by omega]; exact c8 m (by omega)) (by rw [show md S - (md S - tt) = tt by omega]; exact f1) hx hn hv hww, ?_⟩
    rw [show md S - (md S - tt) = tt by omega]
    obtain ⟨g1, g2, g3, g4⟩ := irt (spS (tkS A t (fun k => nbT (aTk A) (md S - k)) (md S) tt) t (md S - tt + 1) tt) (md S)
    refine ⟨?_, g1.trans (c5.trans k3), g2.trans (c6.trans k4), g3.trans (c4.trans e7), g4.trans ((sptk _ _ _).trans k2)⟩
    unfold enS
    rw [if_pos hca]
    exact f2
  · have htd : tt = md S + 1 := by omega
    subst htd
    have hd4 := hd rfl
    have hl2 : lwr A t (md S + 1) = -1 := by
      rw [← hlw, Nat.sub_self]
      rfl
    have hb0 : aFs (tkS A t (fun k => nbT (aTk A) (md S - k)) (md S) (md S + 1)) t 0 = nbT (aTk A) (md S) := by
      have := k7 (md S) (by omega)
      rw [Nat.sub_self] at this
      exact this
    have q0 : mQ S i.toNat (md S + 1) = 0 := by
      have hp := (pP_b hs hi (k := 0) (by omega)).1
      have hb := hs.2.1
      rw [Nat.sub_zero] at hp
      omega
    have full0 : mc S (md S) 0 = 4 := by
      have := hfull (md S) (by omega)
      rw [q0, if_pos rfl] at this
      exact this
    have gr := k1.grow (i := i) (b := nbT (aTk A) (md S)) ht hS hwB hi hd4 (by omega) ⟨md S, by omega, rfl⟩
    obtain ⟨c1, c2⟩ := gr
    have bn := k1.2.2.2.2.1 (nbT (aTk A) (md S)) ⟨md S, by omega, rfl⟩
    obtain ⟨n1, n2, n3, n4, n5, n6, n7, n8⟩ := gw_num (A := tkS A t (fun k => nbT (aTk A) (md S - k)) (md S) (md S + 1)) (t := t) (b := nbT (aTk A) (md S)) (l := md S) (by omega)
    have c1 := c1.congF (F' := fun x => ∃ y, y < md S ∧ x = nbT (aTk A) y) (fun x => by
      constructor
      · rintro ⟨⟨y, y1, y2⟩, y3⟩
        refine ⟨y, ?_, y2⟩
        have : y ≠ md S := fun z => y3 (by rw [y2, z])
        omega
      · rintro ⟨y, y1, y2⟩
        refine ⟨⟨y, by omega, y2⟩, ?_⟩
        rw [y2]
        exact k8 y (md S) y1 (by omega))
    have hsg : mSh (sGw S t (nbT (aTk A) (md S))) t (aM A) := by
      have := (c1.2.1 t ht).1
      rw [gF_s, n7, e7] at this
      exact this
    have hin : i.toNat < mn S := by
      by_cases h9 : 0 < md S
      · have := hs.npos h9
        omega
      · have h8 := hs.off (Nat.le_refl (md S)) (show 0 < mK S (md S) by have := hs.2.1; omega)
        have h7 : md S = 0 := by omega
        rw [h7] at h8 full0
        have h6 : mI S 0 = mn S := rfl
        omega
    obtain ⟨mq1, mq2⟩ := sgw_mQ (b := nbT (aTk A) (md S)) hs hsg hin
    have hdg : md (sGw S t (nbT (aTk A) (md S))) = md S + 1 := rfl
    have sp := c1.splits (S := sGw S t (nbT (aTk A) (md S))) (i := i) (h := (aM A + 1) / 2) (nb := nbT (aTk A)) (top := md S) ht (gF_s _ _ _) c2 hi (by rw [n7, e7]) (by rw [hdg]; omega) (fun y hy => by
      rw [sgw_co (by omega), mq1 _ (by omega), hfull y (by omega), n7, e7, if_neg (by omega)]) (by
      rw [sgw_co (Nat.le_refl _), mq1 _ (by omega), q0, full0, n7, e7, hdg, if_neg (by omega)]
      omega) (fun y hy => by
      rw [n8, hdg]
      have es : shf (aFs (tkS A t (fun k => nbT (aTk A) (md S - k)) (md S) (md S + 1)) t) 0 (md S) (md S + 1 - y) = aFs (tkS A t (fun k => nbT (aTk A) (md S - k)) (md S) (md S + 1)) t (md S + 1 - y - 1) := if_pos (by omega)
      rw [es, show md S + 1 - y - 1 = md S - y by omega]
      exact k7 y (by omega)) (fun y y' h1 h2 => k8 y y' h1 (by omega)) (md S) (Nat.le_refl _)
    rw [hdg, show md S + 1 - md S + 1 = 2 by omega] at sp
    obtain ⟨d1, d2, ⟨d3, d4, d5, d6⟩, d7, d8⟩ := sp
    obtain ⟨m1, m2, m3, m4, m5, m6⟩ := spM_run (S := sGw S t (nbT (aTk A) (md S))) (i := i.toNat) (h := (aM A + 1) / 2) (nb := nbT (aTk A)) (top := md S) (md S)
    rw [Nat.sub_self] at d1 d7
    rw [gF_uu] at d1
    have d1 := d1.congF (F' := fun _ => False) (fun x => ⟨fun ⟨y, y1, _⟩ => absurd y1 (Nat.not_lt_zero _), fun z => z.elim⟩)
    have d7 : mc (spM (sGw S t (nbT (aTk A) (md S))) i.toNat ((aM A + 1) / 2) (nbT (aTk A)) (md S) (md S)) 0 (mQ (spM (sGw S t (nbT (aTk A) (md S))) i.toNat ((aM A + 1) / 2) (nbT (aTk A)) (md S) (md S)) i.toNat 1) < if 0 = md S + 1 then 4 else aM A := by
      rw [n7, e7] at d7
      exact d7
    have fin := d1.ins (j := j) (p := mQ (spM (sGw S t (nbT (aTk A) (md S))) i.toNat ((aM A + 1) / 2) (nbT (aTk A)) (md S) (md S)) i.toNat 1) (x := x) (n := n) (v := v) (w := w) ht (gF_s _ _ _) d2 (by rw [m1]; exact hi) hjj rfl (by rw [m6, d4, n7, e7]; exact d7) hx hn hv hww (mRn_of hr' (by show _ + 1 = _ + 1; rw [m1]; rfl) (by show insN _ _ _ = insN _ _ _; rw [m2]; rfl) (by show insN _ _ _ = insN _ _ _; rw [m3]; rfl) (by show insN _ _ _ = insN _ _ _; rw [m4]; rfl) (by show insN _ _ _ = insN _ _ _; rw [m5]; rfl))
    obtain ⟨f1, f2⟩ := fin
    rw [m6, hdg] at f1 f2
    rw [gF_uu] at f2
    have dp0 : aDp A (256 + t) ≤ 4 := by
      have := (ha (md S) (Nat.le_refl _) 0 (by have := hs.2.1; omega)).1
      rw [hs.2.2.1] at this
      rw [this]
      omega
    have fsr : ∀ k, k ≤ md S → aFs (tkS A t (fun k => nbT (aTk A) (md S - k)) (md S) (md S + 1)) t k < 260 := by
      intro k hk
      have h1 := k7 (md S - k) (by omega)
      rw [show md S - (md S - k) = k by omega] at h1
      rw [h1]
      have := k1.2.2.2.2.1 (nbT (aTk A) (md S - k)) ⟨md S - k, by omega, rfl⟩
      omega
    refine ⟨_, c_insertRun_b (bs := fun k => nbT (aTk A) (md S - k)) (l := md S) hc.1 ht hw.1 hd4 w260 hl2 k6 dp0 hb0 fsr d8 f1 hx hn hv hww, ?_⟩
    obtain ⟨g1, g2, g3, g4⟩ := irt (spS (gw2 (gw1 (tkS A t (fun k => nbT (aTk A) (md S - k)) (md S) (md S + 1)) t (nbT (aTk A) (md S))) t (md S) (nbT (aTk A) (md S))) t 2 (md S)) (md S + 1)
    refine ⟨?_, g1.trans (d5.trans (n3.trans k3)), g2.trans (d6.trans (n4.trans k4)), g3.trans (d4.trans (n7.trans e7)), g4.trans ((sptk _ _ _).trans (gw_tk.trans k2))⟩
    unfold enS
    rw [if_neg hca]
    exact f2
end
end
section
/-! a run goes out of the model -/
def delN {α : Type} (f : Nat → α) (p : Nat) : Nat → α := fun q => if q < p then f q else f (q + 1)
def decN (f : Nat → Nat) (p : Nat) : Nat → Nat := gF f p (f p - 1)
section
variable {α : Type} {f : Nat → Nat} {g : Nat → α} {p q : Nat}
theorem del_lo (h : q < p) : delN g p q = g q := if_pos h
theorem del_hi (h : p ≤ q) : delN g p q = g (q + 1) := if_neg (by omega)
theorem sm_del_lo (h : q ≤ p) : sm (delN f p) q = sm f q := sm_congr (fun x hx => del_lo (by omega))
theorem sm_del_hi : ∀ q, p ≤ q → sm (delN f p) q + f p = sm f (q + 1) := by
  intro q
  induction q with
  | zero =>
    intro h
    have : p = 0 := by omega
    subst this
    rfl
  | succ q ih =>
    intro h
    by_cases e : p = q + 1
    · subst e
      rw [sm_del_lo (Nat.le_refl _)]
      rfl
    · have := ih (by omega)
      show sm (delN f p) q + delN f p q + f p = sm f (q + 1) + f (q + 1)
      rw [del_hi (by omega)]
      omega
theorem dec_at : decN f p p = f p - 1 := gF_s _ _ _
theorem dec_n (h : q ≠ p) : decN f p q = f q := gF_n h
theorem sm_dec_lo (h : q ≤ p) : sm (decN f p) q = sm f q := sm_congr (fun x hx => dec_n (by omega))
theorem sm_dec_hi (h1 : 1 ≤ f p) : ∀ q, p < q → sm (decN f p) q + 1 = sm f q := by
  intro q
  induction q with
  | zero => intro h; omega
  | succ q ih =>
    intro h
    show sm (decN f p) q + decN f p q + 1 = sm f q + f q
    by_cases e : q = p
    · subst e
      rw [sm_dec_lo (Nat.le_refl _), dec_at]
      omega
    · have := ih (by omega)
      rw [dec_n e]
      omega
end
def sRm (S : mS) (i c : Nat) : mS := (mn S - 1, delN (ms S) i, delN (ml S) i, delN (mv S) i, delN (mw S) i, md S, (fun y => if y < c then mK S y - 1 else mK S y), (fun y => if y < c then delN (mb S y) (mQ S i (y + 1)) else mb S y), (fun y => if y < c then delN (mc S y) (mQ S i (y + 1)) else if y = c then decN (mc S y) (mQ S i (y + 1)) else mc S y))
/-- below level c the way has nodes of one entry, at level c one of more -/
def RmC (S : mS) (i c : Nat) : Prop := i < mn S ∧ c ≤ md S ∧ (∀ y, y < c → mc S y (mQ S i (y + 1)) = 1) ∧ 2 ≤ mc S c (mQ S i (c + 1))
section
variable {S : mS} {t m i c : Nat}
theorem srm_kl {y : Nat} (h : y < c) : mK (sRm S i c) y = mK S y - 1 := if_pos h
theorem srm_kh {y : Nat} (h : c ≤ y) : mK (sRm S i c) y = mK S y := if_neg (by omega)
theorem srm_bl {y : Nat} (h : y < c) : mb (sRm S i c) y = delN (mb S y) (mQ S i (y + 1)) := if_pos h
theorem srm_bh {y : Nat} (h : c ≤ y) : mb (sRm S i c) y = mb S y := if_neg (by omega)
theorem srm_cl {y : Nat} (h : y < c) : mc (sRm S i c) y = delN (mc S y) (mQ S i (y + 1)) := if_pos h
theorem srm_cc : mc (sRm S i c) c = decN (mc S c) (mQ S i (c + 1)) := by
  show (if c < c then _ else if c = c then _ else _) = _
  rw [if_neg (by omega), if_pos rfl]
theorem srm_ch {y : Nat} (h : c < y) : mc (sRm S i c) y = mc S y := by
  show (if y < c then _ else if y = c then _ else _) = _
  rw [if_neg (by omega), if_neg (by omega)]
theorem rm_sm (hs : mSh S t m) (hi : i < mn S) {y : Nat} (hy : y ≤ md S) (h1 : mc S y (mQ S i (y + 1)) = 1) : sm (mc S y) (mQ S i (y + 1)) = mQ S i y := by
  obtain ⟨a1, a2, a3⟩ := mQ_in hs hi hy
  omega
theorem rm_one (hs : mSh S t m) (hi : i < mn S) : ∀ y, y ≤ md S + 1 → (∀ z, z < y → mc S z (mQ S i (z + 1)) = 1) → fr (mc S) y (mQ S i y) = i ∧ fr (mc S) y (mQ S i y + 1) = i + 1 := by
  intro y
  induction y with
  | zero => intro _ _; exact ⟨rfl, rfl⟩
  | succ y ih =>
    intro hy h
    obtain ⟨a1, a2⟩ := ih (by omega) (fun z hz => h z (by omega))
    have e := rm_sm hs hi (show y ≤ md S by omega) (h y (by omega))
    refine ⟨?_, ?_⟩
    · show fr (mc S) y (sm (mc S y) (mQ S i (y + 1))) = i
      rw [e]
      exact a1
    · show fr (mc S) y (sm (mc S y) (mQ S i (y + 1)) + mc S y (mQ S i (y + 1))) = i + 1
      rw [e, h y (by omega)]
      exact a2
theorem srm_frl (hs : mSh S t m) (h : RmC S i c) : ∀ y, y ≤ c → ∀ x, x + 1 ≤ mI S y → fr (mc (sRm S i c)) y x = if x < mQ S i y then fr (mc S) y x else fr (mc S) y (x + 1) - 1 := by
  obtain ⟨hi, hc, h1, h2⟩ := h
  intro y
  induction y with
  | zero =>
    intro _ x _
    show x = if x < i then x else x + 1 - 1
    split <;> omega
  | succ y ih =>
    intro hy x hx
    have hx : x + 1 ≤ mK S y := hx
    have e := rm_sm hs hi (show y ≤ md S by omega) (h1 y (by omega))
    have o1 := h1 y (by omega)
    have hn : 0 < mn S := by omega
    have hK := hs.2.2.2.1 y (by omega)
    show fr (mc (sRm S i c)) y (sm (mc (sRm S i c) y) x) = if x < mQ S i (y + 1) then fr (mc S) y (sm (mc S y) x) else fr (mc S) y (sm (mc S y) (x + 1)) - 1
    rw [srm_cl (by omega)]
    by_cases h9 : x < mQ S i (y + 1)
    · have l1 := sm_lt (f := mc S y) (K := mK S y) (fun p hp => hs.pos hn (by omega) hp) h9 (Nat.le_of_lt (mQ_in hs hi (show y ≤ md S by omega)).1)
      have l2 : sm (mc S y) (mQ S i (y + 1)) ≤ sm (mc S y) (mK S y) := sm_mono (Nat.le_of_lt (mQ_in hs hi (show y ≤ md S by omega)).1)
      rw [if_pos h9, sm_del_lo (by omega), ih (by omega) _ (by omega), if_pos (by omega)]
    · have l1 := sm_del_hi (f := mc S y) (p := mQ S i (y + 1)) x (by omega)
      have l2 : sm (mc S y) (mQ S i (y + 1) + 1) ≤ sm (mc S y) (x + 1) := sm_mono (by omega)
      have l3 : sm (mc S y) (mQ S i (y + 1) + 1) = sm (mc S y) (mQ S i (y + 1)) + mc S y (mQ S i (y + 1)) := rfl
      have l4 : sm (mc S y) (x + 1) ≤ sm (mc S y) (mK S y) := sm_mono hx
      rw [if_neg h9, ih (by omega) _ (by omega), if_neg (by omega), show sm (delN (mc S y) (mQ S i (y + 1))) x + 1 = sm (mc S y) (x + 1) by omega]
theorem srm_frh (hs : mSh S t m) (h : RmC S i c) : ∀ y, c ≤ y → y ≤ md S → ∀ x, x ≤ mK S y → fr (mc (sRm S i c)) (y + 1) x = if x ≤ mQ S i (y + 1) then fr (mc S) (y + 1) x else fr (mc S) (y + 1) x - 1 := by
  have hall := h
  obtain ⟨hi, hc, h1, h2⟩ := h
  have hn : 0 < mn S := by omega
  intro y
  induction y with
  | zero =>
    intro hy _ x hx
    have hc0 : c = 0 := by omega
    subst hc0
    show sm (mc (sRm S i 0) 0) x = if x ≤ mQ S i 1 then sm (mc S 0) x else sm (mc S 0) x - 1
    rw [srm_cc]
    by_cases h9 : x ≤ mQ S i 1
    · rw [if_pos h9, sm_dec_lo h9]
    · have := sm_dec_hi (f := mc S 0) (p := mQ S i 1) (by have : 2 ≤ mc S 0 (mQ S i 1) := h2; omega) x (by omega)
      rw [if_neg h9]
      show sm (decN (mc S 0) (mQ S i 1)) x = _
      omega
  | succ y ih =>
    intro hy hyd x hx
    obtain ⟨a1, a2, a3⟩ := mQ_in hs hi hyd
    by_cases e : c = y + 1
    · subst e
      obtain ⟨b1, b2⟩ := rm_one hs hi (y + 1) (by omega) h1
      have hK := hs.2.2.2.1 (y + 1) hyd
      show fr (mc (sRm S i (y + 1))) (y + 1) (sm (mc (sRm S i (y + 1)) (y + 1)) x) = if x ≤ mQ S i (y + 1 + 1) then fr (mc S) (y + 1) (sm (mc S (y + 1)) x) else fr (mc S) (y + 1) (sm (mc S (y + 1)) x) - 1
      rw [srm_cc]
      by_cases h9 : x ≤ mQ S i (y + 1 + 1)
      · have l1 : sm (mc S (y + 1)) x ≤ sm (mc S (y + 1)) (mQ S i (y + 1 + 1)) := sm_mono h9
        have l2 := hs.off hyd a1
        rw [if_pos h9, sm_dec_lo h9, srm_frl hs hall (y + 1) (Nat.le_refl _) _ (by omega)]
        by_cases h8 : sm (mc S (y + 1)) x < mQ S i (y + 1)
        · rw [if_pos h8]
        · rw [if_neg h8, show sm (mc S (y + 1)) x = mQ S i (y + 1) by omega, b1, b2]
          omega
      · have l1 := sm_dec_hi (f := mc S (y + 1)) (p := mQ S i (y + 1 + 1)) (by omega) x (by omega)
        have l2 : sm (mc S (y + 1)) (mQ S i (y + 1 + 1) + 1) ≤ sm (mc S (y + 1)) x := sm_mono (by omega)
        have l3 : sm (mc S (y + 1)) (mQ S i (y + 1 + 1) + 1) = sm (mc S (y + 1)) (mQ S i (y + 1 + 1)) + mc S (y + 1) (mQ S i (y + 1 + 1)) := rfl
        have l4 : sm (mc S (y + 1)) x ≤ sm (mc S (y + 1)) (mK S (y + 1)) := sm_mono hx
        rw [if_neg h9, srm_frl hs hall (y + 1) (Nat.le_refl _) _ (by omega), if_neg (by omega), show sm (decN (mc S (y + 1)) (mQ S i (y + 1 + 1))) x + 1 = sm (mc S (y + 1)) x by omega]
    · show fr (mc (sRm S i c)) (y + 1) (sm (mc (sRm S i c) (y + 1)) x) = if x ≤ mQ S i (y + 1 + 1) then fr (mc S) (y + 1) (sm (mc S (y + 1)) x) else fr (mc S) (y + 1) (sm (mc S (y + 1)) x) - 1
      have hK := hs.2.2.2.1 (y + 1) hyd
      have hKy : mI S (y + 1) = mK S y := rfl
      have l4 : sm (mc S (y + 1)) x ≤ sm (mc S (y + 1)) (mK S (y + 1)) := sm_mono hx
      rw [srm_ch (by omega), ih (by omega) (by omega) _ (by omega)]
      by_cases h9 : x ≤ mQ S i (y + 1 + 1)
      · have l1 : sm (mc S (y + 1)) x ≤ sm (mc S (y + 1)) (mQ S i (y + 1 + 1)) := sm_mono h9
        rw [if_pos h9, if_pos (by omega)]
      · have l2 : sm (mc S (y + 1)) (mQ S i (y + 1 + 1) + 1) ≤ sm (mc S (y + 1)) x := sm_mono (by omega)
        have l3 : sm (mc S (y + 1)) (mQ S i (y + 1 + 1) + 1) = sm (mc S (y + 1)) (mQ S i (y + 1 + 1)) + mc S (y + 1) (mQ S i (y + 1 + 1)) := rfl
        rw [if_neg h9, if_neg (by omega)]
theorem srm_sh (hs : mSh S t m) (h : RmC S i c) : mSh (sRm S i c) t m := by
  obtain ⟨hi, hc, h1, h2⟩ := h
  have hs0 := hs
  obtain ⟨s1, s2, s3, s4, s5, s6, s7⟩ := hs
  refine ⟨s1, ?_, ?_, fun y hy => ?_, fun y hy q hq => ?_, ?_, fun hd => ?_⟩
  · show mK (sRm S i c) (md S) = 1
    rw [srm_kh hc]
    exact s2
  · show mb (sRm S i c) (md S) 0 = _
    rw [srm_bh hc]
    exact s3
  · have hy : y ≤ md S := hy
    obtain ⟨a1, a2, a3⟩ := mQ_in hs0 hi hy
    have e := s4 y hy
    have hI : y ≤ c → mI (sRm S i c) y = mI S y - 1 := by
      intro hyc
      cases y with
      | zero => rfl
      | succ y =>
        show mK (sRm S i c) y = mK S y - 1
        rw [srm_kl (by omega)]
    rcases Nat.lt_trichotomy y c with h9 | h9 | h9
    · rw [srm_cl h9, srm_kl h9, hI (by omega)]
      have := sm_del_hi (f := mc S y) (p := mQ S i (y + 1)) (mK S y - 1) (by omega)
      rw [show mK S y - 1 + 1 = mK S y by omega, h1 y h9, e] at this
      omega
    · subst h9
      rw [srm_cc, srm_kh (Nat.le_refl _), hI (Nat.le_refl _)]
      have := sm_dec_hi (f := mc S y) (p := mQ S i (y + 1)) (by omega) (mK S y) a1
      omega
    · rw [srm_ch h9, srm_kh (by omega), e]
      cases y with
      | zero => omega
      | succ y =>
        show mK S y = mK (sRm S i c) y
        rw [srm_kh (by omega)]
  · have hy : y < md S := hy
    rcases Nat.lt_trichotomy y c with h9 | h9 | h9
    · rw [srm_kl h9] at hq
      rw [srm_cl h9, srm_bl h9]
      by_cases h8 : q < mQ S i (y + 1)
      · rw [del_lo h8, del_lo h8]
        exact s5 y hy q (by omega)
      · rw [del_hi (by omega), del_hi (by omega)]
        exact s5 y hy (q + 1) (by omega)
    · subst h9
      rw [srm_kh (Nat.le_refl _)] at hq
      rw [srm_cc, srm_bh (Nat.le_refl _)]
      have w := s5 y hy q hq
      by_cases h8 : q = mQ S i (y + 1)
      · rw [h8, dec_at]
        rw [h8] at w
        omega
      · rw [dec_n h8]
        exact w
    · rw [srm_kh (by omega)] at hq
      rw [srm_ch h9, srm_bh (by omega)]
      exact s5 y hy q hq
  · show mc (sRm S i c) (md S) 0 ≤ 4
    by_cases h9 : c = md S
    · subst h9
      rw [srm_cc, mQ_top hs0 hi, dec_at]
      omega
    · rw [srm_ch (by omega)]
      exact s6
  · have hd : 0 < md S := hd
    show 1 ≤ mc (sRm S i c) (md S) 0
    by_cases h9 : c = md S
    · subst h9
      rw [mQ_top hs0 hi] at h2
      rw [srm_cc, mQ_top hs0 hi, dec_at]
      omega
    · rw [srm_ch (by omega)]
      exact s7 hd
end
end
section
/-! the items when a run has gone; refreshFirsts from a level up -/
section
variable {S : mS} {t m i c : Nat}
theorem srm_old {y q : Nat} (hq : q < mK (sRm S i c) y) : ∃ r, r < mK S y ∧ mb (sRm S i c) y q = mb S y r ∧ (c ≤ y → r = q) ∧ (y < c → r = if q < mQ S i (y + 1) then q else q + 1) := by
  by_cases h : y < c
  · rw [srm_kl h] at hq
    rw [srm_bl h]
    by_cases h9 : q < mQ S i (y + 1)
    · exact ⟨q, by omega, del_lo h9, fun z => by omega, fun _ => (if_pos h9).symm⟩
    · exact ⟨q + 1, by omega, del_hi (by omega), fun z => by omega, fun _ => (if_neg h9).symm⟩
  · rw [srm_kh (by omega)] at hq
    rw [srm_bh (by omega)]
    exact ⟨q, hq, rfl, fun _ => rfl, fun z => absurd z h⟩
theorem srm_inj (hj : mInj S) : mInj (sRm S i c) := by
  intro k q k' q' hk hq hk' hq' e
  obtain ⟨r, a1, a2, a3, a4⟩ := srm_old hq
  obtain ⟨r', b1, b2, b3, b4⟩ := srm_old hq'
  rw [a2, b2] at e
  obtain ⟨rfl, rfl⟩ := hj k r k' r' hk a1 hk' b1 e
  refine ⟨rfl, ?_⟩
  by_cases h : k < c
  · have c1 := a4 h
    have c2 := b4 h
    split at c1 <;> split at c2 <;> omega
  · rw [← a3 (by omega), ← b3 (by omega)]
theorem srm_own (hs : mSh S t m) (hj : mInj S) (h : RmC S i c) (x : Nat) : Own (sRm S i c) x ↔ Own S x ∧ ∀ y, y < c → x ≠ mb S y (mQ S i (y + 1)) := by
  obtain ⟨hi, hc, h1, h2⟩ := h
  constructor
  · rintro ⟨y, z, h1, h2, h3⟩
    have h1 : y < md S := h1
    obtain ⟨r, a1, a2, a3, a4⟩ := srm_old h2
    refine ⟨⟨y, r, h1, a1, by rw [← a2, h3]⟩, fun y' hy' e => ?_⟩
    rw [← h3, a2] at e
    obtain ⟨e1, e2⟩ := hj _ _ _ _ (by omega) a1 (show y' ≤ md S by omega) (mQ_in hs hi (show y' ≤ md S by omega)).1 e
    subst e1
    have := a4 hy'
    split at this <;> omega
  · rintro ⟨⟨y, r, h1, h2, h3⟩, h4⟩
    by_cases h9 : y < c
    · have hne : r ≠ mQ S i (y + 1) := fun z => h4 y h9 (by rw [← h3, z])
      by_cases h8 : r < mQ S i (y + 1)
      · have := (mQ_in hs hi (show y ≤ md S by omega)).1
        exact ⟨y, r, h1, by rw [srm_kl h9]; omega, by rw [srm_bl h9, del_lo h8]; exact h3⟩
      · exact ⟨y, r - 1, h1, by rw [srm_kl h9]; omega, by rw [srm_bl h9, del_hi (by omega), show r - 1 + 1 = r by omega]; exact h3⟩
    · exact ⟨y, r, h1, by rw [srm_kh (by omega)]; exact h2, by rw [srm_bh (by omega)]; exact h3⟩
theorem srm_itl (hs : mSh S t m) (h : RmC S i c) {y x e : Nat} (hy : y ≤ c) (hx : x + 1 ≤ mI S y) : it (sRm S i c) y x e = it S y (if x < mQ S i y then x else x + 1) e := by
  have hh := h
  obtain ⟨hi, hc, h1, h2⟩ := h
  have hn : 0 < mn S := by omega
  obtain ⟨b1, b2⟩ := rm_one hs hi y (by omega) (fun z hz => h1 z (by omega))
  have hq := mQ_lt hs hi y (by omega)
  refine it_eq ?_ ?_ ?_
  · show delN (ms S) i (fr (mc (sRm S i c)) y x) = _
    rw [srm_frl hs hh y hy x hx]
    by_cases h9 : x < mQ S i y
    · have l1 := fr_lt hs hn y (by omega) x (mQ S i y) h9 (Nat.le_of_lt hq)
      rw [if_pos h9, if_pos h9, del_lo (by omega)]
    · have l1 := fr_le hs hn (l := y) (a := mQ S i y + 1) (b := x + 1) (by omega) (by omega) (by omega)
      rw [if_neg h9, if_neg h9, del_hi (by omega), show fr (mc S) y (x + 1) - 1 + 1 = fr (mc S) y (x + 1) by omega]
  · cases y with
    | zero =>
      show delN (ml S) i x + (1 - delN (mw S) i x) * 32768 = ml S (if x < i then x else x + 1) + (1 - mw S (if x < i then x else x + 1)) * 32768
      by_cases h9 : x < i
      · rw [if_pos h9, del_lo h9, del_lo h9]
      · rw [if_neg h9, del_hi (by omega), del_hi (by omega)]
    | succ y =>
      show ((mb (sRm S i c) y x : Nat) : Int) = ((mb S y (if x < mQ S i (y + 1) then x else x + 1) : Nat) : Int)
      rw [srm_bl (by omega)]
      by_cases h9 : x < mQ S i (y + 1)
      · rw [if_pos h9, del_lo h9]
      · rw [if_neg h9, del_hi (by omega)]
  · cases y with
    | zero =>
      show delN (mv S) i x = mv S (if x < i then x else x + 1)
      by_cases h9 : x < i
      · rw [if_pos h9, del_lo h9]
      · rw [if_neg h9, del_hi (by omega)]
    | succ y => rfl
theorem srm_ith (hs : mSh S t m) (h : RmC S i c) {y x e : Nat} (hy : c ≤ y) (hyd : y + 1 ≤ md S) (hx : x < mK S y) (he : ¬ (e = 0 ∧ x = mQ S i (y + 1))) : it (sRm S i c) (y + 1) x e = it S (y + 1) x e := by
  have hh := h
  obtain ⟨hi, hc, h1, h2⟩ := h
  have hn : 0 < mn S := by omega
  by_cases he0 : e = 0
  · subst he0
    show delN (ms S) i (fr (mc (sRm S i c)) (y + 1) x) = ms S (fr (mc S) (y + 1) x)
    rw [srm_frh hs hh y hy (by omega) x (by omega)]
    obtain ⟨c1, c2⟩ := mQ_fr hs hi (y + 1) (by omega)
    have hq := mQ_lt hs hi (y + 1) (by omega)
    by_cases h9 : x ≤ mQ S i (y + 1)
    · have l1 := fr_lt hs hn (y + 1) (by omega) x (mQ S i (y + 1)) (by omega) (Nat.le_of_lt hq)
      rw [if_pos h9, del_lo (by omega)]
    · have l1 := fr_le hs hn (l := y + 1) (a := mQ S i (y + 1) + 1) (b := x) (by omega) (by omega) (Nat.le_of_lt hx)
      rw [if_neg h9, del_hi (by omega), show fr (mc S) (y + 1) x - 1 + 1 = fr (mc S) (y + 1) x by omega]
  · unfold it
    rw [if_neg he0, if_neg he0]
    by_cases he1 : e = 1
    · rw [if_pos he1, if_pos he1]
      show ((mb (sRm S i c) y x : Nat) : Int) = _
      rw [srm_bh hy]
      rfl
    · rw [if_neg he1, if_neg he1]
      rfl
end
/-- what refreshFirsts mends, where the way is known from level md S - K up -/
theorem rf_fix2 {S : mS} {t : Nat} {R : Nat → Nat} (hj : mInj S) {K : Nat} (hKd : K ≤ md S) (hw1 : ∀ l, md S - K ≤ l → l ≤ md S → R l < mK S l) (hw2 : ∀ l, md S - K ≤ l → l < md S → sm (mc S (l + 1)) (R (l + 1)) ≤ R l ∧ R l < sm (mc S (l + 1)) (R (l + 1)) + mc S (l + 1) (R (l + 1))) (hpos : ∀ l, md S - K ≤ l → l < md S → 1 ≤ mc S l (R l)) : ∀ (k : Nat) (B : cA), k ≤ K → (∀ x, x ≤ K → aWy B t x = mb S (md S - x) (R (md S - x))) → (∀ x, x < K → aPl B t x = (R (md S - x - 1) : Int) - sm (mc S (md S - x)) (R (md S - x))) →
    (∀ l, l ≤ md S → ∀ p, p < mK S l → mNd B S l p (fun j => md S - k < l ∧ p = R l ∧ sm (mc S l) p + j = R (l - 1))) → mAb (rfA B t k) t S := by
  intro k
  induction k with
  | zero =>
    intro B _ _ _ h
    refine mNd_full.mpr (fun l hl p hp => ?_)
    obtain ⟨a, b, c⟩ := h l hl p hp
    exact ⟨a, b, fun j hj => ⟨fun _ => (c j hj).1 (fun q => by omega), (c j hj).2.1, (c j hj).2.2⟩⟩
  | succ k ih =>
    intro B hk hW hP h
    obtain ⟨L, hL, hL1⟩ : ∃ L, md S - (k + 1) = L ∧ md S - k = L + 1 := ⟨md S - (k + 1), rfl, by omega⟩
    have w1 : aWy B t k = mb S (L + 1) (R (L + 1)) := by rw [hW k (by omega), hL1]
    have w2 : aWy B t (k + 1) = mb S L (R L) := by rw [hW (k + 1) hk, hL]
    have p1 : aPl B t k = (R L : Int) - sm (mc S (L + 1)) (R (L + 1)) := by
      have := hP k (by omega)
      rw [hL1] at this
      exact this
    have r1 := hw1 (L + 1) (by omega) (by omega)
    have r2 := hw1 L (by omega) (by omega)
    obtain ⟨q1, q2⟩ := hw2 L (by omega) (by omega)
    obtain ⟨a1, b1, c1⟩ := h L (by omega) (R L) r2
    have hp1 := hpos L (by omega) (by omega)
    have key : gWd (aWf B (aWy B t (k + 1))) (aEn B (aWy B t (k + 1))) 0 0 = ms S (fr (mc S) (L + 1) (R L)) := by
      rw [w2, b1, gWd_in (by omega)]
      have := (c1 0 (by omega)).1 (fun q => by omega)
      exact this
    have e5 : (aPl B t k * 3).toNat = (R L - sm (mc S (L + 1)) (R (L + 1))) * 3 := by
      rw [p1]
      omega
    show mAb (rfA (sWf B (aWy B t k) (gF (aWf B (aWy B t k)) (aPl B t k * 3).toNat (gWd (aWf B (aWy B t (k + 1))) (aEn B (aWy B t (k + 1))) 0 0))) t k) t S
    rw [key, e5]
    refine ih _ (by omega) hW hP (fun l hl p hp => ?_)
    by_cases hlp : l = L + 1 ∧ p = R (L + 1)
    · obtain ⟨rfl, rfl⟩ := hlp
      obtain ⟨a, b, c⟩ := h (L + 1) hl _ hp
      refine ⟨a, b, fun j hj9 => ?_⟩
      have ew : ∀ x, aWf (sWf B (aWy B t k) (gF (aWf B (aWy B t k)) ((R L - sm (mc S (L + 1)) (R (L + 1))) * 3) (ms S (fr (mc S) (L + 1) (R L))))) (mb S (L + 1) (R (L + 1))) x = gF (aWf B (mb S (L + 1) (R (L + 1)))) ((R L - sm (mc S (L + 1)) (R (L + 1))) * 3) (ms S (fr (mc S) (L + 1) (R L))) x := by
        intro x
        rw [w1]
        show gF (aWf B) (mb S (L + 1) (R (L + 1))) _ (mb S (L + 1) (R (L + 1))) x = _
        rw [gF_s]
      rw [ew, ew, ew]
      refine ⟨fun _ => ?_, ?_, ?_⟩
      · by_cases hj2 : j = R L - sm (mc S (L + 1)) (R (L + 1))
        · rw [hj2, gF_s]
          congr 2
          omega
        · rw [gF_n (by omega)]
          exact (c j hj9).1 (fun q => hj2 (by have := q.2.2; rw [show L + 1 - 1 = L by omega] at this; omega))
      · rw [gF_n (by omega)]
        exact (c j hj9).2.1
      · rw [gF_n (by omega)]
        exact (c j hj9).2.2
    · have hne : mb S l p ≠ aWy B t k := by
        rw [w1]
        intro q
        exact hlp (hj l p (L + 1) (R (L + 1)) hl hp (by omega) r1 q)
      obtain ⟨a, b, c⟩ := h l hl p hp
      refine ⟨a, b, fun j hj9 => ?_⟩
      have ew : aWf (sWf B (aWy B t k) (gF (aWf B (aWy B t k)) ((R L - sm (mc S (L + 1)) (R (L + 1))) * 3) (ms S (fr (mc S) (L + 1) (R L))))) (mb S l p) = aWf B (mb S l p) := by
        show gF (aWf B) (aWy B t k) _ (mb S l p) = _
        rw [gF_n hne]
      rw [ew]
      refine ⟨fun hne2 => (c j hj9).1 (fun q => ?_), (c j hj9).2⟩
      obtain ⟨x1, x2, x3⟩ := q
      by_cases h9 : l = L + 1
      · exact hlp ⟨h9, by rw [x2, h9]⟩
      · exact hne2 ⟨by omega, x2, x3⟩
end
section
/-! what removeRun leaves in the nodes -/
section
variable {A : cA} {t l : Nat}
theorem gb_at {D : cA} {o : Nat} : aTk (gbA D t o) = gF (aTk D) o 0 ∧ aEn (gbA D t o) = gF (aEn D) o 0 ∧ aDp (gbA D t o) = aDp D ∧ aWf (gbA D t o) = aWf D := ⟨rfl, rfl, gF_same _ _, rfl⟩
theorem rem_at {D : cA} {o : Nat} {p : Int} : aTk (remA D o p) = aTk D ∧ aEn (remA D o p) = gF (aEn D) o (aEn D o - 1) ∧ aDp (remA D o p) = aDp D ∧ aWf (remA D o p) = gF (aWf D) o (gRem (aWf D o) (aEn D o) p) := ⟨gF_same _ _, rfl, gF_same _ _, rfl⟩
theorem rms_at (inj : ∀ k k', k ≤ l → k' ≤ l → aWy A t k = aWy A t k' → k = k') : ∀ m, m ≤ l →
    (∀ x, (∀ k, l - m ≤ k → k ≤ l → x ≠ aWy A t k) → aWf (rmS A t l m) x = aWf A x ∧ aEn (rmS A t l m) x = aEn A x ∧ aTk (rmS A t l m) x = aTk A x) ∧
    (aWf (rmS A t l m) (aWy A t (l - m)) = gRem (aWf A (aWy A t (l - m))) (aEn A (aWy A t (l - m))) (aPl A t (l - m)) ∧ aEn (rmS A t l m) (aWy A t (l - m)) = aEn A (aWy A t (l - m)) - 1 ∧ aTk (rmS A t l m) (aWy A t (l - m)) = aTk A (aWy A t (l - m))) ∧
    (∀ k, l - m < k → k ≤ l → aEn (rmS A t l m) (aWy A t k) = 0 ∧ aTk (rmS A t l m) (aWy A t k) = 0) ∧ aDp (rmS A t l m) = aDp A := by
  intro m
  induction m with
  | zero =>
    intro _
    obtain ⟨r1, r2, r3, r4⟩ := rem_at (D := A) (o := aWy A t l) (p := aPl A t l)
    have e0 : rmS A t l 0 = remA A (aWy A t l) (aPl A t l) := rfl
    rw [e0, r1, r2, r3, r4]
    refine ⟨fun x hx => ?_, ?_, fun k h1 h2 => by omega, rfl⟩
    · have := hx l (by omega) (Nat.le_refl _)
      exact ⟨gF_n this, gF_n this, rfl⟩
    · rw [Nat.sub_zero]
      exact ⟨gF_s _ _ _, gF_s _ _ _, rfl⟩
  | succ m ih =>
    intro hm
    obtain ⟨a1, a2, a3, a4⟩ := ih (by omega)
    obtain ⟨g1, g2, g3, g4⟩ := gb_at (t := t) (D := rmS A t l m) (o := aWy A t (l - m))
    obtain ⟨r1, r2, r3, r4⟩ := rem_at (D := gbA (rmS A t l m) t (aWy A t (l - m))) (o := aWy A t (l - m - 1)) (p := aPl A t (l - m - 1))
    have e0 : rmS A t l (m + 1) = remA (gbA (rmS A t l m) t (aWy A t (l - m))) (aWy A t (l - m - 1)) (aPl A t (l - m - 1)) := rfl
    rw [e0, r1, r2, r3, r4, g1, g2, g3, g4]
    have hne : aWy A t (l - m - 1) ≠ aWy A t (l - m) := fun z => by
      have := inj _ _ (by omega) (by omega) z
      omega
    have hq := a1 (aWy A t (l - m - 1)) (fun k h1 h2 z => by
      have := inj _ _ (by omega) h2 z
      omega)
    refine ⟨fun x hx => ?_, ?_, fun k h1 h2 => ?_, a4⟩
    · have x1 := hx (l - m) (by omega) (by omega)
      have x2 := hx (l - m - 1) (by omega) (by omega)
      obtain ⟨b1, b2, b3⟩ := a1 x (fun k h1 h2 => hx k (by omega) h2)
      rw [gF_n x2, gF_n x2, gF_n x1, gF_n x1]
      exact ⟨b1, b2, b3⟩
    · rw [show l - (m + 1) = l - m - 1 by omega, gF_s, gF_s, gF_n hne, gF_n hne, hq.1, hq.2.1, hq.2.2]
      exact ⟨rfl, rfl, rfl⟩
    · have k2 : aWy A t k ≠ aWy A t (l - m - 1) := fun z => by
        have := inj _ _ h2 (by omega) z
        omega
      rw [gF_n k2]
      by_cases e : k = l - m
      · rw [e, gF_s, gF_s]
        exact ⟨rfl, rfl⟩
      · have k3 : aWy A t k ≠ aWy A t (l - m) := fun z => by
          have := inj _ _ h2 (by omega) z
          omega
        rw [gF_n k3, gF_n k3]
        exact a3 k (by omega) h2
theorem rms_num (inj : ∀ k k', k ≤ l → k' ≤ l → aWy A t k = aWy A t k' → k = k') (hd0 : aDp A (aWy A t l) = 0) (hdk : ∀ k, k < l → aDp A (aWy A t k) ≠ 0) : ∀ m, m ≤ l → aRu (rmS A t l m) = aRu A ∧ aBl (rmS A t l m) = gF (aBl A) t (aBl A t - m) ∧ aMa (rmS A t l m) = aMa A ∧ aMw (rmS A t l m) = aMw A ∧ aLb (rmS A t l m) = gF (aLb A) t (if m = 0 then aLb A t else aLb A t - 1) ∧ aLe (rmS A t l m) = aLe A + m ∧ aM (rmS A t l m) = aM A := by
  intro m
  induction m with
  | zero =>
    intro _
    refine ⟨rfl, ?_, rfl, rfl, ?_, ?_, rfl⟩
    · show aBl A = gF (aBl A) t (aBl A t - 0)
      rw [Int.sub_zero, gF_same]
    · rw [if_pos rfl, gF_same]
      rfl
    · show aLe A = aLe A + 0
      omega
  | succ m ih =>
    intro hm
    obtain ⟨a1, a2, a3, a4, a5, a6, a7⟩ := ih (by omega)
    obtain ⟨b1, b2, b3, b4⟩ := rms_at inj m (by omega)
    refine ⟨?_, ?_, ?_, ?_, ?_, ?_, a7⟩
    · show gF (aRu (rmS A t l m)) t (aRu (rmS A t l m) t) = _
      rw [gF_same, a1]
    · show gF (aBl (rmS A t l m)) t (aBl (rmS A t l m) t + -1) = _
      rw [a2, gF_uu, gF_s]
      congr 1
      omega
    · show gF (aMa (rmS A t l m)) t (aMa (rmS A t l m) t) = _
      rw [gF_same, a3]
    · show gF (aMw (rmS A t l m)) t (aMw (rmS A t l m) t) = _
      rw [gF_same, a4]
    · show gF (aLb (rmS A t l m)) t (if aDp (rmS A t l m) (aWy A t (l - m)) = 0 then aLb (rmS A t l m) t + -1 else aLb (rmS A t l m) t) = _
      rw [a5, b4, gF_uu, gF_s, if_neg (show ¬ m + 1 = 0 by omega)]
      congr 1
      by_cases e : m = 0
      · subst e
        rw [Nat.sub_zero, if_pos hd0, if_pos rfl]
        omega
      · rw [if_neg (hdk (l - m) (by omega)), if_neg e]
    · show aLe (rmS A t l m) + 1 = _
      rw [a6]
      omega
theorem cnF_give {T : Nat → Int} {b : Nat} (h1 : 1 ≤ b) (h2 : T b = 1) : ∀ n, (n < b → cnF (gF T b 0) n = cnF T n) ∧ (b ≤ n → cnF (gF T b 0) n = cnF T n + 1) := by
  intro n
  induction n with
  | zero => exact ⟨fun _ => rfl, fun h => by omega⟩
  | succ n ih =>
    refine ⟨fun h => ?_, fun h => ?_⟩
    · show cnF _ n + (if gF T b 0 (n + 1) = 0 then 1 else 0) = cnF _ n + _
      rw [ih.1 (by omega), gF_n (by omega)]
    · show cnF _ n + (if gF T b 0 (n + 1) = 0 then 1 else 0) = cnF T n + (if T (n + 1) = 0 then 1 else 0) + 1
      by_cases e : n + 1 = b
      · rw [ih.1 (by omega), e, gF_s, h2, if_pos rfl, if_neg (by decide)]
        omega
      · rw [ih.2 (by omega), gF_n e]
        omega
theorem rms_cn (inj : ∀ k k', k ≤ l → k' ≤ l → aWy A t k = aWy A t k' → k = k') {c : Nat} (hc : c ≤ l) (hb : ∀ k, l - c < k → k ≤ l → 1 ≤ aWy A t k ∧ aWy A t k ≤ 255 ∧ aTk A (aWy A t k) = 1) : ∀ m, m ≤ c → cnF (aTk (rmS A t l m)) 255 = cnF (aTk A) 255 + m := by
  intro m
  induction m with
  | zero =>
    intro _
    rw [show aTk (rmS A t l 0) = aTk A from gF_same _ _]
    show _ = _ + (0 : Int)
    omega
  | succ m ih =>
    intro hm
    obtain ⟨b1, b2, b3, b4⟩ := rms_at inj m (by omega)
    obtain ⟨c1, c2, c3⟩ := hb (l - m) (by omega) (by omega)
    have e : aTk (rmS A t l (m + 1)) = gF (aTk (rmS A t l m)) (aWy A t (l - m)) 0 := gF_same _ _
    rw [e, (cnF_give c1 (by rw [b2.2.2]; exact c3) 255).2 c2, ih (by omega)]
    omega
theorem gRem_lo {f : Nat → Int} {ent i : Int} {j e : Nat} (hi : 0 ≤ i ∧ i < ent) (he : e < 3) (hj : (j : Int) < i) : gRem f ent i (j * 3 + e) = f (j * 3 + e) := by
  unfold gRem gCp
  rw [if_neg (by omega)]
theorem gRem_hi {f : Nat → Int} {ent i : Int} {j e : Nat} (hi : 0 ≤ i ∧ i < ent) (he : e < 3) (hj : i ≤ j) (hj2 : (j : Int) + 1 < ent) : gRem f ent i (j * 3 + e) = f ((j + 1) * 3 + e) := by
  unfold gRem gCp
  rw [if_pos (by omega)]
  congr 1
  omega
end
end
section
/-! removeRun on the model, where the file isn't empty after it -/
section
variable {A : cA} {SS : Nat → mS} {F : Nat → Prop} {S : mS} {t m q c : Nat}
theorem pPn (hs : mSh S t m) (hq : q < mn S) {k : Nat} (hk : k ≤ md S) : pP S (q : Int) k = (mQ S q (md S - k) : Int) - sm (mc S (md S - k)) (mQ S q (md S - k + 1)) := by
  unfold pP
  rw [show ((q : Nat) : Int).toNat = q by omega]
  by_cases h : k = md S
  · rw [if_pos h, h, Nat.sub_self]
    rfl
  · rw [if_neg h]
set_option maxHeartbeats 1000000 in
theorem CX.rem (hc : CX A SS F) (ht : t < 4) (hS : SS t = S) (hw : WyTo A t S (q : Int)) (h : RmC S q c) (hr' : mRn (sRm S q c)) :
    (0 ≤ aPl A t (md S) ∧ aPl A t (md S) < aEn A (aWy A t (md S))) ∧ (∀ m, m < c → RmOk A t (md S) m) ∧ aEn (rmS A t (md S) c) (aWy A t (md S - c)) ≠ 0 ∧ (∀ k, k < md S - c → 0 ≤ aPl A t k ∧ aPl A t k < aEn (rmS A t (md S) c) (aWy A t k)) ∧ CX (rmE (rmS A t (md S) c) t (md S - c)) (gF SS t (sRm S q c)) F := by
  subst hS
  obtain ⟨hs, hr, ha, u1, u2, u3⟩ := hc.2.1 t ht
  have hj := hc.inj ht
  have hh := h
  obtain ⟨hi, hcd, h1, h2⟩ := h
  have hA := ab_nd.mp ha
  have eW : ∀ k, k ≤ md (SS t) → aWy A t k = mb (SS t) (md (SS t) - k) (mQ (SS t) q (md (SS t) - k + 1)) := fun k hk => by
    rw [(hw.2 k hk).1, pW_n]
  have eP : ∀ k, k ≤ md (SS t) → aPl A t k = (mQ (SS t) q (md (SS t) - k) : Int) - sm (mc (SS t) (md (SS t) - k)) (mQ (SS t) q (md (SS t) - k + 1)) := fun k hk => by
    rw [(hw.2 k hk).2, pPn hs hi hk]
  have nd : ∀ k, k ≤ md (SS t) → Nd A (aWy A t k) (SS t) (md (SS t) - k) (mc (SS t) (md (SS t) - k) (mQ (SS t) q (md (SS t) - k + 1))) (sm (mc (SS t) (md (SS t) - k)) (mQ (SS t) q (md (SS t) - k + 1))) := fun k hk => by
    rw [eW k hk]
    exact hA _ (by omega) _ (mQ_in hs hi (by omega)).1
  have inj : ∀ k k', k ≤ md (SS t) → k' ≤ md (SS t) → aWy A t k = aWy A t k' → k = k' := by
    intro k k' hk hk' e
    rw [eW k hk, eW k' hk'] at e
    have := (hj _ _ _ _ (by omega) (mQ_in hs hi (by omega)).1 (by omega) (mQ_in hs hi (by omega)).1 e).1
    omega
  have plb : ∀ k, k ≤ md (SS t) → 0 ≤ aPl A t k ∧ aPl A t k < aEn A (aWy A t k) := by
    intro k hk
    rw [eP k hk, (nd k hk).2.1]
    obtain ⟨a1, a2, a3⟩ := mQ_in hs hi (show md (SS t) - k ≤ md (SS t) by omega)
    omega
  have bl : ∀ k, 1 ≤ k → k ≤ md (SS t) → (1 ≤ aWy A t k ∧ aWy A t k ≤ 255) ∧ Own (SS t) (aWy A t k) := by
    intro k k1 hk
    have a1 := (mQ_in hs hi (show md (SS t) - k ≤ md (SS t) by omega)).1
    have := (hs.2.2.2.2.1 (md (SS t) - k) (by omega) _ a1).2.2
    rw [eW k hk]
    exact ⟨this, ⟨md (SS t) - k, _, by omega, a1, rfl⟩⟩
  have tk : ∀ k, 1 ≤ k → k ≤ md (SS t) → aTk A (aWy A t k) = 1 := by
    intro k k1 hk
    obtain ⟨b1, b2⟩ := bl k k1 hk
    rcases hc.ownF ht b1.1 (by omega) (hc.own ht b2) with ⟨g, _⟩ | ⟨_, _, _, g⟩
    · exact g
    · exact absurd b2 g
  have at_ := rms_at (A := A) (t := t) (l := md (SS t)) inj
  obtain ⟨z1, z2, z3, z4⟩ := at_ c hcd
  have enc : aEn (rmS A t (md (SS t)) c) (aWy A t (md (SS t) - c)) = (mc (SS t) c (mQ (SS t) q (c + 1)) : Int) - 1 := by
    rw [z2.2.1, (nd (md (SS t) - c) (by omega)).2.1, show md (SS t) - (md (SS t) - c) = c by omega]
  have enk : ∀ k, k < md (SS t) - c → aEn (rmS A t (md (SS t)) c) (aWy A t k) = aEn A (aWy A t k) := by
    intro k hk
    exact (z1 (aWy A t k) (fun k' h1 h2 z => by
      have := inj _ _ (by omega) h2 z
      omega)).2.1
  have d0 : aDp A (aWy A t (md (SS t))) = 0 := by
    rw [(nd (md (SS t)) (Nat.le_refl _)).1, Nat.sub_self]
    rfl
  have dk : ∀ k, k < md (SS t) → aDp A (aWy A t k) ≠ 0 := by
    intro k hk
    rw [(nd k (by omega)).1]
    omega
  obtain ⟨n1, n2, n3, n4, n5, n6, n7⟩ := rms_num inj d0 dk c hcd
  have cn := rms_cn inj hcd (fun k k1 k2 => ⟨(bl k (by omega) k2).1.1, (bl k (by omega) k2).1.2, tk k (by omega) k2⟩) c (Nat.le_refl _)
  have same := rms_same (A := A) (t := t) (l := md (SS t)) c
  have root0 : aWy A t 0 = 256 + t := by
    rw [eW 0 (by omega), Nat.sub_zero, mQ_top hs hi, hs.2.2.1]
  have rootne : aEn (rmS A t (md (SS t)) c) (256 + t) ≠ 0 := by
    rw [← root0]
    by_cases e : c = md (SS t)
    · have := enc
      rw [e, Nat.sub_self] at this
      rw [e, this]
      rw [e] at h2
      omega
    · rw [enk 0 (by omega)]
      have := plb 0 (by omega)
      omega
  have eD : rmD (rmS A t (md (SS t)) c) t = rmS A t (md (SS t)) c := if_neg rootne
  have okm : ∀ m, m ≤ c → aOk (rmS A t (md (SS t)) m) := by
    intro m
    induction m with
    | zero =>
      intro _
      have := plb (md (SS t)) (Nat.le_refl _)
      exact aOk_rem hc.1 (by rw [eW _ (Nat.le_refl _)]; exact hs.bl ht (by omega) (mQ_in hs hi (by omega)).1) (by omega)
    | succ m ih =>
      intro hm
      have w1 : aWy A t (md (SS t) - m) < 260 := by
        rw [eW _ (by omega)]
        exact hs.bl ht (by omega) (mQ_in hs hi (by omega)).1
      have w2 : aWy A t (md (SS t) - m - 1) < 260 := by
        rw [eW _ (by omega)]
        exact hs.bl ht (by omega) (mQ_in hs hi (by omega)).1
      refine aOk_rem (aOk_gb (ih (by omega)) w1) w2 ?_
      have hne : aWy A t (md (SS t) - m - 1) ≠ aWy A t (md (SS t) - m) := fun z => by
        have := inj _ _ (by omega) (by omega) z
        omega
      show 0 < gF (aEn (rmS A t (md (SS t)) m)) (aWy A t (md (SS t) - m)) 0 (aWy A t (md (SS t) - m - 1))
      rw [gF_n hne, ((at_ m (by omega)).1 (aWy A t (md (SS t) - m - 1)) (fun k h1 h2 z => by
        have := inj _ _ (by omega) h2 z
        omega)).2.1]
      have := plb (md (SS t) - m - 1) (by omega)
      omega
  refine ⟨plb _ (Nat.le_refl _), fun m hm => ?_, by rw [enc]; omega, fun k hk => ?_, ?_⟩
  · obtain ⟨y1, y2, y3, y4⟩ := at_ m (by omega)
    have hne : aWy A t (md (SS t) - m - 1) ≠ aWy A t (md (SS t) - m) := fun z => by
      have := inj _ _ (by omega) (by omega) z
      omega
    refine ⟨?_, ?_, (plb (md (SS t) - m - 1) (by omega)).1, ?_⟩
    · rw [y2.2.1, (nd (md (SS t) - m) (by omega)).2.1, show md (SS t) - (md (SS t) - m) = m by omega, h1 m hm]
      rfl
    · rw [y2.2.2]
      exact tk _ (by omega) (by omega)
    · show _ < gF (aEn (rmS A t (md (SS t)) m)) (aWy A t (md (SS t) - m)) 0 (aWy A t (md (SS t) - m - 1))
      rw [gF_n hne, (y1 (aWy A t (md (SS t) - m - 1)) (fun k h1 h2 z => by
        have := inj _ _ (by omega) h2 z
        omega)).2.1]
      exact (plb (md (SS t) - m - 1) (by omega)).2
  · rw [enk k hk]
    exact plb k (by omega)
  · have hs' := srm_sh hs hh
    have key : mAb (rfA (rmS A t (md (SS t)) c) t (md (SS t) - c)) t (sRm (SS t) q c) := by
      have hdS : md (sRm (SS t) q c) = md (SS t) := rfl
      have ec : md (SS t) - (md (SS t) - c) = c := by omega
      refine rf_fix2 (S := sRm (SS t) q c) (R := fun y => mQ (SS t) q (y + 1)) (srm_inj hj) (K := md (SS t) - c) (by rw [hdS]; omega) (fun y y1 y2 => ?_) (fun y y1 y2 => ?_) (fun y y1 y2 => ?_) (md (SS t) - c) _ (Nat.le_refl _) (fun x hx => ?_) (fun x hx => ?_) (fun y hy z hz => ?_)
      · rw [hdS, ec] at y1
        rw [hdS] at y2
        rw [srm_kh y1]
        exact (mQ_in hs hi y2).1
      · rw [hdS, ec] at y1
        rw [hdS] at y2
        rw [srm_ch (by omega)]
        exact (mQ_in hs hi (show y + 1 ≤ md (SS t) by omega)).2
      · rw [hdS, ec] at y1
        rw [hdS] at y2
        by_cases e : y = c
        · rw [e, srm_cc, dec_at]
          omega
        · rw [srm_ch (by omega)]
          exact hs.pos (by omega) (by omega) (mQ_in hs hi (show y ≤ md (SS t) by omega)).1
      · rw [same.1, eW x (by omega), hdS, srm_bh (by omega)]
      · rw [same.2.1, eP x (by omega), hdS, srm_ch (by omega), show md (SS t) - x - 1 + 1 = md (SS t) - x by omega]
      · have hy : y ≤ md (SS t) := hy
        refine ndx_m ?_
        obtain ⟨a1, a2, a3⟩ := mQ_in hs hi hy
        have oth : ∀ r, r < mK (SS t) y → (c < y ∨ r ≠ mQ (SS t) q (y + 1)) → aWf (rmS A t (md (SS t)) c) (mb (SS t) y r) = aWf A (mb (SS t) y r) ∧ aEn (rmS A t (md (SS t)) c) (mb (SS t) y r) = aEn A (mb (SS t) y r) := by
          intro r hr9 hor
          have := z1 (mb (SS t) y r) (fun k k1 k2 e => by
            rw [eW k k2] at e
            obtain ⟨e1, e2⟩ := hj _ _ _ _ hy hr9 (by omega) (mQ_in hs hi (by omega)).1 e
            rcases hor with o | o
            · omega
            · exact o (by rw [e2, ← e1]))
          exact ⟨this.1, this.2.1⟩
        have hK := hs.2.2.2.1 y hy
        rcases Nat.lt_trichotomy y c with h9 | h9 | h9
        · rw [srm_kl h9] at hz
          rw [srm_bl h9, srm_cl h9]
          have e9 := rm_sm hs hi hy (h1 y h9)
          refine Nd.X ?_ _
          by_cases h8 : z < mQ (SS t) q (y + 1)
          · rw [del_lo h8, del_lo h8, sm_del_lo (by omega)]
            have g := hA y hy z (by omega)
            have l1 : sm (mc (SS t) y) (z + 1) ≤ sm (mc (SS t) y) (mQ (SS t) q (y + 1)) := sm_mono h8
            have l2 : sm (mc (SS t) y) (z + 1) = sm (mc (SS t) y) z + mc (SS t) y z := rfl
            have l3 := hs.off hy a1
            obtain ⟨o1, o2⟩ := oth z (by omega) (Or.inr (by omega))
            refine g.keep (by rw [z4]) o2 o1 (fun j hj9 e he => ?_)
            rw [srm_itl hs hh (by omega) (by omega), if_pos (by omega)]
          · rw [del_hi (by omega), del_hi (by omega)]
            have g := hA y hy (z + 1) (by omega)
            have l1 := sm_del_hi (f := mc (SS t) y) (p := mQ (SS t) q (y + 1)) z (by omega)
            rw [h1 y h9] at l1
            have l2 : sm (mc (SS t) y) (mQ (SS t) q (y + 1) + 1) ≤ sm (mc (SS t) y) (z + 1) := sm_mono (by omega)
            have l3 : sm (mc (SS t) y) (mQ (SS t) q (y + 1) + 1) = sm (mc (SS t) y) (mQ (SS t) q (y + 1)) + mc (SS t) y (mQ (SS t) q (y + 1)) := rfl
            have l4 := hs.off hy (show z + 1 < mK (SS t) y by omega)
            rw [h1 y h9] at l3
            obtain ⟨o1, o2⟩ := oth (z + 1) (by omega) (Or.inr (by omega))
            refine g.keep (by rw [z4]) o2 o1 (fun j hj9 e he => ?_)
            rw [srm_itl hs hh (by omega) (by omega), if_neg (by omega), show sm (delN (mc (SS t) y) (mQ (SS t) q (y + 1))) z + j + 1 = sm (mc (SS t) y) (z + 1) + j by omega]
        · subst h9
          rw [srm_kh (Nat.le_refl _)] at hz
          rw [srm_bh (Nat.le_refl _), srm_cc]
          refine Nd.X ?_ _
          have g := hA y hy z hz
          have l4 := hs.off hy hz
          by_cases h8 : z = mQ (SS t) q (y + 1)
          · subst h8
            rw [dec_at, sm_dec_lo (Nat.le_refl _)]
            have eb : aWy A t (md (SS t) - y) = mb (SS t) y (mQ (SS t) q (y + 1)) := by
              rw [eW _ (by omega), show md (SS t) - (md (SS t) - y) = y by omega]
            have ep : aPl A t (md (SS t) - y) = (mQ (SS t) q y : Int) - sm (mc (SS t) y) (mQ (SS t) q (y + 1)) := by
              rw [eP _ (by omega), show md (SS t) - (md (SS t) - y) = y by omega]
            rw [eb, ep] at z2
            rw [eb] at enc
            refine ⟨by rw [z4]; exact g.1, by rw [enc]; omega, fun j hj9 e he => ?_⟩
            rw [z2.1, g.2.1, srm_itl hs hh (Nat.le_refl _) (by omega)]
            by_cases h7 : sm (mc (SS t) y) (mQ (SS t) q (y + 1)) + j < mQ (SS t) q y
            · rw [if_pos h7, gRem_lo (by omega) he (by omega)]
              exact g.2.2 j (by omega) e he
            · rw [if_neg h7, gRem_hi (by omega) he (by omega) (by omega), g.2.2 (j + 1) (by omega) e he, Nat.add_assoc]
          · rw [dec_n h8]
            obtain ⟨o1, o2⟩ := oth z hz (Or.inr h8)
            refine g.keep (by rw [z4]) o2 o1 (fun j hj9 e he => ?_)
            by_cases h7 : z < mQ (SS t) q (y + 1)
            · have l1 : sm (mc (SS t) y) (z + 1) ≤ sm (mc (SS t) y) (mQ (SS t) q (y + 1)) := sm_mono h7
              have l2 : sm (mc (SS t) y) (z + 1) = sm (mc (SS t) y) z + mc (SS t) y z := rfl
              have l3 := hs.off hy a1
              rw [sm_dec_lo (by omega), srm_itl hs hh (Nat.le_refl _) (by omega), if_pos (by omega)]
            · have l1 := sm_dec_hi (f := mc (SS t) y) (p := mQ (SS t) q (y + 1)) (by omega) z (by omega)
              have l2 : sm (mc (SS t) y) (mQ (SS t) q (y + 1) + 1) ≤ sm (mc (SS t) y) z := sm_mono (by omega)
              have l3 : sm (mc (SS t) y) (mQ (SS t) q (y + 1) + 1) = sm (mc (SS t) y) (mQ (SS t) q (y + 1)) + mc (SS t) y (mQ (SS t) q (y + 1)) := rfl
              rw [srm_itl hs hh (Nat.le_refl _) (by omega), if_neg (by omega), show sm (decN (mc (SS t) y) (mQ (SS t) q (y + 1))) z + j + 1 = sm (mc (SS t) y) z + j by omega]
        · rw [srm_kh (by omega)] at hz
          rw [srm_bh (by omega), srm_ch h9]
          have g := hA y hy z hz
          have l4 := hs.off hy hz
          obtain ⟨o1, o2⟩ := oth z hz (Or.inl h9)
          refine ⟨by rw [z4]; exact g.1, by rw [o2]; exact g.2.1, fun j hj9 e he hex => ?_⟩
          obtain ⟨y0, rfl⟩ : ∃ y0, y = y0 + 1 := ⟨y - 1, by omega⟩
          rw [o1, g.2.2 j hj9 e he, srm_ith hs hh (by omega) hy (by have : mI (SS t) (y0 + 1) = mK (SS t) y0 := rfl; omega)]
          intro e9
          refine hex ⟨e9.1, by rw [hdS, ec]; omega, ?_, ?_⟩
          · exact lc_uniq (f := mc (SS t) (y0 + 1)) (K := mK (SS t) (y0 + 1)) (q := mQ (SS t) q (y0 + 1)) (by omega) (by omega) a2 a3
          · show _ = mQ (SS t) q (y0 + 1 - 1 + 1)
            rw [show y0 + 1 - 1 + 1 = y0 + 1 by omega]
            exact e9.2
    obtain ⟨r1, r2, r3, r4, r5, r6, r7, r8, r9, r10, r11, r12, r13, r14⟩ := rf_ru (t := t) (md (SS t) - c) (rmS A t (md (SS t)) c)
    have eE : rmE (rmS A t (md (SS t)) c) t (md (SS t) - c) = sTr (rfA (rmS A t (md (SS t)) c) t (md (SS t) - c)) t (aRu (rmS A t (md (SS t)) c) t - 1) (aBl (rmS A t (md (SS t)) c) t) (aMa (rmS A t (md (SS t)) c) t) (aMw (rmS A t (md (SS t)) c) t) (aLb (rmS A t (md (SS t)) c) t) (aLf (rmS A t (md (SS t)) c) t) := by
      unfold rmE
      rw [eD]
    rw [eE]
    have hK1 : ∀ y, y ≤ md (SS t) → 1 ≤ mK (SS t) y := fun y hy => by
      have := (mQ_in hs hi hy).1
      omega
    have offway : ∀ x, (∀ k, k ≤ md (SS t) → x ≠ aWy A t k) → aDp (rfA (rmS A t (md (SS t)) c) t (md (SS t) - c)) x = aDp A x ∧ aEn (rfA (rmS A t (md (SS t)) c) t (md (SS t) - c)) x = aEn A x ∧ aWf (rfA (rmS A t (md (SS t)) c) t (md (SS t) - c)) x = aWf A x ∧ aTk (rfA (rmS A t (md (SS t)) c) t (md (SS t) - c)) x = aTk A x := by
      intro x hx
      obtain ⟨o1, o2, o3⟩ := z1 x (fun k _ k2 => hx k k2)
      refine ⟨by rw [r11, z4], by rw [r10]; exact o2, ?_, by rw [r12]; exact o3⟩
      rw [rfA_fs _ _ _ (fun k hk e => hx k (by omega) (by rw [← e, same.1]))]
      exact o1
    have othway : ∀ x, Oth SS t x → ∀ k, k ≤ md (SS t) → x ≠ aWy A t k := by
      intro x hx k hk e
      rw [eW k hk] at e
      exact (hc.node ht (by omega) (mQ_in hs hi (by omega)).1).1 (e ▸ hx)
    refine hc.step (S' := sRm (SS t) q c) (F' := F) ht ?_ (r14.trans n7) ⟨?_, hr', key, ?_, ?_, ?_⟩ (srm_inj hj) (fun t' ht' => ⟨?_, ?_, ?_⟩) (fun x hx => offway x (othway x hx)) (fun x hx => hc.own ht ((srm_own hs hj hh x).mp hx).1) (fun x x1 x2 hx => ?_) hc.2.2.2.2.1 (fun x hx => (hc.fre hx).1) ?_ ?_
    · exact aOk_rf (md (SS t) - c) (okm c (Nat.le_refl _)) (fun j hj9 => by
        rw [same.1, eW j (by omega)]
        exact hs.bl ht (by omega) (mQ_in hs hi (by omega)).1)
    · show mSh _ t (aM (rfA (rmS A t (md (SS t)) c) t (md (SS t) - c)))
      rw [r14, n7]
      exact hs'
    · show gF _ t _ t = _
      rw [gF_s, n1, u1]
      show _ = ((mn (SS t) - 1 : Nat) : Int)
      omega
    · show gF _ t _ t = _
      rw [gF_s, n2, gF_s, u2]
      have sums : ∀ d, d ≤ md (SS t) → sm (mK (sRm (SS t) q c)) d + (if d < c then d else c) = sm (mK (SS t)) d := by
        intro d
        induction d with
        | zero =>
          intro _
          show 0 + _ = 0
          split <;> omega
        | succ d ih =>
          intro hd
          have e := ih (by omega)
          have k1 := hK1 d (by omega)
          show sm (mK (sRm (SS t) q c)) d + mK (sRm (SS t) q c) d + _ = sm (mK (SS t)) d + mK (SS t) d
          by_cases h9 : d < c
          · rw [srm_kl h9]
            rw [if_pos h9] at e
            split <;> omega
          · rw [srm_kh (by omega)]
            rw [if_neg h9] at e
            rw [if_neg (by omega)]
            omega
      have e := sums (md (SS t)) (Nat.le_refl _)
      rw [if_neg (by omega)] at e
      show _ = ((sm (mK (sRm (SS t) q c)) (md (SS t)) : Nat) : Int)
      omega
    · show gF _ t _ t = _
      rw [gF_s, n5, gF_s, u3]
      show _ = if md (SS t) = 0 then (0 : Int) else ((mK (sRm (SS t) q c) 0 : Nat) : Int)
      by_cases h9 : md (SS t) = 0
      · rw [if_pos (show c = 0 by omega), if_pos h9, if_pos h9]
      · rw [if_neg h9, if_neg h9]
        by_cases h8 : c = 0
        · rw [if_pos h8, srm_kh (by omega)]
        · have k1 := hK1 0 (by omega)
          rw [if_neg h8, srm_kl (by omega)]
          omega
    · show gF (aRu (rfA (rmS A t (md (SS t)) c) t (md (SS t) - c))) t _ t' = _
      rw [gF_n ht', r1, n1]
    · show gF (aBl (rfA (rmS A t (md (SS t)) c) t (md (SS t) - c))) t _ t' = _
      rw [gF_n ht', r2, n2, gF_n ht']
    · show gF (aLb (rfA (rmS A t (md (SS t)) c) t (md (SS t) - c))) t _ t' = _
      rw [gF_n ht', r5, n5, gF_n ht']
    · have g := hc.ownF ht x1 x2 hx
      have ho := srm_own hs hj hh x
      show bOk (rfA (rmS A t (md (SS t)) c) t (md (SS t) - c)) x (F x) (Own (sRm (SS t) q c) x)
      unfold bOk at g ⊢
      rw [r12, r10, ho]
      by_cases hx9 : ∃ k, md (SS t) - c < k ∧ k ≤ md (SS t) ∧ x = aWy A t k
      · obtain ⟨k, k1, k2, rfl⟩ := hx9
        have hown := (bl k (by omega) k2).2
        have hnf : ¬ F (aWy A t k) := by
          rcases g with ⟨_, ⟨_, g3⟩ | ⟨g2, _⟩⟩ | ⟨_, _, g3, _⟩
          · exact absurd hown g3
          · exact g2
          · exact g3
        obtain ⟨y1, y2⟩ := z3 k k1 k2
        refine Or.inr ⟨y2, y1, hnf, fun z => z.2 (md (SS t) - k) (by omega) (eW k k2)⟩
      · have nway : ∀ y, y < c → x ≠ mb (SS t) y (mQ (SS t) q (y + 1)) := by
          intro y hy e
          refine hx9 ⟨md (SS t) - y, by omega, by omega, ?_⟩
          rw [eW _ (by omega), show md (SS t) - (md (SS t) - y) = y by omega]
          exact e
        have etk : aTk (rmS A t (md (SS t)) c) x = aTk A x := by
          by_cases h8 : x = aWy A t (md (SS t) - c)
          · rw [h8]
            exact z2.2.2
          · exact (z1 x (fun k k1 k2 e => by
              by_cases h7 : k = md (SS t) - c
              · exact h8 (by rw [e, h7])
              · exact hx9 ⟨k, by omega, k2, e⟩)).2.2
        rw [etk]
        rcases g with ⟨g1, ⟨g2, g3⟩ | ⟨g2, g3⟩⟩ | ⟨g1, g2, g3, g4⟩
        · exact Or.inl ⟨g1, Or.inl ⟨g2, fun z => g3 z.1⟩⟩
        · exact Or.inl ⟨g1, Or.inr ⟨g2, g3, nway⟩⟩
        · refine Or.inr ⟨g1, ?_, g3, fun z => g4 z.1⟩
          rw [(z1 x (fun k k1 k2 e => by
            by_cases h7 : k = 0
            · rw [h7, root0] at e
              omega
            · exact g4 (by rw [e]; exact (bl k (by omega) k2).2))).2.1]
          exact g2
    · show aTk (rfA (rmS A t (md (SS t)) c) t (md (SS t) - c)) 0 = 0
      rw [(offway 0 (fun k hk e => by
        by_cases h7 : k = 0
        · rw [h7, root0] at e
          omega
        · have := (bl k (by omega) hk).1
          omega)).2.2.2]
      exact hc.2.2.2.2.2.1
    · show aLe (rfA (rmS A t (md (SS t)) c) t (md (SS t) - c)) = cnF (aTk (rfA (rmS A t (md (SS t)) c) t (md (SS t) - c))) 255
      rw [r13, r12, cn, n6, hc.2.2.2.2.2.2]
end
end
section
/-! removeRun of a file's last run -/
def sE (t : Nat) : mS := (0, (fun _ => 0), (fun _ => 0), (fun _ => 0), (fun _ => 0), 0, (fun _ => 1), (fun _ _ => 256 + t), (fun _ _ => 0))
def EmC (S : mS) (q : Nat) : Prop := q < mn S ∧ ∀ y, y ≤ md S → mc S y (mQ S q (y + 1)) = 1
section
variable {A : cA} {SS : Nat → mS} {F : Nat → Prop} {S : mS} {t m q c : Nat}
theorem emc_k (hs : mSh S t m) (h : EmC S q) : ∀ k, k ≤ md S → mK S (md S - k) = 1 := by
  obtain ⟨hi, h1⟩ := h
  intro k
  induction k with
  | zero => intro _; exact hs.2.1
  | succ k ih =>
    intro hk
    have e := ih (by omega)
    obtain ⟨y, hy⟩ : ∃ y, md S - k = y + 1 ∧ md S - (k + 1) = y := ⟨md S - k - 1, by omega, by omega⟩
    rw [hy.2]
    rw [hy.1] at e
    have h4 := hs.2.2.2.1 (y + 1) (by omega)
    have a1 := (mQ_in hs hi (show y + 1 ≤ md S by omega)).1
    have h5 := h1 (y + 1) (by omega)
    rw [show mQ S q (y + 1 + 1) = 0 by omega] at h5
    rw [e] at h4
    have h6 : sm (mc S (y + 1)) 1 = 0 + mc S (y + 1) 0 := rfl
    have h7 : mI S (y + 1) = mK S y := rfl
    omega
theorem sE_sh (ht : t < 4) : mSh (sE t) t m := by
  refine ⟨Nat.zero_le 5, rfl, rfl, fun l hl => ?_, fun l hl => absurd hl (Nat.not_lt_zero _), Nat.zero_le 4, fun h => absurd h (Nat.lt_irrefl 0)⟩
  have hl : l ≤ 0 := hl
  rw [show l = 0 by omega]
  rfl
theorem sE_rn : mRn (sE t) := ⟨fun i hi => absurd hi (Nat.not_lt_zero _), fun i hi => absurd hi (Nat.not_lt_zero _)⟩
set_option maxHeartbeats 1000000 in
theorem CX.remE (hc : CX A SS F) (ht : t < 4) (hS : SS t = S) (hw : WyTo A t S (q : Int)) (h : EmC S q) (hcd' : c = md S) :
    (0 ≤ aPl A t (md S) ∧ aPl A t (md S) < aEn A (aWy A t (md S))) ∧ (∀ m, m < c → RmOk A t (md S) m) ∧ CX (rmE (rmS A t (md S) c) t 0) (gF SS t (sE t)) F := by
  subst hS
  obtain ⟨hs, hr, ha, u1, u2, u3⟩ := hc.2.1 t ht
  have hj := hc.inj ht
  have hK := emc_k hs h
  obtain ⟨hi, h1'⟩ := h
  have hcd : c ≤ md (SS t) := by omega
  have h1 : ∀ y, y < c → mc (SS t) y (mQ (SS t) q (y + 1)) = 1 := fun y hy => h1' y (by omega)
  have hA := ab_nd.mp ha
  have eW : ∀ k, k ≤ md (SS t) → aWy A t k = mb (SS t) (md (SS t) - k) (mQ (SS t) q (md (SS t) - k + 1)) := fun k hk => by
    rw [(hw.2 k hk).1, pW_n]
  have eP : ∀ k, k ≤ md (SS t) → aPl A t k = (mQ (SS t) q (md (SS t) - k) : Int) - sm (mc (SS t) (md (SS t) - k)) (mQ (SS t) q (md (SS t) - k + 1)) := fun k hk => by
    rw [(hw.2 k hk).2, pPn hs hi hk]
  have nd : ∀ k, k ≤ md (SS t) → Nd A (aWy A t k) (SS t) (md (SS t) - k) (mc (SS t) (md (SS t) - k) (mQ (SS t) q (md (SS t) - k + 1))) (sm (mc (SS t) (md (SS t) - k)) (mQ (SS t) q (md (SS t) - k + 1))) := fun k hk => by
    rw [eW k hk]
    exact hA _ (by omega) _ (mQ_in hs hi (by omega)).1
  have inj : ∀ k k', k ≤ md (SS t) → k' ≤ md (SS t) → aWy A t k = aWy A t k' → k = k' := by
    intro k k' hk hk' e
    rw [eW k hk, eW k' hk'] at e
    have := (hj _ _ _ _ (by omega) (mQ_in hs hi (by omega)).1 (by omega) (mQ_in hs hi (by omega)).1 e).1
    omega
  have plb : ∀ k, k ≤ md (SS t) → 0 ≤ aPl A t k ∧ aPl A t k < aEn A (aWy A t k) := by
    intro k hk
    rw [eP k hk, (nd k hk).2.1]
    obtain ⟨a1, a2, a3⟩ := mQ_in hs hi (show md (SS t) - k ≤ md (SS t) by omega)
    omega
  have bl : ∀ k, 1 ≤ k → k ≤ md (SS t) → (1 ≤ aWy A t k ∧ aWy A t k ≤ 255) ∧ Own (SS t) (aWy A t k) := by
    intro k k1 hk
    have a1 := (mQ_in hs hi (show md (SS t) - k ≤ md (SS t) by omega)).1
    have := (hs.2.2.2.2.1 (md (SS t) - k) (by omega) _ a1).2.2
    rw [eW k hk]
    exact ⟨this, ⟨md (SS t) - k, _, by omega, a1, rfl⟩⟩
  have tk : ∀ k, 1 ≤ k → k ≤ md (SS t) → aTk A (aWy A t k) = 1 := by
    intro k k1 hk
    obtain ⟨b1, b2⟩ := bl k k1 hk
    rcases hc.ownF ht b1.1 (by omega) (hc.own ht b2) with ⟨g, _⟩ | ⟨_, _, _, g⟩
    · exact g
    · exact absurd b2 g
  have at_ := rms_at (A := A) (t := t) (l := md (SS t)) inj
  obtain ⟨z1, z2, z3, z4⟩ := at_ c hcd
  have d0 : aDp A (aWy A t (md (SS t))) = 0 := by
    rw [(nd (md (SS t)) (Nat.le_refl _)).1, Nat.sub_self]
    rfl
  have dk : ∀ k, k < md (SS t) → aDp A (aWy A t k) ≠ 0 := by
    intro k hk
    rw [(nd k (by omega)).1]
    omega
  obtain ⟨n1, n2, n3, n4, n5, n6, n7⟩ := rms_num inj d0 dk c hcd
  have cn := rms_cn inj hcd (fun k k1 k2 => ⟨(bl k (by omega) k2).1.1, (bl k (by omega) k2).1.2, tk k (by omega) k2⟩) c (Nat.le_refl _)
  have same := rms_same (A := A) (t := t) (l := md (SS t)) c
  have root0 : aWy A t 0 = 256 + t := by
    rw [eW 0 (by omega), Nat.sub_zero, mQ_top hs hi, hs.2.2.1]
  have okm : ∀ m, m ≤ c → aOk (rmS A t (md (SS t)) m) := by
    intro m
    induction m with
    | zero =>
      intro _
      have := plb (md (SS t)) (Nat.le_refl _)
      exact aOk_rem hc.1 (by rw [eW _ (Nat.le_refl _)]; exact hs.bl ht (by omega) (mQ_in hs hi (by omega)).1) (by omega)
    | succ m ih =>
      intro hm
      have w1 : aWy A t (md (SS t) - m) < 260 := by
        rw [eW _ (by omega)]
        exact hs.bl ht (by omega) (mQ_in hs hi (by omega)).1
      have w2 : aWy A t (md (SS t) - m - 1) < 260 := by
        rw [eW _ (by omega)]
        exact hs.bl ht (by omega) (mQ_in hs hi (by omega)).1
      refine aOk_rem (aOk_gb (ih (by omega)) w1) w2 ?_
      have hne : aWy A t (md (SS t) - m - 1) ≠ aWy A t (md (SS t) - m) := fun z => by
        have := inj _ _ (by omega) (by omega) z
        omega
      show 0 < gF (aEn (rmS A t (md (SS t)) m)) (aWy A t (md (SS t) - m)) 0 (aWy A t (md (SS t) - m - 1))
      rw [gF_n hne, ((at_ m (by omega)).1 (aWy A t (md (SS t) - m - 1)) (fun k h1 h2 z => by
        have := inj _ _ (by omega) h2 z
        omega)).2.1]
      have := plb (md (SS t) - m - 1) (by omega)
      omega
  have en0 : aEn (rmS A t (md (SS t)) c) (256 + t) = 0 := by
    have := z2.2.1
    rw [hcd', Nat.sub_self, root0] at this
    rw [hcd', this, ← root0, (nd 0 (by omega)).2.1, Nat.sub_zero, h1' (md (SS t)) (Nat.le_refl _)]
    rfl
  have hn1 : mn (SS t) = 1 := by
    obtain ⟨b1, b2⟩ := rm_one hs hi (md (SS t) + 1) (Nat.le_refl _) (fun z hz => h1' z (by omega))
    rw [mQ_top hs hi] at b1 b2
    have := fr_top hs (md (SS t) + 1) (Nat.le_refl _)
    have e : mI (SS t) (md (SS t) + 1) = 1 := hs.2.1
    rw [e] at this
    rw [fr_0] at b1
    have b2 : fr (mc (SS t)) (md (SS t) + 1) 1 = q + 1 := b2
    omega
  have eD : rmD (rmS A t (md (SS t)) c) t = sNd (rmS A t (md (SS t)) c) (256 + t) (aTk (rmS A t (md (SS t)) c) (256 + t)) 0 (aEn (rmS A t (md (SS t)) c) (256 + t)) := if_pos en0
  have hKy : ∀ y, y ≤ md (SS t) → mK (SS t) y = 1 := fun y hy => by
    have := hK (md (SS t) - y) (by omega)
    rw [show md (SS t) - (md (SS t) - y) = y by omega] at this
    exact this
  refine ⟨plb _ (Nat.le_refl _), fun m hm => ?_, ?_⟩
  · obtain ⟨y1, y2, y3, y4⟩ := at_ m (by omega)
    have hne : aWy A t (md (SS t) - m - 1) ≠ aWy A t (md (SS t) - m) := fun z => by
      have := inj _ _ (by omega) (by omega) z
      omega
    refine ⟨?_, ?_, (plb (md (SS t) - m - 1) (by omega)).1, ?_⟩
    · rw [y2.2.1, (nd (md (SS t) - m) (by omega)).2.1, show md (SS t) - (md (SS t) - m) = m by omega, h1 m hm]
      rfl
    · rw [y2.2.2]
      exact tk _ (by omega) (by omega)
    · show _ < gF (aEn (rmS A t (md (SS t)) m)) (aWy A t (md (SS t) - m)) 0 (aWy A t (md (SS t) - m - 1))
      rw [gF_n hne, (y1 (aWy A t (md (SS t) - m - 1)) (fun k h1 h2 z => by
        have := inj _ _ (by omega) h2 z
        omega)).2.1]
      exact (plb (md (SS t) - m - 1) (by omega)).2
  · have eE : rmE (rmS A t (md (SS t)) c) t 0 = sTr (sNd (rmS A t (md (SS t)) c) (256 + t) (aTk (rmS A t (md (SS t)) c) (256 + t)) 0 (aEn (rmS A t (md (SS t)) c) (256 + t))) t (aRu (rmS A t (md (SS t)) c) t - 1) (aBl (rmS A t (md (SS t)) c) t) (aMa (rmS A t (md (SS t)) c) t) (aMw (rmS A t (md (SS t)) c) t) (aLb (rmS A t (md (SS t)) c) t) (aLf (rmS A t (md (SS t)) c) t) := by
      unfold rmE
      rw [eD]
      rfl
    have okE : aOk (sNd (rmS A t (md (SS t)) c) (256 + t) (aTk (rmS A t (md (SS t)) c) (256 + t)) 0 (aEn (rmS A t (md (SS t)) c) (256 + t))) := aOk_sNd (okm c (Nat.le_refl _)) (by omega) (by rw [en0]; omega)
    rw [eE]
    have eTk : gF (aTk (rmS A t (md (SS t)) c)) (256 + t) (aTk (rmS A t (md (SS t)) c) (256 + t)) = aTk (rmS A t (md (SS t)) c) := gF_same _ _
    have eEn : gF (aEn (rmS A t (md (SS t)) c)) (256 + t) (aEn (rmS A t (md (SS t)) c) (256 + t)) = aEn (rmS A t (md (SS t)) c) := gF_same _ _
    have ownw : ∀ x, Own (SS t) x → ∃ k, 1 ≤ k ∧ k ≤ md (SS t) ∧ x = aWy A t k := by
      rintro x ⟨y, p, y1, y2, y3⟩
      refine ⟨md (SS t) - y, by omega, by omega, ?_⟩
      have k1 := hKy y (by omega)
      have k2 := (mQ_in hs hi (show y ≤ md (SS t) by omega)).1
      rw [eW _ (by omega), show md (SS t) - (md (SS t) - y) = y by omega, ← y3, show mQ (SS t) q (y + 1) = p by omega]
    refine hc.step (S' := sE t) (F' := F) ht okE n7 ⟨sE_sh ht, sE_rn, fun l hl p hp => ?_, ?_, ?_, ?_⟩ (fun l p l' p' hl hp hl' hp' _ => ?_) (fun t' ht' => ⟨?_, ?_, ?_⟩) (fun x hx => ?_) (fun x hx => ?_) (fun x x1 x2 hx => ?_) hc.2.2.2.2.1 (fun x hx => (hc.fre hx).1) ?_ ?_
    · have hl : l ≤ 0 := hl
      have hp : p < 1 := hp
      rw [show l = 0 by omega]
      refine ⟨gF_s _ _ _, ?_, fun j hj9 => absurd hj9 (Nat.not_lt_zero _)⟩
      show gF (aEn (rmS A t (md (SS t)) c)) (256 + t) (aEn (rmS A t (md (SS t)) c) (256 + t)) (256 + t) = 0
      rw [gF_s, en0]
    · show gF _ t _ t = _
      rw [gF_s, n1, u1, hn1]
      rfl
    · show gF _ t _ t = _
      rw [gF_s, n2, gF_s, u2]
      have sums : ∀ d, d ≤ md (SS t) → sm (mK (SS t)) d = d := by
        intro d
        induction d with
        | zero => intro _; rfl
        | succ d ih =>
          intro hd
          show sm (mK (SS t)) d + mK (SS t) d = d + 1
          rw [ih (by omega), hKy d (by omega)]
      rw [sums _ (Nat.le_refl _), hcd']
      show _ = ((0 : Nat) : Int)
      omega
    · show gF _ t _ t = _
      rw [gF_s, n5, gF_s, u3]
      show _ = (0 : Int)
      by_cases h9 : md (SS t) = 0
      · rw [if_pos (show c = 0 by omega), if_pos h9]
      · rw [if_neg (show ¬ c = 0 by omega), if_neg h9, hKy 0 (by omega)]
        rfl
    · have hl : l ≤ 0 := hl
      have hl' : l' ≤ 0 := hl'
      have hp : p < 1 := hp
      have hp' : p' < 1 := hp'
      exact ⟨by omega, by omega⟩
    · show gF (aRu (rmS A t (md (SS t)) c)) t _ t' = _
      rw [gF_n ht', n1]
    · show gF (aBl (rmS A t (md (SS t)) c)) t _ t' = _
      rw [gF_n ht', n2, gF_n ht']
    · show gF (aLb (rmS A t (md (SS t)) c)) t _ t' = _
      rw [gF_n ht', n5, gF_n ht']
    · have hxr : x ≠ 256 + t := fun z => hc.root (z ▸ hx)
      obtain ⟨o1, o2, o3⟩ := z1 x (fun k _ k2 e => by
        rw [eW k k2] at e
        exact (hc.node ht (by omega) (mQ_in hs hi (by omega)).1).1 (e ▸ hx))
      refine ⟨?_, ?_, o1, ?_⟩
      · show gF (aDp (rmS A t (md (SS t)) c)) (256 + t) 0 x = _
        rw [gF_n hxr, z4]
      · show gF (aEn (rmS A t (md (SS t)) c)) (256 + t) _ x = _
        rw [eEn]
        exact o2
      · show gF (aTk (rmS A t (md (SS t)) c)) (256 + t) _ x = _
        rw [eTk]
        exact o3
    · obtain ⟨y, p, y1, _⟩ := hx
      exact absurd y1 (Nat.not_lt_zero _)
    · have g := hc.ownF ht x1 x2 hx
      have hno : ¬ Own (sE t) x := fun ⟨y, p, y1, _⟩ => absurd y1 (Nat.not_lt_zero _)
      unfold bOk at g ⊢
      show (gF (aTk (rmS A t (md (SS t)) c)) (256 + t) _ x = 1 ∧ _) ∨ (gF (aTk (rmS A t (md (SS t)) c)) (256 + t) _ x = 0 ∧ gF (aEn (rmS A t (md (SS t)) c)) (256 + t) _ x = 0 ∧ _)
      rw [eTk, eEn]
      by_cases hx9 : ∃ k, 1 ≤ k ∧ k ≤ md (SS t) ∧ x = aWy A t k
      · obtain ⟨k, k1, k2, rfl⟩ := hx9
        have hown := (bl k (by omega) k2).2
        have hnf : ¬ F (aWy A t k) := by
          rcases g with ⟨_, ⟨_, g3⟩ | ⟨g2, _⟩⟩ | ⟨_, _, g3, _⟩
          · exact absurd hown g3
          · exact g2
          · exact g3
        obtain ⟨y1, y2⟩ := z3 k (by omega) k2
        exact Or.inr ⟨y2, y1, hnf, hno⟩
      · have hnS : ¬ Own (SS t) x := fun z => hx9 (ownw x z)
        obtain ⟨o1, o2, o3⟩ := z1 x (fun k _ k2 e => by
          by_cases h7 : k = 0
          · rw [h7, root0] at e
            omega
          · exact hx9 ⟨k, by omega, k2, e⟩)
        rw [o2, o3]
        rcases g with ⟨g1, ⟨g2, g3⟩ | ⟨g2, g3⟩⟩ | ⟨g1, g2, g3, g4⟩
        · exact Or.inl ⟨g1, Or.inl ⟨g2, hno⟩⟩
        · exact absurd g3 hnS
        · exact Or.inr ⟨g1, g2, g3, hno⟩
    · show gF (aTk (rmS A t (md (SS t)) c)) (256 + t) _ 0 = 0
      rw [eTk, (z1 0 (fun k _ hk e => by
        by_cases h7 : k = 0
        · rw [h7, root0] at e
          omega
        · have := (bl k (by omega) hk).1
          omega)).2.2]
      exact hc.2.2.2.2.2.1
    · show aLe (rmS A t (md (SS t)) c) = cnF (gF (aTk (rmS A t (md (SS t)) c)) (256 + t) _) 255
      rw [eTk, cn, n6, hc.2.2.2.2.2.2]
end
end
section
/-! settle on the model: the root takes over its only child -/
def sSt (S : mS) (t : Nat) : mS := (mn S, ms S, ml S, mv S, mw S, md S - 1, mK S, gF (mb S) (md S - 1) (fun _ => 256 + t), mc S)
def StC (S : mS) : Prop := 0 < md S ∧ mc S (md S) 0 = 1 ∧ mc S (md S - 1) 0 ≤ 4
section
variable {A : cA} {SS : Nat → mS} {F : Nat → Prop} {S : mS} {t m : Nat}
theorem sst_bt : mb (sSt S t) (md S - 1) = fun _ => 256 + t := gF_s _ _ _
theorem sst_bo {k : Nat} (h : k ≠ md S - 1) : mb (sSt S t) k = mb S k := gF_n h
theorem stc_k (hs : mSh S t m) (h : StC S) : mK S (md S - 1) = 1 := by
  have h4 := hs.2.2.2.1 (md S) (Nat.le_refl _)
  rw [hs.2.1] at h4
  have h5 : sm (mc S (md S)) 1 = 0 + mc S (md S) 0 := rfl
  have h6 : mI S (md S) = mK S (md S - 1) := by
    obtain ⟨d, hd⟩ : ∃ d, md S = d + 1 := ⟨md S - 1, by have := h.1; omega⟩
    rw [hd]
    rfl
  have := h.2.1
  omega
theorem sst_sh (hs : mSh S t m) (h : StC S) : mSh (sSt S t) t m := by
  have hk := stc_k hs h
  obtain ⟨h1, h2, h3⟩ := h
  obtain ⟨s1, s2, s3, s4, s5, s6, s7⟩ := hs
  refine ⟨?_, hk, ?_, fun l hl => ?_, fun l hl p hp => ?_, h3, fun hd => ?_⟩
  · show md S - 1 ≤ 5
    omega
  · show mb (sSt S t) (md S - 1) 0 = _
    rw [sst_bt]
  · have hl : l ≤ md S - 1 := hl
    have := s4 l (by omega)
    cases l with
    | zero => exact this
    | succ l => exact this
  · have hl : l < md S - 1 := hl
    rw [sst_bo (by omega)]
    exact s5 l (by omega) p hp
  · exact (s5 (md S - 1) (by omega) 0 (by omega)).1
theorem sst_own (hs : mSh S t m) (hj : mInj S) (h : StC S) (x : Nat) : Own (sSt S t) x ↔ Own S x ∧ x ≠ mb S (md S - 1) 0 := by
  have hk := stc_k hs h
  obtain ⟨h1, h2, h3⟩ := h
  constructor
  · rintro ⟨y, p, y1, y2, y3⟩
    have y1 : y < md S - 1 := y1
    have y2 : p < mK S y := y2
    rw [sst_bo (by omega)] at y3
    refine ⟨⟨y, p, by omega, y2, y3⟩, fun z => ?_⟩
    rw [← y3] at z
    have := (hj _ _ _ _ (by omega) y2 (by omega) (by omega) z).1
    omega
  · rintro ⟨⟨y, p, y1, y2, y3⟩, z⟩
    by_cases e : y = md S - 1
    · subst e
      rw [hk] at y2
      rw [show p = 0 by omega] at y3
      exact absurd y3.symm z
    · exact ⟨y, p, show y < md S - 1 by omega, y2, by rw [sst_bo e]; exact y3⟩
theorem CX.settle1 (hc : CX A SS F) (ht : t < 4) (hS : SS t = S) (h : StC S) : StOk A t ∧ CX (gbA (mvA A (stI A t) 0 (256 + t)) t (stI A t)) (gF SS t (sSt S t)) F := by
  subst hS
  obtain ⟨hs, hr, ha, u1, u2, u3⟩ := hc.2.1 t ht
  have hj := hc.inj ht
  have hk := stc_k hs h
  have hh := h
  obtain ⟨h1, h2, h3⟩ := h
  have hA := ab_nd.mp ha
  obtain ⟨d, hd⟩ : ∃ d, md (SS t) = d + 1 := ⟨md (SS t) - 1, by omega⟩
  have hd1 : md (SS t) - 1 = d := by omega
  rw [hd1] at hk h3
  have n0 := hA (md (SS t)) (Nat.le_refl _) 0 (by have := hs.2.1; omega)
  rw [hs.2.2.1, h2] at n0
  have n1 := hA d (by omega) 0 (by omega)
  have b5 := hs.2.2.2.2.1 d (by omega) 0 (by omega)
  have eI : stI A t = mb (SS t) d 0 := by
    unfold stI
    rw [n0.2.1, gWd_in (by omega)]
    have g := n0.2.2 0 (by omega) 1 (by omega)
    have g : aWf A (256 + t) 1 = it (SS t) (md (SS t)) (sm (mc (SS t) (md (SS t))) 0 + 0) 1 := g
    show (aWf A (256 + t) 1).toNat = _
    rw [g, hd]
    show ((mb (SS t) d 0 : Nat) : Int).toNat = _
    omega
  have hown : Own (SS t) (mb (SS t) d 0) := ⟨d, 0, by omega, by omega, rfl⟩
  have tk : aTk A (mb (SS t) d 0) = 1 := by
    rcases hc.ownF ht b5.2.2.1 (by omega) (hc.own ht hown) with ⟨g, _⟩ | ⟨_, _, _, g⟩
    · exact g
    · exact absurd hown g
  have hne : mb (SS t) d 0 ≠ 256 + t := by omega
  rw [eI]
  refine ⟨⟨by rw [n0.2.1]; rfl, by rw [eI]; omega, by rw [eI, n1.2.1]; omega, by rw [eI]; exact tk⟩, ?_⟩
  generalize ho : mb (SS t) d 0 = o at *
  have rm4 : aRm A (256 + t) = 4 := if_neg (by omega)
  have okM : aOk (mvA A o 0 (256 + t)) := aOk_mv hc.1 (by omega) (by omega) (by have := (hc.1.2.2 o (by omega)).1; omega) (by rw [n1.2.1, rm4]; omega)
  have mD : ∀ x, aDp (gbA (mvA A o 0 (256 + t)) t o) x = if x = 256 + t then (d : Int) else aDp A x := by
    intro x
    show gF (gF (gF (aDp A) (256 + t) (aDp A o)) o (aDp A o)) o (gF (gF (aDp A) (256 + t) (aDp A o)) o (aDp A o) o) x = _
    rw [gF_same]
    by_cases e : x = 256 + t
    · rw [if_pos e, e, gF_n (Ne.symm hne), gF_s, n1.1]
    · rw [if_neg e]
      by_cases e2 : x = o
      · rw [e2, gF_s]
      · rw [gF_n e2, gF_n e]
  have mE : ∀ x, aEn (gbA (mvA A o 0 (256 + t)) t o) x = if x = 256 + t then (mc (SS t) d 0 : Int) else if x = o then 0 else aEn A x := by
    intro x
    show gF (gF (gF (aEn A) (256 + t) (aEn A o - 0)) o 0) o 0 x = _
    by_cases e : x = 256 + t
    · rw [if_pos e, e, gF_n (Ne.symm hne), gF_n (Ne.symm hne), gF_s, n1.2.1]
      omega
    · rw [if_neg e]
      by_cases e2 : x = o
      · rw [if_pos e2, e2, gF_s]
      · rw [if_neg e2, gF_n e2, gF_n e2, gF_n e]
  have mW : ∀ x, aWf (gbA (mvA A o 0 (256 + t)) t o) x = if x = 256 + t then gCp (aWf A o) (aWf A (256 + t)) 0 0 (mc (SS t) d 0 * 3) else aWf A x := by
    intro x
    show gF (aWf A) (256 + t) (gCp (aWf A o) (aWf A (256 + t)) ((0 : Int) * 3).toNat 0 ((aEn A o - 0) * 3).toNat) x = _
    by_cases e : x = 256 + t
    · rw [if_pos e, e, gF_s, n1.2.1]
      congr 1
    · rw [if_neg e, gF_n e]
  have mT : aTk (gbA (mvA A o 0 (256 + t)) t o) = gF (aTk A) o 0 := by
    show gF (gF (gF (aTk A) (256 + t) (aTk A (256 + t))) o (aTk A o)) o 0 = _
    rw [gF_same, gF_same]
  have dpo : aDp (mvA A o 0 (256 + t)) o = d := by
    show gF (gF (aDp A) (256 + t) (aDp A o)) o (aDp A o) o = _
    rw [gF_s, n1.1]
  refine hc.step (S' := sSt (SS t) t) (F' := F) ht (aOk_gb okM (by omega)) rfl ⟨sst_sh hs hh, hr, ?_, ?_, ?_, ?_⟩ (fun l p l' p' hl hp hl' hp' e => ?_) (fun t' ht' => ⟨?_, ?_, ?_⟩) (fun x hx => ?_) (fun x hx => hc.own ht ((sst_own hs hj hh x).mp hx).1) (fun x x1 x2 hx => ?_) hc.2.2.2.2.1 (fun x hx => (hc.fre hx).1) ?_ ?_
  · refine ab_nd.mpr (fun l hl p hp => ?_)
    have hl : l ≤ md (SS t) - 1 := hl
    have hp : p < mK (SS t) l := hp
    have its : ∀ y x e, y ≤ d → it (sSt (SS t) t) y x e = it (SS t) y x e := by
      intro y x e hy
      refine it_eq rfl ?_ ?_
      · cases y with
        | zero => rfl
        | succ y =>
          show ((mb (sSt (SS t) t) y x : Nat) : Int) = _
          rw [sst_bo (by omega)]
          rfl
      · cases y <;> rfl
    show Nd _ (mb (sSt (SS t) t) l p) (sSt (SS t) t) l (mc (SS t) l p) (sm (mc (SS t) l) p)
    by_cases e : l = d
    · subst e
      rw [show p = 0 by omega]
      have eb : mb (sSt (SS t) t) l 0 = 256 + t := by
        rw [← hd1, sst_bt]
      rw [eb]
      refine ⟨by rw [mD, if_pos rfl], by rw [mE, if_pos rfl], fun j hj9 e he => ?_⟩
      rw [mW, if_pos rfl, its _ _ _ (Nat.le_refl _)]
      unfold gCp
      rw [if_pos (by omega), show 0 + (j * 3 + e - 0) = j * 3 + e by omega]
      exact n1.2.2 j hj9 e he
    · rw [sst_bo (by omega)]
      have g := hA l (by omega) p hp
      have b9 := (hs.2.2.2.2.1 l (by omega) p hp).2.2.2
      have e2 : mb (SS t) l p ≠ o := fun z => by
        rw [← ho] at z
        exact e (hj _ _ _ _ (by omega) hp (by omega) (by omega) z).1
      exact g.keep (by rw [mD, if_neg (by omega)]) (by rw [mE, if_neg (by omega), if_neg e2]) (by rw [mW, if_neg (by omega)]) (fun j _ e _ => its _ _ _ (by omega))
  · show gF (aRu A) t (aRu A t) t = _
    rw [gF_s]
    exact u1
  · show gF (aBl A) t (aBl A t + -1) t = _
    rw [gF_s, u2, hd]
    show ((sm (mK (SS t)) d + mK (SS t) d : Nat) : Int) + -1 = ((sm (mK (SS t)) (md (SS t) - 1) : Nat) : Int)
    rw [hk, hd1]
    omega
  · show gF (aLb A) t (if aDp (mvA A o 0 (256 + t)) o = 0 then aLb A t + -1 else aLb A t) t = if md (SS t) - 1 = 0 then (0 : Int) else ((mK (SS t) 0 : Nat) : Int)
    rw [gF_s, dpo, u3, if_neg (show ¬ md (SS t) = 0 by omega), hd1]
    by_cases e : d = 0
    · rw [if_pos e, if_pos (by omega)]
      rw [e] at hk
      rw [hk]
      rfl
    · rw [if_neg e, if_neg (by omega)]
  · have hl : l ≤ md (SS t) - 1 := hl
    have hl' : l' ≤ md (SS t) - 1 := hl'
    have hp : p < mK (SS t) l := hp
    have hp' : p' < mK (SS t) l' := hp'
    by_cases e1 : l = d <;> by_cases e2 : l' = d
    · rw [e1, hk] at hp
      rw [e2, hk] at hp'
      exact ⟨by omega, by omega⟩
    · have e3 : mb (sSt (SS t) t) l p = 256 + t := by rw [e1, ← hd1, sst_bt]
      rw [e3, sst_bo (by omega)] at e
      have := (hs.2.2.2.2.1 l' (by omega) p' hp').2.2.2
      omega
    · have e3 : mb (sSt (SS t) t) l' p' = 256 + t := by rw [e2, ← hd1, sst_bt]
      rw [e3, sst_bo (by omega)] at e
      have := (hs.2.2.2.2.1 l (by omega) p hp).2.2.2
      omega
    · rw [sst_bo (by omega), sst_bo (by omega)] at e
      exact hj _ _ _ _ (by omega) hp (by omega) hp' e
  · show gF (aRu A) t (aRu A t) t' = _
    rw [gF_n ht']
  · show gF (aBl A) t (aBl A t + -1) t' = _
    rw [gF_n ht']
  · show gF (aLb A) t _ t' = _
    rw [gF_n ht']
  · have x1 : x ≠ 256 + t := fun z => hc.root (z ▸ hx)
    have x2 : x ≠ o := fun z => hc.own ht hown (z ▸ hx)
    rw [mD, mE, mW, mT, if_neg x1, if_neg x1, if_neg x1, if_neg x2, gF_n x2]
    exact ⟨rfl, rfl, rfl, rfl⟩
  · have g := hc.ownF ht x1 x2 hx
    have hoS := sst_own hs hj hh x
    rw [hd1, ho] at hoS
    unfold bOk at g ⊢
    rw [mT, mE, hoS, if_neg (show ¬ x = 256 + t by omega)]
    by_cases e : x = o
    · subst e
      rw [gF_s, if_pos rfl]
      refine Or.inr ⟨rfl, rfl, ?_, fun z => z.2 rfl⟩
      rcases g with ⟨_, ⟨_, g3⟩ | ⟨g2, _⟩⟩ | ⟨_, _, g3, _⟩
      · exact absurd hown g3
      · exact g2
      · exact g3
    · rw [gF_n e, if_neg e]
      rcases g with ⟨g1, ⟨g2, g3⟩ | ⟨g2, g3⟩⟩ | ⟨g1, g2, g3, g4⟩
      · exact Or.inl ⟨g1, Or.inl ⟨g2, fun z => g3 z.1⟩⟩
      · exact Or.inl ⟨g1, Or.inr ⟨g2, g3, e⟩⟩
      · exact Or.inr ⟨g1, g2, g3, fun z => g4 z.1⟩
  · rw [mT, gF_n (by omega)]
    exact hc.2.2.2.2.2.1
  · rw [mT, (cnF_give b5.2.2.1 tk 255).2 (by omega)]
    show aLe A + 1 = _
    rw [hc.2.2.2.2.2.2]
end
end
section
/-! setRun and removeRun as calls, on the model -/
section
variable {G : gG} {N : Option Nat} {h0 : gH} {A : cA} {SS : Nat → mS} {F : Nat → Prop} {S : mS} {t q c : Nat} {x n v w : Int}
theorem CX.fnd (hc : CX A SS F) {W : Nat → Nat} {P : Nat → Int} {k : Nat} {y : Int} : CX (fnd A t W P k y) SS F := hc
theorem s_setRun (hc : CX A SS F) (ht : t < 4) (hS : SS t = S) (hq : q < mn S) (hx : 0 ≤ x ∧ x ≤ 65536) (hn : 0 ≤ n ∧ n ≤ 32768) (hv : 0 ≤ v ∧ v ≤ 16777216) (hww : w = 0 ∨ w = 1) (hr' : mRn (sSet S q x n v w)) :
    ∃ A', Rd G m_Tree_setRun [vR (517 + 6 * t), vI x, vI n, vI v, vI w] N (hpx (fnd A t (pW S q) (pP S q) (md S + 1) (md S)) h0) none N (hpx A' h0) ∧ CX A' (gF SS t (sSet S q x n v w)) F ∧ WyTo A' t (sSet S q x n v w) q ∧ aMa A' = aMa A ∧ aMw A' = aMw A ∧ aM A' = aM A ∧ aTk A' = aTk A ∧ aLe A' = aLe A := by
  have h2 := hc.set ht hS hq hx hn hv hww hr'
  subst hS
  obtain ⟨hs, hr, ha, u1, u2, u3⟩ := hc.2.1 t ht
  have hw : WyTo (fnd A t (pW (SS t) q) (pP (SS t) q) (md (SS t) + 1) (md (SS t))) t (SS t) q := wy_fnd
  have h5 := hs.1
  refine ⟨_, c_setRun (l := md (SS t)) hc.1 ht hw.1 (by omega) (fun k hk => ?_) (fun k hk => ?_) hx hn hv hww, h2, ?_, ?_⟩
  · rw [(hw.2 k hk).1]
    exact hs.bl ht (by omega) (pP_b hs (i := (q : Int)) (by omega) hk).1
  · rw [(hw.2 k hk).1, (hw.2 k hk).2, pPn hs hq hk, pW_n]
    obtain ⟨a1, a2, a3⟩ := mQ_in hs hq (show md (SS t) - k ≤ md (SS t) by omega)
    have := (ha (md (SS t) - k) (by omega) _ a1).2.1
    show 0 ≤ _ ∧ _ < aEn A (mb (SS t) (md (SS t) - k) (mQ (SS t) q (md (SS t) - k + 1)))
    rw [this]
    omega
  · have mq : ∀ y, mQ (sSet (SS t) q x n v w) q y = mQ (SS t) q y := fun y => mQ_congr y (fun k _ => ⟨rfl, rfl⟩)
    obtain ⟨r1, r2, r3, r4, r5, r6, r7, r8, r9, r10, r11, r12, r13, r14⟩ := rf_ru (t := t) (md (SS t)) (sWf (fnd A t (pW (SS t) q) (pP (SS t) q) (md (SS t) + 1) (md (SS t))) (aWy (fnd A t (pW (SS t) q) (pP (SS t) q) (md (SS t) + 1) (md (SS t))) t (md (SS t))) (gT3 (aWf (fnd A t (pW (SS t) q) (pP (SS t) q) (md (SS t) + 1) (md (SS t))) (aWy (fnd A t (pW (SS t) q) (pP (SS t) q) (md (SS t) + 1) (md (SS t))) t (md (SS t)))) (aPl (fnd A t (pW (SS t) q) (pP (SS t) q) (md (SS t) + 1) (md (SS t))) t (md (SS t)) * 3).toNat x (if w = 1 then n else n + 32768) v))
    refine ⟨?_, fun k hk => ⟨?_, ?_⟩⟩
    · unfold srA
      rw [r6]
      exact hw.1
    · have hk : k ≤ md (SS t) := hk
      unfold srA
      rw [r7]
      refine (hw.2 k hk).1.trans ?_
      rw [pW_n, pW_n, mq]
      rfl
    · have hk : k ≤ md (SS t) := hk
      unfold srA
      rw [r8]
      refine (hw.2 k hk).2.trans ?_
      unfold pP
      rw [show ((q : Nat) : Int).toNat = q by omega, mq, mq, mq]
      rfl
  · obtain ⟨r1, r2, r3, r4, r5, r6, r7, r8, r9, r10, r11, r12, r13, r14⟩ := rf_ru (t := t) (md (SS t)) (sWf (fnd A t (pW (SS t) q) (pP (SS t) q) (md (SS t) + 1) (md (SS t))) (aWy (fnd A t (pW (SS t) q) (pP (SS t) q) (md (SS t) + 1) (md (SS t))) t (md (SS t))) (gT3 (aWf (fnd A t (pW (SS t) q) (pP (SS t) q) (md (SS t) + 1) (md (SS t))) (aWy (fnd A t (pW (SS t) q) (pP (SS t) q) (md (SS t) + 1) (md (SS t))) t (md (SS t)))) (aPl (fnd A t (pW (SS t) q) (pP (SS t) q) (md (SS t) + 1) (md (SS t))) t (md (SS t)) * 3).toNat x (if w = 1 then n else n + 32768) v))
    unfold srA
    rw [r3, r4, r12, r13, r14]
    exact ⟨rfl, rfl, rfl, rfl, rfl⟩
theorem s_removeRun (hc : CX A SS F) (ht : t < 4) (hS : SS t = S) (hw : WyTo A t S (q : Int)) (h : RmC S q c) (hr' : mRn (sRm S q c)) :
    ∃ A', Rd G m_Tree_removeRun [vR (517 + 6 * t)] N (hpx A h0) none none (hpx A' h0) ∧ CX A' (gF SS t (sRm S q c)) F := by
  obtain ⟨a1, a2, a3, a4, a5⟩ := hc.rem ht hS hw h hr'
  subst hS
  have hs := (hc.2.1 t ht).1
  have h5 := hs.1
  refine ⟨_, c_removeRun (l := md (SS t)) (c := c) hc.1 ht hw.1 (by omega) (fun k hk => ?_) a1 h.2.1 a2 (Or.inr a3) a4, a5⟩
  rw [(hw.2 k hk).1]
  exact hs.bl ht (by omega) (pP_b hs (i := (q : Int)) (by have := h.1; omega) hk).1
theorem s_removeRunE (hc : CX A SS F) (ht : t < 4) (hS : SS t = S) (hw : WyTo A t S (q : Int)) (h : EmC S q) :
    ∃ A', Rd G m_Tree_removeRun [vR (517 + 6 * t)] N (hpx A h0) none none (hpx A' h0) ∧ CX A' (gF SS t (sE t)) F := by
  obtain ⟨a1, a2, a5⟩ := hc.remE (c := md S) ht hS hw h rfl
  subst hS
  have hs := (hc.2.1 t ht).1
  have h5 := hs.1
  refine ⟨_, c_removeRun (l := md (SS t)) (c := md (SS t)) hc.1 ht hw.1 (by omega) (fun k hk => ?_) a1 (Nat.le_refl _) a2 (Or.inl rfl) (fun k hk => absurd hk (by omega)), ?_⟩
  · rw [(hw.2 k hk).1]
    exact hs.bl ht (by omega) (pP_b hs (i := (q : Int)) (by have := h.1; omega) hk).1
  · rw [Nat.sub_self]
    exact a5
end
end
section
/-! removeRun leaves what is mapped; each run can go; the calls of settle -/
section
variable {A : cA} {SS : Nat → mS} {F : Nat → Prop} {S : mS} {t l m q c : Nat}
theorem rms_mm : ∀ m, aMa (rmS A t l m) = aMa A ∧ aMw (rmS A t l m) = aMw A ∧ aM (rmS A t l m) = aM A := by
  intro m
  induction m with
  | zero => exact ⟨rfl, rfl, rfl⟩
  | succ m ih =>
    refine ⟨?_, ?_, ih.2.2⟩
    · show gF (aMa (rmS A t l m)) t (aMa (rmS A t l m) t) = _
      rw [gF_same, ih.1]
    · show gF (aMw (rmS A t l m)) t (aMw (rmS A t l m) t) = _
      rw [gF_same, ih.2.1]
theorem rme_mm {D : cA} {k : Nat} : aMa (rmE D t k) = aMa D ∧ aMw (rmE D t k) = aMw D ∧ aM (rmE D t k) = aM D := by
  obtain ⟨r1, r2, r3, r4, r5, r6, r7, r8, r9, r10, r11, r12, r13, r14⟩ := rf_ru (t := t) k (rmD D t)
  have e : aMa (rmD D t) = aMa D ∧ aMw (rmD D t) = aMw D ∧ aM (rmD D t) = aM D := by
    unfold rmD
    split <;> exact ⟨rfl, rfl, rfl⟩
  refine ⟨?_, ?_, r14.trans e.2.2⟩
  · show gF (aMa (rfA (rmD D t) t k)) t (aMa D t) = _
    rw [r3, e.1, gF_same]
  · show gF (aMw (rfA (rmD D t) t k)) t (aMw D t) = _
    rw [r4, e.2.1, gF_same]
theorem rm_ex (hs : mSh S t m) (hq : q < mn S) : (∃ c, RmC S q c) ∨ EmC S q := by
  have key : ∀ d, d ≤ md S + 1 → (∃ c, RmC S q c) ∨ ∀ y, y < d → mc S y (mQ S q (y + 1)) = 1 := by
    intro d
    induction d with
    | zero => intro _; exact Or.inr (fun y hy => absurd hy (Nat.not_lt_zero _))
    | succ d ih =>
      intro hd
      rcases ih (by omega) with z | z
      · exact Or.inl z
      · have p := hs.pos (by omega) (show d ≤ md S by omega) (mQ_in hs hq (show d ≤ md S by omega)).1
        by_cases e : mc S d (mQ S q (d + 1)) = 1
        · refine Or.inr (fun y hy => ?_)
          by_cases e2 : y = d
          · rw [e2]
            exact e
          · exact z y (by omega)
        · exact Or.inl ⟨d, hq, by omega, z, by omega⟩
  rcases key (md S + 1) (Nat.le_refl _) with z | z
  · exact Or.inl z
  · exact Or.inr ⟨hq, fun y hy => z y (by omega)⟩
/-- n steps of settle -/
def stM (S : mS) (t : Nat) : Nat → mS
  | 0 => S
  | n + 1 => sSt (stM S t n) t
theorem stM_d : ∀ n, md (stM S t n) = md S - n := by
  intro n
  induction n with
  | zero => rfl
  | succ n ih =>
    show md (stM S t n) - 1 = _
    rw [ih]
    omega
theorem CX.settle (hc : CX A SS F) (ht : t < 4) (hS : SS t = S) : ∀ n, (∀ k, k < n → StC (stM S t k)) → CX (stS A t n) (gF SS t (stM S t n)) F ∧ (∀ k, k < n → StOk (stS A t k) t) := by
  intro n
  induction n with
  | zero =>
    intro _
    refine ⟨?_, fun k hk => absurd hk (Nat.not_lt_zero _)⟩
    show CX A (gF SS t S) F
    rw [← hS, gF_same]
    exact hc
  | succ n ih =>
    intro h
    obtain ⟨a1, a2⟩ := ih (fun k hk => h k (by omega))
    obtain ⟨b1, b2⟩ := a1.settle1 ht (gF_s _ _ _) (h n (by omega))
    rw [gF_uu] at b2
    refine ⟨b2, fun k hk => ?_⟩
    by_cases e : k = n
    · rw [e]
      exact b1
    · exact a2 k (by omega)
theorem st_mm : ∀ n, aMa (stS A t n) = aMa A ∧ aMw (stS A t n) = aMw A ∧ aM (stS A t n) = aM A := by
  intro n
  induction n with
  | zero => exact ⟨rfl, rfl, rfl⟩
  | succ n ih =>
    refine ⟨?_, ?_, ih.2.2⟩
    · show gF (aMa (stS A t n)) t (aMa (stS A t n) t) = _
      rw [gF_same, ih.1]
    · show gF (aMw (stS A t n)) t (aMw (stS A t n) t) = _
      rw [gF_same, ih.2.1]
end
end
section
/-! settle as a call, on the model -/
section
variable {G : gG} {h0 : gH} {A : cA} {SS : Nat → mS} {F : Nat → Prop} {S : mS} {t n : Nat}
theorem st_ex (S : mS) (t : Nat) : ∃ n, (∀ k, k < n → StC (stM S t k)) ∧ ¬ StC (stM S t n) := by
  have key : ∀ d, (∃ n, (∀ k, k < n → StC (stM S t k)) ∧ ¬ StC (stM S t n)) ∨ ∀ k, k < d → StC (stM S t k) := by
    intro d
    induction d with
    | zero => exact Or.inr (fun k hk => absurd hk (Nat.not_lt_zero _))
    | succ d ih =>
      rcases ih with z | z
      · exact Or.inl z
      · by_cases e : StC (stM S t d)
        · refine Or.inr (fun k hk => ?_)
          by_cases e2 : k = d
          · rw [e2]
            exact e
          · exact z k (by omega)
        · exact Or.inl ⟨d, z, e⟩
  rcases key (md S + 1) with z | z
  · exact z
  · have := (z (md S) (by omega)).1
    rw [stM_d] at this
    omega
theorem sti_is (hc : CX A SS F) (ht : t < 4) (hS : SS t = S) (h1 : 0 < md S) (h2 : mc S (md S) 0 = 1) : stI A t = mb S (md S - 1) 0 ∧ stI A t < 256 ∧ aEn A (stI A t) = mc S (md S - 1) 0 := by
  subst hS
  obtain ⟨hs, hr, ha, -⟩ := hc.2.1 t ht
  have hA := ab_nd.mp ha
  obtain ⟨d, hd⟩ : ∃ d, md (SS t) = d + 1 := ⟨md (SS t) - 1, by omega⟩
  have hd1 : md (SS t) - 1 = d := by omega
  have hk := hs.Kpos 1 (by omega)
  rw [hd1] at hk ⊢
  have n0 := hA (md (SS t)) (Nat.le_refl _) 0 (by have := hs.2.1; omega)
  rw [hs.2.2.1, h2] at n0
  have n1 := hA d (by omega) 0 (by omega)
  have b5 := hs.2.2.2.2.1 d (by omega) 0 (by omega)
  have eI : stI A t = mb (SS t) d 0 := by
    unfold stI
    rw [n0.2.1, gWd_in (by omega)]
    have g := n0.2.2 0 (by omega) 1 (by omega)
    have g : aWf A (256 + t) 1 = it (SS t) (md (SS t)) (sm (mc (SS t) (md (SS t))) 0 + 0) 1 := g
    show (aWf A (256 + t) 1).toNat = _
    rw [g, hd]
    show ((mb (SS t) d 0 : Nat) : Int).toNat = _
    omega
  exact ⟨eI, by rw [eI]; omega, by rw [eI]; exact n1.2.1⟩
theorem s_settle (hc : CX A SS F) (ht : t < 4) (hS : SS t = S) (h1 : ∀ k, k < n → StC (stM S t k)) (h2 : ¬ StC (stM S t n)) :
    Rd G m_Tree_settle [vR (517 + 6 * t)] none (hpx A h0) none none (hpx (stS A t n) h0) ∧ CX (stS A t n) (gF SS t (stM S t n)) F := by
  obtain ⟨a1, a2⟩ := hc.settle ht hS n h1
  refine ⟨?_, a1⟩
  have hs := (hc.2.1 t ht).1
  have ha := (hc.2.1 t ht).2.2.1
  rw [hS] at hs ha
  have hs' := (a1.2.1 t ht).1
  have ha' := (a1.2.1 t ht).2.2.1
  rw [gF_s] at hs' ha'
  have hn : n ≤ md S := by
    by_cases e : n = 0
    · omega
    · have := (h1 (n - 1) (by omega)).1
      rw [stM_d] at this
      omega
  have h5 := hs.1
  have dp : aDp A (256 + t) = md S := by
    have := (ha (md S) (Nat.le_refl _) 0 (by have := hs.2.1; omega)).1
    rw [hs.2.2.1] at this
    exact this
  refine c_settle (d := md S) (c := n) hc.1 ht dp h5 hn a2 ?_
  by_cases e : n = md S
  · exact Or.inl e
  · have d9 := stM_d (S := S) (t := t) n
    have en : aEn (stS A t n) (256 + t) = mc (stM S t n) (md (stM S t n)) 0 := by
      have := (ha' (md (stM S t n)) (Nat.le_refl _) 0 (by have := hs'.2.1; omega)).2.1
      rw [hs'.2.2.1] at this
      exact this
    by_cases e2 : mc (stM S t n) (md (stM S t n)) 0 = 1
    · obtain ⟨i1, i2, i3⟩ := sti_is a1 ht (gF_s _ _ _) (by omega) e2
      refine Or.inr (Or.inr ⟨by rw [en, e2]; rfl, i2, ?_⟩)
      rw [i3]
      have : ¬ mc (stM S t n) (md (stM S t n) - 1) 0 ≤ 4 := fun z => h2 ⟨by omega, e2, z⟩
      omega
    · exact Or.inr (Or.inl (by rw [en]; omega))
end
end
section
/-! find as a call on the model, and what it found -/
abbrev lsS (S : mS) (b : Int) : Int := lsR (ms S) b (mn S)
def fA (A : cA) (t : Nat) (S : mS) (b : Int) : cA := fnd A t (pW S (lsS S b)) (pP S (lsS S b)) (md S + 1) (md S)
section
variable {G : gG} {N : Option Nat} {h0 : gH} {A : cA} {SS : Nat → mS} {F : Nat → Prop} {S : mS} {t : Nat} {b : Int}
theorem s_find (hc : CX A SS F) (ht : t < 4) (hS : SS t = S) (rb : (-2147483648 ≤ b ∧ b ≤ 2147483647)) : Rd G m_Tree_find [vR (517 + 6 * t), vI b] N (hpx A h0) none N (hpx (fA A t S b) h0) ∧ CX (fA A t S b) SS F ∧ WyTo (fA A t S b) t S (lsS S b) ∧ aMa (fA A t S b) = aMa A ∧ aMw (fA A t S b) = aMw A ∧ aM (fA A t S b) = aM A ∧ aTk (fA A t S b) = aTk A ∧ aLe (fA A t S b) = aLe A := by
  subst hS
  obtain ⟨h1, h2, h3, -⟩ := hc.2.1 t ht
  obtain ⟨g1, g2, g3⟩ := lsR_spec h2 b
  exact ⟨c_find hc.1 ht rb (path_of ht h1 h2 h3 g1 g2 g3), hc, wy_fnd, rfl, rfl, rfl, rfl, rfl⟩
theorem fA_rd (hc : CX A SS F) (ht : t < 4) (hS : SS t = S) : (0 ≤ lsS S b ∧ lsS S b < mn S ∧ rF (fA A t S b) t (md S) = ms S (lsS S b).toNat ∧ rL (fA A t S b) t (md S) = ml S (lsS S b).toNat ∧ rV (fA A t S b) t (md S) = mv S (lsS S b).toNat ∧ rW (fA A t S b) t (md S) = mw S (lsS S b).toNat) ∨ (lsS S b = -1 ∧ rF (fA A t S b) t (md S) = 0 ∧ rL (fA A t S b) t (md S) = 0 ∧ rV (fA A t S b) t (md S) = 0 ∧ rW (fA A t S b) t (md S) = 0) := by
  subst hS
  obtain ⟨h1, h2, h3, -⟩ := hc.2.1 t ht
  obtain ⟨g1, g2, g3⟩ := lsR_spec h2 b
  have w : aWy (fA A t (SS t) b) t (md (SS t)) = pW (SS t) (lsS (SS t) b) (md (SS t)) := fnd_wy (Nat.le_refl _)
  have p : aPl (fA A t (SS t) b) t (md (SS t)) = pP (SS t) (lsS (SS t) b) (md (SS t)) := fnd_pl (Nat.le_refl _)
  have e1 : rF (fA A t (SS t) b) t (md (SS t)) = eF A (pW (SS t) (lsS (SS t) b) (md (SS t))) (pP (SS t) (lsS (SS t) b) (md (SS t))) := by
    unfold rF
    rw [w, p]
    rfl
  have e2 : rL (fA A t (SS t) b) t (md (SS t)) = eL A (pW (SS t) (lsS (SS t) b) (md (SS t))) (pP (SS t) (lsS (SS t) b) (md (SS t))) := by
    unfold rL
    rw [w, p]
    rfl
  have e3 : rV (fA A t (SS t) b) t (md (SS t)) = eV A (pW (SS t) (lsS (SS t) b) (md (SS t))) (pP (SS t) (lsS (SS t) b) (md (SS t))) := by
    unfold rV
    rw [w, p]
    rfl
  have e4 : rW (fA A t (SS t) b) t (md (SS t)) = eW A (pW (SS t) (lsS (SS t) b) (md (SS t))) (pP (SS t) (lsS (SS t) b) (md (SS t))) := by
    unfold rW
    rw [w, p]
    rfl
  rw [e1, e2, e3, e4]
  by_cases h : 0 ≤ lsS (SS t) b
  · obtain ⟨a1, a2, a3, a4⟩ := run_at (i := lsS (SS t) b) ht h1 h2 h3 ⟨h, g1.2⟩
    exact Or.inl ⟨h, g1.2, a1, a2, a3, a4⟩
  · have hm : lsS (SS t) b = -1 := by
      have := g1.1
      show lsR (ms (SS t)) b (mn (SS t)) = -1
      have h : ¬ 0 ≤ lsR (ms (SS t)) b (mn (SS t)) := h
      omega
    rw [hm]
    obtain ⟨a1, a2, a3, a4⟩ := run_no (A := A) (S := SS t)
    exact Or.inr ⟨rfl, a1, a2, a3, a4⟩
end
end
section
/-! what can be joined with a new run -/
section
variable {G : gG} {N : Option Nat} {A : cA} {h0 : gH} {t d : Nat} {W : Nat → Nat} {P : Nat → Int} {x n v w : Int}
def jnB (f l u z x n v w : Int) : Int := if ((0 < l ∧ f + l = x) ∧ u + l = v) ∧ z = w ∧ l + n ≤ (if w = 1 then 32768 else 32767) then l else 0
set_option maxHeartbeats 4000000 in
theorem c_joinBefore (ok : aOk A) (ht : t < 4) (hx : 0 ≤ x ∧ x ≤ 65536) (hn : 0 ≤ n ∧ n ≤ 65536) (hv : 0 ≤ v ∧ v ≤ 16777216) (hw : w = 0 ∨ w = 1) (hp : PathTo A t x d W P) : Rd G m_Tree_lengthToJoinBefore [vR (517 + 6 * t), vI x, vI n, vI v, vI w] N (hpx A h0) (some (vI (jnB (eF A (W d) (P d)) (eL A (W d) (P d)) (eV A (W d) (P d)) (eW A (W d) (P d)) x n v w))) N (hpx (fnd A t W P (d + 1) d) h0) := by
  refine Rn.of rfl rfl rfl ?_
  have hM := ok_Tree_lengthToJoinBefore
  obtain ⟨a1, a2, a3, a4⟩ := hp.at ok
  have r9 := e_r ok (hp.2.2.1 d (Nat.le_refl d)).1 (P d)
  repeat (first | refine go_pure hM rfl ?_ | (refine go_get (fs := ?_) (v := ?_) hM rfl ?_ ?_ ?_; rotate_left 2; assumption; rfl) | refine go_ldc hM rfl ?_)
  refine go_cV hM rfl rfl rfl (hp_tr ht) rfl (c_find ok ht (by omega) hp) rfl ?_
  repeat (first | refine go_pure hM rfl ?_ | (refine go_get (fs := ?_) (v := ?_) hM rfl ?_ ?_ ?_; rotate_left 2; assumption; rfl) | refine go_ldc hM rfl ?_)
  refine go_cV hM rfl rfl rfl (hp_tr ht) rfl (c_runLength (A := fnd A t W P (d + 1) d) ok ht a1 a2 a3 a4) rfl ?_
  rw [fnd_rL]
  generalize hf : eF A (W d) (P d) = f at *
  generalize hl : eL A (W d) (P d) = l at *
  generalize hu : eV A (W d) (P d) = u at *
  generalize hz : eW A (W d) (P d) = z at *
  have no : ¬ ((0 < l ∧ f + l = x) ∧ u + l = v) → ∀ y, Go G m_Tree_lengthToJoinBefore (gFin G (gEq (some (vI (jnB f l u z x n v w))) N (hpx (fnd A t W P (d + 1) d) h0)) gNo) 39 [some (vR (517 + 6 * t)), some (vI x), some (vI n), some (vI v), some (vI w), some (vI l), y] [] N (hpx (fnd A t W P (d + 1) d) h0) 0 0 := by
    intro hno y
    repeat (first | refine go_pure hM rfl ?_ | (refine go_get (fs := ?_) (v := ?_) hM rfl ?_ ?_ ?_; rotate_left 2; assumption; rfl) | refine go_ldc hM rfl ?_)
    refine go_if_eq hM rfl (by omega) (fun hc2 => ?_) (fun hc2 => absurd rfl hc2)
    repeat (first | refine go_pure hM rfl ?_ | (refine go_get (fs := ?_) (v := ?_) hM rfl ?_ ?_ ?_; rotate_left 2; assumption; rfl) | refine go_ldc hM rfl ?_)
    exact go_iret hM rfl rfl ⟨by unfold jnB; rw [if_neg (fun q => hno q.1)], rfl, rfl⟩
  repeat (first | refine go_pure hM rfl ?_ | (refine go_get (fs := ?_) (v := ?_) hM rfl ?_ ?_ ?_; rotate_left 2; assumption; rfl) | refine go_ldc hM rfl ?_)
  refine go_if_le hM rfl (by omega) (fun hc => no (by omega) _) (fun hc => ?_)
  repeat (first | refine go_pure hM rfl ?_ | (refine go_get (fs := ?_) (v := ?_) hM rfl ?_ ?_ ?_; rotate_left 2; assumption; rfl) | refine go_ldc hM rfl ?_)
  refine go_cV hM rfl rfl rfl (hp_tr ht) rfl (c_runEnd (A := fnd A t W P (d + 1) d) ok ht a1 a2 a3 a4) rfl ?_
  rw [fnd_rF, fnd_rL, hf, hl]
  repeat (first | refine go_pure hM rfl ?_ | (refine go_get (fs := ?_) (v := ?_) hM rfl ?_ ?_ ?_; rotate_left 2; assumption; rfl) | refine go_ldc hM rfl ?_)
  refine go_icmp_ne hM rfl (by omega) (by omega) (fun hc2 => no (by omega) _) (fun hc2 => ?_)
  repeat (first | refine go_pure hM rfl ?_ | (refine go_get (fs := ?_) (v := ?_) hM rfl ?_ ?_ ?_; rotate_left 2; assumption; rfl) | refine go_ldc hM rfl ?_)
  refine go_cV hM rfl rfl rfl (hp_tr ht) rfl (c_runVolume (A := fnd A t W P (d + 1) d) ok ht a1 a2 a3 a4) rfl ?_
  rw [fnd_rV, hu]
  repeat (first | refine go_pure hM rfl ?_ | (refine go_get (fs := ?_) (v := ?_) hM rfl ?_ ?_ ?_; rotate_left 2; assumption; rfl) | refine go_ldc hM rfl ?_)
  refine go_icmp_ne hM rfl (by omega) (by omega) (fun hc3 => no (by omega) _) (fun hc3 => ?_)
  repeat (first | refine go_pure hM rfl ?_ | (refine go_get (fs := ?_) (v := ?_) hM rfl ?_ ?_ ?_; rotate_left 2; assumption; rfl) | refine go_ldc hM rfl ?_)
  refine go_if_eq hM rfl (by omega) (fun hc4 => by omega) (fun hc4 => ?_)
  have nol : ¬ (z = w ∧ l + n ≤ (if w = 1 then 32768 else 32767)) → ∀ y, Go G m_Tree_lengthToJoinBefore (gFin G (gEq (some (vI (jnB f l u z x n v w))) N (hpx (fnd A t W P (d + 1) d) h0)) gNo) 73 [some (vR (517 + 6 * t)), some (vI x), some (vI n), some (vI v), some (vI w), some (vI l), y] [] N (hpx (fnd A t W P (d + 1) d) h0) 0 0 := by
    intro hno y
    repeat (first | refine go_pure hM rfl ?_ | (refine go_get (fs := ?_) (v := ?_) hM rfl ?_ ?_ ?_; rotate_left 2; assumption; rfl) | refine go_ldc hM rfl ?_)
    exact go_iret hM rfl rfl ⟨by unfold jnB; rw [if_neg (fun q => hno q.2)], rfl, rfl⟩
  repeat (first | refine go_pure hM rfl ?_ | (refine go_get (fs := ?_) (v := ?_) hM rfl ?_ ?_ ?_; rotate_left 2; assumption; rfl) | refine go_ldc hM rfl ?_)
  refine go_cV hM rfl rfl rfl (hp_tr ht) rfl (c_runIsWritten (A := fnd A t W P (d + 1) d) ok ht a1 a2 a3 a4) rfl ?_
  rw [fnd_rW, hz]
  repeat (first | refine go_pure hM rfl ?_ | (refine go_get (fs := ?_) (v := ?_) hM rfl ?_ ?_ ?_; rotate_left 2; assumption; rfl) | refine go_ldc hM rfl ?_)
  refine go_icmp_ne hM rfl (by omega) (by omega) (fun hc5 => nol (by omega) _) (fun hc5 => ?_)
  repeat (first | refine go_pure hM rfl ?_ | (refine go_get (fs := ?_) (v := ?_) hM rfl ?_ ?_ ?_; rotate_left 2; assumption; rfl) | refine go_ldc hM rfl ?_)
  refine go_cN hM rfl rfl rfl (c_longest hw) rfl ?_
  refine go_icmp_gt hM rfl (by omega) (by split <;> omega) (fun hc6 => nol (by omega) _) (fun hc6 => ?_)
  repeat (first | refine go_pure hM rfl ?_ | (refine go_get (fs := ?_) (v := ?_) hM rfl ?_ ?_ ?_; rotate_left 2; assumption; rfl) | refine go_ldc hM rfl ?_)
  exact go_iret hM rfl rfl ⟨by unfold jnB; rw [if_pos ⟨⟨⟨by omega, by omega⟩, by omega⟩, by omega, by omega⟩], rfl, rfl⟩
end
end
section
/-! .. behind it -/
section
variable {G : gG} {N : Option Nat} {A : cA} {h0 : gH} {t d : Nat} {W : Nat → Nat} {P : Nat → Int} {x n v w b : Int}
def jnA (f l u z x n v w b : Int) : Int := if ((0 < l ∧ f = x + n) ∧ u = v + n) ∧ z = w ∧ b + n + l ≤ (if w = 1 then 32768 else 32767) then l else 0
set_option maxHeartbeats 4000000 in
theorem c_joinBehind (ok : aOk A) (ht : t < 4) (hx : 0 ≤ x ∧ x ≤ 65536) (hn : 0 ≤ n ∧ n ≤ 65536) (hv : 0 ≤ v ∧ v ≤ 16777216) (hw : w = 0 ∨ w = 1) (hb : 0 ≤ b ∧ b ≤ 65536) (hp : PathTo A t (x + n) d W P) : Rd G m_Tree_lengthToJoinBehind [vR (517 + 6 * t), vI x, vI n, vI v, vI w, vI b] N (hpx A h0) (some (vI (jnA (eF A (W d) (P d)) (eL A (W d) (P d)) (eV A (W d) (P d)) (eW A (W d) (P d)) x n v w b))) N (hpx (fnd A t W P (d + 1) d) h0) := by
  refine Rn.of rfl rfl rfl ?_
  have hM := ok_Tree_lengthToJoinBehind
  obtain ⟨a1, a2, a3, a4⟩ := hp.at ok
  have r9 := e_r ok (hp.2.2.1 d (Nat.le_refl d)).1 (P d)
  repeat (first | refine go_pure hM rfl ?_ | (refine go_get (fs := ?_) (v := ?_) hM rfl ?_ ?_ ?_; rotate_left 2; assumption; rfl) | refine go_ldc hM rfl ?_)
  refine go_cV hM rfl rfl rfl (hp_tr ht) rfl (c_find ok ht (by omega) hp) rfl ?_
  repeat (first | refine go_pure hM rfl ?_ | (refine go_get (fs := ?_) (v := ?_) hM rfl ?_ ?_ ?_; rotate_left 2; assumption; rfl) | refine go_ldc hM rfl ?_)
  refine go_cV hM rfl rfl rfl (hp_tr ht) rfl (c_runLength (A := fnd A t W P (d + 1) d) ok ht a1 a2 a3 a4) rfl ?_
  rw [fnd_rL]
  generalize hf : eF A (W d) (P d) = f at *
  generalize hl : eL A (W d) (P d) = l at *
  generalize hu : eV A (W d) (P d) = u at *
  generalize hz : eW A (W d) (P d) = z at *
  have no : ¬ ((0 < l ∧ f = x + n) ∧ u = v + n) → ∀ y, Go G m_Tree_lengthToJoinBehind (gFin G (gEq (some (vI (jnA f l u z x n v w b))) N (hpx (fnd A t W P (d + 1) d) h0)) gNo) 42 [some (vR (517 + 6 * t)), some (vI x), some (vI n), some (vI v), some (vI w), some (vI b), some (vI l), y] [] N (hpx (fnd A t W P (d + 1) d) h0) 0 0 := by
    intro hno y
    repeat (first | refine go_pure hM rfl ?_ | (refine go_get (fs := ?_) (v := ?_) hM rfl ?_ ?_ ?_; rotate_left 2; assumption; rfl) | refine go_ldc hM rfl ?_)
    refine go_if_eq hM rfl (by omega) (fun hc2 => ?_) (fun hc2 => absurd rfl hc2)
    repeat (first | refine go_pure hM rfl ?_ | (refine go_get (fs := ?_) (v := ?_) hM rfl ?_ ?_ ?_; rotate_left 2; assumption; rfl) | refine go_ldc hM rfl ?_)
    exact go_iret hM rfl rfl ⟨by unfold jnA; rw [if_neg (fun q => hno q.1)], rfl, rfl⟩
  repeat (first | refine go_pure hM rfl ?_ | (refine go_get (fs := ?_) (v := ?_) hM rfl ?_ ?_ ?_; rotate_left 2; assumption; rfl) | refine go_ldc hM rfl ?_)
  refine go_if_le hM rfl (by omega) (fun hc => no (by omega) _) (fun hc => ?_)
  repeat (first | refine go_pure hM rfl ?_ | (refine go_get (fs := ?_) (v := ?_) hM rfl ?_ ?_ ?_; rotate_left 2; assumption; rfl) | refine go_ldc hM rfl ?_)
  refine go_cV hM rfl rfl rfl (hp_tr ht) rfl (c_runFirst (A := fnd A t W P (d + 1) d) ok ht a1 a2 a3 a4) rfl ?_
  rw [fnd_rF, hf]
  repeat (first | refine go_pure hM rfl ?_ | (refine go_get (fs := ?_) (v := ?_) hM rfl ?_ ?_ ?_; rotate_left 2; assumption; rfl) | refine go_ldc hM rfl ?_)
  refine go_icmp_ne hM rfl (by omega) (by omega) (fun hc2 => no (by omega) _) (fun hc2 => ?_)
  repeat (first | refine go_pure hM rfl ?_ | (refine go_get (fs := ?_) (v := ?_) hM rfl ?_ ?_ ?_; rotate_left 2; assumption; rfl) | refine go_ldc hM rfl ?_)
  refine go_cV hM rfl rfl rfl (hp_tr ht) rfl (c_runVolume (A := fnd A t W P (d + 1) d) ok ht a1 a2 a3 a4) rfl ?_
  rw [fnd_rV, hu]
  repeat (first | refine go_pure hM rfl ?_ | (refine go_get (fs := ?_) (v := ?_) hM rfl ?_ ?_ ?_; rotate_left 2; assumption; rfl) | refine go_ldc hM rfl ?_)
  refine go_icmp_ne hM rfl (by omega) (by omega) (fun hc3 => no (by omega) _) (fun hc3 => ?_)
  repeat (first | refine go_pure hM rfl ?_ | (refine go_get (fs := ?_) (v := ?_) hM rfl ?_ ?_ ?_; rotate_left 2; assumption; rfl) | refine go_ldc hM rfl ?_)
  refine go_if_eq hM rfl (by omega) (fun hc4 => by omega) (fun hc4 => ?_)
  have nol : ¬ (z = w ∧ b + n + l ≤ (if w = 1 then 32768 else 32767)) → ∀ y, Go G m_Tree_lengthToJoinBehind (gFin G (gEq (some (vI (jnA f l u z x n v w b))) N (hpx (fnd A t W P (d + 1) d) h0)) gNo) 79 [some (vR (517 + 6 * t)), some (vI x), some (vI n), some (vI v), some (vI w), some (vI b), some (vI l), y] [] N (hpx (fnd A t W P (d + 1) d) h0) 0 0 := by
    intro hno y
    repeat (first | refine go_pure hM rfl ?_ | (refine go_get (fs := ?_) (v := ?_) hM rfl ?_ ?_ ?_; rotate_left 2; assumption; rfl) | refine go_ldc hM rfl ?_)
    exact go_iret hM rfl rfl ⟨by unfold jnA; rw [if_neg (fun q => hno q.2)], rfl, rfl⟩
  repeat (first | refine go_pure hM rfl ?_ | (refine go_get (fs := ?_) (v := ?_) hM rfl ?_ ?_ ?_; rotate_left 2; assumption; rfl) | refine go_ldc hM rfl ?_)
  refine go_cV hM rfl rfl rfl (hp_tr ht) rfl (c_runIsWritten (A := fnd A t W P (d + 1) d) ok ht a1 a2 a3 a4) rfl ?_
  rw [fnd_rW, hz]
  repeat (first | refine go_pure hM rfl ?_ | (refine go_get (fs := ?_) (v := ?_) hM rfl ?_ ?_ ?_; rotate_left 2; assumption; rfl) | refine go_ldc hM rfl ?_)
  refine go_icmp_ne hM rfl (by omega) (by omega) (fun hc5 => nol (by omega) _) (fun hc5 => ?_)
  repeat (first | refine go_pure hM rfl ?_ | (refine go_get (fs := ?_) (v := ?_) hM rfl ?_ ?_ ?_; rotate_left 2; assumption; rfl) | refine go_ldc hM rfl ?_)
  refine go_cN hM rfl rfl rfl (c_longest hw) rfl ?_
  refine go_icmp_gt hM rfl (by omega) (by split <;> omega) (fun hc6 => nol (by omega) _) (fun hc6 => ?_)
  repeat (first | refine go_pure hM rfl ?_ | (refine go_get (fs := ?_) (v := ?_) hM rfl ?_ ?_ ?_; rotate_left 2; assumption; rfl) | refine go_ldc hM rfl ?_)
  exact go_iret hM rfl rfl ⟨by unfold jnA; rw [if_pos ⟨⟨⟨by omega, by omega⟩, by omega⟩, by omega, by omega⟩], rfl, rfl⟩
end
end
section
/-! countMapped leaves the files as they are -/
def cmA (A : cA) (t : Nat) (x w : Int) : cA := sTr A t (aRu A t) (aBl A t) (aMa A t + x) (if w = 1 then aMw A t + x else aMw A t) (aLb A t) (aLf A t)
section
variable {A : cA} {SS : Nat → mS} {F : Nat → Prop} {S : mS} {t : Nat} {x w : Int} {i : Int}
theorem CX.cnt (hc : CX A SS F) : CX (cmA A t x w) SS F := by
  have e1 : aRu (cmA A t x w) = aRu A := gF_same _ _
  have e2 : aBl (cmA A t x w) = aBl A := gF_same _ _
  have e3 : aLb (cmA A t x w) = aLb A := gF_same _ _
  obtain ⟨h1, h2, h3, h4, h5, h6, h7⟩ := hc
  refine ⟨h1, fun t' ht' => ?_, h3, h4, h5, h6, h7⟩
  obtain ⟨a1, a2, a3, a4, a5, a6⟩ := h2 t' ht'
  exact ⟨a1, a2, a3, by rw [e1]; exact a4, by rw [e2]; exact a5, by rw [e3]; exact a6⟩
theorem wy_cnt (hw : WyTo A t S i) : WyTo (cmA A t x w) t S i := ⟨(gF_s _ _ _).trans hw.1, hw.2⟩
theorem cnt_mm : aMa (cmA A t x w) = gF (aMa A) t (aMa A t + x) ∧ aMw (cmA A t x w) = gF (aMw A) t (if w = 1 then aMw A t + x else aMw A t) ∧ aM (cmA A t x w) = aM A ∧ aTk (cmA A t x w) = aTk A ∧ aLe (cmA A t x w) = aLe A := ⟨rfl, rfl, rfl, rfl, rfl⟩
end
end
section
/-! the runs stay runs -/
section
variable {S : mS} {q c : Nat}
theorem srm_rn (hr : mRn S) : mRn (sRm S q c) := by
  refine ⟨fun i hi => ?_, fun i hi => ?_⟩
  · have hi : i < mn S - 1 := hi
    show 0 ≤ delN (ms S) q i ∧ 1 ≤ delN (ml S) q i ∧ delN (ms S) q i + delN (ml S) q i ≤ 65536 ∧ (delN (mw S) q i = 0 ∨ delN (mw S) q i = 1) ∧ delN (ml S) q i ≤ 32767 + delN (mw S) q i ∧ 1 ≤ delN (mv S) q i ∧ delN (mv S) q i + delN (ml S) q i ≤ 16777217
    by_cases h : i < q
    · rw [del_lo h, del_lo h, del_lo h, del_lo h]
      exact hr.1 i (by omega)
    · rw [del_hi (by omega), del_hi (by omega), del_hi (by omega), del_hi (by omega)]
      exact hr.1 (i + 1) (by omega)
  · have hi : i + 1 < mn S - 1 := hi
    show delN (ms S) q i + delN (ml S) q i ≤ delN (ms S) q (i + 1)
    by_cases h : i + 1 < q
    · rw [del_lo (by omega), del_lo (by omega), del_lo h]
      exact hr.2 i (by omega)
    · by_cases h2 : i < q
      · rw [del_lo h2, del_lo h2, del_hi (by omega)]
        exact hr.mono (by omega) (by omega)
      · rw [del_hi (by omega), del_hi (by omega), del_hi (by omega)]
        exact hr.2 (i + 1) (by omega)
end
end
section
/-! .. where one changes, where one comes in -/
/-- what a run may be -/
def rOk (x n v w : Int) : Prop := 0 ≤ x ∧ 1 ≤ n ∧ x + n ≤ 65536 ∧ (w = 0 ∨ w = 1) ∧ n ≤ 32767 + w ∧ 1 ≤ v ∧ v + n ≤ 16777217
section
variable {S : mS} {q p j : Nat} {x n v w : Int}
theorem sset_rn (hr : mRn S) (ho : rOk x n v w) (h1 : ∀ i, i + 1 = q → ms S i + ml S i ≤ x) (h2 : q + 1 < mn S → x + n ≤ ms S (q + 1)) : mRn (sSet S q x n v w) := by
  refine ⟨fun i hi => ?_, fun i hi => ?_⟩
  · have hi : i < mn S := hi
    show 0 ≤ gF (ms S) q x i ∧ 1 ≤ gF (ml S) q n i ∧ gF (ms S) q x i + gF (ml S) q n i ≤ 65536 ∧ (gF (mw S) q w i = 0 ∨ gF (mw S) q w i = 1) ∧ gF (ml S) q n i ≤ 32767 + gF (mw S) q w i ∧ 1 ≤ gF (mv S) q v i ∧ gF (mv S) q v i + gF (ml S) q n i ≤ 16777217
    by_cases h : i = q
    · rw [h, gF_s, gF_s, gF_s, gF_s]
      exact ho
    · rw [gF_n h, gF_n h, gF_n h, gF_n h]
      exact hr.1 i hi
  · have hi : i + 1 < mn S := hi
    show gF (ms S) q x i + gF (ml S) q n i ≤ gF (ms S) q x (i + 1)
    by_cases h : i = q
    · rw [h, gF_s, gF_s, gF_n (by omega)]
      exact h2 (by omega)
    · rw [gF_n h, gF_n h]
      by_cases h3 : i + 1 = q
      · rw [h3, gF_s]
        exact h1 i h3
      · rw [gF_n h3]
        exact hr.2 i hi
theorem sin_rn (hr : mRn S) (hj : j ≤ mn S) (ho : rOk x n v w) (h1 : ∀ i, i + 1 = j → ms S i + ml S i ≤ x) (h2 : j < mn S → x + n ≤ ms S j) : mRn (sIn S j p x n v w) := by
  refine ⟨fun i hi => ?_, fun i hi => ?_⟩
  · have hi : i < mn S + 1 := hi
    show 0 ≤ insN (ms S) j x i ∧ 1 ≤ insN (ml S) j n i ∧ insN (ms S) j x i + insN (ml S) j n i ≤ 65536 ∧ (insN (mw S) j w i = 0 ∨ insN (mw S) j w i = 1) ∧ insN (ml S) j n i ≤ 32767 + insN (mw S) j w i ∧ 1 ≤ insN (mv S) j v i ∧ insN (mv S) j v i + insN (ml S) j n i ≤ 16777217
    rcases Nat.lt_trichotomy i j with h | h | h
    · rw [insN_lo h, insN_lo h, insN_lo h, insN_lo h]
      exact hr.1 i (by omega)
    · rw [h, insN_at, insN_at, insN_at, insN_at]
      exact ho
    · obtain ⟨k, rfl⟩ : ∃ k, i = k + 1 := ⟨i - 1, by omega⟩
      rw [insN_hi (by omega), insN_hi (by omega), insN_hi (by omega), insN_hi (by omega)]
      exact hr.1 k (by omega)
  · have hi : i + 1 < mn S + 1 := hi
    show insN (ms S) j x i + insN (ml S) j n i ≤ insN (ms S) j x (i + 1)
    rcases Nat.lt_trichotomy i j with h | h | h
    · rw [insN_lo h, insN_lo h]
      by_cases h3 : i + 1 = j
      · rw [h3, insN_at]
        exact h1 i h3
      · rw [insN_lo (by omega)]
        exact hr.2 i (by omega)
    · rw [h, insN_at, insN_at, insN_hi (Nat.le_refl _)]
      exact h2 (by omega)
    · obtain ⟨k, rfl⟩ : ∃ k, i = k + 1 := ⟨i - 1, by omega⟩
      rw [insN_hi (by omega), insN_hi (by omega), insN_hi (by omega)]
      exact hr.2 k (by omega)
end
end
