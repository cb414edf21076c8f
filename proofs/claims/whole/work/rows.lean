section
-- ===== PART A: goes FIRST, ahead of the names: the tables' words, and 'selects' of the private methods out of them =====
/-- a private method of a class that the tables say can be made, by its rows of tables_1 -/
def lw_okq (q : MethodName × Nat) : Prop := (q.1.cls ≠ "java/lang/invoke/MethodHandle" ∧ q.1.cls ≠ "java/lang/invoke/VarHandle") ∧ Cond.instantiable q.1.cls q.2 ∈ tables_1 ∧ Cond.privateMethod q.1 ∈ tables_1 ∧ Cond.instanceMethod q.1 ∈ tables_1
theorem lw_p0 : lw_okq (⟨"BeatHeap", "setAll", "(IIII)V"⟩, 6) := ⟨⟨by decide +kernel, by decide +kernel⟩, List.mem_of_getElem? (i := 11) (by decide +kernel), List.mem_of_getElem? (i := 179) (by decide +kernel), List.mem_of_getElem? (i := 180) (by decide +kernel)⟩
theorem lw_p1 : lw_okq (⟨"BeatHeap$Collector", "rest", "()V"⟩, 14) := ⟨⟨by decide +kernel, by decide +kernel⟩, List.mem_of_getElem? (i := 19) (by decide +kernel), List.mem_of_getElem? (i := 209) (by decide +kernel), List.mem_of_getElem? (i := 210) (by decide +kernel)⟩
theorem lw_p2 : lw_okq (⟨"BeatHeap", "takeForRoot", "(IIIII)Z"⟩, 6) := ⟨⟨by decide +kernel, by decide +kernel⟩, List.mem_of_getElem? (i := 11) (by decide +kernel), List.mem_of_getElem? (i := 251) (by decide +kernel), List.mem_of_getElem? (i := 252) (by decide +kernel)⟩
theorem lw_p3 : lw_okq (⟨"BeatHeap", "takeBlock", "(IIII)I"⟩, 6) := ⟨⟨by decide +kernel, by decide +kernel⟩, List.mem_of_getElem? (i := 11) (by decide +kernel), List.mem_of_getElem? (i := 255) (by decide +kernel), List.mem_of_getElem? (i := 256) (by decide +kernel)⟩
theorem lw_p4 : lw_okq (⟨"BeatHeap$Blocks", "pageWithRoom", "(I)I"⟩, 11) := ⟨⟨by decide +kernel, by decide +kernel⟩, List.mem_of_getElem? (i := 25) (by decide +kernel), List.mem_of_getElem? (i := 263) (by decide +kernel), List.mem_of_getElem? (i := 264) (by decide +kernel)⟩
theorem lw_p5 : lw_okq (⟨"BeatHeap$Blocks", "openPage", "(I)I"⟩, 11) := ⟨⟨by decide +kernel, by decide +kernel⟩, List.mem_of_getElem? (i := 25) (by decide +kernel), List.mem_of_getElem? (i := 274) (by decide +kernel), List.mem_of_getElem? (i := 275) (by decide +kernel)⟩
theorem lw_p6 : lw_okq (⟨"BeatHeap$Blocks", "firstVacant", "(I)I"⟩, 11) := ⟨⟨by decide +kernel, by decide +kernel⟩, List.mem_of_getElem? (i := 25) (by decide +kernel), List.mem_of_getElem? (i := 278) (by decide +kernel), List.mem_of_getElem? (i := 279) (by decide +kernel)⟩
theorem lw_p7 : lw_okq (⟨"BeatHeap$Blocks", "isPage", "(I)Z"⟩, 11) := ⟨⟨by decide +kernel, by decide +kernel⟩, List.mem_of_getElem? (i := 25) (by decide +kernel), List.mem_of_getElem? (i := 282) (by decide +kernel), List.mem_of_getElem? (i := 283) (by decide +kernel)⟩
theorem lw_p8 : lw_okq (⟨"BeatHeap", "setRoot", "(II)V"⟩, 6) := ⟨⟨by decide +kernel, by decide +kernel⟩, List.mem_of_getElem? (i := 11) (by decide +kernel), List.mem_of_getElem? (i := 306) (by decide +kernel), List.mem_of_getElem? (i := 307) (by decide +kernel)⟩
theorem lw_p9 : lw_okq (⟨"BeatHeap$Collector", "grey", "(I)V"⟩, 14) := ⟨⟨by decide +kernel, by decide +kernel⟩, List.mem_of_getElem? (i := 19) (by decide +kernel), List.mem_of_getElem? (i := 314) (by decide +kernel), List.mem_of_getElem? (i := 315) (by decide +kernel)⟩
theorem lw_p10 : lw_okq (⟨"BeatHeap$Clock", "keep", "(I)V"⟩, 5) := ⟨⟨by decide +kernel, by decide +kernel⟩, List.mem_of_getElem? (i := 71) (by decide +kernel), List.mem_of_getElem? (i := 340) (by decide +kernel), List.mem_of_getElem? (i := 341) (by decide +kernel)⟩
theorem lw_p11 : lw_okq (⟨"BeatHeap$Collector", "step", "()V"⟩, 14) := ⟨⟨by decide +kernel, by decide +kernel⟩, List.mem_of_getElem? (i := 19) (by decide +kernel), List.mem_of_getElem? (i := 344) (by decide +kernel), List.mem_of_getElem? (i := 345) (by decide +kernel)⟩
theorem lw_p12 : lw_okq (⟨"BeatHeap$Collector", "rootsStep", "()V"⟩, 14) := ⟨⟨by decide +kernel, by decide +kernel⟩, List.mem_of_getElem? (i := 19) (by decide +kernel), List.mem_of_getElem? (i := 352) (by decide +kernel), List.mem_of_getElem? (i := 353) (by decide +kernel)⟩
theorem lw_p13 : lw_okq (⟨"BeatHeap$Collector", "markStep", "()V"⟩, 14) := ⟨⟨by decide +kernel, by decide +kernel⟩, List.mem_of_getElem? (i := 19) (by decide +kernel), List.mem_of_getElem? (i := 356) (by decide +kernel), List.mem_of_getElem? (i := 357) (by decide +kernel)⟩
theorem lw_p14 : lw_okq (⟨"BeatHeap$Collector", "endIfSwept", "()V"⟩, 14) := ⟨⟨by decide +kernel, by decide +kernel⟩, List.mem_of_getElem? (i := 19) (by decide +kernel), List.mem_of_getElem? (i := 376) (by decide +kernel), List.mem_of_getElem? (i := 377) (by decide +kernel)⟩
theorem lw_p15 : lw_okq (⟨"BeatHeap$Collector", "sweepStep", "()V"⟩, 14) := ⟨⟨by decide +kernel, by decide +kernel⟩, List.mem_of_getElem? (i := 19) (by decide +kernel), List.mem_of_getElem? (i := 387) (by decide +kernel), List.mem_of_getElem? (i := 388) (by decide +kernel)⟩
def lw_privs_1 : List (MethodName × Nat) := [(⟨"BeatHeap", "setAll", "(IIII)V"⟩, 6), (⟨"BeatHeap$Collector", "rest", "()V"⟩, 14), (⟨"BeatHeap", "takeForRoot", "(IIIII)Z"⟩, 6), (⟨"BeatHeap", "takeBlock", "(IIII)I"⟩, 6), (⟨"BeatHeap$Blocks", "pageWithRoom", "(I)I"⟩, 11), (⟨"BeatHeap$Blocks", "openPage", "(I)I"⟩, 11), (⟨"BeatHeap$Blocks", "firstVacant", "(I)I"⟩, 11), (⟨"BeatHeap$Blocks", "isPage", "(I)Z"⟩, 11), (⟨"BeatHeap", "setRoot", "(II)V"⟩, 6), (⟨"BeatHeap$Collector", "grey", "(I)V"⟩, 14), (⟨"BeatHeap$Clock", "keep", "(I)V"⟩, 5), (⟨"BeatHeap$Collector", "step", "()V"⟩, 14), (⟨"BeatHeap$Collector", "rootsStep", "()V"⟩, 14), (⟨"BeatHeap$Collector", "markStep", "()V"⟩, 14), (⟨"BeatHeap$Collector", "endIfSwept", "()V"⟩, 14), (⟨"BeatHeap$Collector", "sweepStep", "()V"⟩, 14)]
theorem lw_r1 : ∀ q ∈ lw_privs_1, lw_okq q := List.forall_mem_cons.mpr ⟨lw_p0, List.forall_mem_cons.mpr ⟨lw_p1, List.forall_mem_cons.mpr ⟨lw_p2, List.forall_mem_cons.mpr ⟨lw_p3, List.forall_mem_cons.mpr ⟨lw_p4, List.forall_mem_cons.mpr ⟨lw_p5, List.forall_mem_cons.mpr ⟨lw_p6, List.forall_mem_cons.mpr ⟨lw_p7, List.forall_mem_cons.mpr ⟨lw_p8, List.forall_mem_cons.mpr ⟨lw_p9, List.forall_mem_cons.mpr ⟨lw_p10, List.forall_mem_cons.mpr ⟨lw_p11, List.forall_mem_cons.mpr ⟨lw_p12, List.forall_mem_cons.mpr ⟨lw_p13, List.forall_mem_cons.mpr ⟨lw_p14, List.forall_mem_cons.mpr ⟨lw_p15, fun _ h => absurd h List.not_mem_nil⟩⟩⟩⟩⟩⟩⟩⟩⟩⟩⟩⟩⟩⟩⟩⟩
theorem lw_p16 : lw_okq (⟨"BeatHeap", "takeLeaf", "(II)Z"⟩, 6) := ⟨⟨by decide +kernel, by decide +kernel⟩, List.mem_of_getElem? (i := 11) (by decide +kernel), List.mem_of_getElem? (i := 416) (by decide +kernel), List.mem_of_getElem? (i := 417) (by decide +kernel)⟩
theorem lw_p17 : lw_okq (⟨"BeatHeap", "rootOrNone", "(I)I"⟩, 6) := ⟨⟨by decide +kernel, by decide +kernel⟩, List.mem_of_getElem? (i := 11) (by decide +kernel), List.mem_of_getElem? (i := 420) (by decide +kernel), List.mem_of_getElem? (i := 421) (by decide +kernel)⟩
theorem lw_p18 : lw_okq (⟨"BeatHeap", "numberAddress", "(II)I"⟩, 6) := ⟨⟨by decide +kernel, by decide +kernel⟩, List.mem_of_getElem? (i := 11) (by decide +kernel), List.mem_of_getElem? (i := 432) (by decide +kernel), List.mem_of_getElem? (i := 433) (by decide +kernel)⟩
theorem lw_p19 : lw_okq (⟨"BeatHeap", "pointerAddress", "(II)I"⟩, 6) := ⟨⟨by decide +kernel, by decide +kernel⟩, List.mem_of_getElem? (i := 11) (by decide +kernel), List.mem_of_getElem? (i := 453) (by decide +kernel), List.mem_of_getElem? (i := 454) (by decide +kernel)⟩
theorem lw_p20 : lw_okq (⟨"BeatHeap$Clock", "keptAt", "(I)I"⟩, 5) := ⟨⟨by decide +kernel, by decide +kernel⟩, List.mem_of_getElem? (i := 71) (by decide +kernel), List.mem_of_getElem? (i := 517) (by decide +kernel), List.mem_of_getElem? (i := 518) (by decide +kernel)⟩
theorem lw_p21 : lw_okq (⟨"BeatHeap$Walk", "comeTo", "(IZLBeatHeap$Blocks;)V"⟩, 4) := ⟨⟨by decide +kernel, by decide +kernel⟩, List.mem_of_getElem? (i := 156) (by decide +kernel), List.mem_of_getElem? (i := 535) (by decide +kernel), List.mem_of_getElem? (i := 536) (by decide +kernel)⟩
theorem lw_p22 : lw_okq (⟨"BeatHeap$Walk", "comeToPartsOf", "(ILBeatHeap$Blocks;)V"⟩, 4) := ⟨⟨by decide +kernel, by decide +kernel⟩, List.mem_of_getElem? (i := 156) (by decide +kernel), List.mem_of_getElem? (i := 542) (by decide +kernel), List.mem_of_getElem? (i := 543) (by decide +kernel)⟩
theorem lw_p23 : lw_okq (⟨"BeatHeapModel", "take", "(II)I"⟩, 28) := ⟨⟨by decide +kernel, by decide +kernel⟩, List.mem_of_getElem? (i := 552) (by decide +kernel), List.mem_of_getElem? (i := 662) (by decide +kernel), List.mem_of_getElem? (i := 663) (by decide +kernel)⟩
theorem lw_p24 : lw_okq (⟨"BeatHeapModel", "failed", "()I"⟩, 28) := ⟨⟨by decide +kernel, by decide +kernel⟩, List.mem_of_getElem? (i := 552) (by decide +kernel), List.mem_of_getElem? (i := 666) (by decide +kernel), List.mem_of_getElem? (i := 667) (by decide +kernel)⟩
theorem lw_p25 : lw_okq (⟨"BeatHeapModel", "beginCycle", "()V"⟩, 28) := ⟨⟨by decide +kernel, by decide +kernel⟩, List.mem_of_getElem? (i := 552) (by decide +kernel), List.mem_of_getElem? (i := 670) (by decide +kernel), List.mem_of_getElem? (i := 671) (by decide +kernel)⟩
theorem lw_p26 : lw_okq (⟨"BeatHeapModel", "setRoot", "(II)V"⟩, 28) := ⟨⟨by decide +kernel, by decide +kernel⟩, List.mem_of_getElem? (i := 552) (by decide +kernel), List.mem_of_getElem? (i := 674) (by decide +kernel), List.mem_of_getElem? (i := 675) (by decide +kernel)⟩
theorem lw_p27 : lw_okq (⟨"BeatHeapModel", "before", "(I)V"⟩, 28) := ⟨⟨by decide +kernel, by decide +kernel⟩, List.mem_of_getElem? (i := 552) (by decide +kernel), List.mem_of_getElem? (i := 678) (by decide +kernel), List.mem_of_getElem? (i := 679) (by decide +kernel)⟩
theorem lw_p28 : lw_okq (⟨"BeatHeapModel", "grey", "(I)V"⟩, 28) := ⟨⟨by decide +kernel, by decide +kernel⟩, List.mem_of_getElem? (i := 552) (by decide +kernel), List.mem_of_getElem? (i := 682) (by decide +kernel), List.mem_of_getElem? (i := 683) (by decide +kernel)⟩
theorem lw_p29 : lw_okq (⟨"BeatHeapModel", "did", "(I)V"⟩, 28) := ⟨⟨by decide +kernel, by decide +kernel⟩, List.mem_of_getElem? (i := 552) (by decide +kernel), List.mem_of_getElem? (i := 689) (by decide +kernel), List.mem_of_getElem? (i := 690) (by decide +kernel)⟩
theorem lw_p30 : lw_okq (⟨"BeatHeapModel", "tick", "(Z)V"⟩, 28) := ⟨⟨by decide +kernel, by decide +kernel⟩, List.mem_of_getElem? (i := 552) (by decide +kernel), List.mem_of_getElem? (i := 693) (by decide +kernel), List.mem_of_getElem? (i := 694) (by decide +kernel)⟩
theorem lw_p31 : lw_okq (⟨"BeatHeapModel", "step", "()V"⟩, 28) := ⟨⟨by decide +kernel, by decide +kernel⟩, List.mem_of_getElem? (i := 552) (by decide +kernel), List.mem_of_getElem? (i := 697) (by decide +kernel), List.mem_of_getElem? (i := 698) (by decide +kernel)⟩
def lw_privs_2 : List (MethodName × Nat) := [(⟨"BeatHeap", "takeLeaf", "(II)Z"⟩, 6), (⟨"BeatHeap", "rootOrNone", "(I)I"⟩, 6), (⟨"BeatHeap", "numberAddress", "(II)I"⟩, 6), (⟨"BeatHeap", "pointerAddress", "(II)I"⟩, 6), (⟨"BeatHeap$Clock", "keptAt", "(I)I"⟩, 5), (⟨"BeatHeap$Walk", "comeTo", "(IZLBeatHeap$Blocks;)V"⟩, 4), (⟨"BeatHeap$Walk", "comeToPartsOf", "(ILBeatHeap$Blocks;)V"⟩, 4), (⟨"BeatHeapModel", "take", "(II)I"⟩, 28), (⟨"BeatHeapModel", "failed", "()I"⟩, 28), (⟨"BeatHeapModel", "beginCycle", "()V"⟩, 28), (⟨"BeatHeapModel", "setRoot", "(II)V"⟩, 28), (⟨"BeatHeapModel", "before", "(I)V"⟩, 28), (⟨"BeatHeapModel", "grey", "(I)V"⟩, 28), (⟨"BeatHeapModel", "did", "(I)V"⟩, 28), (⟨"BeatHeapModel", "tick", "(Z)V"⟩, 28), (⟨"BeatHeapModel", "step", "()V"⟩, 28)]
theorem lw_r2 : ∀ q ∈ lw_privs_2, lw_okq q := List.forall_mem_cons.mpr ⟨lw_p16, List.forall_mem_cons.mpr ⟨lw_p17, List.forall_mem_cons.mpr ⟨lw_p18, List.forall_mem_cons.mpr ⟨lw_p19, List.forall_mem_cons.mpr ⟨lw_p20, List.forall_mem_cons.mpr ⟨lw_p21, List.forall_mem_cons.mpr ⟨lw_p22, List.forall_mem_cons.mpr ⟨lw_p23, List.forall_mem_cons.mpr ⟨lw_p24, List.forall_mem_cons.mpr ⟨lw_p25, List.forall_mem_cons.mpr ⟨lw_p26, List.forall_mem_cons.mpr ⟨lw_p27, List.forall_mem_cons.mpr ⟨lw_p28, List.forall_mem_cons.mpr ⟨lw_p29, List.forall_mem_cons.mpr ⟨lw_p30, List.forall_mem_cons.mpr ⟨lw_p31, fun _ h => absurd h List.not_mem_nil⟩⟩⟩⟩⟩⟩⟩⟩⟩⟩⟩⟩⟩⟩⟩⟩
theorem lw_p32 : lw_okq (⟨"BeatHeapModel", "markStep", "()V"⟩, 28) := ⟨⟨by decide +kernel, by decide +kernel⟩, List.mem_of_getElem? (i := 552) (by decide +kernel), List.mem_of_getElem? (i := 701) (by decide +kernel), List.mem_of_getElem? (i := 702) (by decide +kernel)⟩
theorem lw_p33 : lw_okq (⟨"BeatHeapModel", "sweepStep", "()V"⟩, 28) := ⟨⟨by decide +kernel, by decide +kernel⟩, List.mem_of_getElem? (i := 552) (by decide +kernel), List.mem_of_getElem? (i := 705) (by decide +kernel), List.mem_of_getElem? (i := 706) (by decide +kernel)⟩
theorem lw_p34 : lw_okq (⟨"BeatHeapModel", "nextBlock", "()I"⟩, 28) := ⟨⟨by decide +kernel, by decide +kernel⟩, List.mem_of_getElem? (i := 552) (by decide +kernel), List.mem_of_getElem? (i := 709) (by decide +kernel), List.mem_of_getElem? (i := 710) (by decide +kernel)⟩
theorem lw_p35 : lw_okq (⟨"BeatHeapModel", "sizeAt", "(I)I"⟩, 28) := ⟨⟨by decide +kernel, by decide +kernel⟩, List.mem_of_getElem? (i := 552) (by decide +kernel), List.mem_of_getElem? (i := 713) (by decide +kernel), List.mem_of_getElem? (i := 714) (by decide +kernel)⟩
theorem lw_p36 : lw_okq (⟨"BeatHeapModel", "holding", "(I)I"⟩, 28) := ⟨⟨by decide +kernel, by decide +kernel⟩, List.mem_of_getElem? (i := 552) (by decide +kernel), List.mem_of_getElem? (i := 717) (by decide +kernel), List.mem_of_getElem? (i := 718) (by decide +kernel)⟩
theorem lw_p37 : lw_okq (⟨"BeatHeapModel", "freePages", "()I"⟩, 28) := ⟨⟨by decide +kernel, by decide +kernel⟩, List.mem_of_getElem? (i := 552) (by decide +kernel), List.mem_of_getElem? (i := 721) (by decide +kernel), List.mem_of_getElem? (i := 722) (by decide +kernel)⟩
theorem lw_p38 : lw_okq (⟨"BeatHeapModel", "numberAt", "(II)I"⟩, 28) := ⟨⟨by decide +kernel, by decide +kernel⟩, List.mem_of_getElem? (i := 552) (by decide +kernel), List.mem_of_getElem? (i := 733) (by decide +kernel), List.mem_of_getElem? (i := 734) (by decide +kernel)⟩
theorem lw_p39 : lw_okq (⟨"BeatHeapModel", "pointerAt", "(II)I"⟩, 28) := ⟨⟨by decide +kernel, by decide +kernel⟩, List.mem_of_getElem? (i := 552) (by decide +kernel), List.mem_of_getElem? (i := 745) (by decide +kernel), List.mem_of_getElem? (i := 746) (by decide +kernel)⟩
theorem lw_p40 : lw_okq (⟨"BeatHeapModel", "meet", "()V"⟩, 28) := ⟨⟨by decide +kernel, by decide +kernel⟩, List.mem_of_getElem? (i := 552) (by decide +kernel), List.mem_of_getElem? (i := 793) (by decide +kernel), List.mem_of_getElem? (i := 794) (by decide +kernel)⟩
theorem lw_p41 : lw_okq (⟨"BeatHeapModel", "meetOne", "(IZ)V"⟩, 28) := ⟨⟨by decide +kernel, by decide +kernel⟩, List.mem_of_getElem? (i := 552) (by decide +kernel), List.mem_of_getElem? (i := 797) (by decide +kernel), List.mem_of_getElem? (i := 798) (by decide +kernel)⟩
def lw_privs_3 : List (MethodName × Nat) := [(⟨"BeatHeapModel", "markStep", "()V"⟩, 28), (⟨"BeatHeapModel", "sweepStep", "()V"⟩, 28), (⟨"BeatHeapModel", "nextBlock", "()I"⟩, 28), (⟨"BeatHeapModel", "sizeAt", "(I)I"⟩, 28), (⟨"BeatHeapModel", "holding", "(I)I"⟩, 28), (⟨"BeatHeapModel", "freePages", "()I"⟩, 28), (⟨"BeatHeapModel", "numberAt", "(II)I"⟩, 28), (⟨"BeatHeapModel", "pointerAt", "(II)I"⟩, 28), (⟨"BeatHeapModel", "meet", "()V"⟩, 28), (⟨"BeatHeapModel", "meetOne", "(IZ)V"⟩, 28)]
theorem lw_r3 : ∀ q ∈ lw_privs_3, lw_okq q := List.forall_mem_cons.mpr ⟨lw_p32, List.forall_mem_cons.mpr ⟨lw_p33, List.forall_mem_cons.mpr ⟨lw_p34, List.forall_mem_cons.mpr ⟨lw_p35, List.forall_mem_cons.mpr ⟨lw_p36, List.forall_mem_cons.mpr ⟨lw_p37, List.forall_mem_cons.mpr ⟨lw_p38, List.forall_mem_cons.mpr ⟨lw_p39, List.forall_mem_cons.mpr ⟨lw_p40, List.forall_mem_cons.mpr ⟨lw_p41, fun _ h => absurd h List.not_mem_nil⟩⟩⟩⟩⟩⟩⟩⟩⟩⟩
def lw_privs : List (MethodName × Nat) := lw_privs_1 ++ (lw_privs_2 ++ (lw_privs_3))
def lw_tbl : List Cond := k2_sels lw_privs ++ tables_1
theorem lw_privs_ok : ∀ q ∈ lw_privs, lw_okq q := by
  show ∀ q ∈ lw_privs_1 ++ (lw_privs_2 ++ (lw_privs_3)), lw_okq q
  exact List.forall_mem_append.mpr ⟨lw_r1, List.forall_mem_append.mpr ⟨lw_r2, lw_r3⟩⟩
end
section
/-! names, the words of the tables by their places -/
def zT : List Cond := lw_tbl.filter goodWord
theorem zT_r {w : Cond} (h : w ∈ tables_1) (g : goodWord w = true) : w ∈ zT := List.mem_filter.mpr ⟨List.mem_append_right _ h, g⟩
theorem zT_l {w : Cond} (h : w ∈ k2_sels lw_privs) (g : goodWord w = true) : w ∈ zT := List.mem_filter.mpr ⟨List.mem_append_left _ h, g⟩
theorem zt1 {w : Cond} (h : w ∈ tables_1_1) (g : goodWord w = true) : w ∈ zT := zT_r (List.mem_append_left _ h) g
theorem zt2 {w : Cond} (h : w ∈ tables_1_2) (g : goodWord w = true) : w ∈ zT := zT_r (List.mem_append_right _ (List.mem_append_left _ h)) g
theorem zt3 {w : Cond} (h : w ∈ tables_1_3) (g : goodWord w = true) : w ∈ zT := zT_r (List.mem_append_right _ (List.mem_append_right _ (List.mem_append_left _ h))) g
theorem zt4 {w : Cond} (h : w ∈ tables_1_4) (g : goodWord w = true) : w ∈ zT := zT_r (List.mem_append_right _ (List.mem_append_right _ (List.mem_append_right _ h))) g
theorem zT_good {w : Cond} (h : w ∈ zT) : (w.onTables && w.keeps) = true ∨ ∃ ty, w = .arrayClass ty := good_of_word (List.mem_filter.mp h).2
def F_Bk : u_T := fun k => match k with
  | 0 => ("BeatHeap$Blocks", "words", "[I", true)
  | 1 => ("BeatHeap$Blocks", "kinds", "[B", true)
  | 2 => ("BeatHeap$Blocks", "marks", "[B", true)
  | 3 => ("BeatHeap$Blocks", "pointers", "[I", true)
  | 4 => ("BeatHeap$Blocks", "numbers", "[I", true)
  | 5 => ("BeatHeap$Blocks", "classes", "[I", true)
  | 6 => ("BeatHeap$Blocks", "held", "[I", true)
  | 7 => ("BeatHeap$Blocks", "pages", "I", false)
  | 8 => ("BeatHeap$Blocks", "freePages", "I", false)
  | 9 => ("BeatHeap$Blocks", "heldInAll", "I", false)
  | _ => ("BeatHeap$Blocks", "freedInAll", "I", false)
def t_Bk : Nat → FieldType := fun k => match k with
  | 0 => .array .int
  | 1 => .array .byte
  | 2 => .array .byte
  | 3 => .array .int
  | 4 => .array .int
  | 5 => .array .int
  | 6 => .array .int
  | 7 => .int
  | 8 => .int
  | 9 => .int
  | _ => .int
theorem n_Bk : ∀ a, a < 11 → ∀ b, b < 11 → a ≠ b → (F_Bk a).2.1 ≠ (F_Bk b).2.1 := by decide +kernel
theorem t_Bk_ok : ∀ k, k < 11 → parseFieldDescriptor (F_Bk k).2.2.1 = some (t_Bk k) := by decide +kernel
theorem i_Bk : ∀ w ∈ u_ws "BeatHeap$Blocks" F_Bk 11, w ∈ zT := by decide +kernel
def F_Ck : u_T := fun k => match k with
  | 0 => ("BeatHeap$Clock", "latest", "[B", true)
  | 1 => ("BeatHeap$Clock", "next", "I", false)
  | 2 => ("BeatHeap$Clock", "kept", "I", false)
  | 3 => ("BeatHeap$Clock", "programs", "I", false)
  | _ => ("BeatHeap$Clock", "collectors", "I", false)
def t_Ck : Nat → FieldType := fun k => match k with
  | 0 => .array .byte
  | 1 => .int
  | 2 => .int
  | 3 => .int
  | _ => .int
theorem n_Ck : ∀ a, a < 5 → ∀ b, b < 5 → a ≠ b → (F_Ck a).2.1 ≠ (F_Ck b).2.1 := by decide +kernel
theorem t_Ck_ok : ∀ k, k < 5 → parseFieldDescriptor (F_Ck k).2.2.1 = some (t_Ck k) := by decide +kernel
theorem i_Ck : ∀ w ∈ u_ws "BeatHeap$Clock" F_Ck 5, w ∈ zT := by decide +kernel
def F_Co : u_T := fun k => match k with
  | 0 => ("BeatHeap$Collector", "blocks", "LBeatHeap$Blocks;", true)
  | 1 => ("BeatHeap$Collector", "clock", "LBeatHeap$Clock;", true)
  | 2 => ("BeatHeap$Collector", "pile", "LBeatHeap$Pile;", true)
  | 3 => ("BeatHeap$Collector", "roots", "[I", true)
  | 4 => ("BeatHeap$Collector", "programQuantum", "I", false)
  | 5 => ("BeatHeap$Collector", "ownQuantum", "I", false)
  | 6 => ("BeatHeap$Collector", "trigger", "I", false)
  | 7 => ("BeatHeap$Collector", "part", "I", false)
  | 8 => ("BeatHeap$Collector", "credit", "I", false)
  | 9 => ("BeatHeap$Collector", "nextRoot", "I", false)
  | 10 => ("BeatHeap$Collector", "hand", "I", false)
  | 11 => ("BeatHeap$Collector", "looked", "I", false)
  | 12 => ("BeatHeap$Collector", "place", "I", false)
  | _ => ("BeatHeap$Collector", "cyclesOver", "I", false)
def t_Co : Nat → FieldType := fun k => match k with
  | 0 => .object "BeatHeap$Blocks"
  | 1 => .object "BeatHeap$Clock"
  | 2 => .object "BeatHeap$Pile"
  | 3 => .array .int
  | 4 => .int
  | 5 => .int
  | 6 => .int
  | 7 => .int
  | 8 => .int
  | 9 => .int
  | 10 => .int
  | 11 => .int
  | 12 => .int
  | _ => .int
theorem n_Co : ∀ a, a < 14 → ∀ b, b < 14 → a ≠ b → (F_Co a).2.1 ≠ (F_Co b).2.1 := by decide +kernel
theorem t_Co_ok : ∀ k, k < 14 → parseFieldDescriptor (F_Co k).2.2.1 = some (t_Co k) := by decide +kernel
theorem i_Co : ∀ w ∈ u_ws "BeatHeap$Collector" F_Co 14, w ∈ zT := by decide +kernel
def F_Pi : u_T := fun k => match k with
  | 0 => ("BeatHeap$Pile", "items", "[I", true)
  | _ => ("BeatHeap$Pile", "size", "I", false)
def t_Pi : Nat → FieldType := fun k => match k with
  | 0 => .array .int
  | _ => .int
theorem n_Pi : ∀ a, a < 2 → ∀ b, b < 2 → a ≠ b → (F_Pi a).2.1 ≠ (F_Pi b).2.1 := by decide +kernel
theorem t_Pi_ok : ∀ k, k < 2 → parseFieldDescriptor (F_Pi k).2.2.1 = some (t_Pi k) := by decide +kernel
theorem i_Pi : ∀ w ∈ u_ws "BeatHeap$Pile" F_Pi 2, w ∈ zT := by decide +kernel
def F_Wa : u_T := fun k => match k with
  | 0 => ("BeatHeap$Walk", "seen", "[B", true)
  | 1 => ("BeatHeap$Walk", "ahead", "LBeatHeap$Pile;", true)
  | 2 => ("BeatHeap$Walk", "found", "I", false)
  | _ => ("BeatHeap$Walk", "sound", "Z", false)
def t_Wa : Nat → FieldType := fun k => match k with
  | 0 => .array .byte
  | 1 => .object "BeatHeap$Pile"
  | 2 => .int
  | _ => .boolean
theorem n_Wa : ∀ a, a < 4 → ∀ b, b < 4 → a ≠ b → (F_Wa a).2.1 ≠ (F_Wa b).2.1 := by decide +kernel
theorem t_Wa_ok : ∀ k, k < 4 → parseFieldDescriptor (F_Wa k).2.2.1 = some (t_Wa k) := by decide +kernel
theorem i_Wa : ∀ w ∈ u_ws "BeatHeap$Walk" F_Wa 4, w ∈ zT := by decide +kernel
def F_Bh : u_T := fun k => match k with
  | 0 => ("BeatHeap", "collector", "LBeatHeap$Collector;", true)
  | 1 => ("BeatHeap", "blocks", "LBeatHeap$Blocks;", true)
  | 2 => ("BeatHeap", "clock", "LBeatHeap$Clock;", true)
  | 3 => ("BeatHeap", "roots", "[I", true)
  | 4 => ("BeatHeap", "walk", "LBeatHeap$Walk;", true)
  | _ => ("BeatHeap", "misses", "I", false)
def t_Bh : Nat → FieldType := fun k => match k with
  | 0 => .object "BeatHeap$Collector"
  | 1 => .object "BeatHeap$Blocks"
  | 2 => .object "BeatHeap$Clock"
  | 3 => .array .int
  | 4 => .object "BeatHeap$Walk"
  | _ => .int
theorem n_Bh : ∀ a, a < 6 → ∀ b, b < 6 → a ≠ b → (F_Bh a).2.1 ≠ (F_Bh b).2.1 := by decide +kernel
theorem t_Bh_ok : ∀ k, k < 6 → parseFieldDescriptor (F_Bh k).2.2.1 = some (t_Bh k) := by decide +kernel
theorem i_Bh : ∀ w ∈ u_ws "BeatHeap" F_Bh 6, w ∈ zT := by decide +kernel
def F_Mo : u_T := fun k => match k with
  | 0 => ("BeatHeapModel", "pages", "I", false)
  | 1 => ("BeatHeapModel", "quantum", "I", false)
  | 2 => ("BeatHeapModel", "collectorQuantum", "I", false)
  | 3 => ("BeatHeapModel", "trigger", "I", false)
  | 4 => ("BeatHeapModel", "words", "[I", true)
  | 5 => ("BeatHeapModel", "pageClass", "[I", true)
  | 6 => ("BeatHeapModel", "kind", "[I", true)
  | 7 => ("BeatHeapModel", "isMarked", "[Z", true)
  | 8 => ("BeatHeapModel", "pointers", "[I", true)
  | 9 => ("BeatHeapModel", "numbers", "[I", true)
  | 10 => ("BeatHeapModel", "roots", "[I", true)
  | 11 => ("BeatHeapModel", "pile", "[I", true)
  | 12 => ("BeatHeapModel", "piled", "I", false)
  | 13 => ("BeatHeapModel", "part", "I", false)
  | 14 => ("BeatHeapModel", "nextRoot", "I", false)
  | 15 => ("BeatHeapModel", "hand", "I", false)
  | 16 => ("BeatHeapModel", "handNext", "I", false)
  | 17 => ("BeatHeapModel", "place", "I", false)
  | 18 => ("BeatHeapModel", "credit", "I", false)
  | 19 => ("BeatHeapModel", "cycles", "I", false)
  | 20 => ("BeatHeapModel", "freed", "I", false)
  | 21 => ("BeatHeapModel", "failures", "I", false)
  | 22 => ("BeatHeapModel", "programTicks", "I", false)
  | 23 => ("BeatHeapModel", "collectorTicks", "I", false)
  | 24 => ("BeatHeapModel", "isProgram", "[Z", true)
  | 25 => ("BeatHeapModel", "isMet", "[Z", true)
  | 26 => ("BeatHeapModel", "met", "I", false)
  | _ => ("BeatHeapModel", "isThere", "Z", false)
def t_Mo : Nat → FieldType := fun k => match k with
  | 0 => .int
  | 1 => .int
  | 2 => .int
  | 3 => .int
  | 4 => .array .int
  | 5 => .array .int
  | 6 => .array .int
  | 7 => .array .boolean
  | 8 => .array .int
  | 9 => .array .int
  | 10 => .array .int
  | 11 => .array .int
  | 12 => .int
  | 13 => .int
  | 14 => .int
  | 15 => .int
  | 16 => .int
  | 17 => .int
  | 18 => .int
  | 19 => .int
  | 20 => .int
  | 21 => .int
  | 22 => .int
  | 23 => .int
  | 24 => .array .boolean
  | 25 => .array .boolean
  | 26 => .int
  | _ => .boolean
theorem n_Mo : ∀ a, a < 28 → ∀ b, b < 28 → a ≠ b → (F_Mo a).2.1 ≠ (F_Mo b).2.1 := by decide +kernel
theorem t_Mo_ok : ∀ k, k < 28 → parseFieldDescriptor (F_Mo k).2.2.1 = some (t_Mo k) := by decide +kernel
theorem i_Mo : ∀ w ∈ u_ws "BeatHeapModel" F_Mo 28, w ∈ zT := by decide +kernel
abbrev zcl : List vw_C := [("BeatHeap$Blocks", F_Bk, 11), ("BeatHeap$Clock", F_Ck, 5), ("BeatHeap$Collector", F_Co, 14), ("BeatHeap$Pile", F_Pi, 2), ("BeatHeap$Walk", F_Wa, 4), ("BeatHeap", F_Bh, 6), ("BeatHeapModel", F_Mo, 28)]
def y_Bk_init : MethodName := ⟨"BeatHeap$Blocks", "<init>", "()V"⟩
def y_Bk_clearAll : MethodName := ⟨"BeatHeap$Blocks", "clearAll", "(I)V"⟩
def y_Bk_isInside : MethodName := ⟨"BeatHeap$Blocks", "isInside", "(I)Z"⟩
def y_Bk_isPage : MethodName := ⟨"BeatHeap$Blocks", "isPage", "(I)Z"⟩
def y_Bk_wordAt : MethodName := ⟨"BeatHeap$Blocks", "wordAt", "(I)I"⟩
def y_Bk_setWord : MethodName := ⟨"BeatHeap$Blocks", "setWord", "(II)V"⟩
def y_Bk_pointerAt : MethodName := ⟨"BeatHeap$Blocks", "pointerAt", "(I)I"⟩
def y_Bk_setPointer : MethodName := ⟨"BeatHeap$Blocks", "setPointer", "(II)V"⟩
def y_Bk_kindOf : MethodName := ⟨"BeatHeap$Blocks", "kindOf", "(I)I"⟩
def y_Bk_pointersOf : MethodName := ⟨"BeatHeap$Blocks", "pointersOf", "(I)I"⟩
def y_Bk_numbersOf : MethodName := ⟨"BeatHeap$Blocks", "numbersOf", "(I)I"⟩
def y_Bk_isMarked : MethodName := ⟨"BeatHeap$Blocks", "isMarked", "(I)Z"⟩
def y_Bk_setMark : MethodName := ⟨"BeatHeap$Blocks", "setMark", "(IZ)V"⟩
def y_Bk_classOf : MethodName := ⟨"BeatHeap$Blocks", "classOf", "(I)I"⟩
def y_Bk_heldIn : MethodName := ⟨"BeatHeap$Blocks", "heldIn", "(I)I"⟩
def y_Bk_markedIn : MethodName := ⟨"BeatHeap$Blocks", "markedIn", "(I)I"⟩
def y_Bk_hold : MethodName := ⟨"BeatHeap$Blocks", "hold", "(IIII)I"⟩
def y_Bk_pageWithRoom : MethodName := ⟨"BeatHeap$Blocks", "pageWithRoom", "(I)I"⟩
def y_Bk_openPage : MethodName := ⟨"BeatHeap$Blocks", "openPage", "(I)I"⟩
def y_Bk_firstVacant : MethodName := ⟨"BeatHeap$Blocks", "firstVacant", "(I)I"⟩
def y_Bk_blockFrom : MethodName := ⟨"BeatHeap$Blocks", "blockFrom", "(I)I"⟩
def y_Bk_wordsOfBlock : MethodName := ⟨"BeatHeap$Blocks", "wordsOfBlock", "(I)I"⟩
def y_Bk_release : MethodName := ⟨"BeatHeap$Blocks", "release", "(II)V"⟩
def y_Bk_closeIfEmpty : MethodName := ⟨"BeatHeap$Blocks", "closeIfEmpty", "(I)V"⟩
def y_Ck_init : MethodName := ⟨"BeatHeap$Clock", "<init>", "()V"⟩
def y_Ck_clearAll : MethodName := ⟨"BeatHeap$Clock", "clearAll", "()V"⟩
def y_Ck_programTicks : MethodName := ⟨"BeatHeap$Clock", "programTicks", "(I)V"⟩
def y_Ck_collectorTick : MethodName := ⟨"BeatHeap$Clock", "collectorTick", "()V"⟩
def y_Ck_keep : MethodName := ⟨"BeatHeap$Clock", "keep", "(I)V"⟩
def y_Ck_keptAt : MethodName := ⟨"BeatHeap$Clock", "keptAt", "(I)I"⟩
def y_Ck_fewestPrograms : MethodName := ⟨"BeatHeap$Clock", "fewestPrograms", "(I)I"⟩
def y_Co_init : MethodName := ⟨"BeatHeap$Collector", "<init>", "()V"⟩
def y_Co_clearAll : MethodName := ⟨"BeatHeap$Collector", "clearAll", "(III)V"⟩
def y_Co_rest : MethodName := ⟨"BeatHeap$Collector", "rest", "()V"⟩
def y_Co_countOf : MethodName := ⟨"BeatHeap$Collector", "countOf", "(I)I"⟩
def y_Co_beginCycle : MethodName := ⟨"BeatHeap$Collector", "beginCycle", "()Z"⟩
def y_Co_spend : MethodName := ⟨"BeatHeap$Collector", "spend", "(I)V"⟩
def y_Co_step : MethodName := ⟨"BeatHeap$Collector", "step", "()V"⟩
def y_Co_rootsStep : MethodName := ⟨"BeatHeap$Collector", "rootsStep", "()V"⟩
def y_Co_markStep : MethodName := ⟨"BeatHeap$Collector", "markStep", "()V"⟩
def y_Co_grey : MethodName := ⟨"BeatHeap$Collector", "grey", "(I)V"⟩
def y_Co_sweepStep : MethodName := ⟨"BeatHeap$Collector", "sweepStep", "()V"⟩
def y_Co_endIfSwept : MethodName := ⟨"BeatHeap$Collector", "endIfSwept", "()V"⟩
def y_Co_greyOld : MethodName := ⟨"BeatHeap$Collector", "greyOld", "(I)V"⟩
def y_Co_markTaken : MethodName := ⟨"BeatHeap$Collector", "markTaken", "(I)V"⟩
def y_Pi_init : MethodName := ⟨"BeatHeap$Pile", "<init>", "()V"⟩
def y_Pi_clearAll : MethodName := ⟨"BeatHeap$Pile", "clearAll", "()V"⟩
def y_Pi_push : MethodName := ⟨"BeatHeap$Pile", "push", "(I)V"⟩
def y_Pi_pop : MethodName := ⟨"BeatHeap$Pile", "pop", "()I"⟩
def y_Wa_init : MethodName := ⟨"BeatHeap$Walk", "<init>", "()V"⟩
def y_Wa_goFrom : MethodName := ⟨"BeatHeap$Walk", "goFrom", "([ILBeatHeap$Blocks;)V"⟩
def y_Wa_comeToPartsOf : MethodName := ⟨"BeatHeap$Walk", "comeToPartsOf", "(ILBeatHeap$Blocks;)V"⟩
def y_Wa_comeTo : MethodName := ⟨"BeatHeap$Walk", "comeTo", "(IZLBeatHeap$Blocks;)V"⟩
def y_Bh_init : MethodName := ⟨"BeatHeap", "<init>", "()V"⟩
def y_Bh_begin : MethodName := ⟨"BeatHeap", "begin", "(IIII)Z"⟩
def y_Bh_make : MethodName := ⟨"BeatHeap", "make", "(III)I"⟩
def y_Bh_array : MethodName := ⟨"BeatHeap", "array", "(II)I"⟩
def y_Bh_put : MethodName := ⟨"BeatHeap", "put", "(III)Z"⟩
def y_Bh_get : MethodName := ⟨"BeatHeap", "get", "(II)I"⟩
def y_Bh_link : MethodName := ⟨"BeatHeap", "link", "(III)Z"⟩
def y_Bh_follow : MethodName := ⟨"BeatHeap", "follow", "(III)Z"⟩
def y_Bh_move : MethodName := ⟨"BeatHeap", "move", "(II)Z"⟩
def y_Bh_drop : MethodName := ⟨"BeatHeap", "drop", "(I)Z"⟩
def y_Bh_idle : MethodName := ⟨"BeatHeap", "idle", "(I)Z"⟩
def y_Bh_start : MethodName := ⟨"BeatHeap", "start", "()Z"⟩
def y_Bh_root : MethodName := ⟨"BeatHeap", "root", "(II)I"⟩
def y_Bh_word : MethodName := ⟨"BeatHeap", "word", "(I)I"⟩
def y_Bh_page : MethodName := ⟨"BeatHeap", "page", "(II)I"⟩
def y_Bh_count : MethodName := ⟨"BeatHeap", "count", "(I)I"⟩
def y_Bh_share : MethodName := ⟨"BeatHeap", "share", "(I)I"⟩
def y_Bh_reachable : MethodName := ⟨"BeatHeap", "reachable", "()I"⟩
def y_Bh_whole : MethodName := ⟨"BeatHeap", "whole", "()Z"⟩
def y_Bh_within : MethodName := ⟨"BeatHeap", "within", "(III)Z"⟩
def y_Bh_isRoot : MethodName := ⟨"BeatHeap", "isRoot", "(I)Z"⟩
def y_Bh_isClass : MethodName := ⟨"BeatHeap", "isClass", "(I)Z"⟩
def y_Bh_blockWords : MethodName := ⟨"BeatHeap", "blockWords", "(I)I"⟩
def y_Bh_takeTicks : MethodName := ⟨"BeatHeap", "takeTicks", "(I)I"⟩
def y_Bh_leastClass : MethodName := ⟨"BeatHeap", "leastClass", "(I)I"⟩
def y_Bh_setAll : MethodName := ⟨"BeatHeap", "setAll", "(IIII)V"⟩
def y_Bh_rootOrNone : MethodName := ⟨"BeatHeap", "rootOrNone", "(I)I"⟩
def y_Bh_setRoot : MethodName := ⟨"BeatHeap", "setRoot", "(II)V"⟩
def y_Bh_takeForRoot : MethodName := ⟨"BeatHeap", "takeForRoot", "(IIIII)Z"⟩
def y_Bh_takeLeaf : MethodName := ⟨"BeatHeap", "takeLeaf", "(II)Z"⟩
def y_Bh_takeBlock : MethodName := ⟨"BeatHeap", "takeBlock", "(IIII)I"⟩
def y_Bh_numberAddress : MethodName := ⟨"BeatHeap", "numberAddress", "(II)I"⟩
def y_Bh_pointerAddress : MethodName := ⟨"BeatHeap", "pointerAddress", "(II)I"⟩
def y_Mo_init : MethodName := ⟨"BeatHeapModel", "<init>", "()V"⟩
def y_Mo_begin : MethodName := ⟨"BeatHeapModel", "begin", "(IIII)Z"⟩
def y_Mo_sizeOf : MethodName := ⟨"BeatHeapModel", "sizeOf", "(I)I"⟩
def y_Mo_classFor : MethodName := ⟨"BeatHeapModel", "classFor", "(I)I"⟩
def y_Mo_sizeAt : MethodName := ⟨"BeatHeapModel", "sizeAt", "(I)I"⟩
def y_Mo_tick : MethodName := ⟨"BeatHeapModel", "tick", "(Z)V"⟩
def y_Mo_freePages : MethodName := ⟨"BeatHeapModel", "freePages", "()I"⟩
def y_Mo_beginCycle : MethodName := ⟨"BeatHeapModel", "beginCycle", "()V"⟩
def y_Mo_did : MethodName := ⟨"BeatHeapModel", "did", "(I)V"⟩
def y_Mo_grey : MethodName := ⟨"BeatHeapModel", "grey", "(I)V"⟩
def y_Mo_before : MethodName := ⟨"BeatHeapModel", "before", "(I)V"⟩
def y_Mo_step : MethodName := ⟨"BeatHeapModel", "step", "()V"⟩
def y_Mo_markStep : MethodName := ⟨"BeatHeapModel", "markStep", "()V"⟩
def y_Mo_nextBlock : MethodName := ⟨"BeatHeapModel", "nextBlock", "()I"⟩
def y_Mo_holding : MethodName := ⟨"BeatHeapModel", "holding", "(I)I"⟩
def y_Mo_sweepStep : MethodName := ⟨"BeatHeapModel", "sweepStep", "()V"⟩
def y_Mo_take : MethodName := ⟨"BeatHeapModel", "take", "(II)I"⟩
def y_Mo_ticksOf : MethodName := ⟨"BeatHeapModel", "ticksOf", "(I)I"⟩
def y_Mo_isRoot : MethodName := ⟨"BeatHeapModel", "isRoot", "(I)Z"⟩
def y_Mo_setRoot : MethodName := ⟨"BeatHeapModel", "setRoot", "(II)V"⟩
def y_Mo_failed : MethodName := ⟨"BeatHeapModel", "failed", "()I"⟩
def y_Mo_make : MethodName := ⟨"BeatHeapModel", "make", "(III)I"⟩
def y_Mo_array : MethodName := ⟨"BeatHeapModel", "array", "(II)I"⟩
def y_Mo_numberAt : MethodName := ⟨"BeatHeapModel", "numberAt", "(II)I"⟩
def y_Mo_put : MethodName := ⟨"BeatHeapModel", "put", "(III)Z"⟩
def y_Mo_get : MethodName := ⟨"BeatHeapModel", "get", "(II)I"⟩
def y_Mo_pointerAt : MethodName := ⟨"BeatHeapModel", "pointerAt", "(II)I"⟩
def y_Mo_link : MethodName := ⟨"BeatHeapModel", "link", "(III)Z"⟩
def y_Mo_follow : MethodName := ⟨"BeatHeapModel", "follow", "(III)Z"⟩
def y_Mo_move : MethodName := ⟨"BeatHeapModel", "move", "(II)Z"⟩
def y_Mo_drop : MethodName := ⟨"BeatHeapModel", "drop", "(I)Z"⟩
def y_Mo_idle : MethodName := ⟨"BeatHeapModel", "idle", "(I)Z"⟩
def y_Mo_start : MethodName := ⟨"BeatHeapModel", "start", "()Z"⟩
def y_Mo_root : MethodName := ⟨"BeatHeapModel", "root", "(II)I"⟩
def y_Mo_word : MethodName := ⟨"BeatHeapModel", "word", "(I)I"⟩
def y_Mo_page : MethodName := ⟨"BeatHeapModel", "page", "(II)I"⟩
def y_Mo_count : MethodName := ⟨"BeatHeapModel", "count", "(I)I"⟩
def y_Mo_share : MethodName := ⟨"BeatHeapModel", "share", "(I)I"⟩
def y_Mo_meet : MethodName := ⟨"BeatHeapModel", "meet", "()V"⟩
def y_Mo_meetOne : MethodName := ⟨"BeatHeapModel", "meetOne", "(IZ)V"⟩
def y_Mo_reachable : MethodName := ⟨"BeatHeapModel", "reachable", "()I"⟩
def y_Mo_whole : MethodName := ⟨"BeatHeapModel", "whole", "()Z"⟩
def y_Ma_floorMod : MethodName := ⟨"java/lang/Math", "floorMod", "(II)I"⟩
def y_Ma_max : MethodName := ⟨"java/lang/Math", "max", "(II)I"⟩
def y_Ma_min : MethodName := ⟨"java/lang/Math", "min", "(II)I"⟩
def y_Ar_fillI : MethodName := ⟨"java/util/Arrays", "fill", "([II)V"⟩
def y_Ar_fillB : MethodName := ⟨"java/util/Arrays", "fill", "([BB)V"⟩
theorem w_in_La : Cond.initialized "BeatHeapLaw" ∈ zT := zt1 (List.mem_of_getElem? (i := 0) rfl) rfl
theorem w_in_Bh : Cond.initialized "BeatHeap" ∈ zT := zt1 (List.mem_of_getElem? (i := 1) rfl) rfl
theorem w_in_Co : Cond.initialized "BeatHeap$Collector" ∈ zT := zt1 (List.mem_of_getElem? (i := 2) rfl) rfl
theorem w_in_Bk : Cond.initialized "BeatHeap$Blocks" ∈ zT := zt1 (List.mem_of_getElem? (i := 3) rfl) rfl
theorem w_in_Ck : Cond.initialized "BeatHeap$Clock" ∈ zT := zt1 (List.mem_of_getElem? (i := 4) rfl) rfl
theorem w_in_Pi : Cond.initialized "BeatHeap$Pile" ∈ zT := zt1 (List.mem_of_getElem? (i := 5) rfl) rfl
theorem w_in_Wa : Cond.initialized "BeatHeap$Walk" ∈ zT := zt1 (List.mem_of_getElem? (i := 6) rfl) rfl
theorem w_in_Ar : Cond.initialized "java/util/Arrays" ∈ zT := zt1 (List.mem_of_getElem? (i := 7) rfl) rfl
theorem w_in_Ma : Cond.initialized "java/lang/Math" ∈ zT := zt1 (List.mem_of_getElem? (i := 8) rfl) rfl
theorem w_in_Mo : Cond.initialized "BeatHeapModel" ∈ zT := zt1 (List.mem_of_getElem? (i := 9) rfl) rfl
theorem w_cl_La_7 : Cond.classLink "BeatHeapLaw" 7 "BeatHeap" ∈ zT := zt1 (List.mem_of_getElem? (i := 10) rfl) rfl
theorem w_ia_Bh : Cond.instantiable "BeatHeap" 6 ∈ zT := zt1 (List.mem_of_getElem? (i := 11) rfl) rfl
theorem w_ml_La_9 : Cond.methodLink "BeatHeapLaw" 9 y_Bh_init ∈ zT := zt1 (List.mem_of_getElem? (i := 12) rfl) rfl
theorem w_im_Bh_init : Cond.instanceMethod y_Bh_init ∈ zT := zt1 (List.mem_of_getElem? (i := 13) rfl) rfl
theorem w_co_Bh_init : Cond.code y_Bh_init prog_1_method_1_code 1 none ∈ zT := zt1 (List.mem_of_getElem? (i := 14) rfl) rfl
theorem w_ml_Bh_3 : Cond.methodLink "BeatHeap" 3 objectInit ∈ zT := zt1 (List.mem_of_getElem? (i := 15) rfl) rfl
theorem w_im_obj : Cond.instanceMethod objectInit ∈ zT := zt1 (List.mem_of_getElem? (i := 16) rfl) rfl
theorem w_cl_Bh_9 : Cond.classLink "BeatHeap" 9 "BeatHeap$Collector" ∈ zT := zt1 (List.mem_of_getElem? (i := 18) rfl) rfl
theorem w_ia_Co : Cond.instantiable "BeatHeap$Collector" 14 ∈ zT := zt1 (List.mem_of_getElem? (i := 19) rfl) rfl
theorem w_im_Co_init : Cond.instanceMethod y_Co_init ∈ zT := zt1 (List.mem_of_getElem? (i := 21) rfl) rfl
theorem w_co_Co_init : Cond.code y_Co_init prog_4_method_1_code 1 none ∈ zT := zt1 (List.mem_of_getElem? (i := 22) rfl) rfl
theorem w_ml_Co_3 : Cond.methodLink "BeatHeap$Collector" 3 objectInit ∈ zT := zt1 (List.mem_of_getElem? (i := 23) rfl) rfl
theorem w_cl_Co_9 : Cond.classLink "BeatHeap$Collector" 9 "BeatHeap$Blocks" ∈ zT := zt1 (List.mem_of_getElem? (i := 24) rfl) rfl
theorem w_ia_Bk : Cond.instantiable "BeatHeap$Blocks" 11 ∈ zT := zt1 (List.mem_of_getElem? (i := 25) rfl) rfl
theorem w_im_Bk_init : Cond.instanceMethod y_Bk_init ∈ zT := zt1 (List.mem_of_getElem? (i := 27) rfl) rfl
theorem w_co_Bk_init : Cond.code y_Bk_init prog_2_method_1_code 1 none ∈ zT := zt1 (List.mem_of_getElem? (i := 28) rfl) rfl
theorem w_ml_Bk_3 : Cond.methodLink "BeatHeap$Blocks" 3 objectInit ∈ zT := zt1 (List.mem_of_getElem? (i := 29) rfl) rfl
theorem w_fl_Bk_9 : Cond.fieldLink "BeatHeap$Blocks" 9 "BeatHeap$Blocks" "words" "[I" ∈ zT := zt1 (List.mem_of_getElem? (i := 30) rfl) rfl
theorem w_fl_Bk_15 : Cond.fieldLink "BeatHeap$Blocks" 15 "BeatHeap$Blocks" "kinds" "[B" ∈ zT := zt1 (List.mem_of_getElem? (i := 31) rfl) rfl
theorem w_fl_Bk_19 : Cond.fieldLink "BeatHeap$Blocks" 19 "BeatHeap$Blocks" "marks" "[B" ∈ zT := zt1 (List.mem_of_getElem? (i := 32) rfl) rfl
theorem w_fl_Bk_22 : Cond.fieldLink "BeatHeap$Blocks" 22 "BeatHeap$Blocks" "pointers" "[I" ∈ zT := zt1 (List.mem_of_getElem? (i := 33) rfl) rfl
theorem w_fl_Bk_25 : Cond.fieldLink "BeatHeap$Blocks" 25 "BeatHeap$Blocks" "numbers" "[I" ∈ zT := zt1 (List.mem_of_getElem? (i := 34) rfl) rfl
theorem w_fl_Bk_28 : Cond.fieldLink "BeatHeap$Blocks" 28 "BeatHeap$Blocks" "classes" "[I" ∈ zT := zt1 (List.mem_of_getElem? (i := 35) rfl) rfl
theorem w_fl_Bk_31 : Cond.fieldLink "BeatHeap$Blocks" 31 "BeatHeap$Blocks" "held" "[I" ∈ zT := zt1 (List.mem_of_getElem? (i := 36) rfl) rfl
theorem w_fl_Bk_49 : Cond.fieldLink "BeatHeap$Blocks" 49 "BeatHeap$Blocks" "pages" "I" ∈ zT := zt1 (List.mem_of_getElem? (i := 37) rfl) rfl
theorem w_fl_Bk_53 : Cond.fieldLink "BeatHeap$Blocks" 53 "BeatHeap$Blocks" "freePages" "I" ∈ zT := zt1 (List.mem_of_getElem? (i := 38) rfl) rfl
theorem w_fl_Bk_56 : Cond.fieldLink "BeatHeap$Blocks" 56 "BeatHeap$Blocks" "heldInAll" "I" ∈ zT := zt1 (List.mem_of_getElem? (i := 41) rfl) rfl
theorem w_fl_Bk_59 : Cond.fieldLink "BeatHeap$Blocks" 59 "BeatHeap$Blocks" "freedInAll" "I" ∈ zT := zt1 (List.mem_of_getElem? (i := 43) rfl) rfl
theorem w_ac_int : Cond.arrayClass .int ∈ zT := zt1 (List.mem_of_getElem? (i := 68) rfl) rfl
theorem w_ac_byte : Cond.arrayClass .byte ∈ zT := zt1 (List.mem_of_getElem? (i := 69) rfl) rfl
theorem w_cl_Co_18 : Cond.classLink "BeatHeap$Collector" 18 "BeatHeap$Clock" ∈ zT := zt1 (List.mem_of_getElem? (i := 70) rfl) rfl
theorem w_ia_Ck : Cond.instantiable "BeatHeap$Clock" 5 ∈ zT := zt1 (List.mem_of_getElem? (i := 71) rfl) rfl
theorem w_im_Ck_init : Cond.instanceMethod y_Ck_init ∈ zT := zt1 (List.mem_of_getElem? (i := 73) rfl) rfl
theorem w_co_Ck_init : Cond.code y_Ck_init prog_3_method_1_code 1 none ∈ zT := zt1 (List.mem_of_getElem? (i := 74) rfl) rfl
theorem w_ml_Ck_3 : Cond.methodLink "BeatHeap$Clock" 3 objectInit ∈ zT := zt1 (List.mem_of_getElem? (i := 75) rfl) rfl
theorem w_fl_Ck_9 : Cond.fieldLink "BeatHeap$Clock" 9 "BeatHeap$Clock" "latest" "[B" ∈ zT := zt1 (List.mem_of_getElem? (i := 76) rfl) rfl
theorem w_fl_Ck_15 : Cond.fieldLink "BeatHeap$Clock" 15 "BeatHeap$Clock" "next" "I" ∈ zT := zt1 (List.mem_of_getElem? (i := 77) rfl) rfl
theorem w_fl_Ck_19 : Cond.fieldLink "BeatHeap$Clock" 19 "BeatHeap$Clock" "kept" "I" ∈ zT := zt1 (List.mem_of_getElem? (i := 78) rfl) rfl
theorem w_fl_Ck_22 : Cond.fieldLink "BeatHeap$Clock" 22 "BeatHeap$Clock" "programs" "I" ∈ zT := zt1 (List.mem_of_getElem? (i := 79) rfl) rfl
theorem w_fl_Ck_25 : Cond.fieldLink "BeatHeap$Clock" 25 "BeatHeap$Clock" "collectors" "I" ∈ zT := zt1 (List.mem_of_getElem? (i := 81) rfl) rfl
theorem w_cl_Co_25 : Cond.classLink "BeatHeap$Collector" 25 "BeatHeap$Pile" ∈ zT := zt1 (List.mem_of_getElem? (i := 94) rfl) rfl
theorem w_ia_Pi : Cond.instantiable "BeatHeap$Pile" 2 ∈ zT := zt1 (List.mem_of_getElem? (i := 95) rfl) rfl
theorem w_im_Pi_init : Cond.instanceMethod y_Pi_init ∈ zT := zt1 (List.mem_of_getElem? (i := 97) rfl) rfl
theorem w_co_Pi_init : Cond.code y_Pi_init prog_5_method_1_code 1 none ∈ zT := zt1 (List.mem_of_getElem? (i := 98) rfl) rfl
theorem w_ml_Pi_3 : Cond.methodLink "BeatHeap$Pile" 3 objectInit ∈ zT := zt1 (List.mem_of_getElem? (i := 99) rfl) rfl
theorem w_fl_Pi_9 : Cond.fieldLink "BeatHeap$Pile" 9 "BeatHeap$Pile" "items" "[I" ∈ zT := zt1 (List.mem_of_getElem? (i := 100) rfl) rfl
theorem w_fl_Pi_15 : Cond.fieldLink "BeatHeap$Pile" 15 "BeatHeap$Pile" "size" "I" ∈ zT := zt1 (List.mem_of_getElem? (i := 101) rfl) rfl
theorem w_fl_Co_12 : Cond.fieldLink "BeatHeap$Collector" 12 "BeatHeap$Collector" "blocks" "LBeatHeap$Blocks;" ∈ zT := zt1 (List.mem_of_getElem? (i := 109) rfl) rfl
theorem w_fl_Co_21 : Cond.fieldLink "BeatHeap$Collector" 21 "BeatHeap$Collector" "clock" "LBeatHeap$Clock;" ∈ zT := zt1 (List.mem_of_getElem? (i := 111) rfl) rfl
theorem w_fl_Co_28 : Cond.fieldLink "BeatHeap$Collector" 28 "BeatHeap$Collector" "pile" "LBeatHeap$Pile;" ∈ zT := zt1 (List.mem_of_getElem? (i := 113) rfl) rfl
theorem w_fl_Co_32 : Cond.fieldLink "BeatHeap$Collector" 32 "BeatHeap$Collector" "roots" "[I" ∈ zT := zt1 (List.mem_of_getElem? (i := 114) rfl) rfl
theorem w_fl_Co_36 : Cond.fieldLink "BeatHeap$Collector" 36 "BeatHeap$Collector" "programQuantum" "I" ∈ zT := zt1 (List.mem_of_getElem? (i := 116) rfl) rfl
theorem w_fl_Co_40 : Cond.fieldLink "BeatHeap$Collector" 40 "BeatHeap$Collector" "ownQuantum" "I" ∈ zT := zt1 (List.mem_of_getElem? (i := 117) rfl) rfl
theorem w_fl_Co_43 : Cond.fieldLink "BeatHeap$Collector" 43 "BeatHeap$Collector" "trigger" "I" ∈ zT := zt1 (List.mem_of_getElem? (i := 118) rfl) rfl
theorem w_fl_Co_55 : Cond.fieldLink "BeatHeap$Collector" 55 "BeatHeap$Collector" "part" "I" ∈ zT := zt1 (List.mem_of_getElem? (i := 119) rfl) rfl
theorem w_fl_Co_58 : Cond.fieldLink "BeatHeap$Collector" 58 "BeatHeap$Collector" "credit" "I" ∈ zT := zt1 (List.mem_of_getElem? (i := 120) rfl) rfl
theorem w_fl_Co_61 : Cond.fieldLink "BeatHeap$Collector" 61 "BeatHeap$Collector" "nextRoot" "I" ∈ zT := zt1 (List.mem_of_getElem? (i := 121) rfl) rfl
theorem w_fl_Co_64 : Cond.fieldLink "BeatHeap$Collector" 64 "BeatHeap$Collector" "hand" "I" ∈ zT := zt1 (List.mem_of_getElem? (i := 122) rfl) rfl
theorem w_fl_Co_67 : Cond.fieldLink "BeatHeap$Collector" 67 "BeatHeap$Collector" "looked" "I" ∈ zT := zt1 (List.mem_of_getElem? (i := 123) rfl) rfl
theorem w_fl_Co_70 : Cond.fieldLink "BeatHeap$Collector" 70 "BeatHeap$Collector" "place" "I" ∈ zT := zt1 (List.mem_of_getElem? (i := 124) rfl) rfl
theorem w_fl_Co_46 : Cond.fieldLink "BeatHeap$Collector" 46 "BeatHeap$Collector" "cyclesOver" "I" ∈ zT := zt1 (List.mem_of_getElem? (i := 125) rfl) rfl
theorem w_cl_Bh_31 : Cond.classLink "BeatHeap" 31 "BeatHeap$Walk" ∈ zT := zt1 (List.mem_of_getElem? (i := 155) rfl) rfl
theorem w_ia_Wa : Cond.instantiable "BeatHeap$Walk" 4 ∈ zT := zt1 (List.mem_of_getElem? (i := 156) rfl) rfl
theorem w_im_Wa_init : Cond.instanceMethod y_Wa_init ∈ zT := zt1 (List.mem_of_getElem? (i := 158) rfl) rfl
theorem w_co_Wa_init : Cond.code y_Wa_init prog_6_method_1_code 1 none ∈ zT := zt1 (List.mem_of_getElem? (i := 159) rfl) rfl
theorem w_ml_Wa_3 : Cond.methodLink "BeatHeap$Walk" 3 objectInit ∈ zT := zt1 (List.mem_of_getElem? (i := 160) rfl) rfl
theorem w_cl_Wa_15 : Cond.classLink "BeatHeap$Walk" 15 "BeatHeap$Pile" ∈ zT := zt1 (List.mem_of_getElem? (i := 161) rfl) rfl
theorem w_fl_Wa_9 : Cond.fieldLink "BeatHeap$Walk" 9 "BeatHeap$Walk" "seen" "[B" ∈ zT := zt1 (List.mem_of_getElem? (i := 163) rfl) rfl
theorem w_fl_Wa_18 : Cond.fieldLink "BeatHeap$Walk" 18 "BeatHeap$Walk" "ahead" "LBeatHeap$Pile;" ∈ zT := zt1 (List.mem_of_getElem? (i := 164) rfl) rfl
theorem w_fl_Wa_31 : Cond.fieldLink "BeatHeap$Walk" 31 "BeatHeap$Walk" "found" "I" ∈ zT := zt1 (List.mem_of_getElem? (i := 165) rfl) rfl
theorem w_fl_Wa_35 : Cond.fieldLink "BeatHeap$Walk" 35 "BeatHeap$Walk" "sound" "Z" ∈ zT := zt1 (List.mem_of_getElem? (i := 167) rfl) rfl
theorem w_ml_Bh_38 : Cond.methodLink "BeatHeap" 38 y_Bh_setAll ∈ zT := zt1 (List.mem_of_getElem? (i := 178) rfl) rfl
theorem w_im_Bh_setAll : Cond.instanceMethod y_Bh_setAll ∈ zT := zt1 (List.mem_of_getElem? (i := 180) rfl) rfl
theorem w_co_Bh_setAll : Cond.code y_Bh_setAll prog_1_method_26_code 5 none ∈ zT := zt1 (List.mem_of_getElem? (i := 181) rfl) rfl
theorem w_ml_Bh_175 : Cond.methodLink "BeatHeap" 175 y_Ar_fillI ∈ zT := zt1 (List.mem_of_getElem? (i := 182) rfl) rfl
theorem w_st_Ar_fillI : Cond.static y_Ar_fillI ∈ zT := zt1 (List.mem_of_getElem? (i := 183) rfl) rfl
theorem w_co_Ar_fillI : Cond.code y_Ar_fillI prog_10_method_103_code 4 none ∈ zT := zt1 (List.mem_of_getElem? (i := 184) rfl) rfl
theorem w_ml_Bh_181 : Cond.methodLink "BeatHeap" 181 y_Bk_clearAll ∈ zT := zt1 (List.mem_of_getElem? (i := 185) rfl) rfl
theorem w_im_Bk_clearAll : Cond.instanceMethod y_Bk_clearAll ∈ zT := zt1 (List.mem_of_getElem? (i := 186) rfl) rfl
theorem w_se_Bk_clearAll : Cond.selects "BeatHeap$Blocks" y_Bk_clearAll y_Bk_clearAll ∈ zT := zt1 (List.mem_of_getElem? (i := 187) rfl) rfl
theorem w_co_Bk_clearAll : Cond.code y_Bk_clearAll prog_2_method_2_code 2 none ∈ zT := zt1 (List.mem_of_getElem? (i := 188) rfl) rfl
theorem w_ml_Bk_34 : Cond.methodLink "BeatHeap$Blocks" 34 y_Ar_fillI ∈ zT := zt1 (List.mem_of_getElem? (i := 189) rfl) rfl
theorem w_ml_Bk_40 : Cond.methodLink "BeatHeap$Blocks" 40 y_Ar_fillB ∈ zT := zt1 (List.mem_of_getElem? (i := 190) rfl) rfl
theorem w_st_Ar_fillB : Cond.static y_Ar_fillB ∈ zT := zt1 (List.mem_of_getElem? (i := 191) rfl) rfl
theorem w_co_Ar_fillB : Cond.code y_Ar_fillB prog_10_method_109_code 4 none ∈ zT := zt1 (List.mem_of_getElem? (i := 192) rfl) rfl
theorem w_ml_Bk_43 : Cond.methodLink "BeatHeap$Blocks" 43 y_Ma_min ∈ zT := zt1 (List.mem_of_getElem? (i := 193) rfl) rfl
theorem w_st_Ma_min : Cond.static y_Ma_min ∈ zT := zt1 (List.mem_of_getElem? (i := 194) rfl) rfl
theorem w_co_Ma_min : Cond.code y_Ma_min prog_9_method_69_code 2 (some .int) ∈ zT := zt1 (List.mem_of_getElem? (i := 195) rfl) rfl
theorem w_ml_Bh_184 : Cond.methodLink "BeatHeap" 184 y_Ck_clearAll ∈ zT := zt1 (List.mem_of_getElem? (i := 196) rfl) rfl
theorem w_im_Ck_clearAll : Cond.instanceMethod y_Ck_clearAll ∈ zT := zt1 (List.mem_of_getElem? (i := 197) rfl) rfl
theorem w_se_Ck_clearAll : Cond.selects "BeatHeap$Clock" y_Ck_clearAll y_Ck_clearAll ∈ zT := zt1 (List.mem_of_getElem? (i := 198) rfl) rfl
theorem w_co_Ck_clearAll : Cond.code y_Ck_clearAll prog_3_method_2_code 1 none ∈ zT := zt1 (List.mem_of_getElem? (i := 199) rfl) rfl
theorem w_ml_Bh_186 : Cond.methodLink "BeatHeap" 186 y_Co_clearAll ∈ zT := zt1 (List.mem_of_getElem? (i := 200) rfl) rfl
theorem w_im_Co_clearAll : Cond.instanceMethod y_Co_clearAll ∈ zT := zt1 (List.mem_of_getElem? (i := 201) rfl) rfl
theorem w_se_Co_clearAll : Cond.selects "BeatHeap$Collector" y_Co_clearAll y_Co_clearAll ∈ zT := zt1 (List.mem_of_getElem? (i := 202) rfl) rfl
theorem w_co_Co_clearAll : Cond.code y_Co_clearAll prog_4_method_2_code 4 none ∈ zT := zt1 (List.mem_of_getElem? (i := 203) rfl) rfl
theorem w_ml_Co_49 : Cond.methodLink "BeatHeap$Collector" 49 y_Pi_clearAll ∈ zT := zt1 (List.mem_of_getElem? (i := 204) rfl) rfl
theorem w_im_Pi_clearAll : Cond.instanceMethod y_Pi_clearAll ∈ zT := zt1 (List.mem_of_getElem? (i := 205) rfl) rfl
theorem w_se_Pi_clearAll : Cond.selects "BeatHeap$Pile" y_Pi_clearAll y_Pi_clearAll ∈ zT := zt1 (List.mem_of_getElem? (i := 206) rfl) rfl
theorem w_co_Pi_clearAll : Cond.code y_Pi_clearAll prog_5_method_2_code 1 none ∈ zT := zt1 (List.mem_of_getElem? (i := 207) rfl) rfl
theorem w_ml_Co_52 : Cond.methodLink "BeatHeap$Collector" 52 y_Co_rest ∈ zT := zt1 (List.mem_of_getElem? (i := 208) rfl) rfl
theorem w_im_Co_rest : Cond.instanceMethod y_Co_rest ∈ zT := zt1 (List.mem_of_getElem? (i := 210) rfl) rfl
theorem w_co_Co_rest : Cond.code y_Co_rest prog_4_method_3_code 1 none ∈ zT := zt1 (List.mem_of_getElem? (i := 211) rfl) rfl
theorem w_fl_Bh_12 : Cond.fieldLink "BeatHeap" 12 "BeatHeap" "collector" "LBeatHeap$Collector;" ∈ zT := zt1 (List.mem_of_getElem? (i := 212) rfl) rfl
theorem w_fl_Bh_20 : Cond.fieldLink "BeatHeap" 20 "BeatHeap" "blocks" "LBeatHeap$Blocks;" ∈ zT := zt1 (List.mem_of_getElem? (i := 213) rfl) rfl
theorem w_fl_Bh_25 : Cond.fieldLink "BeatHeap" 25 "BeatHeap" "clock" "LBeatHeap$Clock;" ∈ zT := zt1 (List.mem_of_getElem? (i := 214) rfl) rfl
theorem w_fl_Bh_30 : Cond.fieldLink "BeatHeap" 30 "BeatHeap" "roots" "[I" ∈ zT := zt1 (List.mem_of_getElem? (i := 215) rfl) rfl
theorem w_fl_Bh_34 : Cond.fieldLink "BeatHeap" 34 "BeatHeap" "walk" "LBeatHeap$Walk;" ∈ zT := zt1 (List.mem_of_getElem? (i := 216) rfl) rfl
theorem w_fl_Bh_146 : Cond.fieldLink "BeatHeap" 146 "BeatHeap" "misses" "I" ∈ zT := zt1 (List.mem_of_getElem? (i := 217) rfl) rfl
theorem w_ml_La_13 : Cond.methodLink "BeatHeapLaw" 13 y_Bh_begin ∈ zT := zt1 (List.mem_of_getElem? (i := 231) rfl) rfl
theorem w_im_Bh_begin : Cond.instanceMethod y_Bh_begin ∈ zT := zt1 (List.mem_of_getElem? (i := 232) rfl) rfl
theorem w_se_Bh_begin : Cond.selects "BeatHeap" y_Bh_begin y_Bh_begin ∈ zT := zt1 (List.mem_of_getElem? (i := 233) rfl) rfl
theorem w_co_Bh_begin : Cond.code y_Bh_begin prog_1_method_2_code 5 (some .boolean) ∈ zT := zt1 (List.mem_of_getElem? (i := 234) rfl) rfl
theorem w_ml_Bh_42 : Cond.methodLink "BeatHeap" 42 y_Bh_within ∈ zT := zt1 (List.mem_of_getElem? (i := 235) rfl) rfl
theorem w_st_Bh_within : Cond.static y_Bh_within ∈ zT := zt1 (List.mem_of_getElem? (i := 236) rfl) rfl
theorem w_co_Bh_within : Cond.code y_Bh_within prog_1_method_20_code 3 (some .boolean) ∈ zT := zt1 (List.mem_of_getElem? (i := 237) rfl) rfl
theorem w_ml_La_18 : Cond.methodLink "BeatHeapLaw" 18 y_Bh_make ∈ zT := zt1 (List.mem_of_getElem? (i := 238) rfl) rfl
theorem w_im_Bh_make : Cond.instanceMethod y_Bh_make ∈ zT := zt1 (List.mem_of_getElem? (i := 239) rfl) rfl
theorem w_se_Bh_make : Cond.selects "BeatHeap" y_Bh_make y_Bh_make ∈ zT := zt2 (List.mem_of_getElem? (i := 0) rfl) rfl
theorem w_co_Bh_make : Cond.code y_Bh_make prog_1_method_3_code 5 (some .int) ∈ zT := zt2 (List.mem_of_getElem? (i := 1) rfl) rfl
theorem w_ml_Bh_46 : Cond.methodLink "BeatHeap" 46 y_Bh_isRoot ∈ zT := zt2 (List.mem_of_getElem? (i := 2) rfl) rfl
theorem w_st_Bh_isRoot : Cond.static y_Bh_isRoot ∈ zT := zt2 (List.mem_of_getElem? (i := 3) rfl) rfl
theorem w_co_Bh_isRoot : Cond.code y_Bh_isRoot prog_1_method_21_code 1 (some .boolean) ∈ zT := zt2 (List.mem_of_getElem? (i := 4) rfl) rfl
theorem w_ml_Bh_50 : Cond.methodLink "BeatHeap" 50 y_Bh_leastClass ∈ zT := zt2 (List.mem_of_getElem? (i := 5) rfl) rfl
theorem w_st_Bh_leastClass : Cond.static y_Bh_leastClass ∈ zT := zt2 (List.mem_of_getElem? (i := 6) rfl) rfl
theorem w_co_Bh_leastClass : Cond.code y_Bh_leastClass prog_1_method_25_code 2 (some .int) ∈ zT := zt2 (List.mem_of_getElem? (i := 7) rfl) rfl
theorem w_fl_Bh_166 : Cond.fieldLink "BeatHeap" 166 "BeatHeap" "BLOCK_WORDS" "[I" ∈ zT := zt2 (List.mem_of_getElem? (i := 8) rfl) rfl
theorem w_ls_BLOCK_WORDS : Cond.laysStatic "BeatHeap" "BLOCK_WORDS" "[I" ∈ lw_tbl := by decide +kernel
theorem w_ml_Bh_54 : Cond.methodLink "BeatHeap" 54 y_Bh_takeForRoot ∈ zT := zt2 (List.mem_of_getElem? (i := 10) rfl) rfl
theorem w_im_Bh_takeForRoot : Cond.instanceMethod y_Bh_takeForRoot ∈ zT := zt2 (List.mem_of_getElem? (i := 12) rfl) rfl
theorem w_co_Bh_takeForRoot : Cond.code y_Bh_takeForRoot prog_1_method_29_code 7 (some .boolean) ∈ zT := zt2 (List.mem_of_getElem? (i := 13) rfl) rfl
theorem w_ml_Bh_189 : Cond.methodLink "BeatHeap" 189 y_Bh_takeBlock ∈ zT := zt2 (List.mem_of_getElem? (i := 14) rfl) rfl
theorem w_im_Bh_takeBlock : Cond.instanceMethod y_Bh_takeBlock ∈ zT := zt2 (List.mem_of_getElem? (i := 16) rfl) rfl
theorem w_co_Bh_takeBlock : Cond.code y_Bh_takeBlock prog_1_method_31_code 6 (some .int) ∈ zT := zt2 (List.mem_of_getElem? (i := 17) rfl) rfl
theorem w_ml_Bh_193 : Cond.methodLink "BeatHeap" 193 y_Bk_hold ∈ zT := zt2 (List.mem_of_getElem? (i := 18) rfl) rfl
theorem w_im_Bk_hold : Cond.instanceMethod y_Bk_hold ∈ zT := zt2 (List.mem_of_getElem? (i := 19) rfl) rfl
theorem w_se_Bk_hold : Cond.selects "BeatHeap$Blocks" y_Bk_hold y_Bk_hold ∈ zT := zt2 (List.mem_of_getElem? (i := 20) rfl) rfl
theorem w_co_Bk_hold : Cond.code y_Bk_hold prog_2_method_17_code 7 (some .int) ∈ zT := zt2 (List.mem_of_getElem? (i := 21) rfl) rfl
theorem w_ml_Bk_77 : Cond.methodLink "BeatHeap$Blocks" 77 y_Bk_pageWithRoom ∈ zT := zt2 (List.mem_of_getElem? (i := 22) rfl) rfl
theorem w_im_Bk_pageWithRoom : Cond.instanceMethod y_Bk_pageWithRoom ∈ zT := zt2 (List.mem_of_getElem? (i := 24) rfl) rfl
theorem w_co_Bk_pageWithRoom : Cond.code y_Bk_pageWithRoom prog_2_method_18_code 4 (some .int) ∈ zT := zt2 (List.mem_of_getElem? (i := 25) rfl) rfl
theorem w_st_Bh_isClass : Cond.static y_Bh_isClass ∈ zT := zt2 (List.mem_of_getElem? (i := 27) rfl) rfl
theorem w_co_Bh_isClass : Cond.code y_Bh_isClass prog_1_method_22_code 1 (some .boolean) ∈ zT := zt2 (List.mem_of_getElem? (i := 28) rfl) rfl
theorem w_st_Bh_blockWords : Cond.static y_Bh_blockWords ∈ zT := zt2 (List.mem_of_getElem? (i := 30) rfl) rfl
theorem w_co_Bh_blockWords : Cond.code y_Bh_blockWords prog_1_method_23_code 1 (some .int) ∈ zT := zt2 (List.mem_of_getElem? (i := 31) rfl) rfl
theorem w_ml_Bh_169 : Cond.methodLink "BeatHeap" 169 y_Bh_isClass ∈ zT := zt2 (List.mem_of_getElem? (i := 32) rfl) rfl
theorem w_ml_Bk_89 : Cond.methodLink "BeatHeap$Blocks" 89 y_Bk_openPage ∈ zT := zt2 (List.mem_of_getElem? (i := 33) rfl) rfl
theorem w_im_Bk_openPage : Cond.instanceMethod y_Bk_openPage ∈ zT := zt2 (List.mem_of_getElem? (i := 35) rfl) rfl
theorem w_co_Bk_openPage : Cond.code y_Bk_openPage prog_2_method_19_code 3 (some .int) ∈ zT := zt2 (List.mem_of_getElem? (i := 36) rfl) rfl
theorem w_ml_Bk_80 : Cond.methodLink "BeatHeap$Blocks" 80 y_Bk_firstVacant ∈ zT := zt2 (List.mem_of_getElem? (i := 37) rfl) rfl
theorem w_im_Bk_firstVacant : Cond.instanceMethod y_Bk_firstVacant ∈ zT := zt2 (List.mem_of_getElem? (i := 39) rfl) rfl
theorem w_co_Bk_firstVacant : Cond.code y_Bk_firstVacant prog_2_method_20_code 4 (some .int) ∈ zT := zt2 (List.mem_of_getElem? (i := 40) rfl) rfl
theorem w_ml_Bk_74 : Cond.methodLink "BeatHeap$Blocks" 74 y_Bk_isPage ∈ zT := zt2 (List.mem_of_getElem? (i := 41) rfl) rfl
theorem w_im_Bk_isPage : Cond.instanceMethod y_Bk_isPage ∈ zT := zt2 (List.mem_of_getElem? (i := 43) rfl) rfl
theorem w_co_Bk_isPage : Cond.code y_Bk_isPage prog_2_method_4_code 2 (some .boolean) ∈ zT := zt2 (List.mem_of_getElem? (i := 44) rfl) rfl
theorem w_ml_Bk_92 : Cond.methodLink "BeatHeap$Blocks" 92 y_Bk_kindOf ∈ zT := zt2 (List.mem_of_getElem? (i := 45) rfl) rfl
theorem w_im_Bk_kindOf : Cond.instanceMethod y_Bk_kindOf ∈ zT := zt2 (List.mem_of_getElem? (i := 46) rfl) rfl
theorem w_se_Bk_kindOf : Cond.selects "BeatHeap$Blocks" y_Bk_kindOf y_Bk_kindOf ∈ zT := zt2 (List.mem_of_getElem? (i := 47) rfl) rfl
theorem w_co_Bk_kindOf : Cond.code y_Bk_kindOf prog_2_method_9_code 2 (some .int) ∈ zT := zt2 (List.mem_of_getElem? (i := 48) rfl) rfl
theorem w_ml_Bk_62 : Cond.methodLink "BeatHeap$Blocks" 62 y_Bk_isInside ∈ zT := zt2 (List.mem_of_getElem? (i := 49) rfl) rfl
theorem w_im_Bk_isInside : Cond.instanceMethod y_Bk_isInside ∈ zT := zt2 (List.mem_of_getElem? (i := 50) rfl) rfl
theorem w_se_Bk_isInside : Cond.selects "BeatHeap$Blocks" y_Bk_isInside y_Bk_isInside ∈ zT := zt2 (List.mem_of_getElem? (i := 51) rfl) rfl
theorem w_co_Bk_isInside : Cond.code y_Bk_isInside prog_2_method_3_code 2 (some .boolean) ∈ zT := zt2 (List.mem_of_getElem? (i := 52) rfl) rfl
theorem w_ml_Bh_196 : Cond.methodLink "BeatHeap" 196 y_Co_markTaken ∈ zT := zt2 (List.mem_of_getElem? (i := 53) rfl) rfl
theorem w_im_Co_markTaken : Cond.instanceMethod y_Co_markTaken ∈ zT := zt2 (List.mem_of_getElem? (i := 54) rfl) rfl
theorem w_se_Co_markTaken : Cond.selects "BeatHeap$Collector" y_Co_markTaken y_Co_markTaken ∈ zT := zt2 (List.mem_of_getElem? (i := 55) rfl) rfl
theorem w_co_Co_markTaken : Cond.code y_Co_markTaken prog_4_method_14_code 3 none ∈ zT := zt2 (List.mem_of_getElem? (i := 56) rfl) rfl
theorem w_ml_Co_126 : Cond.methodLink "BeatHeap$Collector" 126 y_Bk_setMark ∈ zT := zt2 (List.mem_of_getElem? (i := 57) rfl) rfl
theorem w_im_Bk_setMark : Cond.instanceMethod y_Bk_setMark ∈ zT := zt2 (List.mem_of_getElem? (i := 58) rfl) rfl
theorem w_se_Bk_setMark : Cond.selects "BeatHeap$Blocks" y_Bk_setMark y_Bk_setMark ∈ zT := zt2 (List.mem_of_getElem? (i := 59) rfl) rfl
theorem w_co_Bk_setMark : Cond.code y_Bk_setMark prog_2_method_13_code 3 none ∈ zT := zt2 (List.mem_of_getElem? (i := 60) rfl) rfl
theorem w_ml_Bh_100 : Cond.methodLink "BeatHeap" 100 y_Co_beginCycle ∈ zT := zt2 (List.mem_of_getElem? (i := 61) rfl) rfl
theorem w_im_Co_beginCycle : Cond.instanceMethod y_Co_beginCycle ∈ zT := zt2 (List.mem_of_getElem? (i := 62) rfl) rfl
theorem w_se_Co_beginCycle : Cond.selects "BeatHeap$Collector" y_Co_beginCycle y_Co_beginCycle ∈ zT := zt2 (List.mem_of_getElem? (i := 63) rfl) rfl
theorem w_co_Co_beginCycle : Cond.code y_Co_beginCycle prog_4_method_5_code 1 (some .boolean) ∈ zT := zt2 (List.mem_of_getElem? (i := 64) rfl) rfl
theorem w_ml_Bh_97 : Cond.methodLink "BeatHeap" 97 y_Bh_setRoot ∈ zT := zt2 (List.mem_of_getElem? (i := 65) rfl) rfl
theorem w_im_Bh_setRoot : Cond.instanceMethod y_Bh_setRoot ∈ zT := zt2 (List.mem_of_getElem? (i := 67) rfl) rfl
theorem w_co_Bh_setRoot : Cond.code y_Bh_setRoot prog_1_method_28_code 3 none ∈ zT := zt2 (List.mem_of_getElem? (i := 68) rfl) rfl
theorem w_ml_Bh_88 : Cond.methodLink "BeatHeap" 88 y_Co_greyOld ∈ zT := zt2 (List.mem_of_getElem? (i := 69) rfl) rfl
theorem w_im_Co_greyOld : Cond.instanceMethod y_Co_greyOld ∈ zT := zt2 (List.mem_of_getElem? (i := 70) rfl) rfl
theorem w_se_Co_greyOld : Cond.selects "BeatHeap$Collector" y_Co_greyOld y_Co_greyOld ∈ zT := zt2 (List.mem_of_getElem? (i := 71) rfl) rfl
theorem w_co_Co_greyOld : Cond.code y_Co_greyOld prog_4_method_13_code 2 none ∈ zT := zt2 (List.mem_of_getElem? (i := 72) rfl) rfl
theorem w_ml_Co_106 : Cond.methodLink "BeatHeap$Collector" 106 y_Co_grey ∈ zT := zt2 (List.mem_of_getElem? (i := 73) rfl) rfl
theorem w_im_Co_grey : Cond.instanceMethod y_Co_grey ∈ zT := zt2 (List.mem_of_getElem? (i := 75) rfl) rfl
theorem w_co_Co_grey : Cond.code y_Co_grey prog_4_method_10_code 2 none ∈ zT := zt2 (List.mem_of_getElem? (i := 76) rfl) rfl
theorem w_ml_Co_122 : Cond.methodLink "BeatHeap$Collector" 122 y_Bk_isMarked ∈ zT := zt2 (List.mem_of_getElem? (i := 77) rfl) rfl
theorem w_im_Bk_isMarked : Cond.instanceMethod y_Bk_isMarked ∈ zT := zt2 (List.mem_of_getElem? (i := 78) rfl) rfl
theorem w_se_Bk_isMarked : Cond.selects "BeatHeap$Blocks" y_Bk_isMarked y_Bk_isMarked ∈ zT := zt2 (List.mem_of_getElem? (i := 79) rfl) rfl
theorem w_co_Bk_isMarked : Cond.code y_Bk_isMarked prog_2_method_12_code 2 (some .boolean) ∈ zT := zt2 (List.mem_of_getElem? (i := 80) rfl) rfl
theorem w_ml_Co_130 : Cond.methodLink "BeatHeap$Collector" 130 y_Bk_kindOf ∈ zT := zt2 (List.mem_of_getElem? (i := 81) rfl) rfl
theorem w_ml_Co_133 : Cond.methodLink "BeatHeap$Collector" 133 y_Pi_push ∈ zT := zt2 (List.mem_of_getElem? (i := 82) rfl) rfl
theorem w_im_Pi_push : Cond.instanceMethod y_Pi_push ∈ zT := zt2 (List.mem_of_getElem? (i := 83) rfl) rfl
theorem w_se_Pi_push : Cond.selects "BeatHeap$Pile" y_Pi_push y_Pi_push ∈ zT := zt2 (List.mem_of_getElem? (i := 84) rfl) rfl
theorem w_co_Pi_push : Cond.code y_Pi_push prog_5_method_3_code 2 none ∈ zT := zt2 (List.mem_of_getElem? (i := 85) rfl) rfl
theorem w_ml_Bh_58 : Cond.methodLink "BeatHeap" 58 y_Bh_takeTicks ∈ zT := zt2 (List.mem_of_getElem? (i := 86) rfl) rfl
theorem w_st_Bh_takeTicks : Cond.static y_Bh_takeTicks ∈ zT := zt2 (List.mem_of_getElem? (i := 87) rfl) rfl
theorem w_co_Bh_takeTicks : Cond.code y_Bh_takeTicks prog_1_method_24_code 1 (some .int) ∈ zT := zt2 (List.mem_of_getElem? (i := 88) rfl) rfl
theorem w_fl_Bh_172 : Cond.fieldLink "BeatHeap" 172 "BeatHeap" "TAKE_TICKS" "[I" ∈ zT := zt2 (List.mem_of_getElem? (i := 89) rfl) rfl
theorem w_ls_TAKE_TICKS : Cond.laysStatic "BeatHeap" "TAKE_TICKS" "[I" ∈ lw_tbl := by decide +kernel
theorem w_ml_Bh_61 : Cond.methodLink "BeatHeap" 61 y_Co_spend ∈ zT := zt2 (List.mem_of_getElem? (i := 91) rfl) rfl
theorem w_im_Co_spend : Cond.instanceMethod y_Co_spend ∈ zT := zt2 (List.mem_of_getElem? (i := 92) rfl) rfl
theorem w_se_Co_spend : Cond.selects "BeatHeap$Collector" y_Co_spend y_Co_spend ∈ zT := zt2 (List.mem_of_getElem? (i := 93) rfl) rfl
theorem w_co_Co_spend : Cond.code y_Co_spend prog_4_method_6_code 4 none ∈ zT := zt2 (List.mem_of_getElem? (i := 94) rfl) rfl
theorem w_ml_Co_80 : Cond.methodLink "BeatHeap$Collector" 80 y_Ck_programTicks ∈ zT := zt2 (List.mem_of_getElem? (i := 95) rfl) rfl
theorem w_im_Ck_programTicks : Cond.instanceMethod y_Ck_programTicks ∈ zT := zt2 (List.mem_of_getElem? (i := 96) rfl) rfl
theorem w_se_Ck_programTicks : Cond.selects "BeatHeap$Clock" y_Ck_programTicks y_Ck_programTicks ∈ zT := zt2 (List.mem_of_getElem? (i := 97) rfl) rfl
theorem w_co_Ck_programTicks : Cond.code y_Ck_programTicks prog_3_method_3_code 3 none ∈ zT := zt2 (List.mem_of_getElem? (i := 98) rfl) rfl
theorem w_ml_Ck_28 : Cond.methodLink "BeatHeap$Clock" 28 y_Ck_keep ∈ zT := zt2 (List.mem_of_getElem? (i := 99) rfl) rfl
theorem w_im_Ck_keep : Cond.instanceMethod y_Ck_keep ∈ zT := zt2 (List.mem_of_getElem? (i := 101) rfl) rfl
theorem w_co_Ck_keep : Cond.code y_Ck_keep prog_3_method_5_code 2 none ∈ zT := zt2 (List.mem_of_getElem? (i := 102) rfl) rfl
theorem w_ml_Co_84 : Cond.methodLink "BeatHeap$Collector" 84 y_Co_step ∈ zT := zt2 (List.mem_of_getElem? (i := 103) rfl) rfl
theorem w_im_Co_step : Cond.instanceMethod y_Co_step ∈ zT := zt2 (List.mem_of_getElem? (i := 105) rfl) rfl
theorem w_co_Co_step : Cond.code y_Co_step prog_4_method_7_code 1 none ∈ zT := zt2 (List.mem_of_getElem? (i := 106) rfl) rfl
theorem w_ml_Co_94 : Cond.methodLink "BeatHeap$Collector" 94 y_Ck_collectorTick ∈ zT := zt2 (List.mem_of_getElem? (i := 107) rfl) rfl
theorem w_im_Ck_collectorTick : Cond.instanceMethod y_Ck_collectorTick ∈ zT := zt2 (List.mem_of_getElem? (i := 108) rfl) rfl
theorem w_se_Ck_collectorTick : Cond.selects "BeatHeap$Clock" y_Ck_collectorTick y_Ck_collectorTick ∈ zT := zt2 (List.mem_of_getElem? (i := 109) rfl) rfl
theorem w_co_Ck_collectorTick : Cond.code y_Ck_collectorTick prog_3_method_4_code 1 none ∈ zT := zt2 (List.mem_of_getElem? (i := 110) rfl) rfl
theorem w_ml_Co_97 : Cond.methodLink "BeatHeap$Collector" 97 y_Co_rootsStep ∈ zT := zt2 (List.mem_of_getElem? (i := 111) rfl) rfl
theorem w_im_Co_rootsStep : Cond.instanceMethod y_Co_rootsStep ∈ zT := zt2 (List.mem_of_getElem? (i := 113) rfl) rfl
theorem w_co_Co_rootsStep : Cond.code y_Co_rootsStep prog_4_method_8_code 1 none ∈ zT := zt2 (List.mem_of_getElem? (i := 114) rfl) rfl
theorem w_ml_Co_100 : Cond.methodLink "BeatHeap$Collector" 100 y_Co_markStep ∈ zT := zt2 (List.mem_of_getElem? (i := 115) rfl) rfl
theorem w_im_Co_markStep : Cond.instanceMethod y_Co_markStep ∈ zT := zt2 (List.mem_of_getElem? (i := 117) rfl) rfl
theorem w_co_Co_markStep : Cond.code y_Co_markStep prog_4_method_9_code 1 none ∈ zT := zt2 (List.mem_of_getElem? (i := 118) rfl) rfl
theorem w_ml_Co_109 : Cond.methodLink "BeatHeap$Collector" 109 y_Bk_pointersOf ∈ zT := zt2 (List.mem_of_getElem? (i := 119) rfl) rfl
theorem w_im_Bk_pointersOf : Cond.instanceMethod y_Bk_pointersOf ∈ zT := zt2 (List.mem_of_getElem? (i := 120) rfl) rfl
theorem w_se_Bk_pointersOf : Cond.selects "BeatHeap$Blocks" y_Bk_pointersOf y_Bk_pointersOf ∈ zT := zt2 (List.mem_of_getElem? (i := 121) rfl) rfl
theorem w_co_Bk_pointersOf : Cond.code y_Bk_pointersOf prog_2_method_10_code 2 (some .int) ∈ zT := zt2 (List.mem_of_getElem? (i := 122) rfl) rfl
theorem w_ml_Co_112 : Cond.methodLink "BeatHeap$Collector" 112 y_Bk_pointerAt ∈ zT := zt2 (List.mem_of_getElem? (i := 123) rfl) rfl
theorem w_im_Bk_pointerAt : Cond.instanceMethod y_Bk_pointerAt ∈ zT := zt2 (List.mem_of_getElem? (i := 124) rfl) rfl
theorem w_se_Bk_pointerAt : Cond.selects "BeatHeap$Blocks" y_Bk_pointerAt y_Bk_pointerAt ∈ zT := zt2 (List.mem_of_getElem? (i := 125) rfl) rfl
theorem w_co_Bk_pointerAt : Cond.code y_Bk_pointerAt prog_2_method_7_code 2 (some .int) ∈ zT := zt2 (List.mem_of_getElem? (i := 126) rfl) rfl
theorem w_ml_Bk_66 : Cond.methodLink "BeatHeap$Blocks" 66 y_Bk_wordAt ∈ zT := zt2 (List.mem_of_getElem? (i := 127) rfl) rfl
theorem w_im_Bk_wordAt : Cond.instanceMethod y_Bk_wordAt ∈ zT := zt2 (List.mem_of_getElem? (i := 128) rfl) rfl
theorem w_se_Bk_wordAt : Cond.selects "BeatHeap$Blocks" y_Bk_wordAt y_Bk_wordAt ∈ zT := zt2 (List.mem_of_getElem? (i := 129) rfl) rfl
theorem w_co_Bk_wordAt : Cond.code y_Bk_wordAt prog_2_method_5_code 2 (some .int) ∈ zT := zt2 (List.mem_of_getElem? (i := 130) rfl) rfl
theorem w_ml_Co_115 : Cond.methodLink "BeatHeap$Collector" 115 y_Pi_pop ∈ zT := zt2 (List.mem_of_getElem? (i := 131) rfl) rfl
theorem w_im_Pi_pop : Cond.instanceMethod y_Pi_pop ∈ zT := zt2 (List.mem_of_getElem? (i := 132) rfl) rfl
theorem w_se_Pi_pop : Cond.selects "BeatHeap$Pile" y_Pi_pop y_Pi_pop ∈ zT := zt2 (List.mem_of_getElem? (i := 133) rfl) rfl
theorem w_co_Pi_pop : Cond.code y_Pi_pop prog_5_method_4_code 1 (some .int) ∈ zT := zt2 (List.mem_of_getElem? (i := 134) rfl) rfl
theorem w_ml_Co_119 : Cond.methodLink "BeatHeap$Collector" 119 y_Co_endIfSwept ∈ zT := zt2 (List.mem_of_getElem? (i := 135) rfl) rfl
theorem w_im_Co_endIfSwept : Cond.instanceMethod y_Co_endIfSwept ∈ zT := zt2 (List.mem_of_getElem? (i := 137) rfl) rfl
theorem w_co_Co_endIfSwept : Cond.code y_Co_endIfSwept prog_4_method_12_code 1 none ∈ zT := zt2 (List.mem_of_getElem? (i := 138) rfl) rfl
theorem w_ml_Co_76 : Cond.methodLink "BeatHeap$Collector" 76 y_Bk_blockFrom ∈ zT := zt2 (List.mem_of_getElem? (i := 139) rfl) rfl
theorem w_im_Bk_blockFrom : Cond.instanceMethod y_Bk_blockFrom ∈ zT := zt2 (List.mem_of_getElem? (i := 140) rfl) rfl
theorem w_se_Bk_blockFrom : Cond.selects "BeatHeap$Blocks" y_Bk_blockFrom y_Bk_blockFrom ∈ zT := zt2 (List.mem_of_getElem? (i := 141) rfl) rfl
theorem w_co_Bk_blockFrom : Cond.code y_Bk_blockFrom prog_2_method_21_code 3 (some .int) ∈ zT := zt2 (List.mem_of_getElem? (i := 142) rfl) rfl
theorem w_ml_Bk_95 : Cond.methodLink "BeatHeap$Blocks" 95 y_Ma_max ∈ zT := zt2 (List.mem_of_getElem? (i := 143) rfl) rfl
theorem w_st_Ma_max : Cond.static y_Ma_max ∈ zT := zt2 (List.mem_of_getElem? (i := 144) rfl) rfl
theorem w_co_Ma_max : Cond.code y_Ma_max prog_9_method_65_code 2 (some .int) ∈ zT := zt2 (List.mem_of_getElem? (i := 145) rfl) rfl
theorem w_ml_Co_103 : Cond.methodLink "BeatHeap$Collector" 103 y_Co_sweepStep ∈ zT := zt2 (List.mem_of_getElem? (i := 146) rfl) rfl
theorem w_im_Co_sweepStep : Cond.instanceMethod y_Co_sweepStep ∈ zT := zt2 (List.mem_of_getElem? (i := 148) rfl) rfl
theorem w_co_Co_sweepStep : Cond.code y_Co_sweepStep prog_4_method_11_code 3 none ∈ zT := zt2 (List.mem_of_getElem? (i := 149) rfl) rfl
theorem w_ml_Co_136 : Cond.methodLink "BeatHeap$Collector" 136 y_Bk_wordsOfBlock ∈ zT := zt2 (List.mem_of_getElem? (i := 150) rfl) rfl
theorem w_im_Bk_wordsOfBlock : Cond.instanceMethod y_Bk_wordsOfBlock ∈ zT := zt2 (List.mem_of_getElem? (i := 151) rfl) rfl
theorem w_se_Bk_wordsOfBlock : Cond.selects "BeatHeap$Blocks" y_Bk_wordsOfBlock y_Bk_wordsOfBlock ∈ zT := zt2 (List.mem_of_getElem? (i := 152) rfl) rfl
theorem w_co_Bk_wordsOfBlock : Cond.code y_Bk_wordsOfBlock prog_2_method_22_code 2 (some .int) ∈ zT := zt2 (List.mem_of_getElem? (i := 153) rfl) rfl
theorem w_ml_Bk_98 : Cond.methodLink "BeatHeap$Blocks" 98 y_Bk_classOf ∈ zT := zt2 (List.mem_of_getElem? (i := 154) rfl) rfl
theorem w_im_Bk_classOf : Cond.instanceMethod y_Bk_classOf ∈ zT := zt2 (List.mem_of_getElem? (i := 155) rfl) rfl
theorem w_se_Bk_classOf : Cond.selects "BeatHeap$Blocks" y_Bk_classOf y_Bk_classOf ∈ zT := zt2 (List.mem_of_getElem? (i := 156) rfl) rfl
theorem w_co_Bk_classOf : Cond.code y_Bk_classOf prog_2_method_14_code 2 (some .int) ∈ zT := zt2 (List.mem_of_getElem? (i := 157) rfl) rfl
theorem w_ml_Co_139 : Cond.methodLink "BeatHeap$Collector" 139 y_Bk_release ∈ zT := zt2 (List.mem_of_getElem? (i := 158) rfl) rfl
theorem w_im_Bk_release : Cond.instanceMethod y_Bk_release ∈ zT := zt2 (List.mem_of_getElem? (i := 159) rfl) rfl
theorem w_se_Bk_release : Cond.selects "BeatHeap$Blocks" y_Bk_release y_Bk_release ∈ zT := zt2 (List.mem_of_getElem? (i := 160) rfl) rfl
theorem w_co_Bk_release : Cond.code y_Bk_release prog_2_method_23_code 4 none ∈ zT := zt2 (List.mem_of_getElem? (i := 161) rfl) rfl
theorem w_ml_Bk_70 : Cond.methodLink "BeatHeap$Blocks" 70 y_Bk_setWord ∈ zT := zt2 (List.mem_of_getElem? (i := 162) rfl) rfl
theorem w_im_Bk_setWord : Cond.instanceMethod y_Bk_setWord ∈ zT := zt2 (List.mem_of_getElem? (i := 163) rfl) rfl
theorem w_se_Bk_setWord : Cond.selects "BeatHeap$Blocks" y_Bk_setWord y_Bk_setWord ∈ zT := zt2 (List.mem_of_getElem? (i := 164) rfl) rfl
theorem w_co_Bk_setWord : Cond.code y_Bk_setWord prog_2_method_6_code 3 none ∈ zT := zt2 (List.mem_of_getElem? (i := 165) rfl) rfl
theorem w_ml_Co_143 : Cond.methodLink "BeatHeap$Collector" 143 y_Bk_closeIfEmpty ∈ zT := zt2 (List.mem_of_getElem? (i := 166) rfl) rfl
theorem w_im_Bk_closeIfEmpty : Cond.instanceMethod y_Bk_closeIfEmpty ∈ zT := zt2 (List.mem_of_getElem? (i := 167) rfl) rfl
theorem w_se_Bk_closeIfEmpty : Cond.selects "BeatHeap$Blocks" y_Bk_closeIfEmpty y_Bk_closeIfEmpty ∈ zT := zt2 (List.mem_of_getElem? (i := 168) rfl) rfl
theorem w_co_Bk_closeIfEmpty : Cond.code y_Bk_closeIfEmpty prog_2_method_24_code 2 none ∈ zT := zt2 (List.mem_of_getElem? (i := 169) rfl) rfl
theorem w_ml_Co_90 : Cond.methodLink "BeatHeap$Collector" 90 y_Co_beginCycle ∈ zT := zt2 (List.mem_of_getElem? (i := 170) rfl) rfl
theorem w_ml_La_23 : Cond.methodLink "BeatHeapLaw" 23 y_Bh_array ∈ zT := zt2 (List.mem_of_getElem? (i := 171) rfl) rfl
theorem w_im_Bh_array : Cond.instanceMethod y_Bh_array ∈ zT := zt2 (List.mem_of_getElem? (i := 172) rfl) rfl
theorem w_se_Bh_array : Cond.selects "BeatHeap" y_Bh_array y_Bh_array ∈ zT := zt2 (List.mem_of_getElem? (i := 173) rfl) rfl
theorem w_co_Bh_array : Cond.code y_Bh_array prog_1_method_4_code 6 (some .int) ∈ zT := zt2 (List.mem_of_getElem? (i := 174) rfl) rfl
theorem w_ml_Bh_65 : Cond.methodLink "BeatHeap" 65 y_Bh_takeLeaf ∈ zT := zt2 (List.mem_of_getElem? (i := 175) rfl) rfl
theorem w_im_Bh_takeLeaf : Cond.instanceMethod y_Bh_takeLeaf ∈ zT := zt2 (List.mem_of_getElem? (i := 177) rfl) rfl
theorem w_co_Bh_takeLeaf : Cond.code y_Bh_takeLeaf prog_1_method_30_code 4 (some .boolean) ∈ zT := zt2 (List.mem_of_getElem? (i := 178) rfl) rfl
theorem w_ml_Bh_91 : Cond.methodLink "BeatHeap" 91 y_Bh_rootOrNone ∈ zT := zt2 (List.mem_of_getElem? (i := 179) rfl) rfl
theorem w_im_Bh_rootOrNone : Cond.instanceMethod y_Bh_rootOrNone ∈ zT := zt2 (List.mem_of_getElem? (i := 181) rfl) rfl
theorem w_co_Bh_rootOrNone : Cond.code y_Bh_rootOrNone prog_1_method_27_code 2 (some .int) ∈ zT := zt2 (List.mem_of_getElem? (i := 182) rfl) rfl
theorem w_ml_Bh_94 : Cond.methodLink "BeatHeap" 94 y_Bk_setPointer ∈ zT := zt2 (List.mem_of_getElem? (i := 183) rfl) rfl
theorem w_im_Bk_setPointer : Cond.instanceMethod y_Bk_setPointer ∈ zT := zt2 (List.mem_of_getElem? (i := 184) rfl) rfl
theorem w_se_Bk_setPointer : Cond.selects "BeatHeap$Blocks" y_Bk_setPointer y_Bk_setPointer ∈ zT := zt2 (List.mem_of_getElem? (i := 185) rfl) rfl
theorem w_co_Bk_setPointer : Cond.code y_Bk_setPointer prog_2_method_8_code 3 none ∈ zT := zt2 (List.mem_of_getElem? (i := 186) rfl) rfl
theorem w_ml_La_28 : Cond.methodLink "BeatHeapLaw" 28 y_Bh_put ∈ zT := zt2 (List.mem_of_getElem? (i := 187) rfl) rfl
theorem w_im_Bh_put : Cond.instanceMethod y_Bh_put ∈ zT := zt2 (List.mem_of_getElem? (i := 188) rfl) rfl
theorem w_se_Bh_put : Cond.selects "BeatHeap" y_Bh_put y_Bh_put ∈ zT := zt2 (List.mem_of_getElem? (i := 189) rfl) rfl
theorem w_co_Bh_put : Cond.code y_Bh_put prog_1_method_5_code 5 (some .boolean) ∈ zT := zt2 (List.mem_of_getElem? (i := 190) rfl) rfl
theorem w_ml_Bh_69 : Cond.methodLink "BeatHeap" 69 y_Bh_numberAddress ∈ zT := zt2 (List.mem_of_getElem? (i := 191) rfl) rfl
theorem w_im_Bh_numberAddress : Cond.instanceMethod y_Bh_numberAddress ∈ zT := zt2 (List.mem_of_getElem? (i := 193) rfl) rfl
theorem w_co_Bh_numberAddress : Cond.code y_Bh_numberAddress prog_1_method_32_code 5 (some .int) ∈ zT := zt2 (List.mem_of_getElem? (i := 194) rfl) rfl
theorem w_ml_Bh_107 : Cond.methodLink "BeatHeap" 107 y_Bk_numbersOf ∈ zT := zt2 (List.mem_of_getElem? (i := 195) rfl) rfl
theorem w_im_Bk_numbersOf : Cond.instanceMethod y_Bk_numbersOf ∈ zT := zt2 (List.mem_of_getElem? (i := 196) rfl) rfl
theorem w_se_Bk_numbersOf : Cond.selects "BeatHeap$Blocks" y_Bk_numbersOf y_Bk_numbersOf ∈ zT := zt2 (List.mem_of_getElem? (i := 197) rfl) rfl
theorem w_co_Bk_numbersOf : Cond.code y_Bk_numbersOf prog_2_method_11_code 2 (some .int) ∈ zT := zt2 (List.mem_of_getElem? (i := 198) rfl) rfl
theorem w_ml_Bh_113 : Cond.methodLink "BeatHeap" 113 y_Bk_kindOf ∈ zT := zt2 (List.mem_of_getElem? (i := 199) rfl) rfl
theorem w_ml_Bh_104 : Cond.methodLink "BeatHeap" 104 y_Bk_pointersOf ∈ zT := zt2 (List.mem_of_getElem? (i := 200) rfl) rfl
theorem w_ml_Bh_85 : Cond.methodLink "BeatHeap" 85 y_Bk_pointerAt ∈ zT := zt2 (List.mem_of_getElem? (i := 201) rfl) rfl
theorem w_ml_Bh_73 : Cond.methodLink "BeatHeap" 73 y_Bk_setWord ∈ zT := zt2 (List.mem_of_getElem? (i := 202) rfl) rfl
theorem w_ml_La_33 : Cond.methodLink "BeatHeapLaw" 33 y_Bh_get ∈ zT := zt2 (List.mem_of_getElem? (i := 203) rfl) rfl
theorem w_im_Bh_get : Cond.instanceMethod y_Bh_get ∈ zT := zt2 (List.mem_of_getElem? (i := 204) rfl) rfl
theorem w_se_Bh_get : Cond.selects "BeatHeap" y_Bh_get y_Bh_get ∈ zT := zt2 (List.mem_of_getElem? (i := 205) rfl) rfl
theorem w_co_Bh_get : Cond.code y_Bh_get prog_1_method_6_code 5 (some .int) ∈ zT := zt2 (List.mem_of_getElem? (i := 206) rfl) rfl
theorem w_ml_Bh_79 : Cond.methodLink "BeatHeap" 79 y_Bk_wordAt ∈ zT := zt2 (List.mem_of_getElem? (i := 207) rfl) rfl
theorem w_ml_La_37 : Cond.methodLink "BeatHeapLaw" 37 y_Bh_link ∈ zT := zt2 (List.mem_of_getElem? (i := 208) rfl) rfl
theorem w_im_Bh_link : Cond.instanceMethod y_Bh_link ∈ zT := zt2 (List.mem_of_getElem? (i := 209) rfl) rfl
theorem w_se_Bh_link : Cond.selects "BeatHeap" y_Bh_link y_Bh_link ∈ zT := zt2 (List.mem_of_getElem? (i := 210) rfl) rfl
theorem w_co_Bh_link : Cond.code y_Bh_link prog_1_method_7_code 5 (some .boolean) ∈ zT := zt2 (List.mem_of_getElem? (i := 211) rfl) rfl
theorem w_ml_Bh_82 : Cond.methodLink "BeatHeap" 82 y_Bh_pointerAddress ∈ zT := zt2 (List.mem_of_getElem? (i := 212) rfl) rfl
theorem w_im_Bh_pointerAddress : Cond.instanceMethod y_Bh_pointerAddress ∈ zT := zt2 (List.mem_of_getElem? (i := 214) rfl) rfl
theorem w_co_Bh_pointerAddress : Cond.code y_Bh_pointerAddress prog_1_method_33_code 4 (some .int) ∈ zT := zt2 (List.mem_of_getElem? (i := 215) rfl) rfl
theorem w_ml_La_41 : Cond.methodLink "BeatHeapLaw" 41 y_Bh_follow ∈ zT := zt2 (List.mem_of_getElem? (i := 216) rfl) rfl
theorem w_im_Bh_follow : Cond.instanceMethod y_Bh_follow ∈ zT := zt2 (List.mem_of_getElem? (i := 217) rfl) rfl
theorem w_se_Bh_follow : Cond.selects "BeatHeap" y_Bh_follow y_Bh_follow ∈ zT := zt2 (List.mem_of_getElem? (i := 218) rfl) rfl
theorem w_co_Bh_follow : Cond.code y_Bh_follow prog_1_method_8_code 5 (some .boolean) ∈ zT := zt2 (List.mem_of_getElem? (i := 219) rfl) rfl
theorem w_ml_La_45 : Cond.methodLink "BeatHeapLaw" 45 y_Bh_move ∈ zT := zt2 (List.mem_of_getElem? (i := 220) rfl) rfl
theorem w_im_Bh_move : Cond.instanceMethod y_Bh_move ∈ zT := zt2 (List.mem_of_getElem? (i := 221) rfl) rfl
theorem w_se_Bh_move : Cond.selects "BeatHeap" y_Bh_move y_Bh_move ∈ zT := zt2 (List.mem_of_getElem? (i := 222) rfl) rfl
theorem w_co_Bh_move : Cond.code y_Bh_move prog_1_method_9_code 3 (some .boolean) ∈ zT := zt2 (List.mem_of_getElem? (i := 223) rfl) rfl
theorem w_ml_La_50 : Cond.methodLink "BeatHeapLaw" 50 y_Bh_drop ∈ zT := zt2 (List.mem_of_getElem? (i := 224) rfl) rfl
theorem w_im_Bh_drop : Cond.instanceMethod y_Bh_drop ∈ zT := zt2 (List.mem_of_getElem? (i := 225) rfl) rfl
theorem w_se_Bh_drop : Cond.selects "BeatHeap" y_Bh_drop y_Bh_drop ∈ zT := zt2 (List.mem_of_getElem? (i := 226) rfl) rfl
theorem w_co_Bh_drop : Cond.code y_Bh_drop prog_1_method_10_code 2 (some .boolean) ∈ zT := zt2 (List.mem_of_getElem? (i := 227) rfl) rfl
theorem w_ml_La_55 : Cond.methodLink "BeatHeapLaw" 55 y_Bh_idle ∈ zT := zt2 (List.mem_of_getElem? (i := 228) rfl) rfl
theorem w_im_Bh_idle : Cond.instanceMethod y_Bh_idle ∈ zT := zt2 (List.mem_of_getElem? (i := 229) rfl) rfl
theorem w_se_Bh_idle : Cond.selects "BeatHeap" y_Bh_idle y_Bh_idle ∈ zT := zt2 (List.mem_of_getElem? (i := 230) rfl) rfl
theorem w_co_Bh_idle : Cond.code y_Bh_idle prog_1_method_11_code 3 (some .boolean) ∈ zT := zt2 (List.mem_of_getElem? (i := 231) rfl) rfl
theorem w_ml_La_59 : Cond.methodLink "BeatHeapLaw" 59 y_Bh_start ∈ zT := zt2 (List.mem_of_getElem? (i := 232) rfl) rfl
theorem w_im_Bh_start : Cond.instanceMethod y_Bh_start ∈ zT := zt2 (List.mem_of_getElem? (i := 233) rfl) rfl
theorem w_se_Bh_start : Cond.selects "BeatHeap" y_Bh_start y_Bh_start ∈ zT := zt2 (List.mem_of_getElem? (i := 234) rfl) rfl
theorem w_co_Bh_start : Cond.code y_Bh_start prog_1_method_12_code 1 (some .boolean) ∈ zT := zt2 (List.mem_of_getElem? (i := 235) rfl) rfl
theorem w_ml_La_64 : Cond.methodLink "BeatHeapLaw" 64 y_Bh_root ∈ zT := zt2 (List.mem_of_getElem? (i := 236) rfl) rfl
theorem w_im_Bh_root : Cond.instanceMethod y_Bh_root ∈ zT := zt2 (List.mem_of_getElem? (i := 237) rfl) rfl
theorem w_se_Bh_root : Cond.selects "BeatHeap" y_Bh_root y_Bh_root ∈ zT := zt2 (List.mem_of_getElem? (i := 238) rfl) rfl
theorem w_co_Bh_root : Cond.code y_Bh_root prog_1_method_13_code 4 (some .int) ∈ zT := zt2 (List.mem_of_getElem? (i := 239) rfl) rfl
theorem w_ml_Bh_110 : Cond.methodLink "BeatHeap" 110 y_Bk_isMarked ∈ zT := zt3 (List.mem_of_getElem? (i := 0) rfl) rfl
theorem w_ml_La_68 : Cond.methodLink "BeatHeapLaw" 68 y_Bh_word ∈ zT := zt3 (List.mem_of_getElem? (i := 1) rfl) rfl
theorem w_im_Bh_word : Cond.instanceMethod y_Bh_word ∈ zT := zt3 (List.mem_of_getElem? (i := 2) rfl) rfl
theorem w_se_Bh_word : Cond.selects "BeatHeap" y_Bh_word y_Bh_word ∈ zT := zt3 (List.mem_of_getElem? (i := 3) rfl) rfl
theorem w_co_Bh_word : Cond.code y_Bh_word prog_1_method_14_code 2 (some .int) ∈ zT := zt3 (List.mem_of_getElem? (i := 4) rfl) rfl
theorem w_ml_Bh_116 : Cond.methodLink "BeatHeap" 116 y_Bk_isInside ∈ zT := zt3 (List.mem_of_getElem? (i := 5) rfl) rfl
theorem w_ml_La_73 : Cond.methodLink "BeatHeapLaw" 73 y_Bh_page ∈ zT := zt3 (List.mem_of_getElem? (i := 6) rfl) rfl
theorem w_im_Bh_page : Cond.instanceMethod y_Bh_page ∈ zT := zt3 (List.mem_of_getElem? (i := 7) rfl) rfl
theorem w_se_Bh_page : Cond.selects "BeatHeap" y_Bh_page y_Bh_page ∈ zT := zt3 (List.mem_of_getElem? (i := 8) rfl) rfl
theorem w_co_Bh_page : Cond.code y_Bh_page prog_1_method_15_code 3 (some .int) ∈ zT := zt3 (List.mem_of_getElem? (i := 9) rfl) rfl
theorem w_ml_Bh_119 : Cond.methodLink "BeatHeap" 119 y_Bk_classOf ∈ zT := zt3 (List.mem_of_getElem? (i := 10) rfl) rfl
theorem w_ml_Bh_122 : Cond.methodLink "BeatHeap" 122 y_Bk_heldIn ∈ zT := zt3 (List.mem_of_getElem? (i := 11) rfl) rfl
theorem w_im_Bk_heldIn : Cond.instanceMethod y_Bk_heldIn ∈ zT := zt3 (List.mem_of_getElem? (i := 12) rfl) rfl
theorem w_se_Bk_heldIn : Cond.selects "BeatHeap$Blocks" y_Bk_heldIn y_Bk_heldIn ∈ zT := zt3 (List.mem_of_getElem? (i := 13) rfl) rfl
theorem w_co_Bk_heldIn : Cond.code y_Bk_heldIn prog_2_method_15_code 2 (some .int) ∈ zT := zt3 (List.mem_of_getElem? (i := 14) rfl) rfl
theorem w_ml_Bh_125 : Cond.methodLink "BeatHeap" 125 y_Bk_markedIn ∈ zT := zt3 (List.mem_of_getElem? (i := 15) rfl) rfl
theorem w_im_Bk_markedIn : Cond.instanceMethod y_Bk_markedIn ∈ zT := zt3 (List.mem_of_getElem? (i := 16) rfl) rfl
theorem w_se_Bk_markedIn : Cond.selects "BeatHeap$Blocks" y_Bk_markedIn y_Bk_markedIn ∈ zT := zt3 (List.mem_of_getElem? (i := 17) rfl) rfl
theorem w_co_Bk_markedIn : Cond.code y_Bk_markedIn prog_2_method_16_code 4 (some .int) ∈ zT := zt3 (List.mem_of_getElem? (i := 18) rfl) rfl
theorem w_ml_La_77 : Cond.methodLink "BeatHeapLaw" 77 y_Bh_count ∈ zT := zt3 (List.mem_of_getElem? (i := 19) rfl) rfl
theorem w_im_Bh_count : Cond.instanceMethod y_Bh_count ∈ zT := zt3 (List.mem_of_getElem? (i := 20) rfl) rfl
theorem w_se_Bh_count : Cond.selects "BeatHeap" y_Bh_count y_Bh_count ∈ zT := zt3 (List.mem_of_getElem? (i := 21) rfl) rfl
theorem w_co_Bh_count : Cond.code y_Bh_count prog_1_method_16_code 2 (some .int) ∈ zT := zt3 (List.mem_of_getElem? (i := 22) rfl) rfl
theorem w_ml_Bh_149 : Cond.methodLink "BeatHeap" 149 y_Co_countOf ∈ zT := zt3 (List.mem_of_getElem? (i := 23) rfl) rfl
theorem w_im_Co_countOf : Cond.instanceMethod y_Co_countOf ∈ zT := zt3 (List.mem_of_getElem? (i := 24) rfl) rfl
theorem w_se_Co_countOf : Cond.selects "BeatHeap$Collector" y_Co_countOf y_Co_countOf ∈ zT := zt3 (List.mem_of_getElem? (i := 25) rfl) rfl
theorem w_co_Co_countOf : Cond.code y_Co_countOf prog_4_method_4_code 2 (some .int) ∈ zT := zt3 (List.mem_of_getElem? (i := 26) rfl) rfl
theorem w_ml_La_81 : Cond.methodLink "BeatHeapLaw" 81 y_Bh_share ∈ zT := zt3 (List.mem_of_getElem? (i := 27) rfl) rfl
theorem w_im_Bh_share : Cond.instanceMethod y_Bh_share ∈ zT := zt3 (List.mem_of_getElem? (i := 28) rfl) rfl
theorem w_se_Bh_share : Cond.selects "BeatHeap" y_Bh_share y_Bh_share ∈ zT := zt3 (List.mem_of_getElem? (i := 29) rfl) rfl
theorem w_co_Bh_share : Cond.code y_Bh_share prog_1_method_17_code 2 (some .int) ∈ zT := zt3 (List.mem_of_getElem? (i := 30) rfl) rfl
theorem w_ml_Bh_152 : Cond.methodLink "BeatHeap" 152 y_Ck_fewestPrograms ∈ zT := zt3 (List.mem_of_getElem? (i := 31) rfl) rfl
theorem w_im_Ck_fewestPrograms : Cond.instanceMethod y_Ck_fewestPrograms ∈ zT := zt3 (List.mem_of_getElem? (i := 32) rfl) rfl
theorem w_se_Ck_fewestPrograms : Cond.selects "BeatHeap$Clock" y_Ck_fewestPrograms y_Ck_fewestPrograms ∈ zT := zt3 (List.mem_of_getElem? (i := 33) rfl) rfl
theorem w_co_Ck_fewestPrograms : Cond.code y_Ck_fewestPrograms prog_3_method_7_code 5 (some .int) ∈ zT := zt3 (List.mem_of_getElem? (i := 34) rfl) rfl
theorem w_ml_Ck_42 : Cond.methodLink "BeatHeap$Clock" 42 y_Ck_keptAt ∈ zT := zt3 (List.mem_of_getElem? (i := 36) rfl) rfl
theorem w_im_Ck_keptAt : Cond.instanceMethod y_Ck_keptAt ∈ zT := zt3 (List.mem_of_getElem? (i := 38) rfl) rfl
theorem w_co_Ck_keptAt : Cond.code y_Ck_keptAt prog_3_method_6_code 2 (some .int) ∈ zT := zt3 (List.mem_of_getElem? (i := 39) rfl) rfl
theorem w_ml_Ck_32 : Cond.methodLink "BeatHeap$Clock" 32 y_Ma_floorMod ∈ zT := zt3 (List.mem_of_getElem? (i := 40) rfl) rfl
theorem w_st_Ma_floorMod : Cond.static y_Ma_floorMod ∈ zT := zt3 (List.mem_of_getElem? (i := 41) rfl) rfl
theorem w_co_Ma_floorMod : Cond.code y_Ma_floorMod prog_9_method_50_code 3 (some .int) ∈ zT := zt3 (List.mem_of_getElem? (i := 42) rfl) rfl
theorem w_ml_Ck_46 : Cond.methodLink "BeatHeap$Clock" 46 y_Ma_min ∈ zT := zt3 (List.mem_of_getElem? (i := 43) rfl) rfl
theorem w_ml_La_85 : Cond.methodLink "BeatHeapLaw" 85 y_Bh_reachable ∈ zT := zt3 (List.mem_of_getElem? (i := 44) rfl) rfl
theorem w_im_Bh_reachable : Cond.instanceMethod y_Bh_reachable ∈ zT := zt3 (List.mem_of_getElem? (i := 45) rfl) rfl
theorem w_se_Bh_reachable : Cond.selects "BeatHeap" y_Bh_reachable y_Bh_reachable ∈ zT := zt3 (List.mem_of_getElem? (i := 46) rfl) rfl
theorem w_co_Bh_reachable : Cond.code y_Bh_reachable prog_1_method_18_code 1 (some .int) ∈ zT := zt3 (List.mem_of_getElem? (i := 47) rfl) rfl
theorem w_ml_Bh_155 : Cond.methodLink "BeatHeap" 155 y_Wa_goFrom ∈ zT := zt3 (List.mem_of_getElem? (i := 48) rfl) rfl
theorem w_im_Wa_goFrom : Cond.instanceMethod y_Wa_goFrom ∈ zT := zt3 (List.mem_of_getElem? (i := 49) rfl) rfl
theorem w_se_Wa_goFrom : Cond.selects "BeatHeap$Walk" y_Wa_goFrom y_Wa_goFrom ∈ zT := zt3 (List.mem_of_getElem? (i := 50) rfl) rfl
theorem w_co_Wa_goFrom : Cond.code y_Wa_goFrom prog_6_method_2_code 7 none ∈ zT := zt3 (List.mem_of_getElem? (i := 51) rfl) rfl
theorem w_ml_Wa_22 : Cond.methodLink "BeatHeap$Walk" 22 y_Ar_fillB ∈ zT := zt3 (List.mem_of_getElem? (i := 52) rfl) rfl
theorem w_ml_Wa_28 : Cond.methodLink "BeatHeap$Walk" 28 y_Pi_clearAll ∈ zT := zt3 (List.mem_of_getElem? (i := 53) rfl) rfl
theorem w_ml_Wa_39 : Cond.methodLink "BeatHeap$Walk" 39 y_Wa_comeTo ∈ zT := zt3 (List.mem_of_getElem? (i := 54) rfl) rfl
theorem w_im_Wa_comeTo : Cond.instanceMethod y_Wa_comeTo ∈ zT := zt3 (List.mem_of_getElem? (i := 56) rfl) rfl
theorem w_co_Wa_comeTo : Cond.code y_Wa_comeTo prog_6_method_4_code 6 none ∈ zT := zt3 (List.mem_of_getElem? (i := 57) rfl) rfl
theorem w_ml_Wa_54 : Cond.methodLink "BeatHeap$Walk" 54 y_Bk_kindOf ∈ zT := zt3 (List.mem_of_getElem? (i := 58) rfl) rfl
theorem w_ml_Wa_66 : Cond.methodLink "BeatHeap$Walk" 66 y_Pi_push ∈ zT := zt3 (List.mem_of_getElem? (i := 59) rfl) rfl
theorem w_ml_Wa_46 : Cond.methodLink "BeatHeap$Walk" 46 y_Pi_pop ∈ zT := zt3 (List.mem_of_getElem? (i := 60) rfl) rfl
theorem w_ml_Wa_50 : Cond.methodLink "BeatHeap$Walk" 50 y_Wa_comeToPartsOf ∈ zT := zt3 (List.mem_of_getElem? (i := 61) rfl) rfl
theorem w_im_Wa_comeToPartsOf : Cond.instanceMethod y_Wa_comeToPartsOf ∈ zT := zt3 (List.mem_of_getElem? (i := 63) rfl) rfl
theorem w_co_Wa_comeToPartsOf : Cond.code y_Wa_comeToPartsOf prog_6_method_3_code 6 none ∈ zT := zt3 (List.mem_of_getElem? (i := 64) rfl) rfl
theorem w_ml_Wa_60 : Cond.methodLink "BeatHeap$Walk" 60 y_Bk_pointersOf ∈ zT := zt3 (List.mem_of_getElem? (i := 65) rfl) rfl
theorem w_ml_Wa_63 : Cond.methodLink "BeatHeap$Walk" 63 y_Bk_pointerAt ∈ zT := zt3 (List.mem_of_getElem? (i := 66) rfl) rfl
theorem w_ml_La_90 : Cond.methodLink "BeatHeapLaw" 90 y_Bh_whole ∈ zT := zt3 (List.mem_of_getElem? (i := 67) rfl) rfl
theorem w_im_Bh_whole : Cond.instanceMethod y_Bh_whole ∈ zT := zt3 (List.mem_of_getElem? (i := 68) rfl) rfl
theorem w_se_Bh_whole : Cond.selects "BeatHeap" y_Bh_whole y_Bh_whole ∈ zT := zt3 (List.mem_of_getElem? (i := 69) rfl) rfl
theorem w_co_Bh_whole : Cond.code y_Bh_whole prog_1_method_19_code 1 (some .boolean) ∈ zT := zt3 (List.mem_of_getElem? (i := 70) rfl) rfl
theorem w_cl_La_10 : Cond.classLink "BeatHeapLaw" 10 "BeatHeapModel" ∈ zT := zt3 (List.mem_of_getElem? (i := 71) rfl) rfl
theorem w_ia_Mo : Cond.instantiable "BeatHeapModel" 28 ∈ zT := zt3 (List.mem_of_getElem? (i := 72) rfl) rfl
theorem w_ml_La_12 : Cond.methodLink "BeatHeapLaw" 12 y_Mo_init ∈ zT := zt3 (List.mem_of_getElem? (i := 73) rfl) rfl
theorem w_im_Mo_init : Cond.instanceMethod y_Mo_init ∈ zT := zt3 (List.mem_of_getElem? (i := 74) rfl) rfl
theorem w_co_Mo_init : Cond.code y_Mo_init prog_8_method_1_code 1 none ∈ zT := zt3 (List.mem_of_getElem? (i := 75) rfl) rfl
theorem w_ml_Mo_1 : Cond.methodLink "BeatHeapModel" 1 objectInit ∈ zT := zt3 (List.mem_of_getElem? (i := 76) rfl) rfl
theorem w_ml_Mo_41 : Cond.methodLink "BeatHeapModel" 41 y_Mo_begin ∈ zT := zt3 (List.mem_of_getElem? (i := 77) rfl) rfl
theorem w_im_Mo_begin : Cond.instanceMethod y_Mo_begin ∈ zT := zt3 (List.mem_of_getElem? (i := 78) rfl) rfl
theorem w_se_Mo_begin : Cond.selects "BeatHeapModel" y_Mo_begin y_Mo_begin ∈ zT := zt3 (List.mem_of_getElem? (i := 79) rfl) rfl
theorem w_co_Mo_begin : Cond.code y_Mo_begin prog_8_method_3_code 6 (some .boolean) ∈ zT := zt3 (List.mem_of_getElem? (i := 80) rfl) rfl
theorem w_fl_Mo_45 : Cond.fieldLink "BeatHeapModel" 45 "BeatHeapModel" "pages" "I" ∈ zT := zt3 (List.mem_of_getElem? (i := 81) rfl) rfl
theorem w_fl_Mo_49 : Cond.fieldLink "BeatHeapModel" 49 "BeatHeapModel" "quantum" "I" ∈ zT := zt3 (List.mem_of_getElem? (i := 82) rfl) rfl
theorem w_fl_Mo_52 : Cond.fieldLink "BeatHeapModel" 52 "BeatHeapModel" "collectorQuantum" "I" ∈ zT := zt3 (List.mem_of_getElem? (i := 83) rfl) rfl
theorem w_fl_Mo_55 : Cond.fieldLink "BeatHeapModel" 55 "BeatHeapModel" "trigger" "I" ∈ zT := zt3 (List.mem_of_getElem? (i := 84) rfl) rfl
theorem w_fl_Mo_7 : Cond.fieldLink "BeatHeapModel" 7 "BeatHeapModel" "words" "[I" ∈ zT := zt3 (List.mem_of_getElem? (i := 85) rfl) rfl
theorem w_fl_Mo_13 : Cond.fieldLink "BeatHeapModel" 13 "BeatHeapModel" "pageClass" "[I" ∈ zT := zt3 (List.mem_of_getElem? (i := 86) rfl) rfl
theorem w_fl_Mo_16 : Cond.fieldLink "BeatHeapModel" 16 "BeatHeapModel" "kind" "[I" ∈ zT := zt3 (List.mem_of_getElem? (i := 87) rfl) rfl
theorem w_fl_Mo_19 : Cond.fieldLink "BeatHeapModel" 19 "BeatHeapModel" "isMarked" "[Z" ∈ zT := zt3 (List.mem_of_getElem? (i := 88) rfl) rfl
theorem w_fl_Mo_23 : Cond.fieldLink "BeatHeapModel" 23 "BeatHeapModel" "pointers" "[I" ∈ zT := zt3 (List.mem_of_getElem? (i := 89) rfl) rfl
theorem w_fl_Mo_26 : Cond.fieldLink "BeatHeapModel" 26 "BeatHeapModel" "numbers" "[I" ∈ zT := zt3 (List.mem_of_getElem? (i := 90) rfl) rfl
theorem w_fl_Mo_29 : Cond.fieldLink "BeatHeapModel" 29 "BeatHeapModel" "roots" "[I" ∈ zT := zt3 (List.mem_of_getElem? (i := 91) rfl) rfl
theorem w_fl_Mo_32 : Cond.fieldLink "BeatHeapModel" 32 "BeatHeapModel" "pile" "[I" ∈ zT := zt3 (List.mem_of_getElem? (i := 92) rfl) rfl
theorem w_fl_Mo_58 : Cond.fieldLink "BeatHeapModel" 58 "BeatHeapModel" "piled" "I" ∈ zT := zt3 (List.mem_of_getElem? (i := 93) rfl) rfl
theorem w_fl_Mo_61 : Cond.fieldLink "BeatHeapModel" 61 "BeatHeapModel" "part" "I" ∈ zT := zt3 (List.mem_of_getElem? (i := 94) rfl) rfl
theorem w_fl_Mo_92 : Cond.fieldLink "BeatHeapModel" 92 "BeatHeapModel" "nextRoot" "I" ∈ zT := zt3 (List.mem_of_getElem? (i := 95) rfl) rfl
theorem w_fl_Mo_64 : Cond.fieldLink "BeatHeapModel" 64 "BeatHeapModel" "hand" "I" ∈ zT := zt3 (List.mem_of_getElem? (i := 96) rfl) rfl
theorem w_fl_Mo_122 : Cond.fieldLink "BeatHeapModel" 122 "BeatHeapModel" "handNext" "I" ∈ zT := zt3 (List.mem_of_getElem? (i := 97) rfl) rfl
theorem w_fl_Mo_67 : Cond.fieldLink "BeatHeapModel" 67 "BeatHeapModel" "place" "I" ∈ zT := zt3 (List.mem_of_getElem? (i := 98) rfl) rfl
theorem w_fl_Mo_70 : Cond.fieldLink "BeatHeapModel" 70 "BeatHeapModel" "credit" "I" ∈ zT := zt3 (List.mem_of_getElem? (i := 99) rfl) rfl
theorem w_fl_Mo_73 : Cond.fieldLink "BeatHeapModel" 73 "BeatHeapModel" "cycles" "I" ∈ zT := zt3 (List.mem_of_getElem? (i := 100) rfl) rfl
theorem w_fl_Mo_76 : Cond.fieldLink "BeatHeapModel" 76 "BeatHeapModel" "freed" "I" ∈ zT := zt3 (List.mem_of_getElem? (i := 101) rfl) rfl
theorem w_fl_Mo_79 : Cond.fieldLink "BeatHeapModel" 79 "BeatHeapModel" "failures" "I" ∈ zT := zt3 (List.mem_of_getElem? (i := 102) rfl) rfl
theorem w_fl_Mo_82 : Cond.fieldLink "BeatHeapModel" 82 "BeatHeapModel" "programTicks" "I" ∈ zT := zt3 (List.mem_of_getElem? (i := 103) rfl) rfl
theorem w_fl_Mo_85 : Cond.fieldLink "BeatHeapModel" 85 "BeatHeapModel" "collectorTicks" "I" ∈ zT := zt3 (List.mem_of_getElem? (i := 104) rfl) rfl
theorem w_fl_Mo_35 : Cond.fieldLink "BeatHeapModel" 35 "BeatHeapModel" "isProgram" "[Z" ∈ zT := zt3 (List.mem_of_getElem? (i := 105) rfl) rfl
theorem w_fl_Mo_38 : Cond.fieldLink "BeatHeapModel" 38 "BeatHeapModel" "isMet" "[Z" ∈ zT := zt3 (List.mem_of_getElem? (i := 106) rfl) rfl
theorem w_fl_Mo_164 : Cond.fieldLink "BeatHeapModel" 164 "BeatHeapModel" "met" "I" ∈ zT := zt3 (List.mem_of_getElem? (i := 107) rfl) rfl
theorem w_fl_Mo_167 : Cond.fieldLink "BeatHeapModel" 167 "BeatHeapModel" "isThere" "Z" ∈ zT := zt3 (List.mem_of_getElem? (i := 108) rfl) rfl
theorem w_ac_boolean : Cond.arrayClass .boolean ∈ zT := zt3 (List.mem_of_getElem? (i := 166) rfl) rfl
theorem w_ml_La_17 : Cond.methodLink "BeatHeapLaw" 17 y_Mo_begin ∈ zT := zt3 (List.mem_of_getElem? (i := 167) rfl) rfl
theorem w_ml_La_22 : Cond.methodLink "BeatHeapLaw" 22 y_Mo_make ∈ zT := zt3 (List.mem_of_getElem? (i := 168) rfl) rfl
theorem w_im_Mo_make : Cond.instanceMethod y_Mo_make ∈ zT := zt3 (List.mem_of_getElem? (i := 169) rfl) rfl
theorem w_se_Mo_make : Cond.selects "BeatHeapModel" y_Mo_make y_Mo_make ∈ zT := zt3 (List.mem_of_getElem? (i := 170) rfl) rfl
theorem w_co_Mo_make : Cond.code y_Mo_make prog_8_method_23_code 6 (some .int) ∈ zT := zt3 (List.mem_of_getElem? (i := 171) rfl) rfl
theorem w_ml_Mo_134 : Cond.methodLink "BeatHeapModel" 134 y_Mo_isRoot ∈ zT := zt3 (List.mem_of_getElem? (i := 172) rfl) rfl
theorem w_st_Mo_isRoot : Cond.static y_Mo_isRoot ∈ zT := zt3 (List.mem_of_getElem? (i := 173) rfl) rfl
theorem w_co_Mo_isRoot : Cond.code y_Mo_isRoot prog_8_method_20_code 1 (some .boolean) ∈ zT := zt3 (List.mem_of_getElem? (i := 174) rfl) rfl
theorem w_ml_Mo_138 : Cond.methodLink "BeatHeapModel" 138 y_Mo_classFor ∈ zT := zt3 (List.mem_of_getElem? (i := 175) rfl) rfl
theorem w_st_Mo_classFor : Cond.static y_Mo_classFor ∈ zT := zt3 (List.mem_of_getElem? (i := 176) rfl) rfl
theorem w_co_Mo_classFor : Cond.code y_Mo_classFor prog_8_method_5_code 2 (some .int) ∈ zT := zt3 (List.mem_of_getElem? (i := 177) rfl) rfl
theorem w_ml_Mo_88 : Cond.methodLink "BeatHeapModel" 88 y_Mo_sizeOf ∈ zT := zt3 (List.mem_of_getElem? (i := 178) rfl) rfl
theorem w_st_Mo_sizeOf : Cond.static y_Mo_sizeOf ∈ zT := zt3 (List.mem_of_getElem? (i := 179) rfl) rfl
theorem w_co_Mo_sizeOf : Cond.code y_Mo_sizeOf prog_8_method_4_code 1 (some .int) ∈ zT := zt3 (List.mem_of_getElem? (i := 180) rfl) rfl
theorem w_ml_Mo_141 : Cond.methodLink "BeatHeapModel" 141 y_Mo_take ∈ zT := zt3 (List.mem_of_getElem? (i := 181) rfl) rfl
theorem w_im_Mo_take : Cond.instanceMethod y_Mo_take ∈ zT := zt3 (List.mem_of_getElem? (i := 183) rfl) rfl
theorem w_co_Mo_take : Cond.code y_Mo_take prog_8_method_18_code 6 (some .int) ∈ zT := zt3 (List.mem_of_getElem? (i := 184) rfl) rfl
theorem w_ml_Mo_145 : Cond.methodLink "BeatHeapModel" 145 y_Mo_failed ∈ zT := zt3 (List.mem_of_getElem? (i := 185) rfl) rfl
theorem w_im_Mo_failed : Cond.instanceMethod y_Mo_failed ∈ zT := zt3 (List.mem_of_getElem? (i := 187) rfl) rfl
theorem w_co_Mo_failed : Cond.code y_Mo_failed prog_8_method_22_code 1 (some .int) ∈ zT := zt3 (List.mem_of_getElem? (i := 188) rfl) rfl
theorem w_ml_Mo_106 : Cond.methodLink "BeatHeapModel" 106 y_Mo_beginCycle ∈ zT := zt3 (List.mem_of_getElem? (i := 189) rfl) rfl
theorem w_im_Mo_beginCycle : Cond.instanceMethod y_Mo_beginCycle ∈ zT := zt3 (List.mem_of_getElem? (i := 191) rfl) rfl
theorem w_co_Mo_beginCycle : Cond.code y_Mo_beginCycle prog_8_method_9_code 1 none ∈ zT := zt3 (List.mem_of_getElem? (i := 192) rfl) rfl
theorem w_ml_Mo_148 : Cond.methodLink "BeatHeapModel" 148 y_Mo_setRoot ∈ zT := zt3 (List.mem_of_getElem? (i := 193) rfl) rfl
theorem w_im_Mo_setRoot : Cond.instanceMethod y_Mo_setRoot ∈ zT := zt3 (List.mem_of_getElem? (i := 195) rfl) rfl
theorem w_co_Mo_setRoot : Cond.code y_Mo_setRoot prog_8_method_21_code 3 none ∈ zT := zt3 (List.mem_of_getElem? (i := 196) rfl) rfl
theorem w_ml_Mo_131 : Cond.methodLink "BeatHeapModel" 131 y_Mo_before ∈ zT := zt3 (List.mem_of_getElem? (i := 197) rfl) rfl
theorem w_im_Mo_before : Cond.instanceMethod y_Mo_before ∈ zT := zt3 (List.mem_of_getElem? (i := 199) rfl) rfl
theorem w_co_Mo_before : Cond.code y_Mo_before prog_8_method_12_code 2 none ∈ zT := zt3 (List.mem_of_getElem? (i := 200) rfl) rfl
theorem w_ml_Mo_109 : Cond.methodLink "BeatHeapModel" 109 y_Mo_grey ∈ zT := zt3 (List.mem_of_getElem? (i := 201) rfl) rfl
theorem w_im_Mo_grey : Cond.instanceMethod y_Mo_grey ∈ zT := zt3 (List.mem_of_getElem? (i := 203) rfl) rfl
theorem w_co_Mo_grey : Cond.code y_Mo_grey prog_8_method_11_code 2 none ∈ zT := zt3 (List.mem_of_getElem? (i := 204) rfl) rfl
theorem w_ml_Mo_152 : Cond.methodLink "BeatHeapModel" 152 y_Mo_ticksOf ∈ zT := zt3 (List.mem_of_getElem? (i := 205) rfl) rfl
theorem w_st_Mo_ticksOf : Cond.static y_Mo_ticksOf ∈ zT := zt3 (List.mem_of_getElem? (i := 206) rfl) rfl
theorem w_co_Mo_ticksOf : Cond.code y_Mo_ticksOf prog_8_method_19_code 1 (some .int) ∈ zT := zt3 (List.mem_of_getElem? (i := 207) rfl) rfl
theorem w_ml_Mo_155 : Cond.methodLink "BeatHeapModel" 155 y_Mo_did ∈ zT := zt3 (List.mem_of_getElem? (i := 208) rfl) rfl
theorem w_im_Mo_did : Cond.instanceMethod y_Mo_did ∈ zT := zt3 (List.mem_of_getElem? (i := 210) rfl) rfl
theorem w_co_Mo_did : Cond.code y_Mo_did prog_8_method_10_code 3 none ∈ zT := zt3 (List.mem_of_getElem? (i := 211) rfl) rfl
theorem w_ml_Mo_95 : Cond.methodLink "BeatHeapModel" 95 y_Mo_tick ∈ zT := zt3 (List.mem_of_getElem? (i := 212) rfl) rfl
theorem w_im_Mo_tick : Cond.instanceMethod y_Mo_tick ∈ zT := zt3 (List.mem_of_getElem? (i := 214) rfl) rfl
theorem w_co_Mo_tick : Cond.code y_Mo_tick prog_8_method_7_code 2 none ∈ zT := zt3 (List.mem_of_getElem? (i := 215) rfl) rfl
theorem w_ml_Mo_99 : Cond.methodLink "BeatHeapModel" 99 y_Mo_step ∈ zT := zt3 (List.mem_of_getElem? (i := 216) rfl) rfl
theorem w_im_Mo_step : Cond.instanceMethod y_Mo_step ∈ zT := zt3 (List.mem_of_getElem? (i := 218) rfl) rfl
theorem w_co_Mo_step : Cond.code y_Mo_step prog_8_method_13_code 1 none ∈ zT := zt3 (List.mem_of_getElem? (i := 219) rfl) rfl
theorem w_ml_Mo_113 : Cond.methodLink "BeatHeapModel" 113 y_Mo_markStep ∈ zT := zt3 (List.mem_of_getElem? (i := 220) rfl) rfl
theorem w_im_Mo_markStep : Cond.instanceMethod y_Mo_markStep ∈ zT := zt3 (List.mem_of_getElem? (i := 222) rfl) rfl
theorem w_co_Mo_markStep : Cond.code y_Mo_markStep prog_8_method_14_code 2 none ∈ zT := zt3 (List.mem_of_getElem? (i := 223) rfl) rfl
theorem w_ml_Mo_116 : Cond.methodLink "BeatHeapModel" 116 y_Mo_sweepStep ∈ zT := zt3 (List.mem_of_getElem? (i := 224) rfl) rfl
theorem w_im_Mo_sweepStep : Cond.instanceMethod y_Mo_sweepStep ∈ zT := zt3 (List.mem_of_getElem? (i := 226) rfl) rfl
theorem w_co_Mo_sweepStep : Cond.code y_Mo_sweepStep prog_8_method_17_code 4 none ∈ zT := zt3 (List.mem_of_getElem? (i := 227) rfl) rfl
theorem w_ml_Mo_119 : Cond.methodLink "BeatHeapModel" 119 y_Mo_nextBlock ∈ zT := zt3 (List.mem_of_getElem? (i := 228) rfl) rfl
theorem w_im_Mo_nextBlock : Cond.instanceMethod y_Mo_nextBlock ∈ zT := zt3 (List.mem_of_getElem? (i := 230) rfl) rfl
theorem w_co_Mo_nextBlock : Cond.code y_Mo_nextBlock prog_8_method_15_code 2 (some .int) ∈ zT := zt3 (List.mem_of_getElem? (i := 231) rfl) rfl
theorem w_ml_Mo_125 : Cond.methodLink "BeatHeapModel" 125 y_Mo_sizeAt ∈ zT := zt3 (List.mem_of_getElem? (i := 232) rfl) rfl
theorem w_im_Mo_sizeAt : Cond.instanceMethod y_Mo_sizeAt ∈ zT := zt3 (List.mem_of_getElem? (i := 234) rfl) rfl
theorem w_co_Mo_sizeAt : Cond.code y_Mo_sizeAt prog_8_method_6_code 2 (some .int) ∈ zT := zt3 (List.mem_of_getElem? (i := 235) rfl) rfl
theorem w_ml_Mo_128 : Cond.methodLink "BeatHeapModel" 128 y_Mo_holding ∈ zT := zt3 (List.mem_of_getElem? (i := 236) rfl) rfl
theorem w_im_Mo_holding : Cond.instanceMethod y_Mo_holding ∈ zT := zt3 (List.mem_of_getElem? (i := 238) rfl) rfl
theorem w_co_Mo_holding : Cond.code y_Mo_holding prog_8_method_16_code 4 (some .int) ∈ zT := zt3 (List.mem_of_getElem? (i := 239) rfl) rfl
theorem w_ml_Mo_102 : Cond.methodLink "BeatHeapModel" 102 y_Mo_freePages ∈ zT := zt4 (List.mem_of_getElem? (i := 0) rfl) rfl
theorem w_im_Mo_freePages : Cond.instanceMethod y_Mo_freePages ∈ zT := zt4 (List.mem_of_getElem? (i := 2) rfl) rfl
theorem w_co_Mo_freePages : Cond.code y_Mo_freePages prog_8_method_8_code 3 (some .int) ∈ zT := zt4 (List.mem_of_getElem? (i := 3) rfl) rfl
theorem w_ml_La_27 : Cond.methodLink "BeatHeapLaw" 27 y_Mo_array ∈ zT := zt4 (List.mem_of_getElem? (i := 4) rfl) rfl
theorem w_im_Mo_array : Cond.instanceMethod y_Mo_array ∈ zT := zt4 (List.mem_of_getElem? (i := 5) rfl) rfl
theorem w_se_Mo_array : Cond.selects "BeatHeapModel" y_Mo_array y_Mo_array ∈ zT := zt4 (List.mem_of_getElem? (i := 6) rfl) rfl
theorem w_co_Mo_array : Cond.code y_Mo_array prog_8_method_24_code 8 (some .int) ∈ zT := zt4 (List.mem_of_getElem? (i := 7) rfl) rfl
theorem w_ml_La_32 : Cond.methodLink "BeatHeapLaw" 32 y_Mo_put ∈ zT := zt4 (List.mem_of_getElem? (i := 8) rfl) rfl
theorem w_im_Mo_put : Cond.instanceMethod y_Mo_put ∈ zT := zt4 (List.mem_of_getElem? (i := 9) rfl) rfl
theorem w_se_Mo_put : Cond.selects "BeatHeapModel" y_Mo_put y_Mo_put ∈ zT := zt4 (List.mem_of_getElem? (i := 10) rfl) rfl
theorem w_co_Mo_put : Cond.code y_Mo_put prog_8_method_26_code 5 (some .boolean) ∈ zT := zt4 (List.mem_of_getElem? (i := 11) rfl) rfl
theorem w_ml_Mo_158 : Cond.methodLink "BeatHeapModel" 158 y_Mo_numberAt ∈ zT := zt4 (List.mem_of_getElem? (i := 12) rfl) rfl
theorem w_im_Mo_numberAt : Cond.instanceMethod y_Mo_numberAt ∈ zT := zt4 (List.mem_of_getElem? (i := 14) rfl) rfl
theorem w_co_Mo_numberAt : Cond.code y_Mo_numberAt prog_8_method_25_code 4 (some .int) ∈ zT := zt4 (List.mem_of_getElem? (i := 15) rfl) rfl
theorem w_ml_La_36 : Cond.methodLink "BeatHeapLaw" 36 y_Mo_get ∈ zT := zt4 (List.mem_of_getElem? (i := 16) rfl) rfl
theorem w_im_Mo_get : Cond.instanceMethod y_Mo_get ∈ zT := zt4 (List.mem_of_getElem? (i := 17) rfl) rfl
theorem w_se_Mo_get : Cond.selects "BeatHeapModel" y_Mo_get y_Mo_get ∈ zT := zt4 (List.mem_of_getElem? (i := 18) rfl) rfl
theorem w_co_Mo_get : Cond.code y_Mo_get prog_8_method_27_code 5 (some .int) ∈ zT := zt4 (List.mem_of_getElem? (i := 19) rfl) rfl
theorem w_ml_La_40 : Cond.methodLink "BeatHeapLaw" 40 y_Mo_link ∈ zT := zt4 (List.mem_of_getElem? (i := 20) rfl) rfl
theorem w_im_Mo_link : Cond.instanceMethod y_Mo_link ∈ zT := zt4 (List.mem_of_getElem? (i := 21) rfl) rfl
theorem w_se_Mo_link : Cond.selects "BeatHeapModel" y_Mo_link y_Mo_link ∈ zT := zt4 (List.mem_of_getElem? (i := 22) rfl) rfl
theorem w_co_Mo_link : Cond.code y_Mo_link prog_8_method_29_code 5 (some .boolean) ∈ zT := zt4 (List.mem_of_getElem? (i := 23) rfl) rfl
theorem w_ml_Mo_161 : Cond.methodLink "BeatHeapModel" 161 y_Mo_pointerAt ∈ zT := zt4 (List.mem_of_getElem? (i := 24) rfl) rfl
theorem w_im_Mo_pointerAt : Cond.instanceMethod y_Mo_pointerAt ∈ zT := zt4 (List.mem_of_getElem? (i := 26) rfl) rfl
theorem w_co_Mo_pointerAt : Cond.code y_Mo_pointerAt prog_8_method_28_code 4 (some .int) ∈ zT := zt4 (List.mem_of_getElem? (i := 27) rfl) rfl
theorem w_ml_La_44 : Cond.methodLink "BeatHeapLaw" 44 y_Mo_follow ∈ zT := zt4 (List.mem_of_getElem? (i := 28) rfl) rfl
theorem w_im_Mo_follow : Cond.instanceMethod y_Mo_follow ∈ zT := zt4 (List.mem_of_getElem? (i := 29) rfl) rfl
theorem w_se_Mo_follow : Cond.selects "BeatHeapModel" y_Mo_follow y_Mo_follow ∈ zT := zt4 (List.mem_of_getElem? (i := 30) rfl) rfl
theorem w_co_Mo_follow : Cond.code y_Mo_follow prog_8_method_30_code 5 (some .boolean) ∈ zT := zt4 (List.mem_of_getElem? (i := 31) rfl) rfl
theorem w_ml_La_49 : Cond.methodLink "BeatHeapLaw" 49 y_Mo_move ∈ zT := zt4 (List.mem_of_getElem? (i := 32) rfl) rfl
theorem w_im_Mo_move : Cond.instanceMethod y_Mo_move ∈ zT := zt4 (List.mem_of_getElem? (i := 33) rfl) rfl
theorem w_se_Mo_move : Cond.selects "BeatHeapModel" y_Mo_move y_Mo_move ∈ zT := zt4 (List.mem_of_getElem? (i := 34) rfl) rfl
theorem w_co_Mo_move : Cond.code y_Mo_move prog_8_method_31_code 3 (some .boolean) ∈ zT := zt4 (List.mem_of_getElem? (i := 35) rfl) rfl
theorem w_ml_La_54 : Cond.methodLink "BeatHeapLaw" 54 y_Mo_drop ∈ zT := zt4 (List.mem_of_getElem? (i := 36) rfl) rfl
theorem w_im_Mo_drop : Cond.instanceMethod y_Mo_drop ∈ zT := zt4 (List.mem_of_getElem? (i := 37) rfl) rfl
theorem w_se_Mo_drop : Cond.selects "BeatHeapModel" y_Mo_drop y_Mo_drop ∈ zT := zt4 (List.mem_of_getElem? (i := 38) rfl) rfl
theorem w_co_Mo_drop : Cond.code y_Mo_drop prog_8_method_32_code 2 (some .boolean) ∈ zT := zt4 (List.mem_of_getElem? (i := 39) rfl) rfl
theorem w_ml_La_58 : Cond.methodLink "BeatHeapLaw" 58 y_Mo_idle ∈ zT := zt4 (List.mem_of_getElem? (i := 40) rfl) rfl
theorem w_im_Mo_idle : Cond.instanceMethod y_Mo_idle ∈ zT := zt4 (List.mem_of_getElem? (i := 41) rfl) rfl
theorem w_se_Mo_idle : Cond.selects "BeatHeapModel" y_Mo_idle y_Mo_idle ∈ zT := zt4 (List.mem_of_getElem? (i := 42) rfl) rfl
theorem w_co_Mo_idle : Cond.code y_Mo_idle prog_8_method_33_code 3 (some .boolean) ∈ zT := zt4 (List.mem_of_getElem? (i := 43) rfl) rfl
theorem w_ml_La_63 : Cond.methodLink "BeatHeapLaw" 63 y_Mo_start ∈ zT := zt4 (List.mem_of_getElem? (i := 44) rfl) rfl
theorem w_im_Mo_start : Cond.instanceMethod y_Mo_start ∈ zT := zt4 (List.mem_of_getElem? (i := 45) rfl) rfl
theorem w_se_Mo_start : Cond.selects "BeatHeapModel" y_Mo_start y_Mo_start ∈ zT := zt4 (List.mem_of_getElem? (i := 46) rfl) rfl
theorem w_co_Mo_start : Cond.code y_Mo_start prog_8_method_34_code 1 (some .boolean) ∈ zT := zt4 (List.mem_of_getElem? (i := 47) rfl) rfl
theorem w_ml_La_67 : Cond.methodLink "BeatHeapLaw" 67 y_Mo_root ∈ zT := zt4 (List.mem_of_getElem? (i := 48) rfl) rfl
theorem w_im_Mo_root : Cond.instanceMethod y_Mo_root ∈ zT := zt4 (List.mem_of_getElem? (i := 49) rfl) rfl
theorem w_se_Mo_root : Cond.selects "BeatHeapModel" y_Mo_root y_Mo_root ∈ zT := zt4 (List.mem_of_getElem? (i := 50) rfl) rfl
theorem w_co_Mo_root : Cond.code y_Mo_root prog_8_method_35_code 4 (some .int) ∈ zT := zt4 (List.mem_of_getElem? (i := 51) rfl) rfl
theorem w_ml_La_72 : Cond.methodLink "BeatHeapLaw" 72 y_Mo_word ∈ zT := zt4 (List.mem_of_getElem? (i := 52) rfl) rfl
theorem w_im_Mo_word : Cond.instanceMethod y_Mo_word ∈ zT := zt4 (List.mem_of_getElem? (i := 53) rfl) rfl
theorem w_se_Mo_word : Cond.selects "BeatHeapModel" y_Mo_word y_Mo_word ∈ zT := zt4 (List.mem_of_getElem? (i := 54) rfl) rfl
theorem w_co_Mo_word : Cond.code y_Mo_word prog_8_method_36_code 2 (some .int) ∈ zT := zt4 (List.mem_of_getElem? (i := 55) rfl) rfl
theorem w_ml_La_76 : Cond.methodLink "BeatHeapLaw" 76 y_Mo_page ∈ zT := zt4 (List.mem_of_getElem? (i := 56) rfl) rfl
theorem w_im_Mo_page : Cond.instanceMethod y_Mo_page ∈ zT := zt4 (List.mem_of_getElem? (i := 57) rfl) rfl
theorem w_se_Mo_page : Cond.selects "BeatHeapModel" y_Mo_page y_Mo_page ∈ zT := zt4 (List.mem_of_getElem? (i := 58) rfl) rfl
theorem w_co_Mo_page : Cond.code y_Mo_page prog_8_method_37_code 5 (some .int) ∈ zT := zt4 (List.mem_of_getElem? (i := 59) rfl) rfl
theorem w_ml_La_80 : Cond.methodLink "BeatHeapLaw" 80 y_Mo_count ∈ zT := zt4 (List.mem_of_getElem? (i := 60) rfl) rfl
theorem w_im_Mo_count : Cond.instanceMethod y_Mo_count ∈ zT := zt4 (List.mem_of_getElem? (i := 61) rfl) rfl
theorem w_se_Mo_count : Cond.selects "BeatHeapModel" y_Mo_count y_Mo_count ∈ zT := zt4 (List.mem_of_getElem? (i := 62) rfl) rfl
theorem w_co_Mo_count : Cond.code y_Mo_count prog_8_method_38_code 4 (some .int) ∈ zT := zt4 (List.mem_of_getElem? (i := 63) rfl) rfl
theorem w_ml_La_84 : Cond.methodLink "BeatHeapLaw" 84 y_Mo_share ∈ zT := zt4 (List.mem_of_getElem? (i := 64) rfl) rfl
theorem w_im_Mo_share : Cond.instanceMethod y_Mo_share ∈ zT := zt4 (List.mem_of_getElem? (i := 65) rfl) rfl
theorem w_se_Mo_share : Cond.selects "BeatHeapModel" y_Mo_share y_Mo_share ∈ zT := zt4 (List.mem_of_getElem? (i := 66) rfl) rfl
theorem w_co_Mo_share : Cond.code y_Mo_share prog_8_method_39_code 7 (some .int) ∈ zT := zt4 (List.mem_of_getElem? (i := 67) rfl) rfl
theorem w_ml_La_89 : Cond.methodLink "BeatHeapLaw" 89 y_Mo_reachable ∈ zT := zt4 (List.mem_of_getElem? (i := 68) rfl) rfl
theorem w_im_Mo_reachable : Cond.instanceMethod y_Mo_reachable ∈ zT := zt4 (List.mem_of_getElem? (i := 69) rfl) rfl
theorem w_se_Mo_reachable : Cond.selects "BeatHeapModel" y_Mo_reachable y_Mo_reachable ∈ zT := zt4 (List.mem_of_getElem? (i := 70) rfl) rfl
theorem w_co_Mo_reachable : Cond.code y_Mo_reachable prog_8_method_42_code 1 (some .int) ∈ zT := zt4 (List.mem_of_getElem? (i := 71) rfl) rfl
theorem w_ml_Mo_175 : Cond.methodLink "BeatHeapModel" 175 y_Mo_meet ∈ zT := zt4 (List.mem_of_getElem? (i := 72) rfl) rfl
theorem w_im_Mo_meet : Cond.instanceMethod y_Mo_meet ∈ zT := zt4 (List.mem_of_getElem? (i := 74) rfl) rfl
theorem w_co_Mo_meet : Cond.code y_Mo_meet prog_8_method_40_code 5 none ∈ zT := zt4 (List.mem_of_getElem? (i := 75) rfl) rfl
theorem w_ml_Mo_171 : Cond.methodLink "BeatHeapModel" 171 y_Mo_meetOne ∈ zT := zt4 (List.mem_of_getElem? (i := 76) rfl) rfl
theorem w_im_Mo_meetOne : Cond.instanceMethod y_Mo_meetOne ∈ zT := zt4 (List.mem_of_getElem? (i := 78) rfl) rfl
theorem w_co_Mo_meetOne : Cond.code y_Mo_meetOne prog_8_method_41_code 3 none ∈ zT := zt4 (List.mem_of_getElem? (i := 79) rfl) rfl
theorem w_ml_La_93 : Cond.methodLink "BeatHeapLaw" 93 y_Mo_whole ∈ zT := zt4 (List.mem_of_getElem? (i := 80) rfl) rfl
theorem w_im_Mo_whole : Cond.instanceMethod y_Mo_whole ∈ zT := zt4 (List.mem_of_getElem? (i := 81) rfl) rfl
theorem w_se_Mo_whole : Cond.selects "BeatHeapModel" y_Mo_whole y_Mo_whole ∈ zT := zt4 (List.mem_of_getElem? (i := 82) rfl) rfl
theorem w_co_Mo_whole : Cond.code y_Mo_whole prog_8_method_43_code 1 (some .boolean) ∈ zT := zt4 (List.mem_of_getElem? (i := 83) rfl) rfl
theorem w_co_obj : Cond.code objectInit ⟨#[0xb1]⟩ 1 none ∈ zT := zt1 (List.mem_of_getElem? (i := 17) rfl) rfl
theorem w_se_Bh_setAll : Cond.selects "BeatHeap" y_Bh_setAll y_Bh_setAll ∈ zT := zT_l (List.mem_map.mpr ⟨(⟨"BeatHeap", "setAll", "(IIII)V"⟩, _), List.mem_of_getElem? (i := 0) rfl, rfl⟩) rfl
theorem w_se_Co_rest : Cond.selects "BeatHeap$Collector" y_Co_rest y_Co_rest ∈ zT := zT_l (List.mem_map.mpr ⟨(⟨"BeatHeap$Collector", "rest", "()V"⟩, _), List.mem_of_getElem? (i := 1) rfl, rfl⟩) rfl
theorem w_se_Bh_takeForRoot : Cond.selects "BeatHeap" y_Bh_takeForRoot y_Bh_takeForRoot ∈ zT := zT_l (List.mem_map.mpr ⟨(⟨"BeatHeap", "takeForRoot", "(IIIII)Z"⟩, _), List.mem_of_getElem? (i := 2) rfl, rfl⟩) rfl
theorem w_se_Bh_takeBlock : Cond.selects "BeatHeap" y_Bh_takeBlock y_Bh_takeBlock ∈ zT := zT_l (List.mem_map.mpr ⟨(⟨"BeatHeap", "takeBlock", "(IIII)I"⟩, _), List.mem_of_getElem? (i := 3) rfl, rfl⟩) rfl
theorem w_se_Bk_pageWithRoom : Cond.selects "BeatHeap$Blocks" y_Bk_pageWithRoom y_Bk_pageWithRoom ∈ zT := zT_l (List.mem_map.mpr ⟨(⟨"BeatHeap$Blocks", "pageWithRoom", "(I)I"⟩, _), List.mem_of_getElem? (i := 4) rfl, rfl⟩) rfl
theorem w_se_Bk_openPage : Cond.selects "BeatHeap$Blocks" y_Bk_openPage y_Bk_openPage ∈ zT := zT_l (List.mem_map.mpr ⟨(⟨"BeatHeap$Blocks", "openPage", "(I)I"⟩, _), List.mem_of_getElem? (i := 5) rfl, rfl⟩) rfl
theorem w_se_Bk_firstVacant : Cond.selects "BeatHeap$Blocks" y_Bk_firstVacant y_Bk_firstVacant ∈ zT := zT_l (List.mem_map.mpr ⟨(⟨"BeatHeap$Blocks", "firstVacant", "(I)I"⟩, _), List.mem_of_getElem? (i := 6) rfl, rfl⟩) rfl
theorem w_se_Bk_isPage : Cond.selects "BeatHeap$Blocks" y_Bk_isPage y_Bk_isPage ∈ zT := zT_l (List.mem_map.mpr ⟨(⟨"BeatHeap$Blocks", "isPage", "(I)Z"⟩, _), List.mem_of_getElem? (i := 7) rfl, rfl⟩) rfl
theorem w_se_Bh_setRoot : Cond.selects "BeatHeap" y_Bh_setRoot y_Bh_setRoot ∈ zT := zT_l (List.mem_map.mpr ⟨(⟨"BeatHeap", "setRoot", "(II)V"⟩, _), List.mem_of_getElem? (i := 8) rfl, rfl⟩) rfl
theorem w_se_Co_grey : Cond.selects "BeatHeap$Collector" y_Co_grey y_Co_grey ∈ zT := zT_l (List.mem_map.mpr ⟨(⟨"BeatHeap$Collector", "grey", "(I)V"⟩, _), List.mem_of_getElem? (i := 9) rfl, rfl⟩) rfl
theorem w_se_Ck_keep : Cond.selects "BeatHeap$Clock" y_Ck_keep y_Ck_keep ∈ zT := zT_l (List.mem_map.mpr ⟨(⟨"BeatHeap$Clock", "keep", "(I)V"⟩, _), List.mem_of_getElem? (i := 10) rfl, rfl⟩) rfl
theorem w_se_Co_step : Cond.selects "BeatHeap$Collector" y_Co_step y_Co_step ∈ zT := zT_l (List.mem_map.mpr ⟨(⟨"BeatHeap$Collector", "step", "()V"⟩, _), List.mem_of_getElem? (i := 11) rfl, rfl⟩) rfl
theorem w_se_Co_rootsStep : Cond.selects "BeatHeap$Collector" y_Co_rootsStep y_Co_rootsStep ∈ zT := zT_l (List.mem_map.mpr ⟨(⟨"BeatHeap$Collector", "rootsStep", "()V"⟩, _), List.mem_of_getElem? (i := 12) rfl, rfl⟩) rfl
theorem w_se_Co_markStep : Cond.selects "BeatHeap$Collector" y_Co_markStep y_Co_markStep ∈ zT := zT_l (List.mem_map.mpr ⟨(⟨"BeatHeap$Collector", "markStep", "()V"⟩, _), List.mem_of_getElem? (i := 13) rfl, rfl⟩) rfl
theorem w_se_Co_endIfSwept : Cond.selects "BeatHeap$Collector" y_Co_endIfSwept y_Co_endIfSwept ∈ zT := zT_l (List.mem_map.mpr ⟨(⟨"BeatHeap$Collector", "endIfSwept", "()V"⟩, _), List.mem_of_getElem? (i := 14) rfl, rfl⟩) rfl
theorem w_se_Co_sweepStep : Cond.selects "BeatHeap$Collector" y_Co_sweepStep y_Co_sweepStep ∈ zT := zT_l (List.mem_map.mpr ⟨(⟨"BeatHeap$Collector", "sweepStep", "()V"⟩, _), List.mem_of_getElem? (i := 15) rfl, rfl⟩) rfl
theorem w_se_Bh_takeLeaf : Cond.selects "BeatHeap" y_Bh_takeLeaf y_Bh_takeLeaf ∈ zT := zT_l (List.mem_map.mpr ⟨(⟨"BeatHeap", "takeLeaf", "(II)Z"⟩, _), List.mem_of_getElem? (i := 16) rfl, rfl⟩) rfl
theorem w_se_Bh_rootOrNone : Cond.selects "BeatHeap" y_Bh_rootOrNone y_Bh_rootOrNone ∈ zT := zT_l (List.mem_map.mpr ⟨(⟨"BeatHeap", "rootOrNone", "(I)I"⟩, _), List.mem_of_getElem? (i := 17) rfl, rfl⟩) rfl
theorem w_se_Bh_numberAddress : Cond.selects "BeatHeap" y_Bh_numberAddress y_Bh_numberAddress ∈ zT := zT_l (List.mem_map.mpr ⟨(⟨"BeatHeap", "numberAddress", "(II)I"⟩, _), List.mem_of_getElem? (i := 18) rfl, rfl⟩) rfl
theorem w_se_Bh_pointerAddress : Cond.selects "BeatHeap" y_Bh_pointerAddress y_Bh_pointerAddress ∈ zT := zT_l (List.mem_map.mpr ⟨(⟨"BeatHeap", "pointerAddress", "(II)I"⟩, _), List.mem_of_getElem? (i := 19) rfl, rfl⟩) rfl
theorem w_se_Ck_keptAt : Cond.selects "BeatHeap$Clock" y_Ck_keptAt y_Ck_keptAt ∈ zT := zT_l (List.mem_map.mpr ⟨(⟨"BeatHeap$Clock", "keptAt", "(I)I"⟩, _), List.mem_of_getElem? (i := 20) rfl, rfl⟩) rfl
theorem w_se_Wa_comeTo : Cond.selects "BeatHeap$Walk" y_Wa_comeTo y_Wa_comeTo ∈ zT := zT_l (List.mem_map.mpr ⟨(⟨"BeatHeap$Walk", "comeTo", "(IZLBeatHeap$Blocks;)V"⟩, _), List.mem_of_getElem? (i := 21) rfl, rfl⟩) rfl
theorem w_se_Wa_comeToPartsOf : Cond.selects "BeatHeap$Walk" y_Wa_comeToPartsOf y_Wa_comeToPartsOf ∈ zT := zT_l (List.mem_map.mpr ⟨(⟨"BeatHeap$Walk", "comeToPartsOf", "(ILBeatHeap$Blocks;)V"⟩, _), List.mem_of_getElem? (i := 22) rfl, rfl⟩) rfl
theorem w_se_Mo_take : Cond.selects "BeatHeapModel" y_Mo_take y_Mo_take ∈ zT := zT_l (List.mem_map.mpr ⟨(⟨"BeatHeapModel", "take", "(II)I"⟩, _), List.mem_of_getElem? (i := 23) rfl, rfl⟩) rfl
theorem w_se_Mo_failed : Cond.selects "BeatHeapModel" y_Mo_failed y_Mo_failed ∈ zT := zT_l (List.mem_map.mpr ⟨(⟨"BeatHeapModel", "failed", "()I"⟩, _), List.mem_of_getElem? (i := 24) rfl, rfl⟩) rfl
theorem w_se_Mo_beginCycle : Cond.selects "BeatHeapModel" y_Mo_beginCycle y_Mo_beginCycle ∈ zT := zT_l (List.mem_map.mpr ⟨(⟨"BeatHeapModel", "beginCycle", "()V"⟩, _), List.mem_of_getElem? (i := 25) rfl, rfl⟩) rfl
theorem w_se_Mo_setRoot : Cond.selects "BeatHeapModel" y_Mo_setRoot y_Mo_setRoot ∈ zT := zT_l (List.mem_map.mpr ⟨(⟨"BeatHeapModel", "setRoot", "(II)V"⟩, _), List.mem_of_getElem? (i := 26) rfl, rfl⟩) rfl
theorem w_se_Mo_before : Cond.selects "BeatHeapModel" y_Mo_before y_Mo_before ∈ zT := zT_l (List.mem_map.mpr ⟨(⟨"BeatHeapModel", "before", "(I)V"⟩, _), List.mem_of_getElem? (i := 27) rfl, rfl⟩) rfl
theorem w_se_Mo_grey : Cond.selects "BeatHeapModel" y_Mo_grey y_Mo_grey ∈ zT := zT_l (List.mem_map.mpr ⟨(⟨"BeatHeapModel", "grey", "(I)V"⟩, _), List.mem_of_getElem? (i := 28) rfl, rfl⟩) rfl
theorem w_se_Mo_did : Cond.selects "BeatHeapModel" y_Mo_did y_Mo_did ∈ zT := zT_l (List.mem_map.mpr ⟨(⟨"BeatHeapModel", "did", "(I)V"⟩, _), List.mem_of_getElem? (i := 29) rfl, rfl⟩) rfl
theorem w_se_Mo_tick : Cond.selects "BeatHeapModel" y_Mo_tick y_Mo_tick ∈ zT := zT_l (List.mem_map.mpr ⟨(⟨"BeatHeapModel", "tick", "(Z)V"⟩, _), List.mem_of_getElem? (i := 30) rfl, rfl⟩) rfl
theorem w_se_Mo_step : Cond.selects "BeatHeapModel" y_Mo_step y_Mo_step ∈ zT := zT_l (List.mem_map.mpr ⟨(⟨"BeatHeapModel", "step", "()V"⟩, _), List.mem_of_getElem? (i := 31) rfl, rfl⟩) rfl
theorem w_se_Mo_markStep : Cond.selects "BeatHeapModel" y_Mo_markStep y_Mo_markStep ∈ zT := zT_l (List.mem_map.mpr ⟨(⟨"BeatHeapModel", "markStep", "()V"⟩, _), List.mem_of_getElem? (i := 32) rfl, rfl⟩) rfl
theorem w_se_Mo_sweepStep : Cond.selects "BeatHeapModel" y_Mo_sweepStep y_Mo_sweepStep ∈ zT := zT_l (List.mem_map.mpr ⟨(⟨"BeatHeapModel", "sweepStep", "()V"⟩, _), List.mem_of_getElem? (i := 33) rfl, rfl⟩) rfl
theorem w_se_Mo_nextBlock : Cond.selects "BeatHeapModel" y_Mo_nextBlock y_Mo_nextBlock ∈ zT := zT_l (List.mem_map.mpr ⟨(⟨"BeatHeapModel", "nextBlock", "()I"⟩, _), List.mem_of_getElem? (i := 34) rfl, rfl⟩) rfl
theorem w_se_Mo_sizeAt : Cond.selects "BeatHeapModel" y_Mo_sizeAt y_Mo_sizeAt ∈ zT := zT_l (List.mem_map.mpr ⟨(⟨"BeatHeapModel", "sizeAt", "(I)I"⟩, _), List.mem_of_getElem? (i := 35) rfl, rfl⟩) rfl
theorem w_se_Mo_holding : Cond.selects "BeatHeapModel" y_Mo_holding y_Mo_holding ∈ zT := zT_l (List.mem_map.mpr ⟨(⟨"BeatHeapModel", "holding", "(I)I"⟩, _), List.mem_of_getElem? (i := 36) rfl, rfl⟩) rfl
theorem w_se_Mo_freePages : Cond.selects "BeatHeapModel" y_Mo_freePages y_Mo_freePages ∈ zT := zT_l (List.mem_map.mpr ⟨(⟨"BeatHeapModel", "freePages", "()I"⟩, _), List.mem_of_getElem? (i := 37) rfl, rfl⟩) rfl
theorem w_se_Mo_numberAt : Cond.selects "BeatHeapModel" y_Mo_numberAt y_Mo_numberAt ∈ zT := zT_l (List.mem_map.mpr ⟨(⟨"BeatHeapModel", "numberAt", "(II)I"⟩, _), List.mem_of_getElem? (i := 38) rfl, rfl⟩) rfl
theorem w_se_Mo_pointerAt : Cond.selects "BeatHeapModel" y_Mo_pointerAt y_Mo_pointerAt ∈ zT := zT_l (List.mem_map.mpr ⟨(⟨"BeatHeapModel", "pointerAt", "(II)I"⟩, _), List.mem_of_getElem? (i := 39) rfl, rfl⟩) rfl
theorem w_se_Mo_meet : Cond.selects "BeatHeapModel" y_Mo_meet y_Mo_meet ∈ zT := zT_l (List.mem_map.mpr ⟨(⟨"BeatHeapModel", "meet", "()V"⟩, _), List.mem_of_getElem? (i := 40) rfl, rfl⟩) rfl
theorem w_se_Mo_meetOne : Cond.selects "BeatHeapModel" y_Mo_meetOne y_Mo_meetOne ∈ zT := zT_l (List.mem_map.mpr ⟨(⟨"BeatHeapModel", "meetOne", "(IZ)V"⟩, _), List.mem_of_getElem? (i := 41) rfl, rfl⟩) rfl
def zNF : List (String × Nat × String × String × String × String) := [("BeatHeap$Collector", 87, "BeatHeap$Blocks", "freePages", "I", "BeatHeap"), ("BeatHeap", 137, "BeatHeap$Blocks", "freePages", "I", "BeatHeap"), ("BeatHeap", 140, "BeatHeap$Blocks", "heldInAll", "I", "BeatHeap"), ("BeatHeap", 143, "BeatHeap$Blocks", "freedInAll", "I", "BeatHeap"), ("BeatHeap", 128, "BeatHeap$Clock", "programs", "I", "BeatHeap"), ("BeatHeap", 134, "BeatHeap$Clock", "collectors", "I", "BeatHeap"), ("BeatHeap$Walk", 43, "BeatHeap$Pile", "size", "I", "BeatHeap"), ("BeatHeap$Collector", 73, "BeatHeap$Pile", "size", "I", "BeatHeap"), ("BeatHeap", 16, "BeatHeap$Collector", "blocks", "LBeatHeap$Blocks;", "BeatHeap"), ("BeatHeap", 21, "BeatHeap$Collector", "clock", "LBeatHeap$Clock;", "BeatHeap"), ("BeatHeap", 26, "BeatHeap$Collector", "roots", "[I", "BeatHeap"), ("BeatHeap", 159, "BeatHeap$Walk", "found", "I", "BeatHeap"), ("BeatHeap", 162, "BeatHeap$Walk", "sound", "Z", "BeatHeap")]
def zNM : List (String × Nat × MethodName × String) := [("BeatHeap", 11, y_Co_init, "BeatHeap"), ("BeatHeap$Collector", 11, y_Bk_init, "BeatHeap"), ("BeatHeap$Collector", 20, y_Ck_init, "BeatHeap"), ("BeatHeap$Collector", 27, y_Pi_init, "BeatHeap"), ("BeatHeap", 33, y_Wa_init, "BeatHeap"), ("BeatHeap$Walk", 17, y_Pi_init, "BeatHeap"), ("BeatHeap$Blocks", 83, y_Bh_isClass, "BeatHeap"), ("BeatHeap$Blocks", 86, y_Bh_blockWords, "BeatHeap"), ("BeatHeap$Clock", 38, y_Bh_within, "BeatHeap")]
def zN : List Cond := zNF.map (fun q => Cond.fieldLinkNest q.1 q.2.1 q.2.2.1 q.2.2.2.1 q.2.2.2.2.1 q.2.2.2.2.2) ++ zNM.map (fun q => Cond.methodLinkNest q.1 q.2.1 q.2.2.1 q.2.2.2)
theorem w_nf_Co_87 : Cond.fieldLinkNest "BeatHeap$Collector" 87 "BeatHeap$Blocks" "freePages" "I" "BeatHeap" ∈ zN := List.mem_append_left _ (List.mem_of_getElem? (i := 0) rfl)
theorem w_nf_Bh_137 : Cond.fieldLinkNest "BeatHeap" 137 "BeatHeap$Blocks" "freePages" "I" "BeatHeap" ∈ zN := List.mem_append_left _ (List.mem_of_getElem? (i := 1) rfl)
theorem w_nf_Bh_140 : Cond.fieldLinkNest "BeatHeap" 140 "BeatHeap$Blocks" "heldInAll" "I" "BeatHeap" ∈ zN := List.mem_append_left _ (List.mem_of_getElem? (i := 2) rfl)
theorem w_nf_Bh_143 : Cond.fieldLinkNest "BeatHeap" 143 "BeatHeap$Blocks" "freedInAll" "I" "BeatHeap" ∈ zN := List.mem_append_left _ (List.mem_of_getElem? (i := 3) rfl)
theorem w_nf_Bh_128 : Cond.fieldLinkNest "BeatHeap" 128 "BeatHeap$Clock" "programs" "I" "BeatHeap" ∈ zN := List.mem_append_left _ (List.mem_of_getElem? (i := 4) rfl)
theorem w_nf_Bh_134 : Cond.fieldLinkNest "BeatHeap" 134 "BeatHeap$Clock" "collectors" "I" "BeatHeap" ∈ zN := List.mem_append_left _ (List.mem_of_getElem? (i := 5) rfl)
theorem w_nf_Wa_43 : Cond.fieldLinkNest "BeatHeap$Walk" 43 "BeatHeap$Pile" "size" "I" "BeatHeap" ∈ zN := List.mem_append_left _ (List.mem_of_getElem? (i := 6) rfl)
theorem w_nf_Co_73 : Cond.fieldLinkNest "BeatHeap$Collector" 73 "BeatHeap$Pile" "size" "I" "BeatHeap" ∈ zN := List.mem_append_left _ (List.mem_of_getElem? (i := 7) rfl)
theorem w_nf_Bh_16 : Cond.fieldLinkNest "BeatHeap" 16 "BeatHeap$Collector" "blocks" "LBeatHeap$Blocks;" "BeatHeap" ∈ zN := List.mem_append_left _ (List.mem_of_getElem? (i := 8) rfl)
theorem w_nf_Bh_21 : Cond.fieldLinkNest "BeatHeap" 21 "BeatHeap$Collector" "clock" "LBeatHeap$Clock;" "BeatHeap" ∈ zN := List.mem_append_left _ (List.mem_of_getElem? (i := 9) rfl)
theorem w_nf_Bh_26 : Cond.fieldLinkNest "BeatHeap" 26 "BeatHeap$Collector" "roots" "[I" "BeatHeap" ∈ zN := List.mem_append_left _ (List.mem_of_getElem? (i := 10) rfl)
theorem w_nf_Bh_159 : Cond.fieldLinkNest "BeatHeap" 159 "BeatHeap$Walk" "found" "I" "BeatHeap" ∈ zN := List.mem_append_left _ (List.mem_of_getElem? (i := 11) rfl)
theorem w_nf_Bh_162 : Cond.fieldLinkNest "BeatHeap" 162 "BeatHeap$Walk" "sound" "Z" "BeatHeap" ∈ zN := List.mem_append_left _ (List.mem_of_getElem? (i := 12) rfl)
theorem w_nm_Bh_11 : Cond.methodLinkNest "BeatHeap" 11 y_Co_init "BeatHeap" ∈ zN := List.mem_append_right _ (List.mem_of_getElem? (i := 0) rfl)
theorem w_nm_Co_11 : Cond.methodLinkNest "BeatHeap$Collector" 11 y_Bk_init "BeatHeap" ∈ zN := List.mem_append_right _ (List.mem_of_getElem? (i := 1) rfl)
theorem w_nm_Co_20 : Cond.methodLinkNest "BeatHeap$Collector" 20 y_Ck_init "BeatHeap" ∈ zN := List.mem_append_right _ (List.mem_of_getElem? (i := 2) rfl)
theorem w_nm_Co_27 : Cond.methodLinkNest "BeatHeap$Collector" 27 y_Pi_init "BeatHeap" ∈ zN := List.mem_append_right _ (List.mem_of_getElem? (i := 3) rfl)
theorem w_nm_Bh_33 : Cond.methodLinkNest "BeatHeap" 33 y_Wa_init "BeatHeap" ∈ zN := List.mem_append_right _ (List.mem_of_getElem? (i := 4) rfl)
theorem w_nm_Wa_17 : Cond.methodLinkNest "BeatHeap$Walk" 17 y_Pi_init "BeatHeap" ∈ zN := List.mem_append_right _ (List.mem_of_getElem? (i := 5) rfl)
theorem w_nm_Bk_83 : Cond.methodLinkNest "BeatHeap$Blocks" 83 y_Bh_isClass "BeatHeap" ∈ zN := List.mem_append_right _ (List.mem_of_getElem? (i := 6) rfl)
theorem w_nm_Bk_86 : Cond.methodLinkNest "BeatHeap$Blocks" 86 y_Bh_blockWords "BeatHeap" ∈ zN := List.mem_append_right _ (List.mem_of_getElem? (i := 7) rfl)
theorem w_nm_Ck_38 : Cond.methodLinkNest "BeatHeap$Clock" 38 y_Bh_within "BeatHeap" ∈ zN := List.mem_append_right _ (List.mem_of_getElem? (i := 8) rfl)
theorem zN_on : ∀ w ∈ zN, w.onTables = true := by decide
theorem zN_in : ∀ w ∈ zN, w ∈ lw_tbl := by decide +kernel
end
section
/-! the world: 30 cells whose numbers are a memory μ (cell, place); references never change -/
abbrev zM : Type := Nat → Nat → Int32
def zs (μ : zM) (k : Nat) (f : Nat → Int32) : zM := fun i => if i = k then f else μ i
abbrev zp (μ : zM) (k j : Nat) (v : Int32) : zM := zs μ k (upd (μ k) j v)
/-- classes and slots; addresses; array classes; the two tables; the heap's size at the law's start -/
abbrev zE : Type := va_G × (Nat → Nat) × (Nat → ClassId) × Nat × Nat × Nat
abbrev zA (E : zE) : Nat → Prop := fun q => E.2.2.2.2.2 ≤ q
abbrev ztys (E : zE) : List (ClassId × FieldType) := [(E.2.2.1 0, .int), (E.2.2.1 1, .byte), (E.2.2.1 2, .boolean)]
def zb1 (j : Nat) : Int32 := if j = 0 then 4 else if j = 1 then 8 else if j = 2 then 16 else 32
def zb2 (j : Nat) : Int32 := if j = 0 then 2 else if j = 1 then 3 else if j = 2 then 5 else 9
def zw (E : zE) (μ : zM) : va_W := [(E.2.1 0, .inr (5, [.ref (E.2.1 1), .ref (E.2.1 2), .ref (E.2.1 10), .ref (E.2.1 14), .ref (E.2.1 15), .int (μ 0 5)])),
  (E.2.1 1, .inr (2, [.ref (E.2.1 2), .ref (E.2.1 10), .ref (E.2.1 12), .ref (E.2.1 14), .int (μ 1 4), .int (μ 1 5), .int (μ 1 6), .int (μ 1 7), .int (μ 1 8), .int (μ 1 9), .int (μ 1 10), .int (μ 1 11), .int (μ 1 12), .int (μ 1 13)])),
  (E.2.1 2, .inr (0, [.ref (E.2.1 3), .ref (E.2.1 4), .ref (E.2.1 5), .ref (E.2.1 6), .ref (E.2.1 7), .ref (E.2.1 8), .ref (E.2.1 9), .int (μ 2 7), .int (μ 2 8), .int (μ 2 9), .int (μ 2 10)])),
  (E.2.1 3, .inl (E.2.2.1 0, 4096, .inl (μ 3))),
  (E.2.1 4, .inl (E.2.2.1 1, 1024, .inl (μ 4))),
  (E.2.1 5, .inl (E.2.2.1 1, 1024, .inl (μ 5))),
  (E.2.1 6, .inl (E.2.2.1 0, 1024, .inl (μ 6))),
  (E.2.1 7, .inl (E.2.2.1 0, 1024, .inl (μ 7))),
  (E.2.1 8, .inl (E.2.2.1 0, 64, .inl (μ 8))),
  (E.2.1 9, .inl (E.2.2.1 0, 64, .inl (μ 9))),
  (E.2.1 10, .inr (1, [.ref (E.2.1 11), .int (μ 10 1), .int (μ 10 2), .int (μ 10 3), .int (μ 10 4)])),
  (E.2.1 11, .inl (E.2.2.1 1, 2000, .inl (μ 11))),
  (E.2.1 12, .inr (3, [.ref (E.2.1 13), .int (μ 12 1)])),
  (E.2.1 13, .inl (E.2.2.1 0, 1024, .inl (μ 13))),
  (E.2.1 14, .inl (E.2.2.1 0, 16, .inl (μ 14))),
  (E.2.1 15, .inr (4, [.ref (E.2.1 16), .ref (E.2.1 17), .int (μ 15 2), .int (μ 15 3)])),
  (E.2.1 16, .inl (E.2.2.1 1, 1024, .inl (μ 16))),
  (E.2.1 17, .inr (3, [.ref (E.2.1 18), .int (μ 17 1)])),
  (E.2.1 18, .inl (E.2.2.1 0, 1024, .inl (μ 18))),
  (E.2.1 19, .inr (6, [.int (μ 19 0), .int (μ 19 1), .int (μ 19 2), .int (μ 19 3), .ref (E.2.1 20), .ref (E.2.1 21), .ref (E.2.1 22), .ref (E.2.1 23), .ref (E.2.1 24), .ref (E.2.1 25), .ref (E.2.1 26), .ref (E.2.1 27), .int (μ 19 12), .int (μ 19 13), .int (μ 19 14), .int (μ 19 15), .int (μ 19 16), .int (μ 19 17), .int (μ 19 18), .int (μ 19 19), .int (μ 19 20), .int (μ 19 21), .int (μ 19 22), .int (μ 19 23), .ref (E.2.1 28), .ref (E.2.1 29), .int (μ 19 26), .int (μ 19 27)])),
  (E.2.1 20, .inl (E.2.2.1 0, 4096, .inl (μ 20))),
  (E.2.1 21, .inl (E.2.2.1 0, 64, .inl (μ 21))),
  (E.2.1 22, .inl (E.2.2.1 0, 4096, .inl (μ 22))),
  (E.2.1 23, .inl (E.2.2.1 2, 4096, .inl (μ 23))),
  (E.2.1 24, .inl (E.2.2.1 0, 4096, .inl (μ 24))),
  (E.2.1 25, .inl (E.2.2.1 0, 4096, .inl (μ 25))),
  (E.2.1 26, .inl (E.2.2.1 0, 16, .inl (μ 26))),
  (E.2.1 27, .inl (E.2.2.1 0, 1100, .inl (μ 27))),
  (E.2.1 28, .inl (E.2.2.1 2, 2000, .inl (μ 28))),
  (E.2.1 29, .inl (E.2.2.1 2, 4096, .inl (μ 29)))]
def zZ (E : zE) (U : State) (H : Heap) : Prop := va_Z "BeatHeap" "BLOCK_WORDS" "[I" (.ref E.2.2.2.1) (zA E) U H ∧ va_Z "BeatHeap" "TAKE_TICKS" "[I" (.ref E.2.2.2.2.1) (zA E) U H ∧ va_T .int E.2.2.2.1 4 (fun j => .int (zb1 j)) (zA E) U H ∧ va_T .int E.2.2.2.2.1 4 (fun j => .int (zb2 j)) (zA E) U H
theorem zZ.moved {E : zE} {u U : State} {H : Heap} (hvm : u.vm.Alike U.vm) (h : zZ E u H) : zZ E U H := ⟨va_Z.moved hvm h.1, va_Z.moved hvm h.2.1, va_T.moved hvm h.2.2.1, va_T.moved hvm h.2.2.2⟩
theorem zZ.kept {E : zE} {U : State} {H H1 : Heap} (h : zZ E U H) (hq : ∀ a : Nat, a < H.size → ¬ zA E a → H1[a]? = H[a]?) : zZ E U H1 := ⟨h.1.kept hq, h.2.1.kept hq, h.2.2.1.kept hq, h.2.2.2.kept hq⟩
def zR (E : zE) (μ : zM) (U : State) : Prop := va_P E.1 zcl (zw E μ) U.heap ∧ va_D (zA E) (zw E μ) ∧ va_K E.1 zcl (ztys E) U ∧ (∀ w ∈ zN, va_Nw w U) ∧ zZ E U U.heap ∧ E.2.2.2.2.2 ≤ U.heap.size
def zX (E : zE) (p : Program) (s : State) (m : MethodId) (args : Array Value) (c : Code) (cc : ByteArray) (own : String) (nL : Nat) : Prop :=
  p.tables.exec = Jvm.exec ∧ c.code = cc ∧ c.maxLocals = nL ∧ s.vm.findClass own = some m.cls ∧ (∀ w ∈ zT, w.before args s = true) ∧ va_K E.1 zcl (ztys E) s ∧ (∀ w ∈ zN, va_Nw w s) ∧ zZ E s s.heap ∧ E.2.2.2.2.2 ≤ s.heap.size
def zW (E : zE) (s : State) (μ : zM) (H : Heap) (locs : List Loc) : Prop := va_P E.1 zcl (zw E μ) H ∧ va_D (zA E) (zw E μ) ∧ va_S (zA E) s.heap H locs
theorem zN_warm {s U : State} (hW : s.WarmedH U.vm) (h : ∀ w ∈ zN, va_Nw w s) : ∀ w ∈ zN, va_Nw w U := by
  intro w hw
  have h0 := h w hw
  rcases List.mem_append.mp hw with h1 | h1
  · obtain ⟨q, -, rfl⟩ := List.mem_map.mp h1
    exact va_Nw.warmF hW h0
  · obtain ⟨q, -, rfl⟩ := List.mem_map.mp h1
    exact va_Nw.warmM hW h0
theorem z_blind {E : zE} {μ : zM} {as : List Value} : FrameBlind (va_Pc as (zR E μ)) := by
  intro a U g mk q
  obtain ⟨q0, qP, qD, qK, qN, qZ, qH⟩ := q
  exact ⟨q0, qP, qD, va_K.moved (u := U) (U := U.calling g mk a) (Vm.Alike.refl U.vm) qK, fun w hw => va_Nw.same (u := U) (U := U.calling g mk a) (zN_on w hw) rfl (qN w hw), zZ.moved (u := U) (U := U.calling g mk a) (Vm.Alike.refl U.vm) qZ, qH⟩
theorem z_bz {v : Int32} (h : v = 0 ∨ v = 1) : narrow .boolean (.int v) = .int v ∧ fits .boolean (.int v) = true := by
  rcases h with rfl | rfl <;> decide
section ZK
variable {p : Program} {l : Launch} {e : Env} {R : Room} {s : State} {m : MethodId} {args : Array Value} {below : List Frame} {meth : Method} {c : Code} {H : Heap} {locs : List Loc} {cells slots : Nat} {Q : State → Prop} {E : zE} {cc : ByteArray} {own : String} {nL pc : Nat} {ls : Array Slot} {rest : List Value} {μ : zM}
theorem z_pre (X : zX E p s m args c cc own nL) (w : zW E s μ H locs) : ∀ U : State, U.heap = H → s.WarmedH U.vm → zR E μ U := by
  intro U hU hW
  obtain ⟨-, -, -, -, -, hK, hN, hZ, hH⟩ := X
  obtain ⟨hP, hD, hS⟩ := w
  subst hU
  exact ⟨hP, hD, va_K.moved hW.alike hK, zN_warm hW hN, zZ.moved hW.alike (hZ.kept (fun a h1 h2 => hS.2.1 a h1 h2)), Nat.le_trans hH hS.1⟩
theorem z_head {y : MethodName} {ret : Option FieldType} {rm : Room} {as : List Value} {Qc : Array Value → State → Outcome → State → Prop} (hy : plainName y.cls = true) (hn : (lg_sl as).length ≤ nL)
    (body : ∀ (p : Program) (e : Env) (s : State) (m : MethodId) (below : List Frame) (meth : Method) (c : Code), zX E p s m as.toArray c cc y.cls nL → meth.sig.returnType = ret → meth.locks = false → zW E s μ s.heap [] → ∀ ls : Array Slot, lv_has ls nL (lv_args 0 as) →
      W p l e rm s m as.toArray below meth c s.heap [] 0 0 (MQ below Qc as.toArray s 0 0 (zA E)) (F0 m 0 ls [])) : Met l y (.code y cc nL ret :: zT) rm (va_Pc as (zR E μ)) Qc 0 0 (zA E) := by
  refine Met.ofW (cc := cc) (maxL := nL) (ret := ret) hy rfl ?_
  intro p e s m args below meth c s₁ B hml hv
  obtain ⟨rfl, hP, hD, hK, hN, hZ, hH⟩ := hv
  have hts := atoms_spec (ws := .code y cc nL ret :: zT) B.pre
  have hl := lv_entry as (n := nL) hn
  rw [lg_entry_eq]
  generalize (lg_sl as ++ List.replicate (nL - (lg_sl as).length) Slot.unset).toArray = ls at hl ⊢
  exact body p e s m below meth c ⟨B.exec, B.bytes, hml, findClass_of_methodNamed B.named, fun w h => hts w (List.mem_cons_of_mem _ h), hK, hN, hZ, hH⟩ B.returns B.notSynchronized ⟨hP, hD, va_S.rf⟩ ls hl
theorem z_headF {y : MethodName} {ret : Option FieldType} {rm : Room} {as : List Value} {Qc : Array Value → State → Outcome → State → Prop} (hy : plainFor y = true) (hn : (lg_sl as).length ≤ nL)
    (body : ∀ (p : Program) (e : Env) (s : State) (m : MethodId) (below : List Frame) (meth : Method) (c : Code), zX E p s m as.toArray c cc y.cls nL → meth.sig.returnType = ret → meth.locks = false → zW E s μ s.heap [] → ∀ ls : Array Slot, lv_has ls nL (lv_args 0 as) →
      W p l e rm s m as.toArray below meth c s.heap [] 0 0 (MQ below Qc as.toArray s 0 0 (zA E)) (F0 m 0 ls [])) : Met l y (.code y cc nL ret :: zT) rm (va_Pc as (zR E μ)) Qc 0 0 (zA E) := by
  refine va_MetF (cc := cc) (maxL := nL) (ret := ret) hy rfl ?_
  intro p e s m args below meth c s₁ B hml hv
  obtain ⟨rfl, hP, hD, hK, hN, hZ, hH⟩ := hv
  have hts := atoms_spec (ws := .code y cc nL ret :: zT) B.pre
  have hl := lv_entry as (n := nL) hn
  rw [lg_entry_eq]
  generalize (lg_sl as ++ List.replicate (nL - (lg_sl as).length) Slot.unset).toArray = ls at hl ⊢
  exact body p e s m below meth c ⟨B.exec, B.bytes, hml, findClass_of_methodNamed B.named, fun w h => hts w (List.mem_cons_of_mem _ h), hK, hN, hZ, hH⟩ B.returns B.notSynchronized ⟨hP, hD, va_S.rf⟩ ls hl
theorem z_iret {K : Int32 → zM → Prop} {v : Int32} (X : zX E p s m args c cc own nL) (hr : meth.sig.returnType = some .int) (hlk : meth.locks = false) (w : zW E s μ H locs) (hk : K v μ) (hd : decode cc pc = .ok (.ireturn, 1)) :
    W p l e R s m args below meth c H locs 0 0 (MQ below (va_Qi K (zR E) (zA E)) args s 0 0 (zA E)) (F0 m pc ls [.int v]) :=
  W.iret (v := v) X.1 X.2.1 hr (fun t ht hW => ⟨⟨v, μ, rfl, hk, z_pre X w t ht hW⟩, w.2.2.F ht⟩) w.2.2.2.2 hd hlk
theorem z_zret {K : Int32 → zM → Prop} {v : Int32} (X : zX E p s m args c cc own nL) (hr : meth.sig.returnType = some .boolean) (hlk : meth.locks = false) (w : zW E s μ H locs) (hn : narrow .boolean (.int v) = .int v) (hk : K v μ) (hd : decode cc pc = .ok (.ireturn, 1)) :
    W p l e R s m args below meth c H locs 0 0 (MQ below (va_Qi K (zR E) (zA E)) args s 0 0 (zA E)) (F0 m pc ls [.int v]) :=
  W.zret (v := v) X.1 X.2.1 hr hn (fun t ht hW => ⟨⟨v, μ, rfl, hk, z_pre X w t ht hW⟩, w.2.2.F ht⟩) w.2.2.2.2 hd hlk
theorem z_vret {K : zM → Prop} (X : zX E p s m args c cc own nL) (hr : meth.sig.returnType = none) (hlk : meth.locks = false) (w : zW E s μ H locs) (hk : K μ) (hd : decode cc pc = .ok (.return_, 1)) :
    W p l e R s m args below meth c H locs 0 0 (MQ below (va_Qv K (zR E) (zA E)) args s 0 0 (zA E)) (F0 m pc ls []) :=
  W.vret X.1 X.2.1 hr (fun t ht hW => ⟨⟨μ, rfl, hk, z_pre X w t ht hW⟩, w.2.2.F ht⟩) w.2.2.2.2 hd hlk
theorem z_pay {y : MethodName} {bytes : ByteArray} {maxL : Nat} {ret : Option FieldType} (X : zX E p s m args c cc own nL) (h : Cond.code y bytes maxL ret ∈ zT) : ∀ w ∈ (Cond.code y bytes maxL ret :: zT), ∀ (a' : Array Value) (U : State), s.WarmedH U.vm → w.before a' U = true :=
  pay_in X.2.2.2.2.1 (fun w hw => by
    rcases List.mem_cons.mp hw with rfl | hw
    · exact ⟨h, zT_good h⟩
    · exact ⟨hw, zT_good hw⟩)

theorem z_cVi {y : MethodName} {bytes : ByteArray} {maxL fr lo n index : Nat} {rt : Option FieldType} {K : Int32 → zM → Prop} {As : List Value} {st0 : List Value} {a : Nat} {q0 ci : Nat} {q : vw_C} {fs : List Value} (X : zX E p s m args c cc own nL) (w : zW E s μ H locs)
    (hM : Met l y (Cond.code y bytes maxL rt :: zT) { frames := fr, cells := 0, slots := 0, locals := lo } (va_Pc (.ref a :: As) (zR E μ)) (va_Qi K (zR E) (zA E)) 0 0 (zA E)) (hc : zcl[ci]? = some q) (hq : q.1 = y.cls) (he : (zw E μ)[q0]? = some (a, .inr (ci, fs)))
    (h1 : Cond.methodLink own index y ∈ zT) (h2 : Cond.instanceMethod y ∈ zT ∧ Cond.selects y.cls y y ∈ zT) (h4 : Cond.initialized y.cls ∈ zT) (h5 : Cond.code y bytes maxL rt ∈ zT) (hy : y.cls ≠ "java/lang/invoke/MethodHandle" ∧ y.cls ≠ "java/lang/invoke/VarHandle") (hd0 : (parseMethodDescriptor y.desc).map (fun d => d.parameters.length) = some n) (hn : As.length = n)
    (hR : fr + 1 ≤ R.frames ∧ 8 + (maxL + 11) + lo ≤ R.locals) (hf : cells ≤ R.cells ∧ slots ≤ R.slots) (hls : ls.size = nL) (hst : st0 = As.reverse ++ .ref a :: rest) (hrm : (rest.map fun v => v.category).sum ≤ 8) (hd : decode cc pc = .ok (.invokevirtual index, 3))
    (kk : ∀ (r : Int32) (μ1 : zM) (H1 : Heap) (locs1 : List Loc), K r μ1 → zW E s μ1 H1 locs1 → W p l e R s m args below meth c H1 locs1 cells slots Q (F0 m (pc + 3) ls (.int r :: rest))) : W p l e R s m args below meth c H locs cells slots Q (F0 m pc ls st0) := by
  have hlen : ∀ sig, parseMethodDescriptor y.desc = some sig → n = sig.parameters.length := fun sig h => by rw [h] at hd0; exact (Option.some.inj hd0).symm
  have hts := X.2.2.2.2.1
  refine va_calli (va_runV (C := y.cls) (b := a) (As := As) (rest := rest) ⟨X.1, X.2.1, X.2.2.1, X.2.2.2.1, hts⟩ hM ⟨⟨rfl, rfl, hR.1, hR.2, z_pay X h5, List.mem_cons_self, hts _ h5, hts _ h4, hy, hlen, hts _ h1⟩, hts _ h2.1, hts _ h2.2⟩ ⟨z_blind, hq ▸ va_recv X.2.2.2.2.2.1 w.1 hc he, fun U hU hW => ⟨rfl, z_pre X w U hU hW⟩⟩ rfl hn hls hst (lv_room hrm) hd ⟨hf.1, hf.2⟩) w.2.2 (fun q _ h => h) (fun q h => h) (fun r u t H1 locs1 ht hvm hw hB hz hk hS => kk r u H1 locs1 hw ⟨ht ▸ hB.1, hB.2.1, hS⟩)
theorem z_cSi {y : MethodName} {bytes : ByteArray} {maxL fr lo n index : Nat} {rt : Option FieldType} {K : Int32 → zM → Prop} {As : List Value} {st0 : List Value} (X : zX E p s m args c cc own nL) (w : zW E s μ H locs)
    (hM : Met l y (Cond.code y bytes maxL rt :: zT) { frames := fr, cells := 0, slots := 0, locals := lo } (va_Pc As (zR E μ)) (va_Qi K (zR E) (zA E)) 0 0 (zA E))
    (h1 : Cond.methodLink own index y ∈ zT) (h2 : Cond.static y ∈ zT) (h4 : Cond.initialized y.cls ∈ zT) (h5 : Cond.code y bytes maxL rt ∈ zT) (hy : y.cls ≠ "java/lang/invoke/MethodHandle" ∧ y.cls ≠ "java/lang/invoke/VarHandle") (hd0 : (parseMethodDescriptor y.desc).map (fun d => d.parameters.length) = some n) (hn : As.length = n)
    (hR : fr + 1 ≤ R.frames ∧ 8 + (maxL + 11) + lo ≤ R.locals) (hf : cells ≤ R.cells ∧ slots ≤ R.slots) (hls : ls.size = nL) (hst : st0 = As.reverse ++ rest) (hrm : (rest.map fun v => v.category).sum ≤ 8) (hd : decode cc pc = .ok (.invokestatic index, 3))
    (kk : ∀ (r : Int32) (μ1 : zM) (H1 : Heap) (locs1 : List Loc), K r μ1 → zW E s μ1 H1 locs1 → W p l e R s m args below meth c H1 locs1 cells slots Q (F0 m (pc + 3) ls (.int r :: rest))) : W p l e R s m args below meth c H locs cells slots Q (F0 m pc ls st0) := by
  have hlen : ∀ sig, parseMethodDescriptor y.desc = some sig → n = sig.parameters.length := fun sig h => by rw [h] at hd0; exact (Option.some.inj hd0).symm
  have hts := X.2.2.2.2.1
  refine va_calli (va_runS (As := As) (rest := rest) ⟨X.1, X.2.1, X.2.2.1, X.2.2.2.1, hts⟩ hM ⟨⟨rfl, rfl, hR.1, hR.2, z_pay X h5, List.mem_cons_self, hts _ h5, hts _ h4, hy, hlen, hts _ h1⟩, hts _ h2⟩ ⟨z_blind, fun U hU hW => ⟨rfl, z_pre X w U hU hW⟩⟩ rfl hn hls hst (lv_room hrm) hd ⟨hf.1, hf.2⟩) w.2.2 (fun q _ h => h) (fun q h => h) (fun r u t H1 locs1 ht hvm hw hB hz hk hS => kk r u H1 locs1 hw ⟨ht ▸ hB.1, hB.2.1, hS⟩)
theorem z_cNi {y : MethodName} {bytes : ByteArray} {maxL fr lo n index : Nat} {rt : Option FieldType} {K : Int32 → zM → Prop} {As : List Value} {st0 : List Value} {host : String} (X : zX E p s m args c cc own nL) (w : zW E s μ H locs)
    (hM : Met l y (Cond.code y bytes maxL rt :: zT) { frames := fr, cells := 0, slots := 0, locals := lo } (va_Pc As (zR E μ)) (va_Qi K (zR E) (zA E)) 0 0 (zA E))
    (h1 : Cond.methodLinkNest own index y host ∈ zN) (h2 : Cond.static y ∈ zT) (h4 : Cond.initialized y.cls ∈ zT) (h5 : Cond.code y bytes maxL rt ∈ zT) (hy : y.cls ≠ "java/lang/invoke/MethodHandle" ∧ y.cls ≠ "java/lang/invoke/VarHandle") (hd0 : (parseMethodDescriptor y.desc).map (fun d => d.parameters.length) = some n) (hn : As.length = n)
    (hR : fr + 1 ≤ R.frames ∧ 8 + (maxL + 11) + lo ≤ R.locals) (hf : cells ≤ R.cells ∧ slots ≤ R.slots) (hls : ls.size = nL) (hst : st0 = As.reverse ++ rest) (hrm : (rest.map fun v => v.category).sum ≤ 8) (hd : decode cc pc = .ok (.invokestatic index, 3))
    (kk : ∀ (r : Int32) (μ1 : zM) (H1 : Heap) (locs1 : List Loc), K r μ1 → zW E s μ1 H1 locs1 → W p l e R s m args below meth c H1 locs1 cells slots Q (F0 m (pc + 3) ls (.int r :: rest))) : W p l e R s m args below meth c H locs cells slots Q (F0 m pc ls st0) := by
  have hlen : ∀ sig, parseMethodDescriptor y.desc = some sig → n = sig.parameters.length := fun sig h => by rw [h] at hd0; exact (Option.some.inj hd0).symm
  have hts := X.2.2.2.2.1
  refine va_calli (va_runSN (As := As) (rest := rest) ⟨X.1, X.2.1, X.2.2.1, X.2.2.2.1, hts⟩ hM ⟨⟨⟨rfl, rfl, hR.1, hR.2, z_pay X h5, List.mem_cons_self⟩, hts _ h5, hts _ h4, hy, hlen, va_Nw.use rfl (X.2.2.2.2.2.2.1 _ h1)⟩, hts _ h2, trivial⟩ ⟨z_blind, fun U hU hW => ⟨rfl, z_pre X w U hU hW⟩⟩ rfl hn hls hst (lv_room hrm) hd ⟨hf.1, hf.2⟩) w.2.2 (fun q _ h => h) (fun q h => h) (fun r u t H1 locs1 ht hvm hw hB hz hk hS => kk r u H1 locs1 hw ⟨ht ▸ hB.1, hB.2.1, hS⟩)
theorem z_cVv {y : MethodName} {bytes : ByteArray} {maxL fr lo n index : Nat} {rt : Option FieldType} {K : zM → Prop} {As : List Value} {st0 : List Value} {a : Nat} {q0 ci : Nat} {q : vw_C} {fs : List Value} (X : zX E p s m args c cc own nL) (w : zW E s μ H locs)
    (hM : Met l y (Cond.code y bytes maxL rt :: zT) { frames := fr, cells := 0, slots := 0, locals := lo } (va_Pc (.ref a :: As) (zR E μ)) (va_Qv K (zR E) (zA E)) 0 0 (zA E)) (hc : zcl[ci]? = some q) (hq : q.1 = y.cls) (he : (zw E μ)[q0]? = some (a, .inr (ci, fs)))
    (h1 : Cond.methodLink own index y ∈ zT) (h2 : Cond.instanceMethod y ∈ zT ∧ Cond.selects y.cls y y ∈ zT) (h4 : Cond.initialized y.cls ∈ zT) (h5 : Cond.code y bytes maxL rt ∈ zT) (hy : y.cls ≠ "java/lang/invoke/MethodHandle" ∧ y.cls ≠ "java/lang/invoke/VarHandle") (hd0 : (parseMethodDescriptor y.desc).map (fun d => d.parameters.length) = some n) (hn : As.length = n)
    (hR : fr + 1 ≤ R.frames ∧ 8 + (maxL + 11) + lo ≤ R.locals) (hf : cells ≤ R.cells ∧ slots ≤ R.slots) (hls : ls.size = nL) (hst : st0 = As.reverse ++ .ref a :: rest) (hrm : (rest.map fun v => v.category).sum ≤ 8) (hd : decode cc pc = .ok (.invokevirtual index, 3))
    (kk : ∀ (μ1 : zM) (H1 : Heap) (locs1 : List Loc), K μ1 → zW E s μ1 H1 locs1 → W p l e R s m args below meth c H1 locs1 cells slots Q (F0 m (pc + 3) ls (rest))) : W p l e R s m args below meth c H locs cells slots Q (F0 m pc ls st0) := by
  have hlen : ∀ sig, parseMethodDescriptor y.desc = some sig → n = sig.parameters.length := fun sig h => by rw [h] at hd0; exact (Option.some.inj hd0).symm
  have hts := X.2.2.2.2.1
  refine va_callv (va_runV (C := y.cls) (b := a) (As := As) (rest := rest) ⟨X.1, X.2.1, X.2.2.1, X.2.2.2.1, hts⟩ hM ⟨⟨rfl, rfl, hR.1, hR.2, z_pay X h5, List.mem_cons_self, hts _ h5, hts _ h4, hy, hlen, hts _ h1⟩, hts _ h2.1, hts _ h2.2⟩ ⟨z_blind, hq ▸ va_recv X.2.2.2.2.2.1 w.1 hc he, fun U hU hW => ⟨rfl, z_pre X w U hU hW⟩⟩ rfl hn hls hst (lv_room hrm) hd ⟨hf.1, hf.2⟩) w.2.2 (fun q _ h => h) (fun q h => h) (fun u t H1 locs1 ht hvm hw hB hz hk hS => kk u H1 locs1 hw ⟨ht ▸ hB.1, hB.2.1, hS⟩)
theorem z_cSv {y : MethodName} {bytes : ByteArray} {maxL fr lo n index : Nat} {rt : Option FieldType} {K : zM → Prop} {As : List Value} {st0 : List Value} (X : zX E p s m args c cc own nL) (w : zW E s μ H locs)
    (hM : Met l y (Cond.code y bytes maxL rt :: zT) { frames := fr, cells := 0, slots := 0, locals := lo } (va_Pc As (zR E μ)) (va_Qv K (zR E) (zA E)) 0 0 (zA E))
    (h1 : Cond.methodLink own index y ∈ zT) (h2 : Cond.static y ∈ zT) (h4 : Cond.initialized y.cls ∈ zT) (h5 : Cond.code y bytes maxL rt ∈ zT) (hy : y.cls ≠ "java/lang/invoke/MethodHandle" ∧ y.cls ≠ "java/lang/invoke/VarHandle") (hd0 : (parseMethodDescriptor y.desc).map (fun d => d.parameters.length) = some n) (hn : As.length = n)
    (hR : fr + 1 ≤ R.frames ∧ 8 + (maxL + 11) + lo ≤ R.locals) (hf : cells ≤ R.cells ∧ slots ≤ R.slots) (hls : ls.size = nL) (hst : st0 = As.reverse ++ rest) (hrm : (rest.map fun v => v.category).sum ≤ 8) (hd : decode cc pc = .ok (.invokestatic index, 3))
    (kk : ∀ (μ1 : zM) (H1 : Heap) (locs1 : List Loc), K μ1 → zW E s μ1 H1 locs1 → W p l e R s m args below meth c H1 locs1 cells slots Q (F0 m (pc + 3) ls (rest))) : W p l e R s m args below meth c H locs cells slots Q (F0 m pc ls st0) := by
  have hlen : ∀ sig, parseMethodDescriptor y.desc = some sig → n = sig.parameters.length := fun sig h => by rw [h] at hd0; exact (Option.some.inj hd0).symm
  have hts := X.2.2.2.2.1
  refine va_callv (va_runS (As := As) (rest := rest) ⟨X.1, X.2.1, X.2.2.1, X.2.2.2.1, hts⟩ hM ⟨⟨rfl, rfl, hR.1, hR.2, z_pay X h5, List.mem_cons_self, hts _ h5, hts _ h4, hy, hlen, hts _ h1⟩, hts _ h2⟩ ⟨z_blind, fun U hU hW => ⟨rfl, z_pre X w U hU hW⟩⟩ rfl hn hls hst (lv_room hrm) hd ⟨hf.1, hf.2⟩) w.2.2 (fun q _ h => h) (fun q h => h) (fun u t H1 locs1 ht hvm hw hB hz hk hS => kk u H1 locs1 hw ⟨ht ▸ hB.1, hB.2.1, hS⟩)
theorem z_cNv {y : MethodName} {bytes : ByteArray} {maxL fr lo n index : Nat} {rt : Option FieldType} {K : zM → Prop} {As : List Value} {st0 : List Value} {host : String} (X : zX E p s m args c cc own nL) (w : zW E s μ H locs)
    (hM : Met l y (Cond.code y bytes maxL rt :: zT) { frames := fr, cells := 0, slots := 0, locals := lo } (va_Pc As (zR E μ)) (va_Qv K (zR E) (zA E)) 0 0 (zA E))
    (h1 : Cond.methodLinkNest own index y host ∈ zN) (h2 : Cond.static y ∈ zT) (h4 : Cond.initialized y.cls ∈ zT) (h5 : Cond.code y bytes maxL rt ∈ zT) (hy : y.cls ≠ "java/lang/invoke/MethodHandle" ∧ y.cls ≠ "java/lang/invoke/VarHandle") (hd0 : (parseMethodDescriptor y.desc).map (fun d => d.parameters.length) = some n) (hn : As.length = n)
    (hR : fr + 1 ≤ R.frames ∧ 8 + (maxL + 11) + lo ≤ R.locals) (hf : cells ≤ R.cells ∧ slots ≤ R.slots) (hls : ls.size = nL) (hst : st0 = As.reverse ++ rest) (hrm : (rest.map fun v => v.category).sum ≤ 8) (hd : decode cc pc = .ok (.invokestatic index, 3))
    (kk : ∀ (μ1 : zM) (H1 : Heap) (locs1 : List Loc), K μ1 → zW E s μ1 H1 locs1 → W p l e R s m args below meth c H1 locs1 cells slots Q (F0 m (pc + 3) ls (rest))) : W p l e R s m args below meth c H locs cells slots Q (F0 m pc ls st0) := by
  have hlen : ∀ sig, parseMethodDescriptor y.desc = some sig → n = sig.parameters.length := fun sig h => by rw [h] at hd0; exact (Option.some.inj hd0).symm
  have hts := X.2.2.2.2.1
  refine va_callv (va_runSN (As := As) (rest := rest) ⟨X.1, X.2.1, X.2.2.1, X.2.2.2.1, hts⟩ hM ⟨⟨⟨rfl, rfl, hR.1, hR.2, z_pay X h5, List.mem_cons_self⟩, hts _ h5, hts _ h4, hy, hlen, va_Nw.use rfl (X.2.2.2.2.2.2.1 _ h1)⟩, hts _ h2, trivial⟩ ⟨z_blind, fun U hU hW => ⟨rfl, z_pre X w U hU hW⟩⟩ rfl hn hls hst (lv_room hrm) hd ⟨hf.1, hf.2⟩) w.2.2 (fun q _ h => h) (fun q h => h) (fun u t H1 locs1 ht hvm hw hB hz hk hS => kk u H1 locs1 hw ⟨ht ▸ hB.1, hB.2.1, hS⟩)
theorem gt_0_0 {index : Nat} (X : zX E p s m args c cc own nL) (w : zW E s μ H locs) (hl : Cond.fieldLink own index "BeatHeap" "collector" "LBeatHeap$Collector;" ∈ zT) (hd : decode cc pc = .ok (.getfield index, 3)) (kk : W p l e R s m args below meth c H locs cells slots Q (F0 m (pc + 3) ls (.ref (E.2.1 1) :: rest))) : W p l e R s m args below meth c H locs cells slots Q (F0 m pc ls (.ref (E.2.1 0) :: rest)) :=
  va_get (C := "BeatHeap") (T := F_Bh) (N := 6) (ci := 5) X.1 X.2.1 X.2.2.2.2.1 i_Bh X.2.2.2.1 X.2.2.2.2.2.1 w.1 0 rfl rfl 0 (by decide) (X.2.2.2.2.1 _ hl) (fun _ h => h) rfl hd kk
theorem gt_0_1 {index : Nat} (X : zX E p s m args c cc own nL) (w : zW E s μ H locs) (hl : Cond.fieldLink own index "BeatHeap" "blocks" "LBeatHeap$Blocks;" ∈ zT) (hd : decode cc pc = .ok (.getfield index, 3)) (kk : W p l e R s m args below meth c H locs cells slots Q (F0 m (pc + 3) ls (.ref (E.2.1 2) :: rest))) : W p l e R s m args below meth c H locs cells slots Q (F0 m pc ls (.ref (E.2.1 0) :: rest)) :=
  va_get (C := "BeatHeap") (T := F_Bh) (N := 6) (ci := 5) X.1 X.2.1 X.2.2.2.2.1 i_Bh X.2.2.2.1 X.2.2.2.2.2.1 w.1 0 rfl rfl 1 (by decide) (X.2.2.2.2.1 _ hl) (fun _ h => h) rfl hd kk
theorem gt_0_2 {index : Nat} (X : zX E p s m args c cc own nL) (w : zW E s μ H locs) (hl : Cond.fieldLink own index "BeatHeap" "clock" "LBeatHeap$Clock;" ∈ zT) (hd : decode cc pc = .ok (.getfield index, 3)) (kk : W p l e R s m args below meth c H locs cells slots Q (F0 m (pc + 3) ls (.ref (E.2.1 10) :: rest))) : W p l e R s m args below meth c H locs cells slots Q (F0 m pc ls (.ref (E.2.1 0) :: rest)) :=
  va_get (C := "BeatHeap") (T := F_Bh) (N := 6) (ci := 5) X.1 X.2.1 X.2.2.2.2.1 i_Bh X.2.2.2.1 X.2.2.2.2.2.1 w.1 0 rfl rfl 2 (by decide) (X.2.2.2.2.1 _ hl) (fun _ h => h) rfl hd kk
theorem gt_0_3 {index : Nat} (X : zX E p s m args c cc own nL) (w : zW E s μ H locs) (hl : Cond.fieldLink own index "BeatHeap" "roots" "[I" ∈ zT) (hd : decode cc pc = .ok (.getfield index, 3)) (kk : W p l e R s m args below meth c H locs cells slots Q (F0 m (pc + 3) ls (.ref (E.2.1 14) :: rest))) : W p l e R s m args below meth c H locs cells slots Q (F0 m pc ls (.ref (E.2.1 0) :: rest)) :=
  va_get (C := "BeatHeap") (T := F_Bh) (N := 6) (ci := 5) X.1 X.2.1 X.2.2.2.2.1 i_Bh X.2.2.2.1 X.2.2.2.2.2.1 w.1 0 rfl rfl 3 (by decide) (X.2.2.2.2.1 _ hl) (fun _ h => h) rfl hd kk
theorem gt_0_4 {index : Nat} (X : zX E p s m args c cc own nL) (w : zW E s μ H locs) (hl : Cond.fieldLink own index "BeatHeap" "walk" "LBeatHeap$Walk;" ∈ zT) (hd : decode cc pc = .ok (.getfield index, 3)) (kk : W p l e R s m args below meth c H locs cells slots Q (F0 m (pc + 3) ls (.ref (E.2.1 15) :: rest))) : W p l e R s m args below meth c H locs cells slots Q (F0 m pc ls (.ref (E.2.1 0) :: rest)) :=
  va_get (C := "BeatHeap") (T := F_Bh) (N := 6) (ci := 5) X.1 X.2.1 X.2.2.2.2.1 i_Bh X.2.2.2.1 X.2.2.2.2.2.1 w.1 0 rfl rfl 4 (by decide) (X.2.2.2.2.1 _ hl) (fun _ h => h) rfl hd kk
theorem gt_0_5 {index : Nat} (X : zX E p s m args c cc own nL) (w : zW E s μ H locs) (hl : Cond.fieldLink own index "BeatHeap" "misses" "I" ∈ zT) (hd : decode cc pc = .ok (.getfield index, 3)) (kk : W p l e R s m args below meth c H locs cells slots Q (F0 m (pc + 3) ls (.int (μ 0 5) :: rest))) : W p l e R s m args below meth c H locs cells slots Q (F0 m pc ls (.ref (E.2.1 0) :: rest)) :=
  va_get (C := "BeatHeap") (T := F_Bh) (N := 6) (ci := 5) X.1 X.2.1 X.2.2.2.2.1 i_Bh X.2.2.2.1 X.2.2.2.2.2.1 w.1 0 rfl rfl 5 (by decide) (X.2.2.2.2.1 _ hl) (fun _ h => h) rfl hd kk
theorem pt_0_5 {index : Nat} {v : Int32} (X : zX E p s m args c cc own nL) (w : zW E s μ H locs) (hl : Cond.fieldLink own index "BeatHeap" "misses" "I" ∈ zT) (hd : decode cc pc = .ok (.putfield index, 3)) (kk : ∀ (μ1 : zM) (H1 : Heap) (locs1 : List Loc), μ1 = zp μ 0 5 v → zW E s μ1 H1 locs1 → W p l e R s m args below meth c H1 locs1 cells slots Q (F0 m (pc + 3) ls rest)) : W p l e R s m args below meth c H locs cells slots Q (F0 m pc ls (.int v :: .ref (E.2.1 0) :: rest)) :=
  va_put (C := "BeatHeap") (T := F_Bh) (N := 6) (ci := 5) (ty := .int) X.1 X.2.1 X.2.2.2.2.1 i_Bh t_Bh t_Bh_ok n_Bh X.2.2.2.1 X.2.2.2.2.2.1 w.1 w.2.1 w.2.2 0 rfl rfl 5 (by decide) (X.2.2.2.2.1 _ hl) (fun _ h => h) rfl (by decide +kernel) rfl rfl (Nat.le_of_ble_eq_true rfl) hd (fun H1 locs1 hP hD hS => kk _ H1 locs1 rfl ⟨hP, hD, hS⟩)
theorem gt_1_0 {index : Nat} (X : zX E p s m args c cc own nL) (w : zW E s μ H locs) (hl : Cond.fieldLink own index "BeatHeap$Collector" "blocks" "LBeatHeap$Blocks;" ∈ zT) (hd : decode cc pc = .ok (.getfield index, 3)) (kk : W p l e R s m args below meth c H locs cells slots Q (F0 m (pc + 3) ls (.ref (E.2.1 2) :: rest))) : W p l e R s m args below meth c H locs cells slots Q (F0 m pc ls (.ref (E.2.1 1) :: rest)) :=
  va_get (C := "BeatHeap$Collector") (T := F_Co) (N := 14) (ci := 2) X.1 X.2.1 X.2.2.2.2.1 i_Co X.2.2.2.1 X.2.2.2.2.2.1 w.1 1 rfl rfl 0 (by decide) (X.2.2.2.2.1 _ hl) (fun _ h => h) rfl hd kk
theorem gn_1_0 {index : Nat} {host : String} (X : zX E p s m args c cc own nL) (w : zW E s μ H locs) (hl : Cond.fieldLinkNest own index "BeatHeap$Collector" "blocks" "LBeatHeap$Blocks;" host ∈ zN) (hd : decode cc pc = .ok (.getfield index, 3)) (kk : W p l e R s m args below meth c H locs cells slots Q (F0 m (pc + 3) ls (.ref (E.2.1 2) :: rest))) : W p l e R s m args below meth c H locs cells slots Q (F0 m pc ls (.ref (E.2.1 1) :: rest)) :=
  va_getN (C := "BeatHeap$Collector") (T := F_Co) (N := 14) (ci := 2) X.1 X.2.1 X.2.2.2.2.1 i_Co X.2.2.2.1 X.2.2.2.2.2.1 w.1 1 rfl rfl 0 (by decide) (va_Nw.use rfl (X.2.2.2.2.2.2.1 _ hl)) (fun _ h => h) rfl hd kk
theorem gt_1_1 {index : Nat} (X : zX E p s m args c cc own nL) (w : zW E s μ H locs) (hl : Cond.fieldLink own index "BeatHeap$Collector" "clock" "LBeatHeap$Clock;" ∈ zT) (hd : decode cc pc = .ok (.getfield index, 3)) (kk : W p l e R s m args below meth c H locs cells slots Q (F0 m (pc + 3) ls (.ref (E.2.1 10) :: rest))) : W p l e R s m args below meth c H locs cells slots Q (F0 m pc ls (.ref (E.2.1 1) :: rest)) :=
  va_get (C := "BeatHeap$Collector") (T := F_Co) (N := 14) (ci := 2) X.1 X.2.1 X.2.2.2.2.1 i_Co X.2.2.2.1 X.2.2.2.2.2.1 w.1 1 rfl rfl 1 (by decide) (X.2.2.2.2.1 _ hl) (fun _ h => h) rfl hd kk
theorem gn_1_1 {index : Nat} {host : String} (X : zX E p s m args c cc own nL) (w : zW E s μ H locs) (hl : Cond.fieldLinkNest own index "BeatHeap$Collector" "clock" "LBeatHeap$Clock;" host ∈ zN) (hd : decode cc pc = .ok (.getfield index, 3)) (kk : W p l e R s m args below meth c H locs cells slots Q (F0 m (pc + 3) ls (.ref (E.2.1 10) :: rest))) : W p l e R s m args below meth c H locs cells slots Q (F0 m pc ls (.ref (E.2.1 1) :: rest)) :=
  va_getN (C := "BeatHeap$Collector") (T := F_Co) (N := 14) (ci := 2) X.1 X.2.1 X.2.2.2.2.1 i_Co X.2.2.2.1 X.2.2.2.2.2.1 w.1 1 rfl rfl 1 (by decide) (va_Nw.use rfl (X.2.2.2.2.2.2.1 _ hl)) (fun _ h => h) rfl hd kk
theorem gt_1_2 {index : Nat} (X : zX E p s m args c cc own nL) (w : zW E s μ H locs) (hl : Cond.fieldLink own index "BeatHeap$Collector" "pile" "LBeatHeap$Pile;" ∈ zT) (hd : decode cc pc = .ok (.getfield index, 3)) (kk : W p l e R s m args below meth c H locs cells slots Q (F0 m (pc + 3) ls (.ref (E.2.1 12) :: rest))) : W p l e R s m args below meth c H locs cells slots Q (F0 m pc ls (.ref (E.2.1 1) :: rest)) :=
  va_get (C := "BeatHeap$Collector") (T := F_Co) (N := 14) (ci := 2) X.1 X.2.1 X.2.2.2.2.1 i_Co X.2.2.2.1 X.2.2.2.2.2.1 w.1 1 rfl rfl 2 (by decide) (X.2.2.2.2.1 _ hl) (fun _ h => h) rfl hd kk
theorem gt_1_3 {index : Nat} (X : zX E p s m args c cc own nL) (w : zW E s μ H locs) (hl : Cond.fieldLink own index "BeatHeap$Collector" "roots" "[I" ∈ zT) (hd : decode cc pc = .ok (.getfield index, 3)) (kk : W p l e R s m args below meth c H locs cells slots Q (F0 m (pc + 3) ls (.ref (E.2.1 14) :: rest))) : W p l e R s m args below meth c H locs cells slots Q (F0 m pc ls (.ref (E.2.1 1) :: rest)) :=
  va_get (C := "BeatHeap$Collector") (T := F_Co) (N := 14) (ci := 2) X.1 X.2.1 X.2.2.2.2.1 i_Co X.2.2.2.1 X.2.2.2.2.2.1 w.1 1 rfl rfl 3 (by decide) (X.2.2.2.2.1 _ hl) (fun _ h => h) rfl hd kk
theorem gn_1_3 {index : Nat} {host : String} (X : zX E p s m args c cc own nL) (w : zW E s μ H locs) (hl : Cond.fieldLinkNest own index "BeatHeap$Collector" "roots" "[I" host ∈ zN) (hd : decode cc pc = .ok (.getfield index, 3)) (kk : W p l e R s m args below meth c H locs cells slots Q (F0 m (pc + 3) ls (.ref (E.2.1 14) :: rest))) : W p l e R s m args below meth c H locs cells slots Q (F0 m pc ls (.ref (E.2.1 1) :: rest)) :=
  va_getN (C := "BeatHeap$Collector") (T := F_Co) (N := 14) (ci := 2) X.1 X.2.1 X.2.2.2.2.1 i_Co X.2.2.2.1 X.2.2.2.2.2.1 w.1 1 rfl rfl 3 (by decide) (va_Nw.use rfl (X.2.2.2.2.2.2.1 _ hl)) (fun _ h => h) rfl hd kk
theorem gt_1_4 {index : Nat} (X : zX E p s m args c cc own nL) (w : zW E s μ H locs) (hl : Cond.fieldLink own index "BeatHeap$Collector" "programQuantum" "I" ∈ zT) (hd : decode cc pc = .ok (.getfield index, 3)) (kk : W p l e R s m args below meth c H locs cells slots Q (F0 m (pc + 3) ls (.int (μ 1 4) :: rest))) : W p l e R s m args below meth c H locs cells slots Q (F0 m pc ls (.ref (E.2.1 1) :: rest)) :=
  va_get (C := "BeatHeap$Collector") (T := F_Co) (N := 14) (ci := 2) X.1 X.2.1 X.2.2.2.2.1 i_Co X.2.2.2.1 X.2.2.2.2.2.1 w.1 1 rfl rfl 4 (by decide) (X.2.2.2.2.1 _ hl) (fun _ h => h) rfl hd kk
theorem pt_1_4 {index : Nat} {v : Int32} (X : zX E p s m args c cc own nL) (w : zW E s μ H locs) (hl : Cond.fieldLink own index "BeatHeap$Collector" "programQuantum" "I" ∈ zT) (hd : decode cc pc = .ok (.putfield index, 3)) (kk : ∀ (μ1 : zM) (H1 : Heap) (locs1 : List Loc), μ1 = zp μ 1 4 v → zW E s μ1 H1 locs1 → W p l e R s m args below meth c H1 locs1 cells slots Q (F0 m (pc + 3) ls rest)) : W p l e R s m args below meth c H locs cells slots Q (F0 m pc ls (.int v :: .ref (E.2.1 1) :: rest)) :=
  va_put (C := "BeatHeap$Collector") (T := F_Co) (N := 14) (ci := 2) (ty := .int) X.1 X.2.1 X.2.2.2.2.1 i_Co t_Co t_Co_ok n_Co X.2.2.2.1 X.2.2.2.2.2.1 w.1 w.2.1 w.2.2 1 rfl rfl 4 (by decide) (X.2.2.2.2.1 _ hl) (fun _ h => h) rfl (by decide +kernel) rfl rfl (Nat.le_of_ble_eq_true rfl) hd (fun H1 locs1 hP hD hS => kk _ H1 locs1 rfl ⟨hP, hD, hS⟩)
theorem gt_1_5 {index : Nat} (X : zX E p s m args c cc own nL) (w : zW E s μ H locs) (hl : Cond.fieldLink own index "BeatHeap$Collector" "ownQuantum" "I" ∈ zT) (hd : decode cc pc = .ok (.getfield index, 3)) (kk : W p l e R s m args below meth c H locs cells slots Q (F0 m (pc + 3) ls (.int (μ 1 5) :: rest))) : W p l e R s m args below meth c H locs cells slots Q (F0 m pc ls (.ref (E.2.1 1) :: rest)) :=
  va_get (C := "BeatHeap$Collector") (T := F_Co) (N := 14) (ci := 2) X.1 X.2.1 X.2.2.2.2.1 i_Co X.2.2.2.1 X.2.2.2.2.2.1 w.1 1 rfl rfl 5 (by decide) (X.2.2.2.2.1 _ hl) (fun _ h => h) rfl hd kk
theorem pt_1_5 {index : Nat} {v : Int32} (X : zX E p s m args c cc own nL) (w : zW E s μ H locs) (hl : Cond.fieldLink own index "BeatHeap$Collector" "ownQuantum" "I" ∈ zT) (hd : decode cc pc = .ok (.putfield index, 3)) (kk : ∀ (μ1 : zM) (H1 : Heap) (locs1 : List Loc), μ1 = zp μ 1 5 v → zW E s μ1 H1 locs1 → W p l e R s m args below meth c H1 locs1 cells slots Q (F0 m (pc + 3) ls rest)) : W p l e R s m args below meth c H locs cells slots Q (F0 m pc ls (.int v :: .ref (E.2.1 1) :: rest)) :=
  va_put (C := "BeatHeap$Collector") (T := F_Co) (N := 14) (ci := 2) (ty := .int) X.1 X.2.1 X.2.2.2.2.1 i_Co t_Co t_Co_ok n_Co X.2.2.2.1 X.2.2.2.2.2.1 w.1 w.2.1 w.2.2 1 rfl rfl 5 (by decide) (X.2.2.2.2.1 _ hl) (fun _ h => h) rfl (by decide +kernel) rfl rfl (Nat.le_of_ble_eq_true rfl) hd (fun H1 locs1 hP hD hS => kk _ H1 locs1 rfl ⟨hP, hD, hS⟩)
theorem gt_1_6 {index : Nat} (X : zX E p s m args c cc own nL) (w : zW E s μ H locs) (hl : Cond.fieldLink own index "BeatHeap$Collector" "trigger" "I" ∈ zT) (hd : decode cc pc = .ok (.getfield index, 3)) (kk : W p l e R s m args below meth c H locs cells slots Q (F0 m (pc + 3) ls (.int (μ 1 6) :: rest))) : W p l e R s m args below meth c H locs cells slots Q (F0 m pc ls (.ref (E.2.1 1) :: rest)) :=
  va_get (C := "BeatHeap$Collector") (T := F_Co) (N := 14) (ci := 2) X.1 X.2.1 X.2.2.2.2.1 i_Co X.2.2.2.1 X.2.2.2.2.2.1 w.1 1 rfl rfl 6 (by decide) (X.2.2.2.2.1 _ hl) (fun _ h => h) rfl hd kk
theorem pt_1_6 {index : Nat} {v : Int32} (X : zX E p s m args c cc own nL) (w : zW E s μ H locs) (hl : Cond.fieldLink own index "BeatHeap$Collector" "trigger" "I" ∈ zT) (hd : decode cc pc = .ok (.putfield index, 3)) (kk : ∀ (μ1 : zM) (H1 : Heap) (locs1 : List Loc), μ1 = zp μ 1 6 v → zW E s μ1 H1 locs1 → W p l e R s m args below meth c H1 locs1 cells slots Q (F0 m (pc + 3) ls rest)) : W p l e R s m args below meth c H locs cells slots Q (F0 m pc ls (.int v :: .ref (E.2.1 1) :: rest)) :=
  va_put (C := "BeatHeap$Collector") (T := F_Co) (N := 14) (ci := 2) (ty := .int) X.1 X.2.1 X.2.2.2.2.1 i_Co t_Co t_Co_ok n_Co X.2.2.2.1 X.2.2.2.2.2.1 w.1 w.2.1 w.2.2 1 rfl rfl 6 (by decide) (X.2.2.2.2.1 _ hl) (fun _ h => h) rfl (by decide +kernel) rfl rfl (Nat.le_of_ble_eq_true rfl) hd (fun H1 locs1 hP hD hS => kk _ H1 locs1 rfl ⟨hP, hD, hS⟩)
theorem gt_1_7 {index : Nat} (X : zX E p s m args c cc own nL) (w : zW E s μ H locs) (hl : Cond.fieldLink own index "BeatHeap$Collector" "part" "I" ∈ zT) (hd : decode cc pc = .ok (.getfield index, 3)) (kk : W p l e R s m args below meth c H locs cells slots Q (F0 m (pc + 3) ls (.int (μ 1 7) :: rest))) : W p l e R s m args below meth c H locs cells slots Q (F0 m pc ls (.ref (E.2.1 1) :: rest)) :=
  va_get (C := "BeatHeap$Collector") (T := F_Co) (N := 14) (ci := 2) X.1 X.2.1 X.2.2.2.2.1 i_Co X.2.2.2.1 X.2.2.2.2.2.1 w.1 1 rfl rfl 7 (by decide) (X.2.2.2.2.1 _ hl) (fun _ h => h) rfl hd kk
theorem pt_1_7 {index : Nat} {v : Int32} (X : zX E p s m args c cc own nL) (w : zW E s μ H locs) (hl : Cond.fieldLink own index "BeatHeap$Collector" "part" "I" ∈ zT) (hd : decode cc pc = .ok (.putfield index, 3)) (kk : ∀ (μ1 : zM) (H1 : Heap) (locs1 : List Loc), μ1 = zp μ 1 7 v → zW E s μ1 H1 locs1 → W p l e R s m args below meth c H1 locs1 cells slots Q (F0 m (pc + 3) ls rest)) : W p l e R s m args below meth c H locs cells slots Q (F0 m pc ls (.int v :: .ref (E.2.1 1) :: rest)) :=
  va_put (C := "BeatHeap$Collector") (T := F_Co) (N := 14) (ci := 2) (ty := .int) X.1 X.2.1 X.2.2.2.2.1 i_Co t_Co t_Co_ok n_Co X.2.2.2.1 X.2.2.2.2.2.1 w.1 w.2.1 w.2.2 1 rfl rfl 7 (by decide) (X.2.2.2.2.1 _ hl) (fun _ h => h) rfl (by decide +kernel) rfl rfl (Nat.le_of_ble_eq_true rfl) hd (fun H1 locs1 hP hD hS => kk _ H1 locs1 rfl ⟨hP, hD, hS⟩)
theorem gt_1_8 {index : Nat} (X : zX E p s m args c cc own nL) (w : zW E s μ H locs) (hl : Cond.fieldLink own index "BeatHeap$Collector" "credit" "I" ∈ zT) (hd : decode cc pc = .ok (.getfield index, 3)) (kk : W p l e R s m args below meth c H locs cells slots Q (F0 m (pc + 3) ls (.int (μ 1 8) :: rest))) : W p l e R s m args below meth c H locs cells slots Q (F0 m pc ls (.ref (E.2.1 1) :: rest)) :=
  va_get (C := "BeatHeap$Collector") (T := F_Co) (N := 14) (ci := 2) X.1 X.2.1 X.2.2.2.2.1 i_Co X.2.2.2.1 X.2.2.2.2.2.1 w.1 1 rfl rfl 8 (by decide) (X.2.2.2.2.1 _ hl) (fun _ h => h) rfl hd kk
theorem pt_1_8 {index : Nat} {v : Int32} (X : zX E p s m args c cc own nL) (w : zW E s μ H locs) (hl : Cond.fieldLink own index "BeatHeap$Collector" "credit" "I" ∈ zT) (hd : decode cc pc = .ok (.putfield index, 3)) (kk : ∀ (μ1 : zM) (H1 : Heap) (locs1 : List Loc), μ1 = zp μ 1 8 v → zW E s μ1 H1 locs1 → W p l e R s m args below meth c H1 locs1 cells slots Q (F0 m (pc + 3) ls rest)) : W p l e R s m args below meth c H locs cells slots Q (F0 m pc ls (.int v :: .ref (E.2.1 1) :: rest)) :=
  va_put (C := "BeatHeap$Collector") (T := F_Co) (N := 14) (ci := 2) (ty := .int) X.1 X.2.1 X.2.2.2.2.1 i_Co t_Co t_Co_ok n_Co X.2.2.2.1 X.2.2.2.2.2.1 w.1 w.2.1 w.2.2 1 rfl rfl 8 (by decide) (X.2.2.2.2.1 _ hl) (fun _ h => h) rfl (by decide +kernel) rfl rfl (Nat.le_of_ble_eq_true rfl) hd (fun H1 locs1 hP hD hS => kk _ H1 locs1 rfl ⟨hP, hD, hS⟩)
theorem gt_1_9 {index : Nat} (X : zX E p s m args c cc own nL) (w : zW E s μ H locs) (hl : Cond.fieldLink own index "BeatHeap$Collector" "nextRoot" "I" ∈ zT) (hd : decode cc pc = .ok (.getfield index, 3)) (kk : W p l e R s m args below meth c H locs cells slots Q (F0 m (pc + 3) ls (.int (μ 1 9) :: rest))) : W p l e R s m args below meth c H locs cells slots Q (F0 m pc ls (.ref (E.2.1 1) :: rest)) :=
  va_get (C := "BeatHeap$Collector") (T := F_Co) (N := 14) (ci := 2) X.1 X.2.1 X.2.2.2.2.1 i_Co X.2.2.2.1 X.2.2.2.2.2.1 w.1 1 rfl rfl 9 (by decide) (X.2.2.2.2.1 _ hl) (fun _ h => h) rfl hd kk
theorem pt_1_9 {index : Nat} {v : Int32} (X : zX E p s m args c cc own nL) (w : zW E s μ H locs) (hl : Cond.fieldLink own index "BeatHeap$Collector" "nextRoot" "I" ∈ zT) (hd : decode cc pc = .ok (.putfield index, 3)) (kk : ∀ (μ1 : zM) (H1 : Heap) (locs1 : List Loc), μ1 = zp μ 1 9 v → zW E s μ1 H1 locs1 → W p l e R s m args below meth c H1 locs1 cells slots Q (F0 m (pc + 3) ls rest)) : W p l e R s m args below meth c H locs cells slots Q (F0 m pc ls (.int v :: .ref (E.2.1 1) :: rest)) :=
  va_put (C := "BeatHeap$Collector") (T := F_Co) (N := 14) (ci := 2) (ty := .int) X.1 X.2.1 X.2.2.2.2.1 i_Co t_Co t_Co_ok n_Co X.2.2.2.1 X.2.2.2.2.2.1 w.1 w.2.1 w.2.2 1 rfl rfl 9 (by decide) (X.2.2.2.2.1 _ hl) (fun _ h => h) rfl (by decide +kernel) rfl rfl (Nat.le_of_ble_eq_true rfl) hd (fun H1 locs1 hP hD hS => kk _ H1 locs1 rfl ⟨hP, hD, hS⟩)
theorem gt_1_10 {index : Nat} (X : zX E p s m args c cc own nL) (w : zW E s μ H locs) (hl : Cond.fieldLink own index "BeatHeap$Collector" "hand" "I" ∈ zT) (hd : decode cc pc = .ok (.getfield index, 3)) (kk : W p l e R s m args below meth c H locs cells slots Q (F0 m (pc + 3) ls (.int (μ 1 10) :: rest))) : W p l e R s m args below meth c H locs cells slots Q (F0 m pc ls (.ref (E.2.1 1) :: rest)) :=
  va_get (C := "BeatHeap$Collector") (T := F_Co) (N := 14) (ci := 2) X.1 X.2.1 X.2.2.2.2.1 i_Co X.2.2.2.1 X.2.2.2.2.2.1 w.1 1 rfl rfl 10 (by decide) (X.2.2.2.2.1 _ hl) (fun _ h => h) rfl hd kk
theorem pt_1_10 {index : Nat} {v : Int32} (X : zX E p s m args c cc own nL) (w : zW E s μ H locs) (hl : Cond.fieldLink own index "BeatHeap$Collector" "hand" "I" ∈ zT) (hd : decode cc pc = .ok (.putfield index, 3)) (kk : ∀ (μ1 : zM) (H1 : Heap) (locs1 : List Loc), μ1 = zp μ 1 10 v → zW E s μ1 H1 locs1 → W p l e R s m args below meth c H1 locs1 cells slots Q (F0 m (pc + 3) ls rest)) : W p l e R s m args below meth c H locs cells slots Q (F0 m pc ls (.int v :: .ref (E.2.1 1) :: rest)) :=
  va_put (C := "BeatHeap$Collector") (T := F_Co) (N := 14) (ci := 2) (ty := .int) X.1 X.2.1 X.2.2.2.2.1 i_Co t_Co t_Co_ok n_Co X.2.2.2.1 X.2.2.2.2.2.1 w.1 w.2.1 w.2.2 1 rfl rfl 10 (by decide) (X.2.2.2.2.1 _ hl) (fun _ h => h) rfl (by decide +kernel) rfl rfl (Nat.le_of_ble_eq_true rfl) hd (fun H1 locs1 hP hD hS => kk _ H1 locs1 rfl ⟨hP, hD, hS⟩)
theorem gt_1_11 {index : Nat} (X : zX E p s m args c cc own nL) (w : zW E s μ H locs) (hl : Cond.fieldLink own index "BeatHeap$Collector" "looked" "I" ∈ zT) (hd : decode cc pc = .ok (.getfield index, 3)) (kk : W p l e R s m args below meth c H locs cells slots Q (F0 m (pc + 3) ls (.int (μ 1 11) :: rest))) : W p l e R s m args below meth c H locs cells slots Q (F0 m pc ls (.ref (E.2.1 1) :: rest)) :=
  va_get (C := "BeatHeap$Collector") (T := F_Co) (N := 14) (ci := 2) X.1 X.2.1 X.2.2.2.2.1 i_Co X.2.2.2.1 X.2.2.2.2.2.1 w.1 1 rfl rfl 11 (by decide) (X.2.2.2.2.1 _ hl) (fun _ h => h) rfl hd kk
theorem pt_1_11 {index : Nat} {v : Int32} (X : zX E p s m args c cc own nL) (w : zW E s μ H locs) (hl : Cond.fieldLink own index "BeatHeap$Collector" "looked" "I" ∈ zT) (hd : decode cc pc = .ok (.putfield index, 3)) (kk : ∀ (μ1 : zM) (H1 : Heap) (locs1 : List Loc), μ1 = zp μ 1 11 v → zW E s μ1 H1 locs1 → W p l e R s m args below meth c H1 locs1 cells slots Q (F0 m (pc + 3) ls rest)) : W p l e R s m args below meth c H locs cells slots Q (F0 m pc ls (.int v :: .ref (E.2.1 1) :: rest)) :=
  va_put (C := "BeatHeap$Collector") (T := F_Co) (N := 14) (ci := 2) (ty := .int) X.1 X.2.1 X.2.2.2.2.1 i_Co t_Co t_Co_ok n_Co X.2.2.2.1 X.2.2.2.2.2.1 w.1 w.2.1 w.2.2 1 rfl rfl 11 (by decide) (X.2.2.2.2.1 _ hl) (fun _ h => h) rfl (by decide +kernel) rfl rfl (Nat.le_of_ble_eq_true rfl) hd (fun H1 locs1 hP hD hS => kk _ H1 locs1 rfl ⟨hP, hD, hS⟩)
theorem gt_1_12 {index : Nat} (X : zX E p s m args c cc own nL) (w : zW E s μ H locs) (hl : Cond.fieldLink own index "BeatHeap$Collector" "place" "I" ∈ zT) (hd : decode cc pc = .ok (.getfield index, 3)) (kk : W p l e R s m args below meth c H locs cells slots Q (F0 m (pc + 3) ls (.int (μ 1 12) :: rest))) : W p l e R s m args below meth c H locs cells slots Q (F0 m pc ls (.ref (E.2.1 1) :: rest)) :=
  va_get (C := "BeatHeap$Collector") (T := F_Co) (N := 14) (ci := 2) X.1 X.2.1 X.2.2.2.2.1 i_Co X.2.2.2.1 X.2.2.2.2.2.1 w.1 1 rfl rfl 12 (by decide) (X.2.2.2.2.1 _ hl) (fun _ h => h) rfl hd kk
theorem pt_1_12 {index : Nat} {v : Int32} (X : zX E p s m args c cc own nL) (w : zW E s μ H locs) (hl : Cond.fieldLink own index "BeatHeap$Collector" "place" "I" ∈ zT) (hd : decode cc pc = .ok (.putfield index, 3)) (kk : ∀ (μ1 : zM) (H1 : Heap) (locs1 : List Loc), μ1 = zp μ 1 12 v → zW E s μ1 H1 locs1 → W p l e R s m args below meth c H1 locs1 cells slots Q (F0 m (pc + 3) ls rest)) : W p l e R s m args below meth c H locs cells slots Q (F0 m pc ls (.int v :: .ref (E.2.1 1) :: rest)) :=
  va_put (C := "BeatHeap$Collector") (T := F_Co) (N := 14) (ci := 2) (ty := .int) X.1 X.2.1 X.2.2.2.2.1 i_Co t_Co t_Co_ok n_Co X.2.2.2.1 X.2.2.2.2.2.1 w.1 w.2.1 w.2.2 1 rfl rfl 12 (by decide) (X.2.2.2.2.1 _ hl) (fun _ h => h) rfl (by decide +kernel) rfl rfl (Nat.le_of_ble_eq_true rfl) hd (fun H1 locs1 hP hD hS => kk _ H1 locs1 rfl ⟨hP, hD, hS⟩)
theorem gt_1_13 {index : Nat} (X : zX E p s m args c cc own nL) (w : zW E s μ H locs) (hl : Cond.fieldLink own index "BeatHeap$Collector" "cyclesOver" "I" ∈ zT) (hd : decode cc pc = .ok (.getfield index, 3)) (kk : W p l e R s m args below meth c H locs cells slots Q (F0 m (pc + 3) ls (.int (μ 1 13) :: rest))) : W p l e R s m args below meth c H locs cells slots Q (F0 m pc ls (.ref (E.2.1 1) :: rest)) :=
  va_get (C := "BeatHeap$Collector") (T := F_Co) (N := 14) (ci := 2) X.1 X.2.1 X.2.2.2.2.1 i_Co X.2.2.2.1 X.2.2.2.2.2.1 w.1 1 rfl rfl 13 (by decide) (X.2.2.2.2.1 _ hl) (fun _ h => h) rfl hd kk
theorem pt_1_13 {index : Nat} {v : Int32} (X : zX E p s m args c cc own nL) (w : zW E s μ H locs) (hl : Cond.fieldLink own index "BeatHeap$Collector" "cyclesOver" "I" ∈ zT) (hd : decode cc pc = .ok (.putfield index, 3)) (kk : ∀ (μ1 : zM) (H1 : Heap) (locs1 : List Loc), μ1 = zp μ 1 13 v → zW E s μ1 H1 locs1 → W p l e R s m args below meth c H1 locs1 cells slots Q (F0 m (pc + 3) ls rest)) : W p l e R s m args below meth c H locs cells slots Q (F0 m pc ls (.int v :: .ref (E.2.1 1) :: rest)) :=
  va_put (C := "BeatHeap$Collector") (T := F_Co) (N := 14) (ci := 2) (ty := .int) X.1 X.2.1 X.2.2.2.2.1 i_Co t_Co t_Co_ok n_Co X.2.2.2.1 X.2.2.2.2.2.1 w.1 w.2.1 w.2.2 1 rfl rfl 13 (by decide) (X.2.2.2.2.1 _ hl) (fun _ h => h) rfl (by decide +kernel) rfl rfl (Nat.le_of_ble_eq_true rfl) hd (fun H1 locs1 hP hD hS => kk _ H1 locs1 rfl ⟨hP, hD, hS⟩)
theorem gt_2_0 {index : Nat} (X : zX E p s m args c cc own nL) (w : zW E s μ H locs) (hl : Cond.fieldLink own index "BeatHeap$Blocks" "words" "[I" ∈ zT) (hd : decode cc pc = .ok (.getfield index, 3)) (kk : W p l e R s m args below meth c H locs cells slots Q (F0 m (pc + 3) ls (.ref (E.2.1 3) :: rest))) : W p l e R s m args below meth c H locs cells slots Q (F0 m pc ls (.ref (E.2.1 2) :: rest)) :=
  va_get (C := "BeatHeap$Blocks") (T := F_Bk) (N := 11) (ci := 0) X.1 X.2.1 X.2.2.2.2.1 i_Bk X.2.2.2.1 X.2.2.2.2.2.1 w.1 2 rfl rfl 0 (by decide) (X.2.2.2.2.1 _ hl) (fun _ h => h) rfl hd kk
theorem gt_2_1 {index : Nat} (X : zX E p s m args c cc own nL) (w : zW E s μ H locs) (hl : Cond.fieldLink own index "BeatHeap$Blocks" "kinds" "[B" ∈ zT) (hd : decode cc pc = .ok (.getfield index, 3)) (kk : W p l e R s m args below meth c H locs cells slots Q (F0 m (pc + 3) ls (.ref (E.2.1 4) :: rest))) : W p l e R s m args below meth c H locs cells slots Q (F0 m pc ls (.ref (E.2.1 2) :: rest)) :=
  va_get (C := "BeatHeap$Blocks") (T := F_Bk) (N := 11) (ci := 0) X.1 X.2.1 X.2.2.2.2.1 i_Bk X.2.2.2.1 X.2.2.2.2.2.1 w.1 2 rfl rfl 1 (by decide) (X.2.2.2.2.1 _ hl) (fun _ h => h) rfl hd kk
theorem gt_2_2 {index : Nat} (X : zX E p s m args c cc own nL) (w : zW E s μ H locs) (hl : Cond.fieldLink own index "BeatHeap$Blocks" "marks" "[B" ∈ zT) (hd : decode cc pc = .ok (.getfield index, 3)) (kk : W p l e R s m args below meth c H locs cells slots Q (F0 m (pc + 3) ls (.ref (E.2.1 5) :: rest))) : W p l e R s m args below meth c H locs cells slots Q (F0 m pc ls (.ref (E.2.1 2) :: rest)) :=
  va_get (C := "BeatHeap$Blocks") (T := F_Bk) (N := 11) (ci := 0) X.1 X.2.1 X.2.2.2.2.1 i_Bk X.2.2.2.1 X.2.2.2.2.2.1 w.1 2 rfl rfl 2 (by decide) (X.2.2.2.2.1 _ hl) (fun _ h => h) rfl hd kk
theorem gt_2_3 {index : Nat} (X : zX E p s m args c cc own nL) (w : zW E s μ H locs) (hl : Cond.fieldLink own index "BeatHeap$Blocks" "pointers" "[I" ∈ zT) (hd : decode cc pc = .ok (.getfield index, 3)) (kk : W p l e R s m args below meth c H locs cells slots Q (F0 m (pc + 3) ls (.ref (E.2.1 6) :: rest))) : W p l e R s m args below meth c H locs cells slots Q (F0 m pc ls (.ref (E.2.1 2) :: rest)) :=
  va_get (C := "BeatHeap$Blocks") (T := F_Bk) (N := 11) (ci := 0) X.1 X.2.1 X.2.2.2.2.1 i_Bk X.2.2.2.1 X.2.2.2.2.2.1 w.1 2 rfl rfl 3 (by decide) (X.2.2.2.2.1 _ hl) (fun _ h => h) rfl hd kk
theorem gt_2_4 {index : Nat} (X : zX E p s m args c cc own nL) (w : zW E s μ H locs) (hl : Cond.fieldLink own index "BeatHeap$Blocks" "numbers" "[I" ∈ zT) (hd : decode cc pc = .ok (.getfield index, 3)) (kk : W p l e R s m args below meth c H locs cells slots Q (F0 m (pc + 3) ls (.ref (E.2.1 7) :: rest))) : W p l e R s m args below meth c H locs cells slots Q (F0 m pc ls (.ref (E.2.1 2) :: rest)) :=
  va_get (C := "BeatHeap$Blocks") (T := F_Bk) (N := 11) (ci := 0) X.1 X.2.1 X.2.2.2.2.1 i_Bk X.2.2.2.1 X.2.2.2.2.2.1 w.1 2 rfl rfl 4 (by decide) (X.2.2.2.2.1 _ hl) (fun _ h => h) rfl hd kk
theorem gt_2_5 {index : Nat} (X : zX E p s m args c cc own nL) (w : zW E s μ H locs) (hl : Cond.fieldLink own index "BeatHeap$Blocks" "classes" "[I" ∈ zT) (hd : decode cc pc = .ok (.getfield index, 3)) (kk : W p l e R s m args below meth c H locs cells slots Q (F0 m (pc + 3) ls (.ref (E.2.1 8) :: rest))) : W p l e R s m args below meth c H locs cells slots Q (F0 m pc ls (.ref (E.2.1 2) :: rest)) :=
  va_get (C := "BeatHeap$Blocks") (T := F_Bk) (N := 11) (ci := 0) X.1 X.2.1 X.2.2.2.2.1 i_Bk X.2.2.2.1 X.2.2.2.2.2.1 w.1 2 rfl rfl 5 (by decide) (X.2.2.2.2.1 _ hl) (fun _ h => h) rfl hd kk
theorem gt_2_6 {index : Nat} (X : zX E p s m args c cc own nL) (w : zW E s μ H locs) (hl : Cond.fieldLink own index "BeatHeap$Blocks" "held" "[I" ∈ zT) (hd : decode cc pc = .ok (.getfield index, 3)) (kk : W p l e R s m args below meth c H locs cells slots Q (F0 m (pc + 3) ls (.ref (E.2.1 9) :: rest))) : W p l e R s m args below meth c H locs cells slots Q (F0 m pc ls (.ref (E.2.1 2) :: rest)) :=
  va_get (C := "BeatHeap$Blocks") (T := F_Bk) (N := 11) (ci := 0) X.1 X.2.1 X.2.2.2.2.1 i_Bk X.2.2.2.1 X.2.2.2.2.2.1 w.1 2 rfl rfl 6 (by decide) (X.2.2.2.2.1 _ hl) (fun _ h => h) rfl hd kk
theorem gt_2_7 {index : Nat} (X : zX E p s m args c cc own nL) (w : zW E s μ H locs) (hl : Cond.fieldLink own index "BeatHeap$Blocks" "pages" "I" ∈ zT) (hd : decode cc pc = .ok (.getfield index, 3)) (kk : W p l e R s m args below meth c H locs cells slots Q (F0 m (pc + 3) ls (.int (μ 2 7) :: rest))) : W p l e R s m args below meth c H locs cells slots Q (F0 m pc ls (.ref (E.2.1 2) :: rest)) :=
  va_get (C := "BeatHeap$Blocks") (T := F_Bk) (N := 11) (ci := 0) X.1 X.2.1 X.2.2.2.2.1 i_Bk X.2.2.2.1 X.2.2.2.2.2.1 w.1 2 rfl rfl 7 (by decide) (X.2.2.2.2.1 _ hl) (fun _ h => h) rfl hd kk
theorem pt_2_7 {index : Nat} {v : Int32} (X : zX E p s m args c cc own nL) (w : zW E s μ H locs) (hl : Cond.fieldLink own index "BeatHeap$Blocks" "pages" "I" ∈ zT) (hd : decode cc pc = .ok (.putfield index, 3)) (kk : ∀ (μ1 : zM) (H1 : Heap) (locs1 : List Loc), μ1 = zp μ 2 7 v → zW E s μ1 H1 locs1 → W p l e R s m args below meth c H1 locs1 cells slots Q (F0 m (pc + 3) ls rest)) : W p l e R s m args below meth c H locs cells slots Q (F0 m pc ls (.int v :: .ref (E.2.1 2) :: rest)) :=
  va_put (C := "BeatHeap$Blocks") (T := F_Bk) (N := 11) (ci := 0) (ty := .int) X.1 X.2.1 X.2.2.2.2.1 i_Bk t_Bk t_Bk_ok n_Bk X.2.2.2.1 X.2.2.2.2.2.1 w.1 w.2.1 w.2.2 2 rfl rfl 7 (by decide) (X.2.2.2.2.1 _ hl) (fun _ h => h) rfl (by decide +kernel) rfl rfl (Nat.le_of_ble_eq_true rfl) hd (fun H1 locs1 hP hD hS => kk _ H1 locs1 rfl ⟨hP, hD, hS⟩)
theorem gt_2_8 {index : Nat} (X : zX E p s m args c cc own nL) (w : zW E s μ H locs) (hl : Cond.fieldLink own index "BeatHeap$Blocks" "freePages" "I" ∈ zT) (hd : decode cc pc = .ok (.getfield index, 3)) (kk : W p l e R s m args below meth c H locs cells slots Q (F0 m (pc + 3) ls (.int (μ 2 8) :: rest))) : W p l e R s m args below meth c H locs cells slots Q (F0 m pc ls (.ref (E.2.1 2) :: rest)) :=
  va_get (C := "BeatHeap$Blocks") (T := F_Bk) (N := 11) (ci := 0) X.1 X.2.1 X.2.2.2.2.1 i_Bk X.2.2.2.1 X.2.2.2.2.2.1 w.1 2 rfl rfl 8 (by decide) (X.2.2.2.2.1 _ hl) (fun _ h => h) rfl hd kk
theorem gn_2_8 {index : Nat} {host : String} (X : zX E p s m args c cc own nL) (w : zW E s μ H locs) (hl : Cond.fieldLinkNest own index "BeatHeap$Blocks" "freePages" "I" host ∈ zN) (hd : decode cc pc = .ok (.getfield index, 3)) (kk : W p l e R s m args below meth c H locs cells slots Q (F0 m (pc + 3) ls (.int (μ 2 8) :: rest))) : W p l e R s m args below meth c H locs cells slots Q (F0 m pc ls (.ref (E.2.1 2) :: rest)) :=
  va_getN (C := "BeatHeap$Blocks") (T := F_Bk) (N := 11) (ci := 0) X.1 X.2.1 X.2.2.2.2.1 i_Bk X.2.2.2.1 X.2.2.2.2.2.1 w.1 2 rfl rfl 8 (by decide) (va_Nw.use rfl (X.2.2.2.2.2.2.1 _ hl)) (fun _ h => h) rfl hd kk
theorem pt_2_8 {index : Nat} {v : Int32} (X : zX E p s m args c cc own nL) (w : zW E s μ H locs) (hl : Cond.fieldLink own index "BeatHeap$Blocks" "freePages" "I" ∈ zT) (hd : decode cc pc = .ok (.putfield index, 3)) (kk : ∀ (μ1 : zM) (H1 : Heap) (locs1 : List Loc), μ1 = zp μ 2 8 v → zW E s μ1 H1 locs1 → W p l e R s m args below meth c H1 locs1 cells slots Q (F0 m (pc + 3) ls rest)) : W p l e R s m args below meth c H locs cells slots Q (F0 m pc ls (.int v :: .ref (E.2.1 2) :: rest)) :=
  va_put (C := "BeatHeap$Blocks") (T := F_Bk) (N := 11) (ci := 0) (ty := .int) X.1 X.2.1 X.2.2.2.2.1 i_Bk t_Bk t_Bk_ok n_Bk X.2.2.2.1 X.2.2.2.2.2.1 w.1 w.2.1 w.2.2 2 rfl rfl 8 (by decide) (X.2.2.2.2.1 _ hl) (fun _ h => h) rfl (by decide +kernel) rfl rfl (Nat.le_of_ble_eq_true rfl) hd (fun H1 locs1 hP hD hS => kk _ H1 locs1 rfl ⟨hP, hD, hS⟩)
theorem gt_2_9 {index : Nat} (X : zX E p s m args c cc own nL) (w : zW E s μ H locs) (hl : Cond.fieldLink own index "BeatHeap$Blocks" "heldInAll" "I" ∈ zT) (hd : decode cc pc = .ok (.getfield index, 3)) (kk : W p l e R s m args below meth c H locs cells slots Q (F0 m (pc + 3) ls (.int (μ 2 9) :: rest))) : W p l e R s m args below meth c H locs cells slots Q (F0 m pc ls (.ref (E.2.1 2) :: rest)) :=
  va_get (C := "BeatHeap$Blocks") (T := F_Bk) (N := 11) (ci := 0) X.1 X.2.1 X.2.2.2.2.1 i_Bk X.2.2.2.1 X.2.2.2.2.2.1 w.1 2 rfl rfl 9 (by decide) (X.2.2.2.2.1 _ hl) (fun _ h => h) rfl hd kk
theorem gn_2_9 {index : Nat} {host : String} (X : zX E p s m args c cc own nL) (w : zW E s μ H locs) (hl : Cond.fieldLinkNest own index "BeatHeap$Blocks" "heldInAll" "I" host ∈ zN) (hd : decode cc pc = .ok (.getfield index, 3)) (kk : W p l e R s m args below meth c H locs cells slots Q (F0 m (pc + 3) ls (.int (μ 2 9) :: rest))) : W p l e R s m args below meth c H locs cells slots Q (F0 m pc ls (.ref (E.2.1 2) :: rest)) :=
  va_getN (C := "BeatHeap$Blocks") (T := F_Bk) (N := 11) (ci := 0) X.1 X.2.1 X.2.2.2.2.1 i_Bk X.2.2.2.1 X.2.2.2.2.2.1 w.1 2 rfl rfl 9 (by decide) (va_Nw.use rfl (X.2.2.2.2.2.2.1 _ hl)) (fun _ h => h) rfl hd kk
theorem pt_2_9 {index : Nat} {v : Int32} (X : zX E p s m args c cc own nL) (w : zW E s μ H locs) (hl : Cond.fieldLink own index "BeatHeap$Blocks" "heldInAll" "I" ∈ zT) (hd : decode cc pc = .ok (.putfield index, 3)) (kk : ∀ (μ1 : zM) (H1 : Heap) (locs1 : List Loc), μ1 = zp μ 2 9 v → zW E s μ1 H1 locs1 → W p l e R s m args below meth c H1 locs1 cells slots Q (F0 m (pc + 3) ls rest)) : W p l e R s m args below meth c H locs cells slots Q (F0 m pc ls (.int v :: .ref (E.2.1 2) :: rest)) :=
  va_put (C := "BeatHeap$Blocks") (T := F_Bk) (N := 11) (ci := 0) (ty := .int) X.1 X.2.1 X.2.2.2.2.1 i_Bk t_Bk t_Bk_ok n_Bk X.2.2.2.1 X.2.2.2.2.2.1 w.1 w.2.1 w.2.2 2 rfl rfl 9 (by decide) (X.2.2.2.2.1 _ hl) (fun _ h => h) rfl (by decide +kernel) rfl rfl (Nat.le_of_ble_eq_true rfl) hd (fun H1 locs1 hP hD hS => kk _ H1 locs1 rfl ⟨hP, hD, hS⟩)
theorem gt_2_10 {index : Nat} (X : zX E p s m args c cc own nL) (w : zW E s μ H locs) (hl : Cond.fieldLink own index "BeatHeap$Blocks" "freedInAll" "I" ∈ zT) (hd : decode cc pc = .ok (.getfield index, 3)) (kk : W p l e R s m args below meth c H locs cells slots Q (F0 m (pc + 3) ls (.int (μ 2 10) :: rest))) : W p l e R s m args below meth c H locs cells slots Q (F0 m pc ls (.ref (E.2.1 2) :: rest)) :=
  va_get (C := "BeatHeap$Blocks") (T := F_Bk) (N := 11) (ci := 0) X.1 X.2.1 X.2.2.2.2.1 i_Bk X.2.2.2.1 X.2.2.2.2.2.1 w.1 2 rfl rfl 10 (by decide) (X.2.2.2.2.1 _ hl) (fun _ h => h) rfl hd kk
theorem gn_2_10 {index : Nat} {host : String} (X : zX E p s m args c cc own nL) (w : zW E s μ H locs) (hl : Cond.fieldLinkNest own index "BeatHeap$Blocks" "freedInAll" "I" host ∈ zN) (hd : decode cc pc = .ok (.getfield index, 3)) (kk : W p l e R s m args below meth c H locs cells slots Q (F0 m (pc + 3) ls (.int (μ 2 10) :: rest))) : W p l e R s m args below meth c H locs cells slots Q (F0 m pc ls (.ref (E.2.1 2) :: rest)) :=
  va_getN (C := "BeatHeap$Blocks") (T := F_Bk) (N := 11) (ci := 0) X.1 X.2.1 X.2.2.2.2.1 i_Bk X.2.2.2.1 X.2.2.2.2.2.1 w.1 2 rfl rfl 10 (by decide) (va_Nw.use rfl (X.2.2.2.2.2.2.1 _ hl)) (fun _ h => h) rfl hd kk
theorem pt_2_10 {index : Nat} {v : Int32} (X : zX E p s m args c cc own nL) (w : zW E s μ H locs) (hl : Cond.fieldLink own index "BeatHeap$Blocks" "freedInAll" "I" ∈ zT) (hd : decode cc pc = .ok (.putfield index, 3)) (kk : ∀ (μ1 : zM) (H1 : Heap) (locs1 : List Loc), μ1 = zp μ 2 10 v → zW E s μ1 H1 locs1 → W p l e R s m args below meth c H1 locs1 cells slots Q (F0 m (pc + 3) ls rest)) : W p l e R s m args below meth c H locs cells slots Q (F0 m pc ls (.int v :: .ref (E.2.1 2) :: rest)) :=
  va_put (C := "BeatHeap$Blocks") (T := F_Bk) (N := 11) (ci := 0) (ty := .int) X.1 X.2.1 X.2.2.2.2.1 i_Bk t_Bk t_Bk_ok n_Bk X.2.2.2.1 X.2.2.2.2.2.1 w.1 w.2.1 w.2.2 2 rfl rfl 10 (by decide) (X.2.2.2.2.1 _ hl) (fun _ h => h) rfl (by decide +kernel) rfl rfl (Nat.le_of_ble_eq_true rfl) hd (fun H1 locs1 hP hD hS => kk _ H1 locs1 rfl ⟨hP, hD, hS⟩)
theorem gt_10_0 {index : Nat} (X : zX E p s m args c cc own nL) (w : zW E s μ H locs) (hl : Cond.fieldLink own index "BeatHeap$Clock" "latest" "[B" ∈ zT) (hd : decode cc pc = .ok (.getfield index, 3)) (kk : W p l e R s m args below meth c H locs cells slots Q (F0 m (pc + 3) ls (.ref (E.2.1 11) :: rest))) : W p l e R s m args below meth c H locs cells slots Q (F0 m pc ls (.ref (E.2.1 10) :: rest)) :=
  va_get (C := "BeatHeap$Clock") (T := F_Ck) (N := 5) (ci := 1) X.1 X.2.1 X.2.2.2.2.1 i_Ck X.2.2.2.1 X.2.2.2.2.2.1 w.1 10 rfl rfl 0 (by decide) (X.2.2.2.2.1 _ hl) (fun _ h => h) rfl hd kk
theorem gt_10_1 {index : Nat} (X : zX E p s m args c cc own nL) (w : zW E s μ H locs) (hl : Cond.fieldLink own index "BeatHeap$Clock" "next" "I" ∈ zT) (hd : decode cc pc = .ok (.getfield index, 3)) (kk : W p l e R s m args below meth c H locs cells slots Q (F0 m (pc + 3) ls (.int (μ 10 1) :: rest))) : W p l e R s m args below meth c H locs cells slots Q (F0 m pc ls (.ref (E.2.1 10) :: rest)) :=
  va_get (C := "BeatHeap$Clock") (T := F_Ck) (N := 5) (ci := 1) X.1 X.2.1 X.2.2.2.2.1 i_Ck X.2.2.2.1 X.2.2.2.2.2.1 w.1 10 rfl rfl 1 (by decide) (X.2.2.2.2.1 _ hl) (fun _ h => h) rfl hd kk
theorem pt_10_1 {index : Nat} {v : Int32} (X : zX E p s m args c cc own nL) (w : zW E s μ H locs) (hl : Cond.fieldLink own index "BeatHeap$Clock" "next" "I" ∈ zT) (hd : decode cc pc = .ok (.putfield index, 3)) (kk : ∀ (μ1 : zM) (H1 : Heap) (locs1 : List Loc), μ1 = zp μ 10 1 v → zW E s μ1 H1 locs1 → W p l e R s m args below meth c H1 locs1 cells slots Q (F0 m (pc + 3) ls rest)) : W p l e R s m args below meth c H locs cells slots Q (F0 m pc ls (.int v :: .ref (E.2.1 10) :: rest)) :=
  va_put (C := "BeatHeap$Clock") (T := F_Ck) (N := 5) (ci := 1) (ty := .int) X.1 X.2.1 X.2.2.2.2.1 i_Ck t_Ck t_Ck_ok n_Ck X.2.2.2.1 X.2.2.2.2.2.1 w.1 w.2.1 w.2.2 10 rfl rfl 1 (by decide) (X.2.2.2.2.1 _ hl) (fun _ h => h) rfl (by decide +kernel) rfl rfl (Nat.le_of_ble_eq_true rfl) hd (fun H1 locs1 hP hD hS => kk _ H1 locs1 rfl ⟨hP, hD, hS⟩)
theorem gt_10_2 {index : Nat} (X : zX E p s m args c cc own nL) (w : zW E s μ H locs) (hl : Cond.fieldLink own index "BeatHeap$Clock" "kept" "I" ∈ zT) (hd : decode cc pc = .ok (.getfield index, 3)) (kk : W p l e R s m args below meth c H locs cells slots Q (F0 m (pc + 3) ls (.int (μ 10 2) :: rest))) : W p l e R s m args below meth c H locs cells slots Q (F0 m pc ls (.ref (E.2.1 10) :: rest)) :=
  va_get (C := "BeatHeap$Clock") (T := F_Ck) (N := 5) (ci := 1) X.1 X.2.1 X.2.2.2.2.1 i_Ck X.2.2.2.1 X.2.2.2.2.2.1 w.1 10 rfl rfl 2 (by decide) (X.2.2.2.2.1 _ hl) (fun _ h => h) rfl hd kk
theorem pt_10_2 {index : Nat} {v : Int32} (X : zX E p s m args c cc own nL) (w : zW E s μ H locs) (hl : Cond.fieldLink own index "BeatHeap$Clock" "kept" "I" ∈ zT) (hd : decode cc pc = .ok (.putfield index, 3)) (kk : ∀ (μ1 : zM) (H1 : Heap) (locs1 : List Loc), μ1 = zp μ 10 2 v → zW E s μ1 H1 locs1 → W p l e R s m args below meth c H1 locs1 cells slots Q (F0 m (pc + 3) ls rest)) : W p l e R s m args below meth c H locs cells slots Q (F0 m pc ls (.int v :: .ref (E.2.1 10) :: rest)) :=
  va_put (C := "BeatHeap$Clock") (T := F_Ck) (N := 5) (ci := 1) (ty := .int) X.1 X.2.1 X.2.2.2.2.1 i_Ck t_Ck t_Ck_ok n_Ck X.2.2.2.1 X.2.2.2.2.2.1 w.1 w.2.1 w.2.2 10 rfl rfl 2 (by decide) (X.2.2.2.2.1 _ hl) (fun _ h => h) rfl (by decide +kernel) rfl rfl (Nat.le_of_ble_eq_true rfl) hd (fun H1 locs1 hP hD hS => kk _ H1 locs1 rfl ⟨hP, hD, hS⟩)
theorem gt_10_3 {index : Nat} (X : zX E p s m args c cc own nL) (w : zW E s μ H locs) (hl : Cond.fieldLink own index "BeatHeap$Clock" "programs" "I" ∈ zT) (hd : decode cc pc = .ok (.getfield index, 3)) (kk : W p l e R s m args below meth c H locs cells slots Q (F0 m (pc + 3) ls (.int (μ 10 3) :: rest))) : W p l e R s m args below meth c H locs cells slots Q (F0 m pc ls (.ref (E.2.1 10) :: rest)) :=
  va_get (C := "BeatHeap$Clock") (T := F_Ck) (N := 5) (ci := 1) X.1 X.2.1 X.2.2.2.2.1 i_Ck X.2.2.2.1 X.2.2.2.2.2.1 w.1 10 rfl rfl 3 (by decide) (X.2.2.2.2.1 _ hl) (fun _ h => h) rfl hd kk
theorem gn_10_3 {index : Nat} {host : String} (X : zX E p s m args c cc own nL) (w : zW E s μ H locs) (hl : Cond.fieldLinkNest own index "BeatHeap$Clock" "programs" "I" host ∈ zN) (hd : decode cc pc = .ok (.getfield index, 3)) (kk : W p l e R s m args below meth c H locs cells slots Q (F0 m (pc + 3) ls (.int (μ 10 3) :: rest))) : W p l e R s m args below meth c H locs cells slots Q (F0 m pc ls (.ref (E.2.1 10) :: rest)) :=
  va_getN (C := "BeatHeap$Clock") (T := F_Ck) (N := 5) (ci := 1) X.1 X.2.1 X.2.2.2.2.1 i_Ck X.2.2.2.1 X.2.2.2.2.2.1 w.1 10 rfl rfl 3 (by decide) (va_Nw.use rfl (X.2.2.2.2.2.2.1 _ hl)) (fun _ h => h) rfl hd kk
theorem pt_10_3 {index : Nat} {v : Int32} (X : zX E p s m args c cc own nL) (w : zW E s μ H locs) (hl : Cond.fieldLink own index "BeatHeap$Clock" "programs" "I" ∈ zT) (hd : decode cc pc = .ok (.putfield index, 3)) (kk : ∀ (μ1 : zM) (H1 : Heap) (locs1 : List Loc), μ1 = zp μ 10 3 v → zW E s μ1 H1 locs1 → W p l e R s m args below meth c H1 locs1 cells slots Q (F0 m (pc + 3) ls rest)) : W p l e R s m args below meth c H locs cells slots Q (F0 m pc ls (.int v :: .ref (E.2.1 10) :: rest)) :=
  va_put (C := "BeatHeap$Clock") (T := F_Ck) (N := 5) (ci := 1) (ty := .int) X.1 X.2.1 X.2.2.2.2.1 i_Ck t_Ck t_Ck_ok n_Ck X.2.2.2.1 X.2.2.2.2.2.1 w.1 w.2.1 w.2.2 10 rfl rfl 3 (by decide) (X.2.2.2.2.1 _ hl) (fun _ h => h) rfl (by decide +kernel) rfl rfl (Nat.le_of_ble_eq_true rfl) hd (fun H1 locs1 hP hD hS => kk _ H1 locs1 rfl ⟨hP, hD, hS⟩)
theorem gt_10_4 {index : Nat} (X : zX E p s m args c cc own nL) (w : zW E s μ H locs) (hl : Cond.fieldLink own index "BeatHeap$Clock" "collectors" "I" ∈ zT) (hd : decode cc pc = .ok (.getfield index, 3)) (kk : W p l e R s m args below meth c H locs cells slots Q (F0 m (pc + 3) ls (.int (μ 10 4) :: rest))) : W p l e R s m args below meth c H locs cells slots Q (F0 m pc ls (.ref (E.2.1 10) :: rest)) :=
  va_get (C := "BeatHeap$Clock") (T := F_Ck) (N := 5) (ci := 1) X.1 X.2.1 X.2.2.2.2.1 i_Ck X.2.2.2.1 X.2.2.2.2.2.1 w.1 10 rfl rfl 4 (by decide) (X.2.2.2.2.1 _ hl) (fun _ h => h) rfl hd kk
theorem gn_10_4 {index : Nat} {host : String} (X : zX E p s m args c cc own nL) (w : zW E s μ H locs) (hl : Cond.fieldLinkNest own index "BeatHeap$Clock" "collectors" "I" host ∈ zN) (hd : decode cc pc = .ok (.getfield index, 3)) (kk : W p l e R s m args below meth c H locs cells slots Q (F0 m (pc + 3) ls (.int (μ 10 4) :: rest))) : W p l e R s m args below meth c H locs cells slots Q (F0 m pc ls (.ref (E.2.1 10) :: rest)) :=
  va_getN (C := "BeatHeap$Clock") (T := F_Ck) (N := 5) (ci := 1) X.1 X.2.1 X.2.2.2.2.1 i_Ck X.2.2.2.1 X.2.2.2.2.2.1 w.1 10 rfl rfl 4 (by decide) (va_Nw.use rfl (X.2.2.2.2.2.2.1 _ hl)) (fun _ h => h) rfl hd kk
theorem pt_10_4 {index : Nat} {v : Int32} (X : zX E p s m args c cc own nL) (w : zW E s μ H locs) (hl : Cond.fieldLink own index "BeatHeap$Clock" "collectors" "I" ∈ zT) (hd : decode cc pc = .ok (.putfield index, 3)) (kk : ∀ (μ1 : zM) (H1 : Heap) (locs1 : List Loc), μ1 = zp μ 10 4 v → zW E s μ1 H1 locs1 → W p l e R s m args below meth c H1 locs1 cells slots Q (F0 m (pc + 3) ls rest)) : W p l e R s m args below meth c H locs cells slots Q (F0 m pc ls (.int v :: .ref (E.2.1 10) :: rest)) :=
  va_put (C := "BeatHeap$Clock") (T := F_Ck) (N := 5) (ci := 1) (ty := .int) X.1 X.2.1 X.2.2.2.2.1 i_Ck t_Ck t_Ck_ok n_Ck X.2.2.2.1 X.2.2.2.2.2.1 w.1 w.2.1 w.2.2 10 rfl rfl 4 (by decide) (X.2.2.2.2.1 _ hl) (fun _ h => h) rfl (by decide +kernel) rfl rfl (Nat.le_of_ble_eq_true rfl) hd (fun H1 locs1 hP hD hS => kk _ H1 locs1 rfl ⟨hP, hD, hS⟩)
theorem gt_12_0 {index : Nat} (X : zX E p s m args c cc own nL) (w : zW E s μ H locs) (hl : Cond.fieldLink own index "BeatHeap$Pile" "items" "[I" ∈ zT) (hd : decode cc pc = .ok (.getfield index, 3)) (kk : W p l e R s m args below meth c H locs cells slots Q (F0 m (pc + 3) ls (.ref (E.2.1 13) :: rest))) : W p l e R s m args below meth c H locs cells slots Q (F0 m pc ls (.ref (E.2.1 12) :: rest)) :=
  va_get (C := "BeatHeap$Pile") (T := F_Pi) (N := 2) (ci := 3) X.1 X.2.1 X.2.2.2.2.1 i_Pi X.2.2.2.1 X.2.2.2.2.2.1 w.1 12 rfl rfl 0 (by decide) (X.2.2.2.2.1 _ hl) (fun _ h => h) rfl hd kk
theorem gt_12_1 {index : Nat} (X : zX E p s m args c cc own nL) (w : zW E s μ H locs) (hl : Cond.fieldLink own index "BeatHeap$Pile" "size" "I" ∈ zT) (hd : decode cc pc = .ok (.getfield index, 3)) (kk : W p l e R s m args below meth c H locs cells slots Q (F0 m (pc + 3) ls (.int (μ 12 1) :: rest))) : W p l e R s m args below meth c H locs cells slots Q (F0 m pc ls (.ref (E.2.1 12) :: rest)) :=
  va_get (C := "BeatHeap$Pile") (T := F_Pi) (N := 2) (ci := 3) X.1 X.2.1 X.2.2.2.2.1 i_Pi X.2.2.2.1 X.2.2.2.2.2.1 w.1 12 rfl rfl 1 (by decide) (X.2.2.2.2.1 _ hl) (fun _ h => h) rfl hd kk
theorem gn_12_1 {index : Nat} {host : String} (X : zX E p s m args c cc own nL) (w : zW E s μ H locs) (hl : Cond.fieldLinkNest own index "BeatHeap$Pile" "size" "I" host ∈ zN) (hd : decode cc pc = .ok (.getfield index, 3)) (kk : W p l e R s m args below meth c H locs cells slots Q (F0 m (pc + 3) ls (.int (μ 12 1) :: rest))) : W p l e R s m args below meth c H locs cells slots Q (F0 m pc ls (.ref (E.2.1 12) :: rest)) :=
  va_getN (C := "BeatHeap$Pile") (T := F_Pi) (N := 2) (ci := 3) X.1 X.2.1 X.2.2.2.2.1 i_Pi X.2.2.2.1 X.2.2.2.2.2.1 w.1 12 rfl rfl 1 (by decide) (va_Nw.use rfl (X.2.2.2.2.2.2.1 _ hl)) (fun _ h => h) rfl hd kk
theorem pt_12_1 {index : Nat} {v : Int32} (X : zX E p s m args c cc own nL) (w : zW E s μ H locs) (hl : Cond.fieldLink own index "BeatHeap$Pile" "size" "I" ∈ zT) (hd : decode cc pc = .ok (.putfield index, 3)) (kk : ∀ (μ1 : zM) (H1 : Heap) (locs1 : List Loc), μ1 = zp μ 12 1 v → zW E s μ1 H1 locs1 → W p l e R s m args below meth c H1 locs1 cells slots Q (F0 m (pc + 3) ls rest)) : W p l e R s m args below meth c H locs cells slots Q (F0 m pc ls (.int v :: .ref (E.2.1 12) :: rest)) :=
  va_put (C := "BeatHeap$Pile") (T := F_Pi) (N := 2) (ci := 3) (ty := .int) X.1 X.2.1 X.2.2.2.2.1 i_Pi t_Pi t_Pi_ok n_Pi X.2.2.2.1 X.2.2.2.2.2.1 w.1 w.2.1 w.2.2 12 rfl rfl 1 (by decide) (X.2.2.2.2.1 _ hl) (fun _ h => h) rfl (by decide +kernel) rfl rfl (Nat.le_of_ble_eq_true rfl) hd (fun H1 locs1 hP hD hS => kk _ H1 locs1 rfl ⟨hP, hD, hS⟩)
theorem gt_15_0 {index : Nat} (X : zX E p s m args c cc own nL) (w : zW E s μ H locs) (hl : Cond.fieldLink own index "BeatHeap$Walk" "seen" "[B" ∈ zT) (hd : decode cc pc = .ok (.getfield index, 3)) (kk : W p l e R s m args below meth c H locs cells slots Q (F0 m (pc + 3) ls (.ref (E.2.1 16) :: rest))) : W p l e R s m args below meth c H locs cells slots Q (F0 m pc ls (.ref (E.2.1 15) :: rest)) :=
  va_get (C := "BeatHeap$Walk") (T := F_Wa) (N := 4) (ci := 4) X.1 X.2.1 X.2.2.2.2.1 i_Wa X.2.2.2.1 X.2.2.2.2.2.1 w.1 15 rfl rfl 0 (by decide) (X.2.2.2.2.1 _ hl) (fun _ h => h) rfl hd kk
theorem gt_15_1 {index : Nat} (X : zX E p s m args c cc own nL) (w : zW E s μ H locs) (hl : Cond.fieldLink own index "BeatHeap$Walk" "ahead" "LBeatHeap$Pile;" ∈ zT) (hd : decode cc pc = .ok (.getfield index, 3)) (kk : W p l e R s m args below meth c H locs cells slots Q (F0 m (pc + 3) ls (.ref (E.2.1 17) :: rest))) : W p l e R s m args below meth c H locs cells slots Q (F0 m pc ls (.ref (E.2.1 15) :: rest)) :=
  va_get (C := "BeatHeap$Walk") (T := F_Wa) (N := 4) (ci := 4) X.1 X.2.1 X.2.2.2.2.1 i_Wa X.2.2.2.1 X.2.2.2.2.2.1 w.1 15 rfl rfl 1 (by decide) (X.2.2.2.2.1 _ hl) (fun _ h => h) rfl hd kk
theorem gt_15_2 {index : Nat} (X : zX E p s m args c cc own nL) (w : zW E s μ H locs) (hl : Cond.fieldLink own index "BeatHeap$Walk" "found" "I" ∈ zT) (hd : decode cc pc = .ok (.getfield index, 3)) (kk : W p l e R s m args below meth c H locs cells slots Q (F0 m (pc + 3) ls (.int (μ 15 2) :: rest))) : W p l e R s m args below meth c H locs cells slots Q (F0 m pc ls (.ref (E.2.1 15) :: rest)) :=
  va_get (C := "BeatHeap$Walk") (T := F_Wa) (N := 4) (ci := 4) X.1 X.2.1 X.2.2.2.2.1 i_Wa X.2.2.2.1 X.2.2.2.2.2.1 w.1 15 rfl rfl 2 (by decide) (X.2.2.2.2.1 _ hl) (fun _ h => h) rfl hd kk
theorem gn_15_2 {index : Nat} {host : String} (X : zX E p s m args c cc own nL) (w : zW E s μ H locs) (hl : Cond.fieldLinkNest own index "BeatHeap$Walk" "found" "I" host ∈ zN) (hd : decode cc pc = .ok (.getfield index, 3)) (kk : W p l e R s m args below meth c H locs cells slots Q (F0 m (pc + 3) ls (.int (μ 15 2) :: rest))) : W p l e R s m args below meth c H locs cells slots Q (F0 m pc ls (.ref (E.2.1 15) :: rest)) :=
  va_getN (C := "BeatHeap$Walk") (T := F_Wa) (N := 4) (ci := 4) X.1 X.2.1 X.2.2.2.2.1 i_Wa X.2.2.2.1 X.2.2.2.2.2.1 w.1 15 rfl rfl 2 (by decide) (va_Nw.use rfl (X.2.2.2.2.2.2.1 _ hl)) (fun _ h => h) rfl hd kk
theorem pt_15_2 {index : Nat} {v : Int32} (X : zX E p s m args c cc own nL) (w : zW E s μ H locs) (hl : Cond.fieldLink own index "BeatHeap$Walk" "found" "I" ∈ zT) (hd : decode cc pc = .ok (.putfield index, 3)) (kk : ∀ (μ1 : zM) (H1 : Heap) (locs1 : List Loc), μ1 = zp μ 15 2 v → zW E s μ1 H1 locs1 → W p l e R s m args below meth c H1 locs1 cells slots Q (F0 m (pc + 3) ls rest)) : W p l e R s m args below meth c H locs cells slots Q (F0 m pc ls (.int v :: .ref (E.2.1 15) :: rest)) :=
  va_put (C := "BeatHeap$Walk") (T := F_Wa) (N := 4) (ci := 4) (ty := .int) X.1 X.2.1 X.2.2.2.2.1 i_Wa t_Wa t_Wa_ok n_Wa X.2.2.2.1 X.2.2.2.2.2.1 w.1 w.2.1 w.2.2 15 rfl rfl 2 (by decide) (X.2.2.2.2.1 _ hl) (fun _ h => h) rfl (by decide +kernel) rfl rfl (Nat.le_of_ble_eq_true rfl) hd (fun H1 locs1 hP hD hS => kk _ H1 locs1 rfl ⟨hP, hD, hS⟩)
theorem gt_15_3 {index : Nat} (X : zX E p s m args c cc own nL) (w : zW E s μ H locs) (hl : Cond.fieldLink own index "BeatHeap$Walk" "sound" "Z" ∈ zT) (hd : decode cc pc = .ok (.getfield index, 3)) (kk : W p l e R s m args below meth c H locs cells slots Q (F0 m (pc + 3) ls (.int (μ 15 3) :: rest))) : W p l e R s m args below meth c H locs cells slots Q (F0 m pc ls (.ref (E.2.1 15) :: rest)) :=
  va_get (C := "BeatHeap$Walk") (T := F_Wa) (N := 4) (ci := 4) X.1 X.2.1 X.2.2.2.2.1 i_Wa X.2.2.2.1 X.2.2.2.2.2.1 w.1 15 rfl rfl 3 (by decide) (X.2.2.2.2.1 _ hl) (fun _ h => h) rfl hd kk
theorem gn_15_3 {index : Nat} {host : String} (X : zX E p s m args c cc own nL) (w : zW E s μ H locs) (hl : Cond.fieldLinkNest own index "BeatHeap$Walk" "sound" "Z" host ∈ zN) (hd : decode cc pc = .ok (.getfield index, 3)) (kk : W p l e R s m args below meth c H locs cells slots Q (F0 m (pc + 3) ls (.int (μ 15 3) :: rest))) : W p l e R s m args below meth c H locs cells slots Q (F0 m pc ls (.ref (E.2.1 15) :: rest)) :=
  va_getN (C := "BeatHeap$Walk") (T := F_Wa) (N := 4) (ci := 4) X.1 X.2.1 X.2.2.2.2.1 i_Wa X.2.2.2.1 X.2.2.2.2.2.1 w.1 15 rfl rfl 3 (by decide) (va_Nw.use rfl (X.2.2.2.2.2.2.1 _ hl)) (fun _ h => h) rfl hd kk
theorem pt_15_3 {index : Nat} {v : Int32} (X : zX E p s m args c cc own nL) (w : zW E s μ H locs) (hz : narrow .boolean (.int v) = .int v ∧ fits .boolean (.int v) = true) (hl : Cond.fieldLink own index "BeatHeap$Walk" "sound" "Z" ∈ zT) (hd : decode cc pc = .ok (.putfield index, 3)) (kk : ∀ (μ1 : zM) (H1 : Heap) (locs1 : List Loc), μ1 = zp μ 15 3 v → zW E s μ1 H1 locs1 → W p l e R s m args below meth c H1 locs1 cells slots Q (F0 m (pc + 3) ls rest)) : W p l e R s m args below meth c H locs cells slots Q (F0 m pc ls (.int v :: .ref (E.2.1 15) :: rest)) :=
  va_put (C := "BeatHeap$Walk") (T := F_Wa) (N := 4) (ci := 4) (ty := .boolean) X.1 X.2.1 X.2.2.2.2.1 i_Wa t_Wa t_Wa_ok n_Wa X.2.2.2.1 X.2.2.2.2.2.1 w.1 w.2.1 w.2.2 15 rfl rfl 3 (by decide) (X.2.2.2.2.1 _ hl) (fun _ h => h) rfl (by decide +kernel) hz.1 hz.2 (Nat.le_of_ble_eq_true rfl) hd (fun H1 locs1 hP hD hS => kk _ H1 locs1 rfl ⟨hP, hD, hS⟩)
theorem gt_17_0 {index : Nat} (X : zX E p s m args c cc own nL) (w : zW E s μ H locs) (hl : Cond.fieldLink own index "BeatHeap$Pile" "items" "[I" ∈ zT) (hd : decode cc pc = .ok (.getfield index, 3)) (kk : W p l e R s m args below meth c H locs cells slots Q (F0 m (pc + 3) ls (.ref (E.2.1 18) :: rest))) : W p l e R s m args below meth c H locs cells slots Q (F0 m pc ls (.ref (E.2.1 17) :: rest)) :=
  va_get (C := "BeatHeap$Pile") (T := F_Pi) (N := 2) (ci := 3) X.1 X.2.1 X.2.2.2.2.1 i_Pi X.2.2.2.1 X.2.2.2.2.2.1 w.1 17 rfl rfl 0 (by decide) (X.2.2.2.2.1 _ hl) (fun _ h => h) rfl hd kk
theorem gt_17_1 {index : Nat} (X : zX E p s m args c cc own nL) (w : zW E s μ H locs) (hl : Cond.fieldLink own index "BeatHeap$Pile" "size" "I" ∈ zT) (hd : decode cc pc = .ok (.getfield index, 3)) (kk : W p l e R s m args below meth c H locs cells slots Q (F0 m (pc + 3) ls (.int (μ 17 1) :: rest))) : W p l e R s m args below meth c H locs cells slots Q (F0 m pc ls (.ref (E.2.1 17) :: rest)) :=
  va_get (C := "BeatHeap$Pile") (T := F_Pi) (N := 2) (ci := 3) X.1 X.2.1 X.2.2.2.2.1 i_Pi X.2.2.2.1 X.2.2.2.2.2.1 w.1 17 rfl rfl 1 (by decide) (X.2.2.2.2.1 _ hl) (fun _ h => h) rfl hd kk
theorem gn_17_1 {index : Nat} {host : String} (X : zX E p s m args c cc own nL) (w : zW E s μ H locs) (hl : Cond.fieldLinkNest own index "BeatHeap$Pile" "size" "I" host ∈ zN) (hd : decode cc pc = .ok (.getfield index, 3)) (kk : W p l e R s m args below meth c H locs cells slots Q (F0 m (pc + 3) ls (.int (μ 17 1) :: rest))) : W p l e R s m args below meth c H locs cells slots Q (F0 m pc ls (.ref (E.2.1 17) :: rest)) :=
  va_getN (C := "BeatHeap$Pile") (T := F_Pi) (N := 2) (ci := 3) X.1 X.2.1 X.2.2.2.2.1 i_Pi X.2.2.2.1 X.2.2.2.2.2.1 w.1 17 rfl rfl 1 (by decide) (va_Nw.use rfl (X.2.2.2.2.2.2.1 _ hl)) (fun _ h => h) rfl hd kk
theorem pt_17_1 {index : Nat} {v : Int32} (X : zX E p s m args c cc own nL) (w : zW E s μ H locs) (hl : Cond.fieldLink own index "BeatHeap$Pile" "size" "I" ∈ zT) (hd : decode cc pc = .ok (.putfield index, 3)) (kk : ∀ (μ1 : zM) (H1 : Heap) (locs1 : List Loc), μ1 = zp μ 17 1 v → zW E s μ1 H1 locs1 → W p l e R s m args below meth c H1 locs1 cells slots Q (F0 m (pc + 3) ls rest)) : W p l e R s m args below meth c H locs cells slots Q (F0 m pc ls (.int v :: .ref (E.2.1 17) :: rest)) :=
  va_put (C := "BeatHeap$Pile") (T := F_Pi) (N := 2) (ci := 3) (ty := .int) X.1 X.2.1 X.2.2.2.2.1 i_Pi t_Pi t_Pi_ok n_Pi X.2.2.2.1 X.2.2.2.2.2.1 w.1 w.2.1 w.2.2 17 rfl rfl 1 (by decide) (X.2.2.2.2.1 _ hl) (fun _ h => h) rfl (by decide +kernel) rfl rfl (Nat.le_of_ble_eq_true rfl) hd (fun H1 locs1 hP hD hS => kk _ H1 locs1 rfl ⟨hP, hD, hS⟩)
theorem gt_19_0 {index : Nat} (X : zX E p s m args c cc own nL) (w : zW E s μ H locs) (hl : Cond.fieldLink own index "BeatHeapModel" "pages" "I" ∈ zT) (hd : decode cc pc = .ok (.getfield index, 3)) (kk : W p l e R s m args below meth c H locs cells slots Q (F0 m (pc + 3) ls (.int (μ 19 0) :: rest))) : W p l e R s m args below meth c H locs cells slots Q (F0 m pc ls (.ref (E.2.1 19) :: rest)) :=
  va_get (C := "BeatHeapModel") (T := F_Mo) (N := 28) (ci := 6) X.1 X.2.1 X.2.2.2.2.1 i_Mo X.2.2.2.1 X.2.2.2.2.2.1 w.1 19 rfl rfl 0 (by decide) (X.2.2.2.2.1 _ hl) (fun _ h => h) rfl hd kk
theorem pt_19_0 {index : Nat} {v : Int32} (X : zX E p s m args c cc own nL) (w : zW E s μ H locs) (hl : Cond.fieldLink own index "BeatHeapModel" "pages" "I" ∈ zT) (hd : decode cc pc = .ok (.putfield index, 3)) (kk : ∀ (μ1 : zM) (H1 : Heap) (locs1 : List Loc), μ1 = zp μ 19 0 v → zW E s μ1 H1 locs1 → W p l e R s m args below meth c H1 locs1 cells slots Q (F0 m (pc + 3) ls rest)) : W p l e R s m args below meth c H locs cells slots Q (F0 m pc ls (.int v :: .ref (E.2.1 19) :: rest)) :=
  va_put (C := "BeatHeapModel") (T := F_Mo) (N := 28) (ci := 6) (ty := .int) X.1 X.2.1 X.2.2.2.2.1 i_Mo t_Mo t_Mo_ok n_Mo X.2.2.2.1 X.2.2.2.2.2.1 w.1 w.2.1 w.2.2 19 rfl rfl 0 (by decide) (X.2.2.2.2.1 _ hl) (fun _ h => h) rfl (by decide +kernel) rfl rfl (Nat.le_of_ble_eq_true rfl) hd (fun H1 locs1 hP hD hS => kk _ H1 locs1 rfl ⟨hP, hD, hS⟩)
theorem gt_19_1 {index : Nat} (X : zX E p s m args c cc own nL) (w : zW E s μ H locs) (hl : Cond.fieldLink own index "BeatHeapModel" "quantum" "I" ∈ zT) (hd : decode cc pc = .ok (.getfield index, 3)) (kk : W p l e R s m args below meth c H locs cells slots Q (F0 m (pc + 3) ls (.int (μ 19 1) :: rest))) : W p l e R s m args below meth c H locs cells slots Q (F0 m pc ls (.ref (E.2.1 19) :: rest)) :=
  va_get (C := "BeatHeapModel") (T := F_Mo) (N := 28) (ci := 6) X.1 X.2.1 X.2.2.2.2.1 i_Mo X.2.2.2.1 X.2.2.2.2.2.1 w.1 19 rfl rfl 1 (by decide) (X.2.2.2.2.1 _ hl) (fun _ h => h) rfl hd kk
theorem pt_19_1 {index : Nat} {v : Int32} (X : zX E p s m args c cc own nL) (w : zW E s μ H locs) (hl : Cond.fieldLink own index "BeatHeapModel" "quantum" "I" ∈ zT) (hd : decode cc pc = .ok (.putfield index, 3)) (kk : ∀ (μ1 : zM) (H1 : Heap) (locs1 : List Loc), μ1 = zp μ 19 1 v → zW E s μ1 H1 locs1 → W p l e R s m args below meth c H1 locs1 cells slots Q (F0 m (pc + 3) ls rest)) : W p l e R s m args below meth c H locs cells slots Q (F0 m pc ls (.int v :: .ref (E.2.1 19) :: rest)) :=
  va_put (C := "BeatHeapModel") (T := F_Mo) (N := 28) (ci := 6) (ty := .int) X.1 X.2.1 X.2.2.2.2.1 i_Mo t_Mo t_Mo_ok n_Mo X.2.2.2.1 X.2.2.2.2.2.1 w.1 w.2.1 w.2.2 19 rfl rfl 1 (by decide) (X.2.2.2.2.1 _ hl) (fun _ h => h) rfl (by decide +kernel) rfl rfl (Nat.le_of_ble_eq_true rfl) hd (fun H1 locs1 hP hD hS => kk _ H1 locs1 rfl ⟨hP, hD, hS⟩)
theorem gt_19_2 {index : Nat} (X : zX E p s m args c cc own nL) (w : zW E s μ H locs) (hl : Cond.fieldLink own index "BeatHeapModel" "collectorQuantum" "I" ∈ zT) (hd : decode cc pc = .ok (.getfield index, 3)) (kk : W p l e R s m args below meth c H locs cells slots Q (F0 m (pc + 3) ls (.int (μ 19 2) :: rest))) : W p l e R s m args below meth c H locs cells slots Q (F0 m pc ls (.ref (E.2.1 19) :: rest)) :=
  va_get (C := "BeatHeapModel") (T := F_Mo) (N := 28) (ci := 6) X.1 X.2.1 X.2.2.2.2.1 i_Mo X.2.2.2.1 X.2.2.2.2.2.1 w.1 19 rfl rfl 2 (by decide) (X.2.2.2.2.1 _ hl) (fun _ h => h) rfl hd kk
theorem pt_19_2 {index : Nat} {v : Int32} (X : zX E p s m args c cc own nL) (w : zW E s μ H locs) (hl : Cond.fieldLink own index "BeatHeapModel" "collectorQuantum" "I" ∈ zT) (hd : decode cc pc = .ok (.putfield index, 3)) (kk : ∀ (μ1 : zM) (H1 : Heap) (locs1 : List Loc), μ1 = zp μ 19 2 v → zW E s μ1 H1 locs1 → W p l e R s m args below meth c H1 locs1 cells slots Q (F0 m (pc + 3) ls rest)) : W p l e R s m args below meth c H locs cells slots Q (F0 m pc ls (.int v :: .ref (E.2.1 19) :: rest)) :=
  va_put (C := "BeatHeapModel") (T := F_Mo) (N := 28) (ci := 6) (ty := .int) X.1 X.2.1 X.2.2.2.2.1 i_Mo t_Mo t_Mo_ok n_Mo X.2.2.2.1 X.2.2.2.2.2.1 w.1 w.2.1 w.2.2 19 rfl rfl 2 (by decide) (X.2.2.2.2.1 _ hl) (fun _ h => h) rfl (by decide +kernel) rfl rfl (Nat.le_of_ble_eq_true rfl) hd (fun H1 locs1 hP hD hS => kk _ H1 locs1 rfl ⟨hP, hD, hS⟩)
theorem gt_19_3 {index : Nat} (X : zX E p s m args c cc own nL) (w : zW E s μ H locs) (hl : Cond.fieldLink own index "BeatHeapModel" "trigger" "I" ∈ zT) (hd : decode cc pc = .ok (.getfield index, 3)) (kk : W p l e R s m args below meth c H locs cells slots Q (F0 m (pc + 3) ls (.int (μ 19 3) :: rest))) : W p l e R s m args below meth c H locs cells slots Q (F0 m pc ls (.ref (E.2.1 19) :: rest)) :=
  va_get (C := "BeatHeapModel") (T := F_Mo) (N := 28) (ci := 6) X.1 X.2.1 X.2.2.2.2.1 i_Mo X.2.2.2.1 X.2.2.2.2.2.1 w.1 19 rfl rfl 3 (by decide) (X.2.2.2.2.1 _ hl) (fun _ h => h) rfl hd kk
theorem pt_19_3 {index : Nat} {v : Int32} (X : zX E p s m args c cc own nL) (w : zW E s μ H locs) (hl : Cond.fieldLink own index "BeatHeapModel" "trigger" "I" ∈ zT) (hd : decode cc pc = .ok (.putfield index, 3)) (kk : ∀ (μ1 : zM) (H1 : Heap) (locs1 : List Loc), μ1 = zp μ 19 3 v → zW E s μ1 H1 locs1 → W p l e R s m args below meth c H1 locs1 cells slots Q (F0 m (pc + 3) ls rest)) : W p l e R s m args below meth c H locs cells slots Q (F0 m pc ls (.int v :: .ref (E.2.1 19) :: rest)) :=
  va_put (C := "BeatHeapModel") (T := F_Mo) (N := 28) (ci := 6) (ty := .int) X.1 X.2.1 X.2.2.2.2.1 i_Mo t_Mo t_Mo_ok n_Mo X.2.2.2.1 X.2.2.2.2.2.1 w.1 w.2.1 w.2.2 19 rfl rfl 3 (by decide) (X.2.2.2.2.1 _ hl) (fun _ h => h) rfl (by decide +kernel) rfl rfl (Nat.le_of_ble_eq_true rfl) hd (fun H1 locs1 hP hD hS => kk _ H1 locs1 rfl ⟨hP, hD, hS⟩)
theorem gt_19_4 {index : Nat} (X : zX E p s m args c cc own nL) (w : zW E s μ H locs) (hl : Cond.fieldLink own index "BeatHeapModel" "words" "[I" ∈ zT) (hd : decode cc pc = .ok (.getfield index, 3)) (kk : W p l e R s m args below meth c H locs cells slots Q (F0 m (pc + 3) ls (.ref (E.2.1 20) :: rest))) : W p l e R s m args below meth c H locs cells slots Q (F0 m pc ls (.ref (E.2.1 19) :: rest)) :=
  va_get (C := "BeatHeapModel") (T := F_Mo) (N := 28) (ci := 6) X.1 X.2.1 X.2.2.2.2.1 i_Mo X.2.2.2.1 X.2.2.2.2.2.1 w.1 19 rfl rfl 4 (by decide) (X.2.2.2.2.1 _ hl) (fun _ h => h) rfl hd kk
theorem gt_19_5 {index : Nat} (X : zX E p s m args c cc own nL) (w : zW E s μ H locs) (hl : Cond.fieldLink own index "BeatHeapModel" "pageClass" "[I" ∈ zT) (hd : decode cc pc = .ok (.getfield index, 3)) (kk : W p l e R s m args below meth c H locs cells slots Q (F0 m (pc + 3) ls (.ref (E.2.1 21) :: rest))) : W p l e R s m args below meth c H locs cells slots Q (F0 m pc ls (.ref (E.2.1 19) :: rest)) :=
  va_get (C := "BeatHeapModel") (T := F_Mo) (N := 28) (ci := 6) X.1 X.2.1 X.2.2.2.2.1 i_Mo X.2.2.2.1 X.2.2.2.2.2.1 w.1 19 rfl rfl 5 (by decide) (X.2.2.2.2.1 _ hl) (fun _ h => h) rfl hd kk
theorem gt_19_6 {index : Nat} (X : zX E p s m args c cc own nL) (w : zW E s μ H locs) (hl : Cond.fieldLink own index "BeatHeapModel" "kind" "[I" ∈ zT) (hd : decode cc pc = .ok (.getfield index, 3)) (kk : W p l e R s m args below meth c H locs cells slots Q (F0 m (pc + 3) ls (.ref (E.2.1 22) :: rest))) : W p l e R s m args below meth c H locs cells slots Q (F0 m pc ls (.ref (E.2.1 19) :: rest)) :=
  va_get (C := "BeatHeapModel") (T := F_Mo) (N := 28) (ci := 6) X.1 X.2.1 X.2.2.2.2.1 i_Mo X.2.2.2.1 X.2.2.2.2.2.1 w.1 19 rfl rfl 6 (by decide) (X.2.2.2.2.1 _ hl) (fun _ h => h) rfl hd kk
theorem gt_19_7 {index : Nat} (X : zX E p s m args c cc own nL) (w : zW E s μ H locs) (hl : Cond.fieldLink own index "BeatHeapModel" "isMarked" "[Z" ∈ zT) (hd : decode cc pc = .ok (.getfield index, 3)) (kk : W p l e R s m args below meth c H locs cells slots Q (F0 m (pc + 3) ls (.ref (E.2.1 23) :: rest))) : W p l e R s m args below meth c H locs cells slots Q (F0 m pc ls (.ref (E.2.1 19) :: rest)) :=
  va_get (C := "BeatHeapModel") (T := F_Mo) (N := 28) (ci := 6) X.1 X.2.1 X.2.2.2.2.1 i_Mo X.2.2.2.1 X.2.2.2.2.2.1 w.1 19 rfl rfl 7 (by decide) (X.2.2.2.2.1 _ hl) (fun _ h => h) rfl hd kk
theorem gt_19_8 {index : Nat} (X : zX E p s m args c cc own nL) (w : zW E s μ H locs) (hl : Cond.fieldLink own index "BeatHeapModel" "pointers" "[I" ∈ zT) (hd : decode cc pc = .ok (.getfield index, 3)) (kk : W p l e R s m args below meth c H locs cells slots Q (F0 m (pc + 3) ls (.ref (E.2.1 24) :: rest))) : W p l e R s m args below meth c H locs cells slots Q (F0 m pc ls (.ref (E.2.1 19) :: rest)) :=
  va_get (C := "BeatHeapModel") (T := F_Mo) (N := 28) (ci := 6) X.1 X.2.1 X.2.2.2.2.1 i_Mo X.2.2.2.1 X.2.2.2.2.2.1 w.1 19 rfl rfl 8 (by decide) (X.2.2.2.2.1 _ hl) (fun _ h => h) rfl hd kk
theorem gt_19_9 {index : Nat} (X : zX E p s m args c cc own nL) (w : zW E s μ H locs) (hl : Cond.fieldLink own index "BeatHeapModel" "numbers" "[I" ∈ zT) (hd : decode cc pc = .ok (.getfield index, 3)) (kk : W p l e R s m args below meth c H locs cells slots Q (F0 m (pc + 3) ls (.ref (E.2.1 25) :: rest))) : W p l e R s m args below meth c H locs cells slots Q (F0 m pc ls (.ref (E.2.1 19) :: rest)) :=
  va_get (C := "BeatHeapModel") (T := F_Mo) (N := 28) (ci := 6) X.1 X.2.1 X.2.2.2.2.1 i_Mo X.2.2.2.1 X.2.2.2.2.2.1 w.1 19 rfl rfl 9 (by decide) (X.2.2.2.2.1 _ hl) (fun _ h => h) rfl hd kk
theorem gt_19_10 {index : Nat} (X : zX E p s m args c cc own nL) (w : zW E s μ H locs) (hl : Cond.fieldLink own index "BeatHeapModel" "roots" "[I" ∈ zT) (hd : decode cc pc = .ok (.getfield index, 3)) (kk : W p l e R s m args below meth c H locs cells slots Q (F0 m (pc + 3) ls (.ref (E.2.1 26) :: rest))) : W p l e R s m args below meth c H locs cells slots Q (F0 m pc ls (.ref (E.2.1 19) :: rest)) :=
  va_get (C := "BeatHeapModel") (T := F_Mo) (N := 28) (ci := 6) X.1 X.2.1 X.2.2.2.2.1 i_Mo X.2.2.2.1 X.2.2.2.2.2.1 w.1 19 rfl rfl 10 (by decide) (X.2.2.2.2.1 _ hl) (fun _ h => h) rfl hd kk
theorem gt_19_11 {index : Nat} (X : zX E p s m args c cc own nL) (w : zW E s μ H locs) (hl : Cond.fieldLink own index "BeatHeapModel" "pile" "[I" ∈ zT) (hd : decode cc pc = .ok (.getfield index, 3)) (kk : W p l e R s m args below meth c H locs cells slots Q (F0 m (pc + 3) ls (.ref (E.2.1 27) :: rest))) : W p l e R s m args below meth c H locs cells slots Q (F0 m pc ls (.ref (E.2.1 19) :: rest)) :=
  va_get (C := "BeatHeapModel") (T := F_Mo) (N := 28) (ci := 6) X.1 X.2.1 X.2.2.2.2.1 i_Mo X.2.2.2.1 X.2.2.2.2.2.1 w.1 19 rfl rfl 11 (by decide) (X.2.2.2.2.1 _ hl) (fun _ h => h) rfl hd kk
theorem gt_19_12 {index : Nat} (X : zX E p s m args c cc own nL) (w : zW E s μ H locs) (hl : Cond.fieldLink own index "BeatHeapModel" "piled" "I" ∈ zT) (hd : decode cc pc = .ok (.getfield index, 3)) (kk : W p l e R s m args below meth c H locs cells slots Q (F0 m (pc + 3) ls (.int (μ 19 12) :: rest))) : W p l e R s m args below meth c H locs cells slots Q (F0 m pc ls (.ref (E.2.1 19) :: rest)) :=
  va_get (C := "BeatHeapModel") (T := F_Mo) (N := 28) (ci := 6) X.1 X.2.1 X.2.2.2.2.1 i_Mo X.2.2.2.1 X.2.2.2.2.2.1 w.1 19 rfl rfl 12 (by decide) (X.2.2.2.2.1 _ hl) (fun _ h => h) rfl hd kk
theorem pt_19_12 {index : Nat} {v : Int32} (X : zX E p s m args c cc own nL) (w : zW E s μ H locs) (hl : Cond.fieldLink own index "BeatHeapModel" "piled" "I" ∈ zT) (hd : decode cc pc = .ok (.putfield index, 3)) (kk : ∀ (μ1 : zM) (H1 : Heap) (locs1 : List Loc), μ1 = zp μ 19 12 v → zW E s μ1 H1 locs1 → W p l e R s m args below meth c H1 locs1 cells slots Q (F0 m (pc + 3) ls rest)) : W p l e R s m args below meth c H locs cells slots Q (F0 m pc ls (.int v :: .ref (E.2.1 19) :: rest)) :=
  va_put (C := "BeatHeapModel") (T := F_Mo) (N := 28) (ci := 6) (ty := .int) X.1 X.2.1 X.2.2.2.2.1 i_Mo t_Mo t_Mo_ok n_Mo X.2.2.2.1 X.2.2.2.2.2.1 w.1 w.2.1 w.2.2 19 rfl rfl 12 (by decide) (X.2.2.2.2.1 _ hl) (fun _ h => h) rfl (by decide +kernel) rfl rfl (Nat.le_of_ble_eq_true rfl) hd (fun H1 locs1 hP hD hS => kk _ H1 locs1 rfl ⟨hP, hD, hS⟩)
theorem gt_19_13 {index : Nat} (X : zX E p s m args c cc own nL) (w : zW E s μ H locs) (hl : Cond.fieldLink own index "BeatHeapModel" "part" "I" ∈ zT) (hd : decode cc pc = .ok (.getfield index, 3)) (kk : W p l e R s m args below meth c H locs cells slots Q (F0 m (pc + 3) ls (.int (μ 19 13) :: rest))) : W p l e R s m args below meth c H locs cells slots Q (F0 m pc ls (.ref (E.2.1 19) :: rest)) :=
  va_get (C := "BeatHeapModel") (T := F_Mo) (N := 28) (ci := 6) X.1 X.2.1 X.2.2.2.2.1 i_Mo X.2.2.2.1 X.2.2.2.2.2.1 w.1 19 rfl rfl 13 (by decide) (X.2.2.2.2.1 _ hl) (fun _ h => h) rfl hd kk
theorem pt_19_13 {index : Nat} {v : Int32} (X : zX E p s m args c cc own nL) (w : zW E s μ H locs) (hl : Cond.fieldLink own index "BeatHeapModel" "part" "I" ∈ zT) (hd : decode cc pc = .ok (.putfield index, 3)) (kk : ∀ (μ1 : zM) (H1 : Heap) (locs1 : List Loc), μ1 = zp μ 19 13 v → zW E s μ1 H1 locs1 → W p l e R s m args below meth c H1 locs1 cells slots Q (F0 m (pc + 3) ls rest)) : W p l e R s m args below meth c H locs cells slots Q (F0 m pc ls (.int v :: .ref (E.2.1 19) :: rest)) :=
  va_put (C := "BeatHeapModel") (T := F_Mo) (N := 28) (ci := 6) (ty := .int) X.1 X.2.1 X.2.2.2.2.1 i_Mo t_Mo t_Mo_ok n_Mo X.2.2.2.1 X.2.2.2.2.2.1 w.1 w.2.1 w.2.2 19 rfl rfl 13 (by decide) (X.2.2.2.2.1 _ hl) (fun _ h => h) rfl (by decide +kernel) rfl rfl (Nat.le_of_ble_eq_true rfl) hd (fun H1 locs1 hP hD hS => kk _ H1 locs1 rfl ⟨hP, hD, hS⟩)
theorem gt_19_14 {index : Nat} (X : zX E p s m args c cc own nL) (w : zW E s μ H locs) (hl : Cond.fieldLink own index "BeatHeapModel" "nextRoot" "I" ∈ zT) (hd : decode cc pc = .ok (.getfield index, 3)) (kk : W p l e R s m args below meth c H locs cells slots Q (F0 m (pc + 3) ls (.int (μ 19 14) :: rest))) : W p l e R s m args below meth c H locs cells slots Q (F0 m pc ls (.ref (E.2.1 19) :: rest)) :=
  va_get (C := "BeatHeapModel") (T := F_Mo) (N := 28) (ci := 6) X.1 X.2.1 X.2.2.2.2.1 i_Mo X.2.2.2.1 X.2.2.2.2.2.1 w.1 19 rfl rfl 14 (by decide) (X.2.2.2.2.1 _ hl) (fun _ h => h) rfl hd kk
theorem pt_19_14 {index : Nat} {v : Int32} (X : zX E p s m args c cc own nL) (w : zW E s μ H locs) (hl : Cond.fieldLink own index "BeatHeapModel" "nextRoot" "I" ∈ zT) (hd : decode cc pc = .ok (.putfield index, 3)) (kk : ∀ (μ1 : zM) (H1 : Heap) (locs1 : List Loc), μ1 = zp μ 19 14 v → zW E s μ1 H1 locs1 → W p l e R s m args below meth c H1 locs1 cells slots Q (F0 m (pc + 3) ls rest)) : W p l e R s m args below meth c H locs cells slots Q (F0 m pc ls (.int v :: .ref (E.2.1 19) :: rest)) :=
  va_put (C := "BeatHeapModel") (T := F_Mo) (N := 28) (ci := 6) (ty := .int) X.1 X.2.1 X.2.2.2.2.1 i_Mo t_Mo t_Mo_ok n_Mo X.2.2.2.1 X.2.2.2.2.2.1 w.1 w.2.1 w.2.2 19 rfl rfl 14 (by decide) (X.2.2.2.2.1 _ hl) (fun _ h => h) rfl (by decide +kernel) rfl rfl (Nat.le_of_ble_eq_true rfl) hd (fun H1 locs1 hP hD hS => kk _ H1 locs1 rfl ⟨hP, hD, hS⟩)
theorem gt_19_15 {index : Nat} (X : zX E p s m args c cc own nL) (w : zW E s μ H locs) (hl : Cond.fieldLink own index "BeatHeapModel" "hand" "I" ∈ zT) (hd : decode cc pc = .ok (.getfield index, 3)) (kk : W p l e R s m args below meth c H locs cells slots Q (F0 m (pc + 3) ls (.int (μ 19 15) :: rest))) : W p l e R s m args below meth c H locs cells slots Q (F0 m pc ls (.ref (E.2.1 19) :: rest)) :=
  va_get (C := "BeatHeapModel") (T := F_Mo) (N := 28) (ci := 6) X.1 X.2.1 X.2.2.2.2.1 i_Mo X.2.2.2.1 X.2.2.2.2.2.1 w.1 19 rfl rfl 15 (by decide) (X.2.2.2.2.1 _ hl) (fun _ h => h) rfl hd kk
theorem pt_19_15 {index : Nat} {v : Int32} (X : zX E p s m args c cc own nL) (w : zW E s μ H locs) (hl : Cond.fieldLink own index "BeatHeapModel" "hand" "I" ∈ zT) (hd : decode cc pc = .ok (.putfield index, 3)) (kk : ∀ (μ1 : zM) (H1 : Heap) (locs1 : List Loc), μ1 = zp μ 19 15 v → zW E s μ1 H1 locs1 → W p l e R s m args below meth c H1 locs1 cells slots Q (F0 m (pc + 3) ls rest)) : W p l e R s m args below meth c H locs cells slots Q (F0 m pc ls (.int v :: .ref (E.2.1 19) :: rest)) :=
  va_put (C := "BeatHeapModel") (T := F_Mo) (N := 28) (ci := 6) (ty := .int) X.1 X.2.1 X.2.2.2.2.1 i_Mo t_Mo t_Mo_ok n_Mo X.2.2.2.1 X.2.2.2.2.2.1 w.1 w.2.1 w.2.2 19 rfl rfl 15 (by decide) (X.2.2.2.2.1 _ hl) (fun _ h => h) rfl (by decide +kernel) rfl rfl (Nat.le_of_ble_eq_true rfl) hd (fun H1 locs1 hP hD hS => kk _ H1 locs1 rfl ⟨hP, hD, hS⟩)
theorem gt_19_16 {index : Nat} (X : zX E p s m args c cc own nL) (w : zW E s μ H locs) (hl : Cond.fieldLink own index "BeatHeapModel" "handNext" "I" ∈ zT) (hd : decode cc pc = .ok (.getfield index, 3)) (kk : W p l e R s m args below meth c H locs cells slots Q (F0 m (pc + 3) ls (.int (μ 19 16) :: rest))) : W p l e R s m args below meth c H locs cells slots Q (F0 m pc ls (.ref (E.2.1 19) :: rest)) :=
  va_get (C := "BeatHeapModel") (T := F_Mo) (N := 28) (ci := 6) X.1 X.2.1 X.2.2.2.2.1 i_Mo X.2.2.2.1 X.2.2.2.2.2.1 w.1 19 rfl rfl 16 (by decide) (X.2.2.2.2.1 _ hl) (fun _ h => h) rfl hd kk
theorem pt_19_16 {index : Nat} {v : Int32} (X : zX E p s m args c cc own nL) (w : zW E s μ H locs) (hl : Cond.fieldLink own index "BeatHeapModel" "handNext" "I" ∈ zT) (hd : decode cc pc = .ok (.putfield index, 3)) (kk : ∀ (μ1 : zM) (H1 : Heap) (locs1 : List Loc), μ1 = zp μ 19 16 v → zW E s μ1 H1 locs1 → W p l e R s m args below meth c H1 locs1 cells slots Q (F0 m (pc + 3) ls rest)) : W p l e R s m args below meth c H locs cells slots Q (F0 m pc ls (.int v :: .ref (E.2.1 19) :: rest)) :=
  va_put (C := "BeatHeapModel") (T := F_Mo) (N := 28) (ci := 6) (ty := .int) X.1 X.2.1 X.2.2.2.2.1 i_Mo t_Mo t_Mo_ok n_Mo X.2.2.2.1 X.2.2.2.2.2.1 w.1 w.2.1 w.2.2 19 rfl rfl 16 (by decide) (X.2.2.2.2.1 _ hl) (fun _ h => h) rfl (by decide +kernel) rfl rfl (Nat.le_of_ble_eq_true rfl) hd (fun H1 locs1 hP hD hS => kk _ H1 locs1 rfl ⟨hP, hD, hS⟩)
theorem gt_19_17 {index : Nat} (X : zX E p s m args c cc own nL) (w : zW E s μ H locs) (hl : Cond.fieldLink own index "BeatHeapModel" "place" "I" ∈ zT) (hd : decode cc pc = .ok (.getfield index, 3)) (kk : W p l e R s m args below meth c H locs cells slots Q (F0 m (pc + 3) ls (.int (μ 19 17) :: rest))) : W p l e R s m args below meth c H locs cells slots Q (F0 m pc ls (.ref (E.2.1 19) :: rest)) :=
  va_get (C := "BeatHeapModel") (T := F_Mo) (N := 28) (ci := 6) X.1 X.2.1 X.2.2.2.2.1 i_Mo X.2.2.2.1 X.2.2.2.2.2.1 w.1 19 rfl rfl 17 (by decide) (X.2.2.2.2.1 _ hl) (fun _ h => h) rfl hd kk
theorem pt_19_17 {index : Nat} {v : Int32} (X : zX E p s m args c cc own nL) (w : zW E s μ H locs) (hl : Cond.fieldLink own index "BeatHeapModel" "place" "I" ∈ zT) (hd : decode cc pc = .ok (.putfield index, 3)) (kk : ∀ (μ1 : zM) (H1 : Heap) (locs1 : List Loc), μ1 = zp μ 19 17 v → zW E s μ1 H1 locs1 → W p l e R s m args below meth c H1 locs1 cells slots Q (F0 m (pc + 3) ls rest)) : W p l e R s m args below meth c H locs cells slots Q (F0 m pc ls (.int v :: .ref (E.2.1 19) :: rest)) :=
  va_put (C := "BeatHeapModel") (T := F_Mo) (N := 28) (ci := 6) (ty := .int) X.1 X.2.1 X.2.2.2.2.1 i_Mo t_Mo t_Mo_ok n_Mo X.2.2.2.1 X.2.2.2.2.2.1 w.1 w.2.1 w.2.2 19 rfl rfl 17 (by decide) (X.2.2.2.2.1 _ hl) (fun _ h => h) rfl (by decide +kernel) rfl rfl (Nat.le_of_ble_eq_true rfl) hd (fun H1 locs1 hP hD hS => kk _ H1 locs1 rfl ⟨hP, hD, hS⟩)
theorem gt_19_18 {index : Nat} (X : zX E p s m args c cc own nL) (w : zW E s μ H locs) (hl : Cond.fieldLink own index "BeatHeapModel" "credit" "I" ∈ zT) (hd : decode cc pc = .ok (.getfield index, 3)) (kk : W p l e R s m args below meth c H locs cells slots Q (F0 m (pc + 3) ls (.int (μ 19 18) :: rest))) : W p l e R s m args below meth c H locs cells slots Q (F0 m pc ls (.ref (E.2.1 19) :: rest)) :=
  va_get (C := "BeatHeapModel") (T := F_Mo) (N := 28) (ci := 6) X.1 X.2.1 X.2.2.2.2.1 i_Mo X.2.2.2.1 X.2.2.2.2.2.1 w.1 19 rfl rfl 18 (by decide) (X.2.2.2.2.1 _ hl) (fun _ h => h) rfl hd kk
theorem pt_19_18 {index : Nat} {v : Int32} (X : zX E p s m args c cc own nL) (w : zW E s μ H locs) (hl : Cond.fieldLink own index "BeatHeapModel" "credit" "I" ∈ zT) (hd : decode cc pc = .ok (.putfield index, 3)) (kk : ∀ (μ1 : zM) (H1 : Heap) (locs1 : List Loc), μ1 = zp μ 19 18 v → zW E s μ1 H1 locs1 → W p l e R s m args below meth c H1 locs1 cells slots Q (F0 m (pc + 3) ls rest)) : W p l e R s m args below meth c H locs cells slots Q (F0 m pc ls (.int v :: .ref (E.2.1 19) :: rest)) :=
  va_put (C := "BeatHeapModel") (T := F_Mo) (N := 28) (ci := 6) (ty := .int) X.1 X.2.1 X.2.2.2.2.1 i_Mo t_Mo t_Mo_ok n_Mo X.2.2.2.1 X.2.2.2.2.2.1 w.1 w.2.1 w.2.2 19 rfl rfl 18 (by decide) (X.2.2.2.2.1 _ hl) (fun _ h => h) rfl (by decide +kernel) rfl rfl (Nat.le_of_ble_eq_true rfl) hd (fun H1 locs1 hP hD hS => kk _ H1 locs1 rfl ⟨hP, hD, hS⟩)
theorem gt_19_19 {index : Nat} (X : zX E p s m args c cc own nL) (w : zW E s μ H locs) (hl : Cond.fieldLink own index "BeatHeapModel" "cycles" "I" ∈ zT) (hd : decode cc pc = .ok (.getfield index, 3)) (kk : W p l e R s m args below meth c H locs cells slots Q (F0 m (pc + 3) ls (.int (μ 19 19) :: rest))) : W p l e R s m args below meth c H locs cells slots Q (F0 m pc ls (.ref (E.2.1 19) :: rest)) :=
  va_get (C := "BeatHeapModel") (T := F_Mo) (N := 28) (ci := 6) X.1 X.2.1 X.2.2.2.2.1 i_Mo X.2.2.2.1 X.2.2.2.2.2.1 w.1 19 rfl rfl 19 (by decide) (X.2.2.2.2.1 _ hl) (fun _ h => h) rfl hd kk
theorem pt_19_19 {index : Nat} {v : Int32} (X : zX E p s m args c cc own nL) (w : zW E s μ H locs) (hl : Cond.fieldLink own index "BeatHeapModel" "cycles" "I" ∈ zT) (hd : decode cc pc = .ok (.putfield index, 3)) (kk : ∀ (μ1 : zM) (H1 : Heap) (locs1 : List Loc), μ1 = zp μ 19 19 v → zW E s μ1 H1 locs1 → W p l e R s m args below meth c H1 locs1 cells slots Q (F0 m (pc + 3) ls rest)) : W p l e R s m args below meth c H locs cells slots Q (F0 m pc ls (.int v :: .ref (E.2.1 19) :: rest)) :=
  va_put (C := "BeatHeapModel") (T := F_Mo) (N := 28) (ci := 6) (ty := .int) X.1 X.2.1 X.2.2.2.2.1 i_Mo t_Mo t_Mo_ok n_Mo X.2.2.2.1 X.2.2.2.2.2.1 w.1 w.2.1 w.2.2 19 rfl rfl 19 (by decide) (X.2.2.2.2.1 _ hl) (fun _ h => h) rfl (by decide +kernel) rfl rfl (Nat.le_of_ble_eq_true rfl) hd (fun H1 locs1 hP hD hS => kk _ H1 locs1 rfl ⟨hP, hD, hS⟩)
theorem gt_19_20 {index : Nat} (X : zX E p s m args c cc own nL) (w : zW E s μ H locs) (hl : Cond.fieldLink own index "BeatHeapModel" "freed" "I" ∈ zT) (hd : decode cc pc = .ok (.getfield index, 3)) (kk : W p l e R s m args below meth c H locs cells slots Q (F0 m (pc + 3) ls (.int (μ 19 20) :: rest))) : W p l e R s m args below meth c H locs cells slots Q (F0 m pc ls (.ref (E.2.1 19) :: rest)) :=
  va_get (C := "BeatHeapModel") (T := F_Mo) (N := 28) (ci := 6) X.1 X.2.1 X.2.2.2.2.1 i_Mo X.2.2.2.1 X.2.2.2.2.2.1 w.1 19 rfl rfl 20 (by decide) (X.2.2.2.2.1 _ hl) (fun _ h => h) rfl hd kk
theorem pt_19_20 {index : Nat} {v : Int32} (X : zX E p s m args c cc own nL) (w : zW E s μ H locs) (hl : Cond.fieldLink own index "BeatHeapModel" "freed" "I" ∈ zT) (hd : decode cc pc = .ok (.putfield index, 3)) (kk : ∀ (μ1 : zM) (H1 : Heap) (locs1 : List Loc), μ1 = zp μ 19 20 v → zW E s μ1 H1 locs1 → W p l e R s m args below meth c H1 locs1 cells slots Q (F0 m (pc + 3) ls rest)) : W p l e R s m args below meth c H locs cells slots Q (F0 m pc ls (.int v :: .ref (E.2.1 19) :: rest)) :=
  va_put (C := "BeatHeapModel") (T := F_Mo) (N := 28) (ci := 6) (ty := .int) X.1 X.2.1 X.2.2.2.2.1 i_Mo t_Mo t_Mo_ok n_Mo X.2.2.2.1 X.2.2.2.2.2.1 w.1 w.2.1 w.2.2 19 rfl rfl 20 (by decide) (X.2.2.2.2.1 _ hl) (fun _ h => h) rfl (by decide +kernel) rfl rfl (Nat.le_of_ble_eq_true rfl) hd (fun H1 locs1 hP hD hS => kk _ H1 locs1 rfl ⟨hP, hD, hS⟩)
theorem gt_19_21 {index : Nat} (X : zX E p s m args c cc own nL) (w : zW E s μ H locs) (hl : Cond.fieldLink own index "BeatHeapModel" "failures" "I" ∈ zT) (hd : decode cc pc = .ok (.getfield index, 3)) (kk : W p l e R s m args below meth c H locs cells slots Q (F0 m (pc + 3) ls (.int (μ 19 21) :: rest))) : W p l e R s m args below meth c H locs cells slots Q (F0 m pc ls (.ref (E.2.1 19) :: rest)) :=
  va_get (C := "BeatHeapModel") (T := F_Mo) (N := 28) (ci := 6) X.1 X.2.1 X.2.2.2.2.1 i_Mo X.2.2.2.1 X.2.2.2.2.2.1 w.1 19 rfl rfl 21 (by decide) (X.2.2.2.2.1 _ hl) (fun _ h => h) rfl hd kk
theorem pt_19_21 {index : Nat} {v : Int32} (X : zX E p s m args c cc own nL) (w : zW E s μ H locs) (hl : Cond.fieldLink own index "BeatHeapModel" "failures" "I" ∈ zT) (hd : decode cc pc = .ok (.putfield index, 3)) (kk : ∀ (μ1 : zM) (H1 : Heap) (locs1 : List Loc), μ1 = zp μ 19 21 v → zW E s μ1 H1 locs1 → W p l e R s m args below meth c H1 locs1 cells slots Q (F0 m (pc + 3) ls rest)) : W p l e R s m args below meth c H locs cells slots Q (F0 m pc ls (.int v :: .ref (E.2.1 19) :: rest)) :=
  va_put (C := "BeatHeapModel") (T := F_Mo) (N := 28) (ci := 6) (ty := .int) X.1 X.2.1 X.2.2.2.2.1 i_Mo t_Mo t_Mo_ok n_Mo X.2.2.2.1 X.2.2.2.2.2.1 w.1 w.2.1 w.2.2 19 rfl rfl 21 (by decide) (X.2.2.2.2.1 _ hl) (fun _ h => h) rfl (by decide +kernel) rfl rfl (Nat.le_of_ble_eq_true rfl) hd (fun H1 locs1 hP hD hS => kk _ H1 locs1 rfl ⟨hP, hD, hS⟩)
theorem gt_19_22 {index : Nat} (X : zX E p s m args c cc own nL) (w : zW E s μ H locs) (hl : Cond.fieldLink own index "BeatHeapModel" "programTicks" "I" ∈ zT) (hd : decode cc pc = .ok (.getfield index, 3)) (kk : W p l e R s m args below meth c H locs cells slots Q (F0 m (pc + 3) ls (.int (μ 19 22) :: rest))) : W p l e R s m args below meth c H locs cells slots Q (F0 m pc ls (.ref (E.2.1 19) :: rest)) :=
  va_get (C := "BeatHeapModel") (T := F_Mo) (N := 28) (ci := 6) X.1 X.2.1 X.2.2.2.2.1 i_Mo X.2.2.2.1 X.2.2.2.2.2.1 w.1 19 rfl rfl 22 (by decide) (X.2.2.2.2.1 _ hl) (fun _ h => h) rfl hd kk
theorem pt_19_22 {index : Nat} {v : Int32} (X : zX E p s m args c cc own nL) (w : zW E s μ H locs) (hl : Cond.fieldLink own index "BeatHeapModel" "programTicks" "I" ∈ zT) (hd : decode cc pc = .ok (.putfield index, 3)) (kk : ∀ (μ1 : zM) (H1 : Heap) (locs1 : List Loc), μ1 = zp μ 19 22 v → zW E s μ1 H1 locs1 → W p l e R s m args below meth c H1 locs1 cells slots Q (F0 m (pc + 3) ls rest)) : W p l e R s m args below meth c H locs cells slots Q (F0 m pc ls (.int v :: .ref (E.2.1 19) :: rest)) :=
  va_put (C := "BeatHeapModel") (T := F_Mo) (N := 28) (ci := 6) (ty := .int) X.1 X.2.1 X.2.2.2.2.1 i_Mo t_Mo t_Mo_ok n_Mo X.2.2.2.1 X.2.2.2.2.2.1 w.1 w.2.1 w.2.2 19 rfl rfl 22 (by decide) (X.2.2.2.2.1 _ hl) (fun _ h => h) rfl (by decide +kernel) rfl rfl (Nat.le_of_ble_eq_true rfl) hd (fun H1 locs1 hP hD hS => kk _ H1 locs1 rfl ⟨hP, hD, hS⟩)
theorem gt_19_23 {index : Nat} (X : zX E p s m args c cc own nL) (w : zW E s μ H locs) (hl : Cond.fieldLink own index "BeatHeapModel" "collectorTicks" "I" ∈ zT) (hd : decode cc pc = .ok (.getfield index, 3)) (kk : W p l e R s m args below meth c H locs cells slots Q (F0 m (pc + 3) ls (.int (μ 19 23) :: rest))) : W p l e R s m args below meth c H locs cells slots Q (F0 m pc ls (.ref (E.2.1 19) :: rest)) :=
  va_get (C := "BeatHeapModel") (T := F_Mo) (N := 28) (ci := 6) X.1 X.2.1 X.2.2.2.2.1 i_Mo X.2.2.2.1 X.2.2.2.2.2.1 w.1 19 rfl rfl 23 (by decide) (X.2.2.2.2.1 _ hl) (fun _ h => h) rfl hd kk
theorem pt_19_23 {index : Nat} {v : Int32} (X : zX E p s m args c cc own nL) (w : zW E s μ H locs) (hl : Cond.fieldLink own index "BeatHeapModel" "collectorTicks" "I" ∈ zT) (hd : decode cc pc = .ok (.putfield index, 3)) (kk : ∀ (μ1 : zM) (H1 : Heap) (locs1 : List Loc), μ1 = zp μ 19 23 v → zW E s μ1 H1 locs1 → W p l e R s m args below meth c H1 locs1 cells slots Q (F0 m (pc + 3) ls rest)) : W p l e R s m args below meth c H locs cells slots Q (F0 m pc ls (.int v :: .ref (E.2.1 19) :: rest)) :=
  va_put (C := "BeatHeapModel") (T := F_Mo) (N := 28) (ci := 6) (ty := .int) X.1 X.2.1 X.2.2.2.2.1 i_Mo t_Mo t_Mo_ok n_Mo X.2.2.2.1 X.2.2.2.2.2.1 w.1 w.2.1 w.2.2 19 rfl rfl 23 (by decide) (X.2.2.2.2.1 _ hl) (fun _ h => h) rfl (by decide +kernel) rfl rfl (Nat.le_of_ble_eq_true rfl) hd (fun H1 locs1 hP hD hS => kk _ H1 locs1 rfl ⟨hP, hD, hS⟩)
theorem gt_19_24 {index : Nat} (X : zX E p s m args c cc own nL) (w : zW E s μ H locs) (hl : Cond.fieldLink own index "BeatHeapModel" "isProgram" "[Z" ∈ zT) (hd : decode cc pc = .ok (.getfield index, 3)) (kk : W p l e R s m args below meth c H locs cells slots Q (F0 m (pc + 3) ls (.ref (E.2.1 28) :: rest))) : W p l e R s m args below meth c H locs cells slots Q (F0 m pc ls (.ref (E.2.1 19) :: rest)) :=
  va_get (C := "BeatHeapModel") (T := F_Mo) (N := 28) (ci := 6) X.1 X.2.1 X.2.2.2.2.1 i_Mo X.2.2.2.1 X.2.2.2.2.2.1 w.1 19 rfl rfl 24 (by decide) (X.2.2.2.2.1 _ hl) (fun _ h => h) rfl hd kk
theorem gt_19_25 {index : Nat} (X : zX E p s m args c cc own nL) (w : zW E s μ H locs) (hl : Cond.fieldLink own index "BeatHeapModel" "isMet" "[Z" ∈ zT) (hd : decode cc pc = .ok (.getfield index, 3)) (kk : W p l e R s m args below meth c H locs cells slots Q (F0 m (pc + 3) ls (.ref (E.2.1 29) :: rest))) : W p l e R s m args below meth c H locs cells slots Q (F0 m pc ls (.ref (E.2.1 19) :: rest)) :=
  va_get (C := "BeatHeapModel") (T := F_Mo) (N := 28) (ci := 6) X.1 X.2.1 X.2.2.2.2.1 i_Mo X.2.2.2.1 X.2.2.2.2.2.1 w.1 19 rfl rfl 25 (by decide) (X.2.2.2.2.1 _ hl) (fun _ h => h) rfl hd kk
theorem gt_19_26 {index : Nat} (X : zX E p s m args c cc own nL) (w : zW E s μ H locs) (hl : Cond.fieldLink own index "BeatHeapModel" "met" "I" ∈ zT) (hd : decode cc pc = .ok (.getfield index, 3)) (kk : W p l e R s m args below meth c H locs cells slots Q (F0 m (pc + 3) ls (.int (μ 19 26) :: rest))) : W p l e R s m args below meth c H locs cells slots Q (F0 m pc ls (.ref (E.2.1 19) :: rest)) :=
  va_get (C := "BeatHeapModel") (T := F_Mo) (N := 28) (ci := 6) X.1 X.2.1 X.2.2.2.2.1 i_Mo X.2.2.2.1 X.2.2.2.2.2.1 w.1 19 rfl rfl 26 (by decide) (X.2.2.2.2.1 _ hl) (fun _ h => h) rfl hd kk
theorem pt_19_26 {index : Nat} {v : Int32} (X : zX E p s m args c cc own nL) (w : zW E s μ H locs) (hl : Cond.fieldLink own index "BeatHeapModel" "met" "I" ∈ zT) (hd : decode cc pc = .ok (.putfield index, 3)) (kk : ∀ (μ1 : zM) (H1 : Heap) (locs1 : List Loc), μ1 = zp μ 19 26 v → zW E s μ1 H1 locs1 → W p l e R s m args below meth c H1 locs1 cells slots Q (F0 m (pc + 3) ls rest)) : W p l e R s m args below meth c H locs cells slots Q (F0 m pc ls (.int v :: .ref (E.2.1 19) :: rest)) :=
  va_put (C := "BeatHeapModel") (T := F_Mo) (N := 28) (ci := 6) (ty := .int) X.1 X.2.1 X.2.2.2.2.1 i_Mo t_Mo t_Mo_ok n_Mo X.2.2.2.1 X.2.2.2.2.2.1 w.1 w.2.1 w.2.2 19 rfl rfl 26 (by decide) (X.2.2.2.2.1 _ hl) (fun _ h => h) rfl (by decide +kernel) rfl rfl (Nat.le_of_ble_eq_true rfl) hd (fun H1 locs1 hP hD hS => kk _ H1 locs1 rfl ⟨hP, hD, hS⟩)
theorem gt_19_27 {index : Nat} (X : zX E p s m args c cc own nL) (w : zW E s μ H locs) (hl : Cond.fieldLink own index "BeatHeapModel" "isThere" "Z" ∈ zT) (hd : decode cc pc = .ok (.getfield index, 3)) (kk : W p l e R s m args below meth c H locs cells slots Q (F0 m (pc + 3) ls (.int (μ 19 27) :: rest))) : W p l e R s m args below meth c H locs cells slots Q (F0 m pc ls (.ref (E.2.1 19) :: rest)) :=
  va_get (C := "BeatHeapModel") (T := F_Mo) (N := 28) (ci := 6) X.1 X.2.1 X.2.2.2.2.1 i_Mo X.2.2.2.1 X.2.2.2.2.2.1 w.1 19 rfl rfl 27 (by decide) (X.2.2.2.2.1 _ hl) (fun _ h => h) rfl hd kk
theorem pt_19_27 {index : Nat} {v : Int32} (X : zX E p s m args c cc own nL) (w : zW E s μ H locs) (hz : narrow .boolean (.int v) = .int v ∧ fits .boolean (.int v) = true) (hl : Cond.fieldLink own index "BeatHeapModel" "isThere" "Z" ∈ zT) (hd : decode cc pc = .ok (.putfield index, 3)) (kk : ∀ (μ1 : zM) (H1 : Heap) (locs1 : List Loc), μ1 = zp μ 19 27 v → zW E s μ1 H1 locs1 → W p l e R s m args below meth c H1 locs1 cells slots Q (F0 m (pc + 3) ls rest)) : W p l e R s m args below meth c H locs cells slots Q (F0 m pc ls (.int v :: .ref (E.2.1 19) :: rest)) :=
  va_put (C := "BeatHeapModel") (T := F_Mo) (N := 28) (ci := 6) (ty := .boolean) X.1 X.2.1 X.2.2.2.2.1 i_Mo t_Mo t_Mo_ok n_Mo X.2.2.2.1 X.2.2.2.2.2.1 w.1 w.2.1 w.2.2 19 rfl rfl 27 (by decide) (X.2.2.2.2.1 _ hl) (fun _ h => h) rfl (by decide +kernel) hz.1 hz.2 (Nat.le_of_ble_eq_true rfl) hd (fun H1 locs1 hP hD hS => kk _ H1 locs1 rfl ⟨hP, hD, hS⟩)
theorem al_3 {i : Int32} (X : zX E p s m args c cc own nL) (w : zW E s μ H locs) (hin : vp_in i 4096) (hd : decode cc pc = .ok (.iaload, 1)) (kk : W p l e R s m args below meth c H locs cells slots Q (F0 m (pc + 1) ls (.int (μ 3 i.toNatClampNeg) :: rest))) : W p l e R s m args below meth c H locs cells slots Q (F0 m pc ls (.int i :: .ref (E.2.1 3) :: rest)) :=
  va_iald X.1 X.2.1 X.2.2.2.2.2.1 w.1 3 0 rfl rfl hin hd kk
theorem as_3 {i x : Int32} (X : zX E p s m args c cc own nL) (w : zW E s μ H locs) (hin : vp_in i 4096) (hd : decode cc pc = .ok (.iastore, 1)) (kk : ∀ (μ1 : zM) (H1 : Heap) (locs1 : List Loc), μ1 = zp μ 3 i.toNatClampNeg x → zW E s μ1 H1 locs1 → W p l e R s m args below meth c H1 locs1 cells slots Q (F0 m (pc + 1) ls rest)) : W p l e R s m args below meth c H locs cells slots Q (F0 m pc ls (.int x :: .int i :: .ref (E.2.1 3) :: rest)) :=
  va_iast X.1 X.2.1 X.2.2.2.2.2.1 w.1 w.2.1 w.2.2 3 0 rfl rfl hin hd (fun H1 locs1 hP hD hS => kk _ H1 locs1 rfl ⟨hP, hD, hS⟩)
theorem an_3 {v : Int32} (X : zX E p s m args c cc own nL) (w : zW E s μ H locs) (hv : Int32.ofNat 4096 = v) (hd : decode cc pc = .ok (.arraylength, 1)) (kk : W p l e R s m args below meth c H locs cells slots Q (F0 m (pc + 1) ls (.int v :: rest))) : W p l e R s m args below meth c H locs cells slots Q (F0 m pc ls (.ref (E.2.1 3) :: rest)) :=
  va_alen X.1 X.2.1 X.2.2.2.2.2.1 w.1 3 0 rfl rfl hv hd kk
theorem al_4 {i : Int32} (X : zX E p s m args c cc own nL) (w : zW E s μ H locs) (hin : vp_in i 1024) (hd : decode cc pc = .ok (.baload, 1)) (kk : W p l e R s m args below meth c H locs cells slots Q (F0 m (pc + 1) ls (.int (μ 4 i.toNatClampNeg) :: rest))) : W p l e R s m args below meth c H locs cells slots Q (F0 m pc ls (.int i :: .ref (E.2.1 4) :: rest)) :=
  va_bald X.1 X.2.1 X.2.2.2.2.2.1 w.1 4 1 rfl rfl hin hd kk
theorem as_4 {i x : Int32} (X : zX E p s m args c cc own nL) (w : zW E s μ H locs) (hin : vp_in i 1024) (hd : decode cc pc = .ok (.bastore, 1)) (kk : ∀ (μ1 : zM) (H1 : Heap) (locs1 : List Loc), μ1 = zp μ 4 i.toNatClampNeg (vp_nar .byte x) → zW E s μ1 H1 locs1 → W p l e R s m args below meth c H1 locs1 cells slots Q (F0 m (pc + 1) ls rest)) : W p l e R s m args below meth c H locs cells slots Q (F0 m pc ls (.int x :: .int i :: .ref (E.2.1 4) :: rest)) :=
  va_bast X.1 X.2.1 X.2.2.2.2.2.1 w.1 w.2.1 w.2.2 4 1 rfl rfl hin hd (fun H1 locs1 hP hD hS => kk _ H1 locs1 rfl ⟨hP, hD, hS⟩)
theorem an_4 {v : Int32} (X : zX E p s m args c cc own nL) (w : zW E s μ H locs) (hv : Int32.ofNat 1024 = v) (hd : decode cc pc = .ok (.arraylength, 1)) (kk : W p l e R s m args below meth c H locs cells slots Q (F0 m (pc + 1) ls (.int v :: rest))) : W p l e R s m args below meth c H locs cells slots Q (F0 m pc ls (.ref (E.2.1 4) :: rest)) :=
  va_alen X.1 X.2.1 X.2.2.2.2.2.1 w.1 4 1 rfl rfl hv hd kk
theorem al_5 {i : Int32} (X : zX E p s m args c cc own nL) (w : zW E s μ H locs) (hin : vp_in i 1024) (hd : decode cc pc = .ok (.baload, 1)) (kk : W p l e R s m args below meth c H locs cells slots Q (F0 m (pc + 1) ls (.int (μ 5 i.toNatClampNeg) :: rest))) : W p l e R s m args below meth c H locs cells slots Q (F0 m pc ls (.int i :: .ref (E.2.1 5) :: rest)) :=
  va_bald X.1 X.2.1 X.2.2.2.2.2.1 w.1 5 1 rfl rfl hin hd kk
theorem as_5 {i x : Int32} (X : zX E p s m args c cc own nL) (w : zW E s μ H locs) (hin : vp_in i 1024) (hd : decode cc pc = .ok (.bastore, 1)) (kk : ∀ (μ1 : zM) (H1 : Heap) (locs1 : List Loc), μ1 = zp μ 5 i.toNatClampNeg (vp_nar .byte x) → zW E s μ1 H1 locs1 → W p l e R s m args below meth c H1 locs1 cells slots Q (F0 m (pc + 1) ls rest)) : W p l e R s m args below meth c H locs cells slots Q (F0 m pc ls (.int x :: .int i :: .ref (E.2.1 5) :: rest)) :=
  va_bast X.1 X.2.1 X.2.2.2.2.2.1 w.1 w.2.1 w.2.2 5 1 rfl rfl hin hd (fun H1 locs1 hP hD hS => kk _ H1 locs1 rfl ⟨hP, hD, hS⟩)
theorem an_5 {v : Int32} (X : zX E p s m args c cc own nL) (w : zW E s μ H locs) (hv : Int32.ofNat 1024 = v) (hd : decode cc pc = .ok (.arraylength, 1)) (kk : W p l e R s m args below meth c H locs cells slots Q (F0 m (pc + 1) ls (.int v :: rest))) : W p l e R s m args below meth c H locs cells slots Q (F0 m pc ls (.ref (E.2.1 5) :: rest)) :=
  va_alen X.1 X.2.1 X.2.2.2.2.2.1 w.1 5 1 rfl rfl hv hd kk
theorem al_6 {i : Int32} (X : zX E p s m args c cc own nL) (w : zW E s μ H locs) (hin : vp_in i 1024) (hd : decode cc pc = .ok (.iaload, 1)) (kk : W p l e R s m args below meth c H locs cells slots Q (F0 m (pc + 1) ls (.int (μ 6 i.toNatClampNeg) :: rest))) : W p l e R s m args below meth c H locs cells slots Q (F0 m pc ls (.int i :: .ref (E.2.1 6) :: rest)) :=
  va_iald X.1 X.2.1 X.2.2.2.2.2.1 w.1 6 0 rfl rfl hin hd kk
theorem as_6 {i x : Int32} (X : zX E p s m args c cc own nL) (w : zW E s μ H locs) (hin : vp_in i 1024) (hd : decode cc pc = .ok (.iastore, 1)) (kk : ∀ (μ1 : zM) (H1 : Heap) (locs1 : List Loc), μ1 = zp μ 6 i.toNatClampNeg x → zW E s μ1 H1 locs1 → W p l e R s m args below meth c H1 locs1 cells slots Q (F0 m (pc + 1) ls rest)) : W p l e R s m args below meth c H locs cells slots Q (F0 m pc ls (.int x :: .int i :: .ref (E.2.1 6) :: rest)) :=
  va_iast X.1 X.2.1 X.2.2.2.2.2.1 w.1 w.2.1 w.2.2 6 0 rfl rfl hin hd (fun H1 locs1 hP hD hS => kk _ H1 locs1 rfl ⟨hP, hD, hS⟩)
theorem an_6 {v : Int32} (X : zX E p s m args c cc own nL) (w : zW E s μ H locs) (hv : Int32.ofNat 1024 = v) (hd : decode cc pc = .ok (.arraylength, 1)) (kk : W p l e R s m args below meth c H locs cells slots Q (F0 m (pc + 1) ls (.int v :: rest))) : W p l e R s m args below meth c H locs cells slots Q (F0 m pc ls (.ref (E.2.1 6) :: rest)) :=
  va_alen X.1 X.2.1 X.2.2.2.2.2.1 w.1 6 0 rfl rfl hv hd kk
theorem al_7 {i : Int32} (X : zX E p s m args c cc own nL) (w : zW E s μ H locs) (hin : vp_in i 1024) (hd : decode cc pc = .ok (.iaload, 1)) (kk : W p l e R s m args below meth c H locs cells slots Q (F0 m (pc + 1) ls (.int (μ 7 i.toNatClampNeg) :: rest))) : W p l e R s m args below meth c H locs cells slots Q (F0 m pc ls (.int i :: .ref (E.2.1 7) :: rest)) :=
  va_iald X.1 X.2.1 X.2.2.2.2.2.1 w.1 7 0 rfl rfl hin hd kk
theorem as_7 {i x : Int32} (X : zX E p s m args c cc own nL) (w : zW E s μ H locs) (hin : vp_in i 1024) (hd : decode cc pc = .ok (.iastore, 1)) (kk : ∀ (μ1 : zM) (H1 : Heap) (locs1 : List Loc), μ1 = zp μ 7 i.toNatClampNeg x → zW E s μ1 H1 locs1 → W p l e R s m args below meth c H1 locs1 cells slots Q (F0 m (pc + 1) ls rest)) : W p l e R s m args below meth c H locs cells slots Q (F0 m pc ls (.int x :: .int i :: .ref (E.2.1 7) :: rest)) :=
  va_iast X.1 X.2.1 X.2.2.2.2.2.1 w.1 w.2.1 w.2.2 7 0 rfl rfl hin hd (fun H1 locs1 hP hD hS => kk _ H1 locs1 rfl ⟨hP, hD, hS⟩)
theorem an_7 {v : Int32} (X : zX E p s m args c cc own nL) (w : zW E s μ H locs) (hv : Int32.ofNat 1024 = v) (hd : decode cc pc = .ok (.arraylength, 1)) (kk : W p l e R s m args below meth c H locs cells slots Q (F0 m (pc + 1) ls (.int v :: rest))) : W p l e R s m args below meth c H locs cells slots Q (F0 m pc ls (.ref (E.2.1 7) :: rest)) :=
  va_alen X.1 X.2.1 X.2.2.2.2.2.1 w.1 7 0 rfl rfl hv hd kk
theorem al_8 {i : Int32} (X : zX E p s m args c cc own nL) (w : zW E s μ H locs) (hin : vp_in i 64) (hd : decode cc pc = .ok (.iaload, 1)) (kk : W p l e R s m args below meth c H locs cells slots Q (F0 m (pc + 1) ls (.int (μ 8 i.toNatClampNeg) :: rest))) : W p l e R s m args below meth c H locs cells slots Q (F0 m pc ls (.int i :: .ref (E.2.1 8) :: rest)) :=
  va_iald X.1 X.2.1 X.2.2.2.2.2.1 w.1 8 0 rfl rfl hin hd kk
theorem as_8 {i x : Int32} (X : zX E p s m args c cc own nL) (w : zW E s μ H locs) (hin : vp_in i 64) (hd : decode cc pc = .ok (.iastore, 1)) (kk : ∀ (μ1 : zM) (H1 : Heap) (locs1 : List Loc), μ1 = zp μ 8 i.toNatClampNeg x → zW E s μ1 H1 locs1 → W p l e R s m args below meth c H1 locs1 cells slots Q (F0 m (pc + 1) ls rest)) : W p l e R s m args below meth c H locs cells slots Q (F0 m pc ls (.int x :: .int i :: .ref (E.2.1 8) :: rest)) :=
  va_iast X.1 X.2.1 X.2.2.2.2.2.1 w.1 w.2.1 w.2.2 8 0 rfl rfl hin hd (fun H1 locs1 hP hD hS => kk _ H1 locs1 rfl ⟨hP, hD, hS⟩)
theorem an_8 {v : Int32} (X : zX E p s m args c cc own nL) (w : zW E s μ H locs) (hv : Int32.ofNat 64 = v) (hd : decode cc pc = .ok (.arraylength, 1)) (kk : W p l e R s m args below meth c H locs cells slots Q (F0 m (pc + 1) ls (.int v :: rest))) : W p l e R s m args below meth c H locs cells slots Q (F0 m pc ls (.ref (E.2.1 8) :: rest)) :=
  va_alen X.1 X.2.1 X.2.2.2.2.2.1 w.1 8 0 rfl rfl hv hd kk
theorem al_9 {i : Int32} (X : zX E p s m args c cc own nL) (w : zW E s μ H locs) (hin : vp_in i 64) (hd : decode cc pc = .ok (.iaload, 1)) (kk : W p l e R s m args below meth c H locs cells slots Q (F0 m (pc + 1) ls (.int (μ 9 i.toNatClampNeg) :: rest))) : W p l e R s m args below meth c H locs cells slots Q (F0 m pc ls (.int i :: .ref (E.2.1 9) :: rest)) :=
  va_iald X.1 X.2.1 X.2.2.2.2.2.1 w.1 9 0 rfl rfl hin hd kk
theorem as_9 {i x : Int32} (X : zX E p s m args c cc own nL) (w : zW E s μ H locs) (hin : vp_in i 64) (hd : decode cc pc = .ok (.iastore, 1)) (kk : ∀ (μ1 : zM) (H1 : Heap) (locs1 : List Loc), μ1 = zp μ 9 i.toNatClampNeg x → zW E s μ1 H1 locs1 → W p l e R s m args below meth c H1 locs1 cells slots Q (F0 m (pc + 1) ls rest)) : W p l e R s m args below meth c H locs cells slots Q (F0 m pc ls (.int x :: .int i :: .ref (E.2.1 9) :: rest)) :=
  va_iast X.1 X.2.1 X.2.2.2.2.2.1 w.1 w.2.1 w.2.2 9 0 rfl rfl hin hd (fun H1 locs1 hP hD hS => kk _ H1 locs1 rfl ⟨hP, hD, hS⟩)
theorem an_9 {v : Int32} (X : zX E p s m args c cc own nL) (w : zW E s μ H locs) (hv : Int32.ofNat 64 = v) (hd : decode cc pc = .ok (.arraylength, 1)) (kk : W p l e R s m args below meth c H locs cells slots Q (F0 m (pc + 1) ls (.int v :: rest))) : W p l e R s m args below meth c H locs cells slots Q (F0 m pc ls (.ref (E.2.1 9) :: rest)) :=
  va_alen X.1 X.2.1 X.2.2.2.2.2.1 w.1 9 0 rfl rfl hv hd kk
theorem al_11 {i : Int32} (X : zX E p s m args c cc own nL) (w : zW E s μ H locs) (hin : vp_in i 2000) (hd : decode cc pc = .ok (.baload, 1)) (kk : W p l e R s m args below meth c H locs cells slots Q (F0 m (pc + 1) ls (.int (μ 11 i.toNatClampNeg) :: rest))) : W p l e R s m args below meth c H locs cells slots Q (F0 m pc ls (.int i :: .ref (E.2.1 11) :: rest)) :=
  va_bald X.1 X.2.1 X.2.2.2.2.2.1 w.1 11 1 rfl rfl hin hd kk
theorem as_11 {i x : Int32} (X : zX E p s m args c cc own nL) (w : zW E s μ H locs) (hin : vp_in i 2000) (hd : decode cc pc = .ok (.bastore, 1)) (kk : ∀ (μ1 : zM) (H1 : Heap) (locs1 : List Loc), μ1 = zp μ 11 i.toNatClampNeg (vp_nar .byte x) → zW E s μ1 H1 locs1 → W p l e R s m args below meth c H1 locs1 cells slots Q (F0 m (pc + 1) ls rest)) : W p l e R s m args below meth c H locs cells slots Q (F0 m pc ls (.int x :: .int i :: .ref (E.2.1 11) :: rest)) :=
  va_bast X.1 X.2.1 X.2.2.2.2.2.1 w.1 w.2.1 w.2.2 11 1 rfl rfl hin hd (fun H1 locs1 hP hD hS => kk _ H1 locs1 rfl ⟨hP, hD, hS⟩)
theorem an_11 {v : Int32} (X : zX E p s m args c cc own nL) (w : zW E s μ H locs) (hv : Int32.ofNat 2000 = v) (hd : decode cc pc = .ok (.arraylength, 1)) (kk : W p l e R s m args below meth c H locs cells slots Q (F0 m (pc + 1) ls (.int v :: rest))) : W p l e R s m args below meth c H locs cells slots Q (F0 m pc ls (.ref (E.2.1 11) :: rest)) :=
  va_alen X.1 X.2.1 X.2.2.2.2.2.1 w.1 11 1 rfl rfl hv hd kk
theorem al_13 {i : Int32} (X : zX E p s m args c cc own nL) (w : zW E s μ H locs) (hin : vp_in i 1024) (hd : decode cc pc = .ok (.iaload, 1)) (kk : W p l e R s m args below meth c H locs cells slots Q (F0 m (pc + 1) ls (.int (μ 13 i.toNatClampNeg) :: rest))) : W p l e R s m args below meth c H locs cells slots Q (F0 m pc ls (.int i :: .ref (E.2.1 13) :: rest)) :=
  va_iald X.1 X.2.1 X.2.2.2.2.2.1 w.1 13 0 rfl rfl hin hd kk
theorem as_13 {i x : Int32} (X : zX E p s m args c cc own nL) (w : zW E s μ H locs) (hin : vp_in i 1024) (hd : decode cc pc = .ok (.iastore, 1)) (kk : ∀ (μ1 : zM) (H1 : Heap) (locs1 : List Loc), μ1 = zp μ 13 i.toNatClampNeg x → zW E s μ1 H1 locs1 → W p l e R s m args below meth c H1 locs1 cells slots Q (F0 m (pc + 1) ls rest)) : W p l e R s m args below meth c H locs cells slots Q (F0 m pc ls (.int x :: .int i :: .ref (E.2.1 13) :: rest)) :=
  va_iast X.1 X.2.1 X.2.2.2.2.2.1 w.1 w.2.1 w.2.2 13 0 rfl rfl hin hd (fun H1 locs1 hP hD hS => kk _ H1 locs1 rfl ⟨hP, hD, hS⟩)
theorem an_13 {v : Int32} (X : zX E p s m args c cc own nL) (w : zW E s μ H locs) (hv : Int32.ofNat 1024 = v) (hd : decode cc pc = .ok (.arraylength, 1)) (kk : W p l e R s m args below meth c H locs cells slots Q (F0 m (pc + 1) ls (.int v :: rest))) : W p l e R s m args below meth c H locs cells slots Q (F0 m pc ls (.ref (E.2.1 13) :: rest)) :=
  va_alen X.1 X.2.1 X.2.2.2.2.2.1 w.1 13 0 rfl rfl hv hd kk
theorem al_14 {i : Int32} (X : zX E p s m args c cc own nL) (w : zW E s μ H locs) (hin : vp_in i 16) (hd : decode cc pc = .ok (.iaload, 1)) (kk : W p l e R s m args below meth c H locs cells slots Q (F0 m (pc + 1) ls (.int (μ 14 i.toNatClampNeg) :: rest))) : W p l e R s m args below meth c H locs cells slots Q (F0 m pc ls (.int i :: .ref (E.2.1 14) :: rest)) :=
  va_iald X.1 X.2.1 X.2.2.2.2.2.1 w.1 14 0 rfl rfl hin hd kk
theorem as_14 {i x : Int32} (X : zX E p s m args c cc own nL) (w : zW E s μ H locs) (hin : vp_in i 16) (hd : decode cc pc = .ok (.iastore, 1)) (kk : ∀ (μ1 : zM) (H1 : Heap) (locs1 : List Loc), μ1 = zp μ 14 i.toNatClampNeg x → zW E s μ1 H1 locs1 → W p l e R s m args below meth c H1 locs1 cells slots Q (F0 m (pc + 1) ls rest)) : W p l e R s m args below meth c H locs cells slots Q (F0 m pc ls (.int x :: .int i :: .ref (E.2.1 14) :: rest)) :=
  va_iast X.1 X.2.1 X.2.2.2.2.2.1 w.1 w.2.1 w.2.2 14 0 rfl rfl hin hd (fun H1 locs1 hP hD hS => kk _ H1 locs1 rfl ⟨hP, hD, hS⟩)
theorem an_14 {v : Int32} (X : zX E p s m args c cc own nL) (w : zW E s μ H locs) (hv : Int32.ofNat 16 = v) (hd : decode cc pc = .ok (.arraylength, 1)) (kk : W p l e R s m args below meth c H locs cells slots Q (F0 m (pc + 1) ls (.int v :: rest))) : W p l e R s m args below meth c H locs cells slots Q (F0 m pc ls (.ref (E.2.1 14) :: rest)) :=
  va_alen X.1 X.2.1 X.2.2.2.2.2.1 w.1 14 0 rfl rfl hv hd kk
theorem al_16 {i : Int32} (X : zX E p s m args c cc own nL) (w : zW E s μ H locs) (hin : vp_in i 1024) (hd : decode cc pc = .ok (.baload, 1)) (kk : W p l e R s m args below meth c H locs cells slots Q (F0 m (pc + 1) ls (.int (μ 16 i.toNatClampNeg) :: rest))) : W p l e R s m args below meth c H locs cells slots Q (F0 m pc ls (.int i :: .ref (E.2.1 16) :: rest)) :=
  va_bald X.1 X.2.1 X.2.2.2.2.2.1 w.1 16 1 rfl rfl hin hd kk
theorem as_16 {i x : Int32} (X : zX E p s m args c cc own nL) (w : zW E s μ H locs) (hin : vp_in i 1024) (hd : decode cc pc = .ok (.bastore, 1)) (kk : ∀ (μ1 : zM) (H1 : Heap) (locs1 : List Loc), μ1 = zp μ 16 i.toNatClampNeg (vp_nar .byte x) → zW E s μ1 H1 locs1 → W p l e R s m args below meth c H1 locs1 cells slots Q (F0 m (pc + 1) ls rest)) : W p l e R s m args below meth c H locs cells slots Q (F0 m pc ls (.int x :: .int i :: .ref (E.2.1 16) :: rest)) :=
  va_bast X.1 X.2.1 X.2.2.2.2.2.1 w.1 w.2.1 w.2.2 16 1 rfl rfl hin hd (fun H1 locs1 hP hD hS => kk _ H1 locs1 rfl ⟨hP, hD, hS⟩)
theorem an_16 {v : Int32} (X : zX E p s m args c cc own nL) (w : zW E s μ H locs) (hv : Int32.ofNat 1024 = v) (hd : decode cc pc = .ok (.arraylength, 1)) (kk : W p l e R s m args below meth c H locs cells slots Q (F0 m (pc + 1) ls (.int v :: rest))) : W p l e R s m args below meth c H locs cells slots Q (F0 m pc ls (.ref (E.2.1 16) :: rest)) :=
  va_alen X.1 X.2.1 X.2.2.2.2.2.1 w.1 16 1 rfl rfl hv hd kk
theorem al_18 {i : Int32} (X : zX E p s m args c cc own nL) (w : zW E s μ H locs) (hin : vp_in i 1024) (hd : decode cc pc = .ok (.iaload, 1)) (kk : W p l e R s m args below meth c H locs cells slots Q (F0 m (pc + 1) ls (.int (μ 18 i.toNatClampNeg) :: rest))) : W p l e R s m args below meth c H locs cells slots Q (F0 m pc ls (.int i :: .ref (E.2.1 18) :: rest)) :=
  va_iald X.1 X.2.1 X.2.2.2.2.2.1 w.1 18 0 rfl rfl hin hd kk
theorem as_18 {i x : Int32} (X : zX E p s m args c cc own nL) (w : zW E s μ H locs) (hin : vp_in i 1024) (hd : decode cc pc = .ok (.iastore, 1)) (kk : ∀ (μ1 : zM) (H1 : Heap) (locs1 : List Loc), μ1 = zp μ 18 i.toNatClampNeg x → zW E s μ1 H1 locs1 → W p l e R s m args below meth c H1 locs1 cells slots Q (F0 m (pc + 1) ls rest)) : W p l e R s m args below meth c H locs cells slots Q (F0 m pc ls (.int x :: .int i :: .ref (E.2.1 18) :: rest)) :=
  va_iast X.1 X.2.1 X.2.2.2.2.2.1 w.1 w.2.1 w.2.2 18 0 rfl rfl hin hd (fun H1 locs1 hP hD hS => kk _ H1 locs1 rfl ⟨hP, hD, hS⟩)
theorem an_18 {v : Int32} (X : zX E p s m args c cc own nL) (w : zW E s μ H locs) (hv : Int32.ofNat 1024 = v) (hd : decode cc pc = .ok (.arraylength, 1)) (kk : W p l e R s m args below meth c H locs cells slots Q (F0 m (pc + 1) ls (.int v :: rest))) : W p l e R s m args below meth c H locs cells slots Q (F0 m pc ls (.ref (E.2.1 18) :: rest)) :=
  va_alen X.1 X.2.1 X.2.2.2.2.2.1 w.1 18 0 rfl rfl hv hd kk
theorem al_20 {i : Int32} (X : zX E p s m args c cc own nL) (w : zW E s μ H locs) (hin : vp_in i 4096) (hd : decode cc pc = .ok (.iaload, 1)) (kk : W p l e R s m args below meth c H locs cells slots Q (F0 m (pc + 1) ls (.int (μ 20 i.toNatClampNeg) :: rest))) : W p l e R s m args below meth c H locs cells slots Q (F0 m pc ls (.int i :: .ref (E.2.1 20) :: rest)) :=
  va_iald X.1 X.2.1 X.2.2.2.2.2.1 w.1 20 0 rfl rfl hin hd kk
theorem as_20 {i x : Int32} (X : zX E p s m args c cc own nL) (w : zW E s μ H locs) (hin : vp_in i 4096) (hd : decode cc pc = .ok (.iastore, 1)) (kk : ∀ (μ1 : zM) (H1 : Heap) (locs1 : List Loc), μ1 = zp μ 20 i.toNatClampNeg x → zW E s μ1 H1 locs1 → W p l e R s m args below meth c H1 locs1 cells slots Q (F0 m (pc + 1) ls rest)) : W p l e R s m args below meth c H locs cells slots Q (F0 m pc ls (.int x :: .int i :: .ref (E.2.1 20) :: rest)) :=
  va_iast X.1 X.2.1 X.2.2.2.2.2.1 w.1 w.2.1 w.2.2 20 0 rfl rfl hin hd (fun H1 locs1 hP hD hS => kk _ H1 locs1 rfl ⟨hP, hD, hS⟩)
theorem an_20 {v : Int32} (X : zX E p s m args c cc own nL) (w : zW E s μ H locs) (hv : Int32.ofNat 4096 = v) (hd : decode cc pc = .ok (.arraylength, 1)) (kk : W p l e R s m args below meth c H locs cells slots Q (F0 m (pc + 1) ls (.int v :: rest))) : W p l e R s m args below meth c H locs cells slots Q (F0 m pc ls (.ref (E.2.1 20) :: rest)) :=
  va_alen X.1 X.2.1 X.2.2.2.2.2.1 w.1 20 0 rfl rfl hv hd kk
theorem al_21 {i : Int32} (X : zX E p s m args c cc own nL) (w : zW E s μ H locs) (hin : vp_in i 64) (hd : decode cc pc = .ok (.iaload, 1)) (kk : W p l e R s m args below meth c H locs cells slots Q (F0 m (pc + 1) ls (.int (μ 21 i.toNatClampNeg) :: rest))) : W p l e R s m args below meth c H locs cells slots Q (F0 m pc ls (.int i :: .ref (E.2.1 21) :: rest)) :=
  va_iald X.1 X.2.1 X.2.2.2.2.2.1 w.1 21 0 rfl rfl hin hd kk
theorem as_21 {i x : Int32} (X : zX E p s m args c cc own nL) (w : zW E s μ H locs) (hin : vp_in i 64) (hd : decode cc pc = .ok (.iastore, 1)) (kk : ∀ (μ1 : zM) (H1 : Heap) (locs1 : List Loc), μ1 = zp μ 21 i.toNatClampNeg x → zW E s μ1 H1 locs1 → W p l e R s m args below meth c H1 locs1 cells slots Q (F0 m (pc + 1) ls rest)) : W p l e R s m args below meth c H locs cells slots Q (F0 m pc ls (.int x :: .int i :: .ref (E.2.1 21) :: rest)) :=
  va_iast X.1 X.2.1 X.2.2.2.2.2.1 w.1 w.2.1 w.2.2 21 0 rfl rfl hin hd (fun H1 locs1 hP hD hS => kk _ H1 locs1 rfl ⟨hP, hD, hS⟩)
theorem an_21 {v : Int32} (X : zX E p s m args c cc own nL) (w : zW E s μ H locs) (hv : Int32.ofNat 64 = v) (hd : decode cc pc = .ok (.arraylength, 1)) (kk : W p l e R s m args below meth c H locs cells slots Q (F0 m (pc + 1) ls (.int v :: rest))) : W p l e R s m args below meth c H locs cells slots Q (F0 m pc ls (.ref (E.2.1 21) :: rest)) :=
  va_alen X.1 X.2.1 X.2.2.2.2.2.1 w.1 21 0 rfl rfl hv hd kk
theorem al_22 {i : Int32} (X : zX E p s m args c cc own nL) (w : zW E s μ H locs) (hin : vp_in i 4096) (hd : decode cc pc = .ok (.iaload, 1)) (kk : W p l e R s m args below meth c H locs cells slots Q (F0 m (pc + 1) ls (.int (μ 22 i.toNatClampNeg) :: rest))) : W p l e R s m args below meth c H locs cells slots Q (F0 m pc ls (.int i :: .ref (E.2.1 22) :: rest)) :=
  va_iald X.1 X.2.1 X.2.2.2.2.2.1 w.1 22 0 rfl rfl hin hd kk
theorem as_22 {i x : Int32} (X : zX E p s m args c cc own nL) (w : zW E s μ H locs) (hin : vp_in i 4096) (hd : decode cc pc = .ok (.iastore, 1)) (kk : ∀ (μ1 : zM) (H1 : Heap) (locs1 : List Loc), μ1 = zp μ 22 i.toNatClampNeg x → zW E s μ1 H1 locs1 → W p l e R s m args below meth c H1 locs1 cells slots Q (F0 m (pc + 1) ls rest)) : W p l e R s m args below meth c H locs cells slots Q (F0 m pc ls (.int x :: .int i :: .ref (E.2.1 22) :: rest)) :=
  va_iast X.1 X.2.1 X.2.2.2.2.2.1 w.1 w.2.1 w.2.2 22 0 rfl rfl hin hd (fun H1 locs1 hP hD hS => kk _ H1 locs1 rfl ⟨hP, hD, hS⟩)
theorem an_22 {v : Int32} (X : zX E p s m args c cc own nL) (w : zW E s μ H locs) (hv : Int32.ofNat 4096 = v) (hd : decode cc pc = .ok (.arraylength, 1)) (kk : W p l e R s m args below meth c H locs cells slots Q (F0 m (pc + 1) ls (.int v :: rest))) : W p l e R s m args below meth c H locs cells slots Q (F0 m pc ls (.ref (E.2.1 22) :: rest)) :=
  va_alen X.1 X.2.1 X.2.2.2.2.2.1 w.1 22 0 rfl rfl hv hd kk
theorem al_23 {i : Int32} (X : zX E p s m args c cc own nL) (w : zW E s μ H locs) (hin : vp_in i 4096) (hd : decode cc pc = .ok (.baload, 1)) (kk : W p l e R s m args below meth c H locs cells slots Q (F0 m (pc + 1) ls (.int (μ 23 i.toNatClampNeg) :: rest))) : W p l e R s m args below meth c H locs cells slots Q (F0 m pc ls (.int i :: .ref (E.2.1 23) :: rest)) :=
  va_zald X.1 X.2.1 X.2.2.2.2.2.1 w.1 23 2 rfl rfl hin hd kk
theorem as_23 {i x : Int32} (X : zX E p s m args c cc own nL) (w : zW E s μ H locs) (hin : vp_in i 4096) (hd : decode cc pc = .ok (.bastore, 1)) (kk : ∀ (μ1 : zM) (H1 : Heap) (locs1 : List Loc), μ1 = zp μ 23 i.toNatClampNeg (vp_nar .boolean x) → zW E s μ1 H1 locs1 → W p l e R s m args below meth c H1 locs1 cells slots Q (F0 m (pc + 1) ls rest)) : W p l e R s m args below meth c H locs cells slots Q (F0 m pc ls (.int x :: .int i :: .ref (E.2.1 23) :: rest)) :=
  va_zast X.1 X.2.1 X.2.2.2.2.2.1 w.1 w.2.1 w.2.2 23 2 rfl rfl hin hd (fun H1 locs1 hP hD hS => kk _ H1 locs1 rfl ⟨hP, hD, hS⟩)
theorem an_23 {v : Int32} (X : zX E p s m args c cc own nL) (w : zW E s μ H locs) (hv : Int32.ofNat 4096 = v) (hd : decode cc pc = .ok (.arraylength, 1)) (kk : W p l e R s m args below meth c H locs cells slots Q (F0 m (pc + 1) ls (.int v :: rest))) : W p l e R s m args below meth c H locs cells slots Q (F0 m pc ls (.ref (E.2.1 23) :: rest)) :=
  va_alen X.1 X.2.1 X.2.2.2.2.2.1 w.1 23 2 rfl rfl hv hd kk
theorem al_24 {i : Int32} (X : zX E p s m args c cc own nL) (w : zW E s μ H locs) (hin : vp_in i 4096) (hd : decode cc pc = .ok (.iaload, 1)) (kk : W p l e R s m args below meth c H locs cells slots Q (F0 m (pc + 1) ls (.int (μ 24 i.toNatClampNeg) :: rest))) : W p l e R s m args below meth c H locs cells slots Q (F0 m pc ls (.int i :: .ref (E.2.1 24) :: rest)) :=
  va_iald X.1 X.2.1 X.2.2.2.2.2.1 w.1 24 0 rfl rfl hin hd kk
theorem as_24 {i x : Int32} (X : zX E p s m args c cc own nL) (w : zW E s μ H locs) (hin : vp_in i 4096) (hd : decode cc pc = .ok (.iastore, 1)) (kk : ∀ (μ1 : zM) (H1 : Heap) (locs1 : List Loc), μ1 = zp μ 24 i.toNatClampNeg x → zW E s μ1 H1 locs1 → W p l e R s m args below meth c H1 locs1 cells slots Q (F0 m (pc + 1) ls rest)) : W p l e R s m args below meth c H locs cells slots Q (F0 m pc ls (.int x :: .int i :: .ref (E.2.1 24) :: rest)) :=
  va_iast X.1 X.2.1 X.2.2.2.2.2.1 w.1 w.2.1 w.2.2 24 0 rfl rfl hin hd (fun H1 locs1 hP hD hS => kk _ H1 locs1 rfl ⟨hP, hD, hS⟩)
theorem an_24 {v : Int32} (X : zX E p s m args c cc own nL) (w : zW E s μ H locs) (hv : Int32.ofNat 4096 = v) (hd : decode cc pc = .ok (.arraylength, 1)) (kk : W p l e R s m args below meth c H locs cells slots Q (F0 m (pc + 1) ls (.int v :: rest))) : W p l e R s m args below meth c H locs cells slots Q (F0 m pc ls (.ref (E.2.1 24) :: rest)) :=
  va_alen X.1 X.2.1 X.2.2.2.2.2.1 w.1 24 0 rfl rfl hv hd kk
theorem al_25 {i : Int32} (X : zX E p s m args c cc own nL) (w : zW E s μ H locs) (hin : vp_in i 4096) (hd : decode cc pc = .ok (.iaload, 1)) (kk : W p l e R s m args below meth c H locs cells slots Q (F0 m (pc + 1) ls (.int (μ 25 i.toNatClampNeg) :: rest))) : W p l e R s m args below meth c H locs cells slots Q (F0 m pc ls (.int i :: .ref (E.2.1 25) :: rest)) :=
  va_iald X.1 X.2.1 X.2.2.2.2.2.1 w.1 25 0 rfl rfl hin hd kk
theorem as_25 {i x : Int32} (X : zX E p s m args c cc own nL) (w : zW E s μ H locs) (hin : vp_in i 4096) (hd : decode cc pc = .ok (.iastore, 1)) (kk : ∀ (μ1 : zM) (H1 : Heap) (locs1 : List Loc), μ1 = zp μ 25 i.toNatClampNeg x → zW E s μ1 H1 locs1 → W p l e R s m args below meth c H1 locs1 cells slots Q (F0 m (pc + 1) ls rest)) : W p l e R s m args below meth c H locs cells slots Q (F0 m pc ls (.int x :: .int i :: .ref (E.2.1 25) :: rest)) :=
  va_iast X.1 X.2.1 X.2.2.2.2.2.1 w.1 w.2.1 w.2.2 25 0 rfl rfl hin hd (fun H1 locs1 hP hD hS => kk _ H1 locs1 rfl ⟨hP, hD, hS⟩)
theorem an_25 {v : Int32} (X : zX E p s m args c cc own nL) (w : zW E s μ H locs) (hv : Int32.ofNat 4096 = v) (hd : decode cc pc = .ok (.arraylength, 1)) (kk : W p l e R s m args below meth c H locs cells slots Q (F0 m (pc + 1) ls (.int v :: rest))) : W p l e R s m args below meth c H locs cells slots Q (F0 m pc ls (.ref (E.2.1 25) :: rest)) :=
  va_alen X.1 X.2.1 X.2.2.2.2.2.1 w.1 25 0 rfl rfl hv hd kk
theorem al_26 {i : Int32} (X : zX E p s m args c cc own nL) (w : zW E s μ H locs) (hin : vp_in i 16) (hd : decode cc pc = .ok (.iaload, 1)) (kk : W p l e R s m args below meth c H locs cells slots Q (F0 m (pc + 1) ls (.int (μ 26 i.toNatClampNeg) :: rest))) : W p l e R s m args below meth c H locs cells slots Q (F0 m pc ls (.int i :: .ref (E.2.1 26) :: rest)) :=
  va_iald X.1 X.2.1 X.2.2.2.2.2.1 w.1 26 0 rfl rfl hin hd kk
theorem as_26 {i x : Int32} (X : zX E p s m args c cc own nL) (w : zW E s μ H locs) (hin : vp_in i 16) (hd : decode cc pc = .ok (.iastore, 1)) (kk : ∀ (μ1 : zM) (H1 : Heap) (locs1 : List Loc), μ1 = zp μ 26 i.toNatClampNeg x → zW E s μ1 H1 locs1 → W p l e R s m args below meth c H1 locs1 cells slots Q (F0 m (pc + 1) ls rest)) : W p l e R s m args below meth c H locs cells slots Q (F0 m pc ls (.int x :: .int i :: .ref (E.2.1 26) :: rest)) :=
  va_iast X.1 X.2.1 X.2.2.2.2.2.1 w.1 w.2.1 w.2.2 26 0 rfl rfl hin hd (fun H1 locs1 hP hD hS => kk _ H1 locs1 rfl ⟨hP, hD, hS⟩)
theorem an_26 {v : Int32} (X : zX E p s m args c cc own nL) (w : zW E s μ H locs) (hv : Int32.ofNat 16 = v) (hd : decode cc pc = .ok (.arraylength, 1)) (kk : W p l e R s m args below meth c H locs cells slots Q (F0 m (pc + 1) ls (.int v :: rest))) : W p l e R s m args below meth c H locs cells slots Q (F0 m pc ls (.ref (E.2.1 26) :: rest)) :=
  va_alen X.1 X.2.1 X.2.2.2.2.2.1 w.1 26 0 rfl rfl hv hd kk
theorem al_27 {i : Int32} (X : zX E p s m args c cc own nL) (w : zW E s μ H locs) (hin : vp_in i 1100) (hd : decode cc pc = .ok (.iaload, 1)) (kk : W p l e R s m args below meth c H locs cells slots Q (F0 m (pc + 1) ls (.int (μ 27 i.toNatClampNeg) :: rest))) : W p l e R s m args below meth c H locs cells slots Q (F0 m pc ls (.int i :: .ref (E.2.1 27) :: rest)) :=
  va_iald X.1 X.2.1 X.2.2.2.2.2.1 w.1 27 0 rfl rfl hin hd kk
theorem as_27 {i x : Int32} (X : zX E p s m args c cc own nL) (w : zW E s μ H locs) (hin : vp_in i 1100) (hd : decode cc pc = .ok (.iastore, 1)) (kk : ∀ (μ1 : zM) (H1 : Heap) (locs1 : List Loc), μ1 = zp μ 27 i.toNatClampNeg x → zW E s μ1 H1 locs1 → W p l e R s m args below meth c H1 locs1 cells slots Q (F0 m (pc + 1) ls rest)) : W p l e R s m args below meth c H locs cells slots Q (F0 m pc ls (.int x :: .int i :: .ref (E.2.1 27) :: rest)) :=
  va_iast X.1 X.2.1 X.2.2.2.2.2.1 w.1 w.2.1 w.2.2 27 0 rfl rfl hin hd (fun H1 locs1 hP hD hS => kk _ H1 locs1 rfl ⟨hP, hD, hS⟩)
theorem an_27 {v : Int32} (X : zX E p s m args c cc own nL) (w : zW E s μ H locs) (hv : Int32.ofNat 1100 = v) (hd : decode cc pc = .ok (.arraylength, 1)) (kk : W p l e R s m args below meth c H locs cells slots Q (F0 m (pc + 1) ls (.int v :: rest))) : W p l e R s m args below meth c H locs cells slots Q (F0 m pc ls (.ref (E.2.1 27) :: rest)) :=
  va_alen X.1 X.2.1 X.2.2.2.2.2.1 w.1 27 0 rfl rfl hv hd kk
theorem al_28 {i : Int32} (X : zX E p s m args c cc own nL) (w : zW E s μ H locs) (hin : vp_in i 2000) (hd : decode cc pc = .ok (.baload, 1)) (kk : W p l e R s m args below meth c H locs cells slots Q (F0 m (pc + 1) ls (.int (μ 28 i.toNatClampNeg) :: rest))) : W p l e R s m args below meth c H locs cells slots Q (F0 m pc ls (.int i :: .ref (E.2.1 28) :: rest)) :=
  va_zald X.1 X.2.1 X.2.2.2.2.2.1 w.1 28 2 rfl rfl hin hd kk
theorem as_28 {i x : Int32} (X : zX E p s m args c cc own nL) (w : zW E s μ H locs) (hin : vp_in i 2000) (hd : decode cc pc = .ok (.bastore, 1)) (kk : ∀ (μ1 : zM) (H1 : Heap) (locs1 : List Loc), μ1 = zp μ 28 i.toNatClampNeg (vp_nar .boolean x) → zW E s μ1 H1 locs1 → W p l e R s m args below meth c H1 locs1 cells slots Q (F0 m (pc + 1) ls rest)) : W p l e R s m args below meth c H locs cells slots Q (F0 m pc ls (.int x :: .int i :: .ref (E.2.1 28) :: rest)) :=
  va_zast X.1 X.2.1 X.2.2.2.2.2.1 w.1 w.2.1 w.2.2 28 2 rfl rfl hin hd (fun H1 locs1 hP hD hS => kk _ H1 locs1 rfl ⟨hP, hD, hS⟩)
theorem an_28 {v : Int32} (X : zX E p s m args c cc own nL) (w : zW E s μ H locs) (hv : Int32.ofNat 2000 = v) (hd : decode cc pc = .ok (.arraylength, 1)) (kk : W p l e R s m args below meth c H locs cells slots Q (F0 m (pc + 1) ls (.int v :: rest))) : W p l e R s m args below meth c H locs cells slots Q (F0 m pc ls (.ref (E.2.1 28) :: rest)) :=
  va_alen X.1 X.2.1 X.2.2.2.2.2.1 w.1 28 2 rfl rfl hv hd kk
theorem al_29 {i : Int32} (X : zX E p s m args c cc own nL) (w : zW E s μ H locs) (hin : vp_in i 4096) (hd : decode cc pc = .ok (.baload, 1)) (kk : W p l e R s m args below meth c H locs cells slots Q (F0 m (pc + 1) ls (.int (μ 29 i.toNatClampNeg) :: rest))) : W p l e R s m args below meth c H locs cells slots Q (F0 m pc ls (.int i :: .ref (E.2.1 29) :: rest)) :=
  va_zald X.1 X.2.1 X.2.2.2.2.2.1 w.1 29 2 rfl rfl hin hd kk
theorem as_29 {i x : Int32} (X : zX E p s m args c cc own nL) (w : zW E s μ H locs) (hin : vp_in i 4096) (hd : decode cc pc = .ok (.bastore, 1)) (kk : ∀ (μ1 : zM) (H1 : Heap) (locs1 : List Loc), μ1 = zp μ 29 i.toNatClampNeg (vp_nar .boolean x) → zW E s μ1 H1 locs1 → W p l e R s m args below meth c H1 locs1 cells slots Q (F0 m (pc + 1) ls rest)) : W p l e R s m args below meth c H locs cells slots Q (F0 m pc ls (.int x :: .int i :: .ref (E.2.1 29) :: rest)) :=
  va_zast X.1 X.2.1 X.2.2.2.2.2.1 w.1 w.2.1 w.2.2 29 2 rfl rfl hin hd (fun H1 locs1 hP hD hS => kk _ H1 locs1 rfl ⟨hP, hD, hS⟩)
theorem an_29 {v : Int32} (X : zX E p s m args c cc own nL) (w : zW E s μ H locs) (hv : Int32.ofNat 4096 = v) (hd : decode cc pc = .ok (.arraylength, 1)) (kk : W p l e R s m args below meth c H locs cells slots Q (F0 m (pc + 1) ls (.int v :: rest))) : W p l e R s m args below meth c H locs cells slots Q (F0 m pc ls (.ref (E.2.1 29) :: rest)) :=
  va_alen X.1 X.2.1 X.2.2.2.2.2.1 w.1 29 2 rfl rfl hv hd kk
theorem sg_1 {index : Nat} (X : zX E p s m args c cc own nL) (w : zW E s μ H locs) (hl : Cond.fieldLink own index "BeatHeap" "BLOCK_WORDS" "[I" ∈ zT) (hd : decode cc pc = .ok (.getstatic index, 3)) (kk : W p l e R s m args below meth c H locs cells slots Q (F0 m (pc + 3) ls (.ref E.2.2.2.1 :: rest))) : W p l e R s m args below meth c H locs cells slots Q (F0 m pc ls rest) :=
  va_gets X.1 X.2.1 X.2.2.2.2.2.2.2.1.1 w.2.2 X.2.2.2.1 (X.2.2.2.2.1 _ hl) (fun _ h => h) hd kk
theorem sl_1 {i : Int32} (X : zX E p s m args c cc own nL) (w : zW E s μ H locs) (hin : vp_in i 4) (hd : decode cc pc = .ok (.iaload, 1)) (kk : W p l e R s m args below meth c H locs cells slots Q (F0 m (pc + 1) ls (.int (zb1 i.toNatClampNeg) :: rest))) : W p l e R s m args below meth c H locs cells slots Q (F0 m pc ls (.int i :: .ref E.2.2.2.1 :: rest)) :=
  va_ti X.1 X.2.1 X.2.2.2.2.2.2.2.1.2.2.1 w.2.2 hin rfl hd kk
theorem sn_1 {v : Int32} (X : zX E p s m args c cc own nL) (w : zW E s μ H locs) (hv : Int32.ofNat 4 = v) (hd : decode cc pc = .ok (.arraylength, 1)) (kk : W p l e R s m args below meth c H locs cells slots Q (F0 m (pc + 1) ls (.int v :: rest))) : W p l e R s m args below meth c H locs cells slots Q (F0 m pc ls (.ref E.2.2.2.1 :: rest)) :=
  va_tlen X.1 X.2.1 X.2.2.2.2.2.2.2.1.2.2.1 w.2.2 hv hd kk
theorem sg_2 {index : Nat} (X : zX E p s m args c cc own nL) (w : zW E s μ H locs) (hl : Cond.fieldLink own index "BeatHeap" "TAKE_TICKS" "[I" ∈ zT) (hd : decode cc pc = .ok (.getstatic index, 3)) (kk : W p l e R s m args below meth c H locs cells slots Q (F0 m (pc + 3) ls (.ref E.2.2.2.2.1 :: rest))) : W p l e R s m args below meth c H locs cells slots Q (F0 m pc ls rest) :=
  va_gets X.1 X.2.1 X.2.2.2.2.2.2.2.1.2.1 w.2.2 X.2.2.2.1 (X.2.2.2.2.1 _ hl) (fun _ h => h) hd kk
theorem sl_2 {i : Int32} (X : zX E p s m args c cc own nL) (w : zW E s μ H locs) (hin : vp_in i 4) (hd : decode cc pc = .ok (.iaload, 1)) (kk : W p l e R s m args below meth c H locs cells slots Q (F0 m (pc + 1) ls (.int (zb2 i.toNatClampNeg) :: rest))) : W p l e R s m args below meth c H locs cells slots Q (F0 m pc ls (.int i :: .ref E.2.2.2.2.1 :: rest)) :=
  va_ti X.1 X.2.1 X.2.2.2.2.2.2.2.1.2.2.2 w.2.2 hin rfl hd kk
theorem sn_2 {v : Int32} (X : zX E p s m args c cc own nL) (w : zW E s μ H locs) (hv : Int32.ofNat 4 = v) (hd : decode cc pc = .ok (.arraylength, 1)) (kk : W p l e R s m args below meth c H locs cells slots Q (F0 m (pc + 1) ls (.int v :: rest))) : W p l e R s m args below meth c H locs cells slots Q (F0 m pc ls (.ref E.2.2.2.2.1 :: rest)) :=
  va_tlen X.1 X.2.1 X.2.2.2.2.2.2.2.1.2.2.2 w.2.2 hv hd kk
end ZK
end
section
theorem q_Ar_fillI : (y_Ar_fillI.cls ≠ "java/lang/invoke/MethodHandle" ∧ y_Ar_fillI.cls ≠ "java/lang/invoke/VarHandle") ∧ (parseMethodDescriptor y_Ar_fillI.desc).map (fun d => d.parameters.length) = some 2 := by decide +kernel
theorem d_Ar_fillI_0 : decode prog_10_method_103_code 0 = .ok (.iconst 0, 1) := by decide +kernel
theorem d_Ar_fillI_1 : decode prog_10_method_103_code 1 = .ok (.istore_n 2, 1) := by decide +kernel
theorem d_Ar_fillI_2 : decode prog_10_method_103_code 2 = .ok (.aload_n 0, 1) := by decide +kernel
theorem d_Ar_fillI_3 : decode prog_10_method_103_code 3 = .ok (.arraylength, 1) := by decide +kernel
theorem d_Ar_fillI_4 : decode prog_10_method_103_code 4 = .ok (.istore_n 3, 1) := by decide +kernel
theorem d_Ar_fillI_5 : decode prog_10_method_103_code 5 = .ok (.iload_n 2, 1) := by decide +kernel
theorem d_Ar_fillI_6 : decode prog_10_method_103_code 6 = .ok (.iload_n 3, 1) := by decide +kernel
theorem d_Ar_fillI_7 : decode prog_10_method_103_code 7 = .ok (.if_icmp .ge 13, 3) := by decide +kernel
theorem d_Ar_fillI_10 : decode prog_10_method_103_code 10 = .ok (.aload_n 0, 1) := by decide +kernel
theorem d_Ar_fillI_11 : decode prog_10_method_103_code 11 = .ok (.iload_n 2, 1) := by decide +kernel
theorem d_Ar_fillI_12 : decode prog_10_method_103_code 12 = .ok (.iload_n 1, 1) := by decide +kernel
theorem d_Ar_fillI_13 : decode prog_10_method_103_code 13 = .ok (.iastore, 1) := by decide +kernel
theorem d_Ar_fillI_14 : decode prog_10_method_103_code 14 = .ok (.iinc 2 1, 3) := by decide +kernel
theorem d_Ar_fillI_17 : decode prog_10_method_103_code 17 = .ok (.goto (-12), 3) := by decide +kernel
theorem d_Ar_fillI_20 : decode prog_10_method_103_code 20 = .ok (.return_, 1) := by decide +kernel
noncomputable def F_Ar_fillI_14_5 (K : zM → Prop) (n : Nat) : Int32 → Int32 → Int32 → zM → Prop := Nat.rec (motive := fun _ => Int32 → Int32 → Int32 → zM → Prop) (fun _ _ _ _ => False) (fun _ ih x1 x2 x3 μ => (x3 ≤ x2 → (K μ)) ∧ (¬ x3 ≤ x2 → (vp_in x2 16 ∧ ∀ μ3 : zM, μ3 = zp μ 14 x2.toNatClampNeg x1 → (∀ x4 : Int32, x4 = x2 + 1 → (ih x1 x4 x3 μ3))))) n
def f_Ar_fillI_14 (μ : zM) (a1 : Int32) (K : zM → Prop) : Prop := ∃ n : Nat, F_Ar_fillI_14_5 K n a1 (0 : Int32) (16 : Int32) μ
set_option maxHeartbeats 4000000 in
set_option maxRecDepth 100000 in
theorem L_Ar_fillI_14_5 {p : Program} {l : Launch} {e : Env} {s : State} {m : MethodId} {args : Array Value} {below : List Frame} {meth : Method} {c : Code} {E : zE} (X : zX E p s m args c prog_10_method_103_code "java/util/Arrays" 4) (hr : meth.sig.returnType = none) (hlk : meth.locks = false) (K : zM → Prop) : ∀ (n : Nat) (x1 x2 x3 : Int32) (μ : zM) (H : Heap) (locs : List Loc) (ls : Array Slot), F_Ar_fillI_14_5 K n x1 x2 x3 μ → zW E s μ H locs → lv_has ls 4 [(0, .ref (E.2.1 14)), (1, .int x1), (2, .int x2), (3, .int x3)] → W p l e { frames := 0, cells := 0, slots := 0, locals := 0 } s m args below meth c H locs 0 0 (MQ below (va_Qv K (zR E) (zA E)) args s 0 0 (zA E)) (F0 m 5 ls []) := by
  have hx := X.1
  have hb := X.2.1
  intro n
  induction n with
  | zero => intro x1 x2 x3 μ H locs ls h; exact False.elim h
  | succ n ih =>
    intro x1 x2 x3 μ H locs ls h w hl
    refine lv_iload_n hx hb d_Ar_fillI_5 rfl (lv_at hl 2 rfl) ?_
    refine lv_iload_n hx hb d_Ar_fillI_6 rfl (lv_at hl 3 rfl) ?_
    refine lv_icmp_ge (tgt := 20) hx hb d_Ar_fillI_7 (by decide) (fun c1 => ?_) (fun c1 => ?_)
    · have h := h.1 c1
      exact z_vret X hr hlk w h d_Ar_fillI_20
    · have h := h.2 c1
      refine lv_aload_n hx hb d_Ar_fillI_10 rfl (lv_at hl 0 rfl) ?_
      refine lv_iload_n hx hb d_Ar_fillI_11 rfl (lv_at hl 2 rfl) ?_
      refine lv_iload_n hx hb d_Ar_fillI_12 rfl (lv_at hl 1 rfl) ?_
      obtain ⟨hi2, h⟩ := h
      refine as_14 X w hi2 d_Ar_fillI_13 (fun μ3 H locs eμ3 w => ?_)
      have h := h μ3 eμ3
      obtain ⟨x4, ex4⟩ : ∃ y : Int32, y = x2 + 1 := ⟨_, rfl⟩
      have h := h x4 ex4
      refine lv_iinc (v := x4) (lv' := [(2, .int x4), (0, .ref (E.2.1 14)), (1, .int x1), (3, .int x3)]) hx hb d_Ar_fillI_14 hl (k := 2) rfl (by rw [ex4]; rfl) (by decide) rfl (fun ls hl => ?_)
      refine lv_goto (tgt := 5) hx hb d_Ar_fillI_17 (by decide) ?_
      exact ih x1 x4 x3 μ3 _ _ _ h w (lv_sub hl [1, 2, 0, 3] rfl)

set_option maxHeartbeats 4000000 in
set_option maxRecDepth 100000 in
theorem c_Ar_fillI_14 (l : Launch) (E : zE) (μ : zM) (a1 : Int32) (K : zM → Prop) (h : f_Ar_fillI_14 μ a1 K) : Met l y_Ar_fillI (Cond.code y_Ar_fillI prog_10_method_103_code 4 none :: zT) { frames := 0, cells := 0, slots := 0, locals := 0 } (va_Pc [.ref (E.2.1 14), .int a1] (zR E μ)) (va_Qv K (zR E) (zA E)) 0 0 (zA E) := by
  refine z_head (by decide) (Nat.le_of_ble_eq_true rfl) ?_
  intro p e s m below meth c X hr hlk w ls hl
  have X : zX E p s m _ c prog_10_method_103_code "java/util/Arrays" 4 := X
  have hx := X.1
  have hb := X.2.1
  have hl : lv_has ls 4 [(0, .ref (E.2.1 14)), (1, .int a1)] := hl
  unfold f_Ar_fillI_14 at h
  refine lv_iconst (v := 0) hx hb d_Ar_fillI_0 (by decide) ?_
  refine lv_istore_n (lv' := [(2, .int (0 : Int32)), (0, .ref (E.2.1 14)), (1, .int a1)]) hx hb d_Ar_fillI_1 rfl hl (by decide) rfl (fun ls hl => ?_)
  refine lv_aload_n hx hb d_Ar_fillI_2 rfl (lv_at hl 1 rfl) ?_
  refine an_14 (v := 16) X w (by decide) d_Ar_fillI_3 ?_
  refine lv_istore_n (lv' := [(3, .int (16 : Int32)), (2, .int (0 : Int32)), (0, .ref (E.2.1 14)), (1, .int a1)]) hx hb d_Ar_fillI_4 rfl hl (by decide) rfl (fun ls hl => ?_)
  obtain ⟨n, h⟩ := h
  exact L_Ar_fillI_14_5 X hr hlk K n a1 (0 : Int32) (16 : Int32) μ _ _ _ h w (lv_sub hl [2, 3, 1, 0] rfl)
noncomputable def F_Ar_fillI_3_5 (K : zM → Prop) (n : Nat) : Int32 → Int32 → Int32 → zM → Prop := Nat.rec (motive := fun _ => Int32 → Int32 → Int32 → zM → Prop) (fun _ _ _ _ => False) (fun _ ih x1 x2 x3 μ => (x3 ≤ x2 → (K μ)) ∧ (¬ x3 ≤ x2 → (vp_in x2 4096 ∧ ∀ μ3 : zM, μ3 = zp μ 3 x2.toNatClampNeg x1 → (∀ x4 : Int32, x4 = x2 + 1 → (ih x1 x4 x3 μ3))))) n
def f_Ar_fillI_3 (μ : zM) (a1 : Int32) (K : zM → Prop) : Prop := ∃ n : Nat, F_Ar_fillI_3_5 K n a1 (0 : Int32) (4096 : Int32) μ
set_option maxHeartbeats 4000000 in
set_option maxRecDepth 100000 in
theorem L_Ar_fillI_3_5 {p : Program} {l : Launch} {e : Env} {s : State} {m : MethodId} {args : Array Value} {below : List Frame} {meth : Method} {c : Code} {E : zE} (X : zX E p s m args c prog_10_method_103_code "java/util/Arrays" 4) (hr : meth.sig.returnType = none) (hlk : meth.locks = false) (K : zM → Prop) : ∀ (n : Nat) (x1 x2 x3 : Int32) (μ : zM) (H : Heap) (locs : List Loc) (ls : Array Slot), F_Ar_fillI_3_5 K n x1 x2 x3 μ → zW E s μ H locs → lv_has ls 4 [(0, .ref (E.2.1 3)), (1, .int x1), (2, .int x2), (3, .int x3)] → W p l e { frames := 0, cells := 0, slots := 0, locals := 0 } s m args below meth c H locs 0 0 (MQ below (va_Qv K (zR E) (zA E)) args s 0 0 (zA E)) (F0 m 5 ls []) := by
  have hx := X.1
  have hb := X.2.1
  intro n
  induction n with
  | zero => intro x1 x2 x3 μ H locs ls h; exact False.elim h
  | succ n ih =>
    intro x1 x2 x3 μ H locs ls h w hl
    refine lv_iload_n hx hb d_Ar_fillI_5 rfl (lv_at hl 2 rfl) ?_
    refine lv_iload_n hx hb d_Ar_fillI_6 rfl (lv_at hl 3 rfl) ?_
    refine lv_icmp_ge (tgt := 20) hx hb d_Ar_fillI_7 (by decide) (fun c1 => ?_) (fun c1 => ?_)
    · have h := h.1 c1
      exact z_vret X hr hlk w h d_Ar_fillI_20
    · have h := h.2 c1
      refine lv_aload_n hx hb d_Ar_fillI_10 rfl (lv_at hl 0 rfl) ?_
      refine lv_iload_n hx hb d_Ar_fillI_11 rfl (lv_at hl 2 rfl) ?_
      refine lv_iload_n hx hb d_Ar_fillI_12 rfl (lv_at hl 1 rfl) ?_
      obtain ⟨hi2, h⟩ := h
      refine as_3 X w hi2 d_Ar_fillI_13 (fun μ3 H locs eμ3 w => ?_)
      have h := h μ3 eμ3
      obtain ⟨x4, ex4⟩ : ∃ y : Int32, y = x2 + 1 := ⟨_, rfl⟩
      have h := h x4 ex4
      refine lv_iinc (v := x4) (lv' := [(2, .int x4), (0, .ref (E.2.1 3)), (1, .int x1), (3, .int x3)]) hx hb d_Ar_fillI_14 hl (k := 2) rfl (by rw [ex4]; rfl) (by decide) rfl (fun ls hl => ?_)
      refine lv_goto (tgt := 5) hx hb d_Ar_fillI_17 (by decide) ?_
      exact ih x1 x4 x3 μ3 _ _ _ h w (lv_sub hl [1, 2, 0, 3] rfl)

set_option maxHeartbeats 4000000 in
set_option maxRecDepth 100000 in
theorem c_Ar_fillI_3 (l : Launch) (E : zE) (μ : zM) (a1 : Int32) (K : zM → Prop) (h : f_Ar_fillI_3 μ a1 K) : Met l y_Ar_fillI (Cond.code y_Ar_fillI prog_10_method_103_code 4 none :: zT) { frames := 0, cells := 0, slots := 0, locals := 0 } (va_Pc [.ref (E.2.1 3), .int a1] (zR E μ)) (va_Qv K (zR E) (zA E)) 0 0 (zA E) := by
  refine z_head (by decide) (Nat.le_of_ble_eq_true rfl) ?_
  intro p e s m below meth c X hr hlk w ls hl
  have X : zX E p s m _ c prog_10_method_103_code "java/util/Arrays" 4 := X
  have hx := X.1
  have hb := X.2.1
  have hl : lv_has ls 4 [(0, .ref (E.2.1 3)), (1, .int a1)] := hl
  unfold f_Ar_fillI_3 at h
  refine lv_iconst (v := 0) hx hb d_Ar_fillI_0 (by decide) ?_
  refine lv_istore_n (lv' := [(2, .int (0 : Int32)), (0, .ref (E.2.1 3)), (1, .int a1)]) hx hb d_Ar_fillI_1 rfl hl (by decide) rfl (fun ls hl => ?_)
  refine lv_aload_n hx hb d_Ar_fillI_2 rfl (lv_at hl 1 rfl) ?_
  refine an_3 (v := 4096) X w (by decide) d_Ar_fillI_3 ?_
  refine lv_istore_n (lv' := [(3, .int (4096 : Int32)), (2, .int (0 : Int32)), (0, .ref (E.2.1 3)), (1, .int a1)]) hx hb d_Ar_fillI_4 rfl hl (by decide) rfl (fun ls hl => ?_)
  obtain ⟨n, h⟩ := h
  exact L_Ar_fillI_3_5 X hr hlk K n a1 (0 : Int32) (4096 : Int32) μ _ _ _ h w (lv_sub hl [2, 3, 1, 0] rfl)
theorem q_Ar_fillB : (y_Ar_fillB.cls ≠ "java/lang/invoke/MethodHandle" ∧ y_Ar_fillB.cls ≠ "java/lang/invoke/VarHandle") ∧ (parseMethodDescriptor y_Ar_fillB.desc).map (fun d => d.parameters.length) = some 2 := by decide +kernel
theorem d_Ar_fillB_0 : decode prog_10_method_109_code 0 = .ok (.iconst 0, 1) := by decide +kernel
theorem d_Ar_fillB_1 : decode prog_10_method_109_code 1 = .ok (.istore_n 2, 1) := by decide +kernel
theorem d_Ar_fillB_2 : decode prog_10_method_109_code 2 = .ok (.aload_n 0, 1) := by decide +kernel
theorem d_Ar_fillB_3 : decode prog_10_method_109_code 3 = .ok (.arraylength, 1) := by decide +kernel
theorem d_Ar_fillB_4 : decode prog_10_method_109_code 4 = .ok (.istore_n 3, 1) := by decide +kernel
theorem d_Ar_fillB_5 : decode prog_10_method_109_code 5 = .ok (.iload_n 2, 1) := by decide +kernel
theorem d_Ar_fillB_6 : decode prog_10_method_109_code 6 = .ok (.iload_n 3, 1) := by decide +kernel
theorem d_Ar_fillB_7 : decode prog_10_method_109_code 7 = .ok (.if_icmp .ge 13, 3) := by decide +kernel
theorem d_Ar_fillB_10 : decode prog_10_method_109_code 10 = .ok (.aload_n 0, 1) := by decide +kernel
theorem d_Ar_fillB_11 : decode prog_10_method_109_code 11 = .ok (.iload_n 2, 1) := by decide +kernel
theorem d_Ar_fillB_12 : decode prog_10_method_109_code 12 = .ok (.iload_n 1, 1) := by decide +kernel
theorem d_Ar_fillB_13 : decode prog_10_method_109_code 13 = .ok (.bastore, 1) := by decide +kernel
theorem d_Ar_fillB_14 : decode prog_10_method_109_code 14 = .ok (.iinc 2 1, 3) := by decide +kernel
theorem d_Ar_fillB_17 : decode prog_10_method_109_code 17 = .ok (.goto (-12), 3) := by decide +kernel
theorem d_Ar_fillB_20 : decode prog_10_method_109_code 20 = .ok (.return_, 1) := by decide +kernel
noncomputable def F_Ar_fillB_4_5 (K : zM → Prop) (n : Nat) : Int32 → Int32 → Int32 → zM → Prop := Nat.rec (motive := fun _ => Int32 → Int32 → Int32 → zM → Prop) (fun _ _ _ _ => False) (fun _ ih x1 x2 x3 μ => (x3 ≤ x2 → (K μ)) ∧ (¬ x3 ≤ x2 → (vp_in x2 1024 ∧ ∀ μ3 : zM, μ3 = zp μ 4 x2.toNatClampNeg (vp_nar .byte x1) → (∀ x4 : Int32, x4 = x2 + 1 → (ih x1 x4 x3 μ3))))) n
def f_Ar_fillB_4 (μ : zM) (a1 : Int32) (K : zM → Prop) : Prop := ∃ n : Nat, F_Ar_fillB_4_5 K n a1 (0 : Int32) (1024 : Int32) μ
set_option maxHeartbeats 4000000 in
set_option maxRecDepth 100000 in
theorem L_Ar_fillB_4_5 {p : Program} {l : Launch} {e : Env} {s : State} {m : MethodId} {args : Array Value} {below : List Frame} {meth : Method} {c : Code} {E : zE} (X : zX E p s m args c prog_10_method_109_code "java/util/Arrays" 4) (hr : meth.sig.returnType = none) (hlk : meth.locks = false) (K : zM → Prop) : ∀ (n : Nat) (x1 x2 x3 : Int32) (μ : zM) (H : Heap) (locs : List Loc) (ls : Array Slot), F_Ar_fillB_4_5 K n x1 x2 x3 μ → zW E s μ H locs → lv_has ls 4 [(0, .ref (E.2.1 4)), (1, .int x1), (2, .int x2), (3, .int x3)] → W p l e { frames := 0, cells := 0, slots := 0, locals := 0 } s m args below meth c H locs 0 0 (MQ below (va_Qv K (zR E) (zA E)) args s 0 0 (zA E)) (F0 m 5 ls []) := by
  have hx := X.1
  have hb := X.2.1
  intro n
  induction n with
  | zero => intro x1 x2 x3 μ H locs ls h; exact False.elim h
  | succ n ih =>
    intro x1 x2 x3 μ H locs ls h w hl
    refine lv_iload_n hx hb d_Ar_fillB_5 rfl (lv_at hl 2 rfl) ?_
    refine lv_iload_n hx hb d_Ar_fillB_6 rfl (lv_at hl 3 rfl) ?_
    refine lv_icmp_ge (tgt := 20) hx hb d_Ar_fillB_7 (by decide) (fun c1 => ?_) (fun c1 => ?_)
    · have h := h.1 c1
      exact z_vret X hr hlk w h d_Ar_fillB_20
    · have h := h.2 c1
      refine lv_aload_n hx hb d_Ar_fillB_10 rfl (lv_at hl 0 rfl) ?_
      refine lv_iload_n hx hb d_Ar_fillB_11 rfl (lv_at hl 2 rfl) ?_
      refine lv_iload_n hx hb d_Ar_fillB_12 rfl (lv_at hl 1 rfl) ?_
      obtain ⟨hi2, h⟩ := h
      refine as_4 X w hi2 d_Ar_fillB_13 (fun μ3 H locs eμ3 w => ?_)
      have h := h μ3 eμ3
      obtain ⟨x4, ex4⟩ : ∃ y : Int32, y = x2 + 1 := ⟨_, rfl⟩
      have h := h x4 ex4
      refine lv_iinc (v := x4) (lv' := [(2, .int x4), (0, .ref (E.2.1 4)), (1, .int x1), (3, .int x3)]) hx hb d_Ar_fillB_14 hl (k := 2) rfl (by rw [ex4]; rfl) (by decide) rfl (fun ls hl => ?_)
      refine lv_goto (tgt := 5) hx hb d_Ar_fillB_17 (by decide) ?_
      exact ih x1 x4 x3 μ3 _ _ _ h w (lv_sub hl [1, 2, 0, 3] rfl)

set_option maxHeartbeats 4000000 in
set_option maxRecDepth 100000 in
theorem c_Ar_fillB_4 (l : Launch) (E : zE) (μ : zM) (a1 : Int32) (K : zM → Prop) (h : f_Ar_fillB_4 μ a1 K) : Met l y_Ar_fillB (Cond.code y_Ar_fillB prog_10_method_109_code 4 none :: zT) { frames := 0, cells := 0, slots := 0, locals := 0 } (va_Pc [.ref (E.2.1 4), .int a1] (zR E μ)) (va_Qv K (zR E) (zA E)) 0 0 (zA E) := by
  refine z_head (by decide) (Nat.le_of_ble_eq_true rfl) ?_
  intro p e s m below meth c X hr hlk w ls hl
  have X : zX E p s m _ c prog_10_method_109_code "java/util/Arrays" 4 := X
  have hx := X.1
  have hb := X.2.1
  have hl : lv_has ls 4 [(0, .ref (E.2.1 4)), (1, .int a1)] := hl
  unfold f_Ar_fillB_4 at h
  refine lv_iconst (v := 0) hx hb d_Ar_fillB_0 (by decide) ?_
  refine lv_istore_n (lv' := [(2, .int (0 : Int32)), (0, .ref (E.2.1 4)), (1, .int a1)]) hx hb d_Ar_fillB_1 rfl hl (by decide) rfl (fun ls hl => ?_)
  refine lv_aload_n hx hb d_Ar_fillB_2 rfl (lv_at hl 1 rfl) ?_
  refine an_4 (v := 1024) X w (by decide) d_Ar_fillB_3 ?_
  refine lv_istore_n (lv' := [(3, .int (1024 : Int32)), (2, .int (0 : Int32)), (0, .ref (E.2.1 4)), (1, .int a1)]) hx hb d_Ar_fillB_4 rfl hl (by decide) rfl (fun ls hl => ?_)
  obtain ⟨n, h⟩ := h
  exact L_Ar_fillB_4_5 X hr hlk K n a1 (0 : Int32) (1024 : Int32) μ _ _ _ h w (lv_sub hl [2, 3, 1, 0] rfl)
noncomputable def F_Ar_fillB_5_5 (K : zM → Prop) (n : Nat) : Int32 → Int32 → Int32 → zM → Prop := Nat.rec (motive := fun _ => Int32 → Int32 → Int32 → zM → Prop) (fun _ _ _ _ => False) (fun _ ih x1 x2 x3 μ => (x3 ≤ x2 → (K μ)) ∧ (¬ x3 ≤ x2 → (vp_in x2 1024 ∧ ∀ μ3 : zM, μ3 = zp μ 5 x2.toNatClampNeg (vp_nar .byte x1) → (∀ x4 : Int32, x4 = x2 + 1 → (ih x1 x4 x3 μ3))))) n
def f_Ar_fillB_5 (μ : zM) (a1 : Int32) (K : zM → Prop) : Prop := ∃ n : Nat, F_Ar_fillB_5_5 K n a1 (0 : Int32) (1024 : Int32) μ
set_option maxHeartbeats 4000000 in
set_option maxRecDepth 100000 in
theorem L_Ar_fillB_5_5 {p : Program} {l : Launch} {e : Env} {s : State} {m : MethodId} {args : Array Value} {below : List Frame} {meth : Method} {c : Code} {E : zE} (X : zX E p s m args c prog_10_method_109_code "java/util/Arrays" 4) (hr : meth.sig.returnType = none) (hlk : meth.locks = false) (K : zM → Prop) : ∀ (n : Nat) (x1 x2 x3 : Int32) (μ : zM) (H : Heap) (locs : List Loc) (ls : Array Slot), F_Ar_fillB_5_5 K n x1 x2 x3 μ → zW E s μ H locs → lv_has ls 4 [(0, .ref (E.2.1 5)), (1, .int x1), (2, .int x2), (3, .int x3)] → W p l e { frames := 0, cells := 0, slots := 0, locals := 0 } s m args below meth c H locs 0 0 (MQ below (va_Qv K (zR E) (zA E)) args s 0 0 (zA E)) (F0 m 5 ls []) := by
  have hx := X.1
  have hb := X.2.1
  intro n
  induction n with
  | zero => intro x1 x2 x3 μ H locs ls h; exact False.elim h
  | succ n ih =>
    intro x1 x2 x3 μ H locs ls h w hl
    refine lv_iload_n hx hb d_Ar_fillB_5 rfl (lv_at hl 2 rfl) ?_
    refine lv_iload_n hx hb d_Ar_fillB_6 rfl (lv_at hl 3 rfl) ?_
    refine lv_icmp_ge (tgt := 20) hx hb d_Ar_fillB_7 (by decide) (fun c1 => ?_) (fun c1 => ?_)
    · have h := h.1 c1
      exact z_vret X hr hlk w h d_Ar_fillB_20
    · have h := h.2 c1
      refine lv_aload_n hx hb d_Ar_fillB_10 rfl (lv_at hl 0 rfl) ?_
      refine lv_iload_n hx hb d_Ar_fillB_11 rfl (lv_at hl 2 rfl) ?_
      refine lv_iload_n hx hb d_Ar_fillB_12 rfl (lv_at hl 1 rfl) ?_
      obtain ⟨hi2, h⟩ := h
      refine as_5 X w hi2 d_Ar_fillB_13 (fun μ3 H locs eμ3 w => ?_)
      have h := h μ3 eμ3
      obtain ⟨x4, ex4⟩ : ∃ y : Int32, y = x2 + 1 := ⟨_, rfl⟩
      have h := h x4 ex4
      refine lv_iinc (v := x4) (lv' := [(2, .int x4), (0, .ref (E.2.1 5)), (1, .int x1), (3, .int x3)]) hx hb d_Ar_fillB_14 hl (k := 2) rfl (by rw [ex4]; rfl) (by decide) rfl (fun ls hl => ?_)
      refine lv_goto (tgt := 5) hx hb d_Ar_fillB_17 (by decide) ?_
      exact ih x1 x4 x3 μ3 _ _ _ h w (lv_sub hl [1, 2, 0, 3] rfl)

set_option maxHeartbeats 4000000 in
set_option maxRecDepth 100000 in
theorem c_Ar_fillB_5 (l : Launch) (E : zE) (μ : zM) (a1 : Int32) (K : zM → Prop) (h : f_Ar_fillB_5 μ a1 K) : Met l y_Ar_fillB (Cond.code y_Ar_fillB prog_10_method_109_code 4 none :: zT) { frames := 0, cells := 0, slots := 0, locals := 0 } (va_Pc [.ref (E.2.1 5), .int a1] (zR E μ)) (va_Qv K (zR E) (zA E)) 0 0 (zA E) := by
  refine z_head (by decide) (Nat.le_of_ble_eq_true rfl) ?_
  intro p e s m below meth c X hr hlk w ls hl
  have X : zX E p s m _ c prog_10_method_109_code "java/util/Arrays" 4 := X
  have hx := X.1
  have hb := X.2.1
  have hl : lv_has ls 4 [(0, .ref (E.2.1 5)), (1, .int a1)] := hl
  unfold f_Ar_fillB_5 at h
  refine lv_iconst (v := 0) hx hb d_Ar_fillB_0 (by decide) ?_
  refine lv_istore_n (lv' := [(2, .int (0 : Int32)), (0, .ref (E.2.1 5)), (1, .int a1)]) hx hb d_Ar_fillB_1 rfl hl (by decide) rfl (fun ls hl => ?_)
  refine lv_aload_n hx hb d_Ar_fillB_2 rfl (lv_at hl 1 rfl) ?_
  refine an_5 (v := 1024) X w (by decide) d_Ar_fillB_3 ?_
  refine lv_istore_n (lv' := [(3, .int (1024 : Int32)), (2, .int (0 : Int32)), (0, .ref (E.2.1 5)), (1, .int a1)]) hx hb d_Ar_fillB_4 rfl hl (by decide) rfl (fun ls hl => ?_)
  obtain ⟨n, h⟩ := h
  exact L_Ar_fillB_5_5 X hr hlk K n a1 (0 : Int32) (1024 : Int32) μ _ _ _ h w (lv_sub hl [2, 3, 1, 0] rfl)
noncomputable def F_Ar_fillI_8_5 (K : zM → Prop) (n : Nat) : Int32 → Int32 → Int32 → zM → Prop := Nat.rec (motive := fun _ => Int32 → Int32 → Int32 → zM → Prop) (fun _ _ _ _ => False) (fun _ ih x1 x2 x3 μ => (x3 ≤ x2 → (K μ)) ∧ (¬ x3 ≤ x2 → (vp_in x2 64 ∧ ∀ μ3 : zM, μ3 = zp μ 8 x2.toNatClampNeg x1 → (∀ x4 : Int32, x4 = x2 + 1 → (ih x1 x4 x3 μ3))))) n
def f_Ar_fillI_8 (μ : zM) (a1 : Int32) (K : zM → Prop) : Prop := ∃ n : Nat, F_Ar_fillI_8_5 K n a1 (0 : Int32) (64 : Int32) μ
set_option maxHeartbeats 4000000 in
set_option maxRecDepth 100000 in
theorem L_Ar_fillI_8_5 {p : Program} {l : Launch} {e : Env} {s : State} {m : MethodId} {args : Array Value} {below : List Frame} {meth : Method} {c : Code} {E : zE} (X : zX E p s m args c prog_10_method_103_code "java/util/Arrays" 4) (hr : meth.sig.returnType = none) (hlk : meth.locks = false) (K : zM → Prop) : ∀ (n : Nat) (x1 x2 x3 : Int32) (μ : zM) (H : Heap) (locs : List Loc) (ls : Array Slot), F_Ar_fillI_8_5 K n x1 x2 x3 μ → zW E s μ H locs → lv_has ls 4 [(0, .ref (E.2.1 8)), (1, .int x1), (2, .int x2), (3, .int x3)] → W p l e { frames := 0, cells := 0, slots := 0, locals := 0 } s m args below meth c H locs 0 0 (MQ below (va_Qv K (zR E) (zA E)) args s 0 0 (zA E)) (F0 m 5 ls []) := by
  have hx := X.1
  have hb := X.2.1
  intro n
  induction n with
  | zero => intro x1 x2 x3 μ H locs ls h; exact False.elim h
  | succ n ih =>
    intro x1 x2 x3 μ H locs ls h w hl
    refine lv_iload_n hx hb d_Ar_fillI_5 rfl (lv_at hl 2 rfl) ?_
    refine lv_iload_n hx hb d_Ar_fillI_6 rfl (lv_at hl 3 rfl) ?_
    refine lv_icmp_ge (tgt := 20) hx hb d_Ar_fillI_7 (by decide) (fun c1 => ?_) (fun c1 => ?_)
    · have h := h.1 c1
      exact z_vret X hr hlk w h d_Ar_fillI_20
    · have h := h.2 c1
      refine lv_aload_n hx hb d_Ar_fillI_10 rfl (lv_at hl 0 rfl) ?_
      refine lv_iload_n hx hb d_Ar_fillI_11 rfl (lv_at hl 2 rfl) ?_
      refine lv_iload_n hx hb d_Ar_fillI_12 rfl (lv_at hl 1 rfl) ?_
      obtain ⟨hi2, h⟩ := h
      refine as_8 X w hi2 d_Ar_fillI_13 (fun μ3 H locs eμ3 w => ?_)
      have h := h μ3 eμ3
      obtain ⟨x4, ex4⟩ : ∃ y : Int32, y = x2 + 1 := ⟨_, rfl⟩
      have h := h x4 ex4
      refine lv_iinc (v := x4) (lv' := [(2, .int x4), (0, .ref (E.2.1 8)), (1, .int x1), (3, .int x3)]) hx hb d_Ar_fillI_14 hl (k := 2) rfl (by rw [ex4]; rfl) (by decide) rfl (fun ls hl => ?_)
      refine lv_goto (tgt := 5) hx hb d_Ar_fillI_17 (by decide) ?_
      exact ih x1 x4 x3 μ3 _ _ _ h w (lv_sub hl [1, 2, 0, 3] rfl)

set_option maxHeartbeats 4000000 in
set_option maxRecDepth 100000 in
theorem c_Ar_fillI_8 (l : Launch) (E : zE) (μ : zM) (a1 : Int32) (K : zM → Prop) (h : f_Ar_fillI_8 μ a1 K) : Met l y_Ar_fillI (Cond.code y_Ar_fillI prog_10_method_103_code 4 none :: zT) { frames := 0, cells := 0, slots := 0, locals := 0 } (va_Pc [.ref (E.2.1 8), .int a1] (zR E μ)) (va_Qv K (zR E) (zA E)) 0 0 (zA E) := by
  refine z_head (by decide) (Nat.le_of_ble_eq_true rfl) ?_
  intro p e s m below meth c X hr hlk w ls hl
  have X : zX E p s m _ c prog_10_method_103_code "java/util/Arrays" 4 := X
  have hx := X.1
  have hb := X.2.1
  have hl : lv_has ls 4 [(0, .ref (E.2.1 8)), (1, .int a1)] := hl
  unfold f_Ar_fillI_8 at h
  refine lv_iconst (v := 0) hx hb d_Ar_fillI_0 (by decide) ?_
  refine lv_istore_n (lv' := [(2, .int (0 : Int32)), (0, .ref (E.2.1 8)), (1, .int a1)]) hx hb d_Ar_fillI_1 rfl hl (by decide) rfl (fun ls hl => ?_)
  refine lv_aload_n hx hb d_Ar_fillI_2 rfl (lv_at hl 1 rfl) ?_
  refine an_8 (v := 64) X w (by decide) d_Ar_fillI_3 ?_
  refine lv_istore_n (lv' := [(3, .int (64 : Int32)), (2, .int (0 : Int32)), (0, .ref (E.2.1 8)), (1, .int a1)]) hx hb d_Ar_fillI_4 rfl hl (by decide) rfl (fun ls hl => ?_)
  obtain ⟨n, h⟩ := h
  exact L_Ar_fillI_8_5 X hr hlk K n a1 (0 : Int32) (64 : Int32) μ _ _ _ h w (lv_sub hl [2, 3, 1, 0] rfl)
noncomputable def F_Ar_fillI_9_5 (K : zM → Prop) (n : Nat) : Int32 → Int32 → Int32 → zM → Prop := Nat.rec (motive := fun _ => Int32 → Int32 → Int32 → zM → Prop) (fun _ _ _ _ => False) (fun _ ih x1 x2 x3 μ => (x3 ≤ x2 → (K μ)) ∧ (¬ x3 ≤ x2 → (vp_in x2 64 ∧ ∀ μ3 : zM, μ3 = zp μ 9 x2.toNatClampNeg x1 → (∀ x4 : Int32, x4 = x2 + 1 → (ih x1 x4 x3 μ3))))) n
def f_Ar_fillI_9 (μ : zM) (a1 : Int32) (K : zM → Prop) : Prop := ∃ n : Nat, F_Ar_fillI_9_5 K n a1 (0 : Int32) (64 : Int32) μ
set_option maxHeartbeats 4000000 in
set_option maxRecDepth 100000 in
theorem L_Ar_fillI_9_5 {p : Program} {l : Launch} {e : Env} {s : State} {m : MethodId} {args : Array Value} {below : List Frame} {meth : Method} {c : Code} {E : zE} (X : zX E p s m args c prog_10_method_103_code "java/util/Arrays" 4) (hr : meth.sig.returnType = none) (hlk : meth.locks = false) (K : zM → Prop) : ∀ (n : Nat) (x1 x2 x3 : Int32) (μ : zM) (H : Heap) (locs : List Loc) (ls : Array Slot), F_Ar_fillI_9_5 K n x1 x2 x3 μ → zW E s μ H locs → lv_has ls 4 [(0, .ref (E.2.1 9)), (1, .int x1), (2, .int x2), (3, .int x3)] → W p l e { frames := 0, cells := 0, slots := 0, locals := 0 } s m args below meth c H locs 0 0 (MQ below (va_Qv K (zR E) (zA E)) args s 0 0 (zA E)) (F0 m 5 ls []) := by
  have hx := X.1
  have hb := X.2.1
  intro n
  induction n with
  | zero => intro x1 x2 x3 μ H locs ls h; exact False.elim h
  | succ n ih =>
    intro x1 x2 x3 μ H locs ls h w hl
    refine lv_iload_n hx hb d_Ar_fillI_5 rfl (lv_at hl 2 rfl) ?_
    refine lv_iload_n hx hb d_Ar_fillI_6 rfl (lv_at hl 3 rfl) ?_
    refine lv_icmp_ge (tgt := 20) hx hb d_Ar_fillI_7 (by decide) (fun c1 => ?_) (fun c1 => ?_)
    · have h := h.1 c1
      exact z_vret X hr hlk w h d_Ar_fillI_20
    · have h := h.2 c1
      refine lv_aload_n hx hb d_Ar_fillI_10 rfl (lv_at hl 0 rfl) ?_
      refine lv_iload_n hx hb d_Ar_fillI_11 rfl (lv_at hl 2 rfl) ?_
      refine lv_iload_n hx hb d_Ar_fillI_12 rfl (lv_at hl 1 rfl) ?_
      obtain ⟨hi2, h⟩ := h
      refine as_9 X w hi2 d_Ar_fillI_13 (fun μ3 H locs eμ3 w => ?_)
      have h := h μ3 eμ3
      obtain ⟨x4, ex4⟩ : ∃ y : Int32, y = x2 + 1 := ⟨_, rfl⟩
      have h := h x4 ex4
      refine lv_iinc (v := x4) (lv' := [(2, .int x4), (0, .ref (E.2.1 9)), (1, .int x1), (3, .int x3)]) hx hb d_Ar_fillI_14 hl (k := 2) rfl (by rw [ex4]; rfl) (by decide) rfl (fun ls hl => ?_)
      refine lv_goto (tgt := 5) hx hb d_Ar_fillI_17 (by decide) ?_
      exact ih x1 x4 x3 μ3 _ _ _ h w (lv_sub hl [1, 2, 0, 3] rfl)

set_option maxHeartbeats 4000000 in
set_option maxRecDepth 100000 in
theorem c_Ar_fillI_9 (l : Launch) (E : zE) (μ : zM) (a1 : Int32) (K : zM → Prop) (h : f_Ar_fillI_9 μ a1 K) : Met l y_Ar_fillI (Cond.code y_Ar_fillI prog_10_method_103_code 4 none :: zT) { frames := 0, cells := 0, slots := 0, locals := 0 } (va_Pc [.ref (E.2.1 9), .int a1] (zR E μ)) (va_Qv K (zR E) (zA E)) 0 0 (zA E) := by
  refine z_head (by decide) (Nat.le_of_ble_eq_true rfl) ?_
  intro p e s m below meth c X hr hlk w ls hl
  have X : zX E p s m _ c prog_10_method_103_code "java/util/Arrays" 4 := X
  have hx := X.1
  have hb := X.2.1
  have hl : lv_has ls 4 [(0, .ref (E.2.1 9)), (1, .int a1)] := hl
  unfold f_Ar_fillI_9 at h
  refine lv_iconst (v := 0) hx hb d_Ar_fillI_0 (by decide) ?_
  refine lv_istore_n (lv' := [(2, .int (0 : Int32)), (0, .ref (E.2.1 9)), (1, .int a1)]) hx hb d_Ar_fillI_1 rfl hl (by decide) rfl (fun ls hl => ?_)
  refine lv_aload_n hx hb d_Ar_fillI_2 rfl (lv_at hl 1 rfl) ?_
  refine an_9 (v := 64) X w (by decide) d_Ar_fillI_3 ?_
  refine lv_istore_n (lv' := [(3, .int (64 : Int32)), (2, .int (0 : Int32)), (0, .ref (E.2.1 9)), (1, .int a1)]) hx hb d_Ar_fillI_4 rfl hl (by decide) rfl (fun ls hl => ?_)
  obtain ⟨n, h⟩ := h
  exact L_Ar_fillI_9_5 X hr hlk K n a1 (0 : Int32) (64 : Int32) μ _ _ _ h w (lv_sub hl [2, 3, 1, 0] rfl)
theorem q_Ma_min : (y_Ma_min.cls ≠ "java/lang/invoke/MethodHandle" ∧ y_Ma_min.cls ≠ "java/lang/invoke/VarHandle") ∧ (parseMethodDescriptor y_Ma_min.desc).map (fun d => d.parameters.length) = some 2 := by decide +kernel
theorem d_Ma_min_0 : decode prog_9_method_69_code 0 = .ok (.iload_n 0, 1) := by decide +kernel
theorem d_Ma_min_1 : decode prog_9_method_69_code 1 = .ok (.iload_n 1, 1) := by decide +kernel
theorem d_Ma_min_2 : decode prog_9_method_69_code 2 = .ok (.if_icmp .gt 7, 3) := by decide +kernel
theorem d_Ma_min_5 : decode prog_9_method_69_code 5 = .ok (.iload_n 0, 1) := by decide +kernel
theorem d_Ma_min_6 : decode prog_9_method_69_code 6 = .ok (.goto 4, 3) := by decide +kernel
theorem d_Ma_min_9 : decode prog_9_method_69_code 9 = .ok (.iload_n 1, 1) := by decide +kernel
theorem d_Ma_min_10 : decode prog_9_method_69_code 10 = .ok (.ireturn, 1) := by decide +kernel
def f_Ma_min (μ : zM) (a0 a1 : Int32) (K : Int32 → zM → Prop) : Prop := (a1 < a0 → (K a1 μ)) ∧ (¬ a1 < a0 → (K a0 μ))
set_option maxHeartbeats 4000000 in
set_option maxRecDepth 100000 in
theorem c_Ma_min (l : Launch) (E : zE) (μ : zM) (a0 a1 : Int32) (K : Int32 → zM → Prop) (h : f_Ma_min μ a0 a1 K) : Met l y_Ma_min (Cond.code y_Ma_min prog_9_method_69_code 2 (some .int) :: zT) { frames := 0, cells := 0, slots := 0, locals := 0 } (va_Pc [.int a0, .int a1] (zR E μ)) (va_Qi K (zR E) (zA E)) 0 0 (zA E) := by
  refine z_headF (by decide +kernel) (Nat.le_of_ble_eq_true rfl) ?_
  intro p e s m below meth c X hr hlk w ls hl
  have X : zX E p s m _ c prog_9_method_69_code "java/lang/Math" 2 := X
  have hx := X.1
  have hb := X.2.1
  have hl : lv_has ls 2 [(0, .int a0), (1, .int a1)] := hl
  unfold f_Ma_min at h
  refine lv_iload_n hx hb d_Ma_min_0 rfl (lv_at hl 0 rfl) ?_
  refine lv_iload_n hx hb d_Ma_min_1 rfl (lv_at hl 1 rfl) ?_
  refine lv_icmp_gt (tgt := 9) hx hb d_Ma_min_2 (by decide) (fun c1 => ?_) (fun c1 => ?_)
  · have h := h.1 c1
    refine lv_iload_n hx hb d_Ma_min_9 rfl (lv_at hl 1 rfl) ?_
    exact z_iret X hr hlk w h d_Ma_min_10
  · have h := h.2 c1
    refine lv_iload_n hx hb d_Ma_min_5 rfl (lv_at hl 0 rfl) ?_
    refine lv_goto (tgt := 10) hx hb d_Ma_min_6 (by decide) ?_
    exact z_iret X hr hlk w h d_Ma_min_10
theorem q_Bk_clearAll : (y_Bk_clearAll.cls ≠ "java/lang/invoke/MethodHandle" ∧ y_Bk_clearAll.cls ≠ "java/lang/invoke/VarHandle") ∧ (parseMethodDescriptor y_Bk_clearAll.desc).map (fun d => d.parameters.length) = some 1 := by decide +kernel
theorem d_Bk_clearAll_0 : decode prog_2_method_2_code 0 = .ok (.aload_n 0, 1) := by decide +kernel
theorem d_Bk_clearAll_1 : decode prog_2_method_2_code 1 = .ok (.getfield 9, 3) := by decide +kernel
theorem d_Bk_clearAll_4 : decode prog_2_method_2_code 4 = .ok (.iconst 0, 1) := by decide +kernel
theorem d_Bk_clearAll_5 : decode prog_2_method_2_code 5 = .ok (.invokestatic 34, 3) := by decide +kernel
theorem d_Bk_clearAll_8 : decode prog_2_method_2_code 8 = .ok (.aload_n 0, 1) := by decide +kernel
theorem d_Bk_clearAll_9 : decode prog_2_method_2_code 9 = .ok (.getfield 15, 3) := by decide +kernel
theorem d_Bk_clearAll_12 : decode prog_2_method_2_code 12 = .ok (.iconst 0, 1) := by decide +kernel
theorem d_Bk_clearAll_13 : decode prog_2_method_2_code 13 = .ok (.invokestatic 40, 3) := by decide +kernel
theorem d_Bk_clearAll_16 : decode prog_2_method_2_code 16 = .ok (.aload_n 0, 1) := by decide +kernel
theorem d_Bk_clearAll_17 : decode prog_2_method_2_code 17 = .ok (.getfield 19, 3) := by decide +kernel
theorem d_Bk_clearAll_20 : decode prog_2_method_2_code 20 = .ok (.iconst 0, 1) := by decide +kernel
theorem d_Bk_clearAll_21 : decode prog_2_method_2_code 21 = .ok (.invokestatic 40, 3) := by decide +kernel
theorem d_Bk_clearAll_24 : decode prog_2_method_2_code 24 = .ok (.aload_n 0, 1) := by decide +kernel
theorem d_Bk_clearAll_25 : decode prog_2_method_2_code 25 = .ok (.getfield 28, 3) := by decide +kernel
theorem d_Bk_clearAll_28 : decode prog_2_method_2_code 28 = .ok (.iconst (-1), 1) := by decide +kernel
theorem d_Bk_clearAll_29 : decode prog_2_method_2_code 29 = .ok (.invokestatic 34, 3) := by decide +kernel
theorem d_Bk_clearAll_32 : decode prog_2_method_2_code 32 = .ok (.aload_n 0, 1) := by decide +kernel
theorem d_Bk_clearAll_33 : decode prog_2_method_2_code 33 = .ok (.getfield 31, 3) := by decide +kernel
theorem d_Bk_clearAll_36 : decode prog_2_method_2_code 36 = .ok (.iconst 0, 1) := by decide +kernel
theorem d_Bk_clearAll_37 : decode prog_2_method_2_code 37 = .ok (.invokestatic 34, 3) := by decide +kernel
theorem d_Bk_clearAll_40 : decode prog_2_method_2_code 40 = .ok (.aload_n 0, 1) := by decide +kernel
theorem d_Bk_clearAll_41 : decode prog_2_method_2_code 41 = .ok (.iload_n 1, 1) := by decide +kernel
theorem d_Bk_clearAll_42 : decode prog_2_method_2_code 42 = .ok (.bipush 64, 2) := by decide +kernel
theorem d_Bk_clearAll_44 : decode prog_2_method_2_code 44 = .ok (.invokestatic 43, 3) := by decide +kernel
theorem d_Bk_clearAll_47 : decode prog_2_method_2_code 47 = .ok (.putfield 49, 3) := by decide +kernel
theorem d_Bk_clearAll_50 : decode prog_2_method_2_code 50 = .ok (.aload_n 0, 1) := by decide +kernel
theorem d_Bk_clearAll_51 : decode prog_2_method_2_code 51 = .ok (.aload_n 0, 1) := by decide +kernel
theorem d_Bk_clearAll_52 : decode prog_2_method_2_code 52 = .ok (.getfield 49, 3) := by decide +kernel
theorem d_Bk_clearAll_55 : decode prog_2_method_2_code 55 = .ok (.putfield 53, 3) := by decide +kernel
theorem d_Bk_clearAll_58 : decode prog_2_method_2_code 58 = .ok (.aload_n 0, 1) := by decide +kernel
theorem d_Bk_clearAll_59 : decode prog_2_method_2_code 59 = .ok (.iconst 0, 1) := by decide +kernel
theorem d_Bk_clearAll_60 : decode prog_2_method_2_code 60 = .ok (.putfield 56, 3) := by decide +kernel
theorem d_Bk_clearAll_63 : decode prog_2_method_2_code 63 = .ok (.aload_n 0, 1) := by decide +kernel
theorem d_Bk_clearAll_64 : decode prog_2_method_2_code 64 = .ok (.iconst 0, 1) := by decide +kernel
theorem d_Bk_clearAll_65 : decode prog_2_method_2_code 65 = .ok (.putfield 59, 3) := by decide +kernel
theorem d_Bk_clearAll_68 : decode prog_2_method_2_code 68 = .ok (.return_, 1) := by decide +kernel
def f_Bk_clearAll (μ : zM) (a1 : Int32) (K : zM → Prop) : Prop := f_Ar_fillI_3 μ (0 : Int32) (fun μ1 => (f_Ar_fillB_4 μ1 (0 : Int32) (fun μ2 => (f_Ar_fillB_5 μ2 (0 : Int32) (fun μ3 => (f_Ar_fillI_8 μ3 (-1 : Int32) (fun μ4 => (f_Ar_fillI_9 μ4 (0 : Int32) (fun μ5 => (f_Ma_min μ5 a1 (64 : Int32) (fun r7 μ6 => (∀ μ8 : zM, μ8 = zp μ6 2 7 r7 → (∀ μ9 : zM, μ9 = zp μ8 2 8 (μ8 2 7) → (∀ μ10 : zM, μ10 = zp μ9 2 9 (0 : Int32) → (∀ μ11 : zM, μ11 = zp μ10 2 10 (0 : Int32) → (K μ11))))))))))))))))
set_option maxHeartbeats 4000000 in
set_option maxRecDepth 100000 in
theorem c_Bk_clearAll (l : Launch) (E : zE) (μ : zM) (a1 : Int32) (K : zM → Prop) (h : f_Bk_clearAll μ a1 K) : Met l y_Bk_clearAll (Cond.code y_Bk_clearAll prog_2_method_2_code 2 none :: zT) { frames := 1, cells := 0, slots := 0, locals := 23 } (va_Pc [.ref (E.2.1 2), .int a1] (zR E μ)) (va_Qv K (zR E) (zA E)) 0 0 (zA E) := by
  refine z_head (by decide) (Nat.le_of_ble_eq_true rfl) ?_
  intro p e s m below meth c X hr hlk w ls hl
  have X : zX E p s m _ c prog_2_method_2_code "BeatHeap$Blocks" 2 := X
  have hx := X.1
  have hb := X.2.1
  have hl : lv_has ls 2 [(0, .ref (E.2.1 2)), (1, .int a1)] := hl
  unfold f_Bk_clearAll at h
  refine lv_aload_n hx hb d_Bk_clearAll_0 rfl (lv_at hl 0 rfl) ?_
  refine gt_2_0 X w w_fl_Bk_9 d_Bk_clearAll_1 ?_
  refine lv_iconst (v := 0) hx hb d_Bk_clearAll_4 (by decide) ?_
  refine z_cSv (As := [.ref (E.2.1 3), .int (0 : Int32)]) (rest := []) X w (c_Ar_fillI_3 l E μ (0 : Int32) _ h) w_ml_Bk_34 w_st_Ar_fillI w_in_Ar w_co_Ar_fillI q_Ar_fillI.1 q_Ar_fillI.2 rfl ⟨Nat.le_of_ble_eq_true rfl, Nat.le_of_ble_eq_true rfl⟩ ⟨Nat.zero_le _, Nat.zero_le _⟩ hl.1 rfl (Nat.le_of_ble_eq_true rfl) d_Bk_clearAll_5 (fun μ1 H locs h w => ?_)
  refine lv_aload_n hx hb d_Bk_clearAll_8 rfl (lv_at hl 0 rfl) ?_
  refine gt_2_1 X w w_fl_Bk_15 d_Bk_clearAll_9 ?_
  refine lv_iconst (v := 0) hx hb d_Bk_clearAll_12 (by decide) ?_
  refine z_cSv (As := [.ref (E.2.1 4), .int (0 : Int32)]) (rest := []) X w (c_Ar_fillB_4 l E μ1 (0 : Int32) _ h) w_ml_Bk_40 w_st_Ar_fillB w_in_Ar w_co_Ar_fillB q_Ar_fillB.1 q_Ar_fillB.2 rfl ⟨Nat.le_of_ble_eq_true rfl, Nat.le_of_ble_eq_true rfl⟩ ⟨Nat.zero_le _, Nat.zero_le _⟩ hl.1 rfl (Nat.le_of_ble_eq_true rfl) d_Bk_clearAll_13 (fun μ2 H locs h w => ?_)
  refine lv_aload_n hx hb d_Bk_clearAll_16 rfl (lv_at hl 0 rfl) ?_
  refine gt_2_2 X w w_fl_Bk_19 d_Bk_clearAll_17 ?_
  refine lv_iconst (v := 0) hx hb d_Bk_clearAll_20 (by decide) ?_
  refine z_cSv (As := [.ref (E.2.1 5), .int (0 : Int32)]) (rest := []) X w (c_Ar_fillB_5 l E μ2 (0 : Int32) _ h) w_ml_Bk_40 w_st_Ar_fillB w_in_Ar w_co_Ar_fillB q_Ar_fillB.1 q_Ar_fillB.2 rfl ⟨Nat.le_of_ble_eq_true rfl, Nat.le_of_ble_eq_true rfl⟩ ⟨Nat.zero_le _, Nat.zero_le _⟩ hl.1 rfl (Nat.le_of_ble_eq_true rfl) d_Bk_clearAll_21 (fun μ3 H locs h w => ?_)
  refine lv_aload_n hx hb d_Bk_clearAll_24 rfl (lv_at hl 0 rfl) ?_
  refine gt_2_5 X w w_fl_Bk_28 d_Bk_clearAll_25 ?_
  refine lv_iconst (v := (-1)) hx hb d_Bk_clearAll_28 (by decide) ?_
  refine z_cSv (As := [.ref (E.2.1 8), .int (-1 : Int32)]) (rest := []) X w (c_Ar_fillI_8 l E μ3 (-1 : Int32) _ h) w_ml_Bk_34 w_st_Ar_fillI w_in_Ar w_co_Ar_fillI q_Ar_fillI.1 q_Ar_fillI.2 rfl ⟨Nat.le_of_ble_eq_true rfl, Nat.le_of_ble_eq_true rfl⟩ ⟨Nat.zero_le _, Nat.zero_le _⟩ hl.1 rfl (Nat.le_of_ble_eq_true rfl) d_Bk_clearAll_29 (fun μ4 H locs h w => ?_)
  refine lv_aload_n hx hb d_Bk_clearAll_32 rfl (lv_at hl 0 rfl) ?_
  refine gt_2_6 X w w_fl_Bk_31 d_Bk_clearAll_33 ?_
  refine lv_iconst (v := 0) hx hb d_Bk_clearAll_36 (by decide) ?_
  refine z_cSv (As := [.ref (E.2.1 9), .int (0 : Int32)]) (rest := []) X w (c_Ar_fillI_9 l E μ4 (0 : Int32) _ h) w_ml_Bk_34 w_st_Ar_fillI w_in_Ar w_co_Ar_fillI q_Ar_fillI.1 q_Ar_fillI.2 rfl ⟨Nat.le_of_ble_eq_true rfl, Nat.le_of_ble_eq_true rfl⟩ ⟨Nat.zero_le _, Nat.zero_le _⟩ hl.1 rfl (Nat.le_of_ble_eq_true rfl) d_Bk_clearAll_37 (fun μ5 H locs h w => ?_)
  refine lv_aload_n hx hb d_Bk_clearAll_40 rfl (lv_at hl 0 rfl) ?_
  refine lv_iload_n hx hb d_Bk_clearAll_41 rfl (lv_at hl 1 rfl) ?_
  refine lv_bipush (v := 64) hx hb d_Bk_clearAll_42 (by decide) ?_
  refine z_cSi (As := [.int a1, .int (64 : Int32)]) (rest := [.ref (E.2.1 2)]) X w (c_Ma_min l E μ5 a1 (64 : Int32) _ h) w_ml_Bk_43 w_st_Ma_min w_in_Ma w_co_Ma_min q_Ma_min.1 q_Ma_min.2 rfl ⟨Nat.le_of_ble_eq_true rfl, Nat.le_of_ble_eq_true rfl⟩ ⟨Nat.zero_le _, Nat.zero_le _⟩ hl.1 rfl (Nat.le_of_ble_eq_true rfl) d_Bk_clearAll_44 (fun r7 μ6 H locs h w => ?_)
  refine pt_2_7 X w w_fl_Bk_49 d_Bk_clearAll_47 (fun μ8 H locs eμ8 w => ?_)
  have h := h μ8 eμ8
  refine lv_aload_n hx hb d_Bk_clearAll_50 rfl (lv_at hl 0 rfl) ?_
  refine lv_aload_n hx hb d_Bk_clearAll_51 rfl (lv_at hl 0 rfl) ?_
  refine gt_2_7 X w w_fl_Bk_49 d_Bk_clearAll_52 ?_
  refine pt_2_8 X w w_fl_Bk_53 d_Bk_clearAll_55 (fun μ9 H locs eμ9 w => ?_)
  have h := h μ9 eμ9
  refine lv_aload_n hx hb d_Bk_clearAll_58 rfl (lv_at hl 0 rfl) ?_
  refine lv_iconst (v := 0) hx hb d_Bk_clearAll_59 (by decide) ?_
  refine pt_2_9 X w w_fl_Bk_56 d_Bk_clearAll_60 (fun μ10 H locs eμ10 w => ?_)
  have h := h μ10 eμ10
  refine lv_aload_n hx hb d_Bk_clearAll_63 rfl (lv_at hl 0 rfl) ?_
  refine lv_iconst (v := 0) hx hb d_Bk_clearAll_64 (by decide) ?_
  refine pt_2_10 X w w_fl_Bk_59 d_Bk_clearAll_65 (fun μ11 H locs eμ11 w => ?_)
  have h := h μ11 eμ11
  exact z_vret X hr hlk w h d_Bk_clearAll_68
theorem q_Ck_clearAll : (y_Ck_clearAll.cls ≠ "java/lang/invoke/MethodHandle" ∧ y_Ck_clearAll.cls ≠ "java/lang/invoke/VarHandle") ∧ (parseMethodDescriptor y_Ck_clearAll.desc).map (fun d => d.parameters.length) = some 0 := by decide +kernel
theorem d_Ck_clearAll_0 : decode prog_3_method_2_code 0 = .ok (.aload_n 0, 1) := by decide +kernel
theorem d_Ck_clearAll_1 : decode prog_3_method_2_code 1 = .ok (.iconst 0, 1) := by decide +kernel
theorem d_Ck_clearAll_2 : decode prog_3_method_2_code 2 = .ok (.putfield 15, 3) := by decide +kernel
theorem d_Ck_clearAll_5 : decode prog_3_method_2_code 5 = .ok (.aload_n 0, 1) := by decide +kernel
theorem d_Ck_clearAll_6 : decode prog_3_method_2_code 6 = .ok (.iconst 0, 1) := by decide +kernel
theorem d_Ck_clearAll_7 : decode prog_3_method_2_code 7 = .ok (.putfield 19, 3) := by decide +kernel
theorem d_Ck_clearAll_10 : decode prog_3_method_2_code 10 = .ok (.aload_n 0, 1) := by decide +kernel
theorem d_Ck_clearAll_11 : decode prog_3_method_2_code 11 = .ok (.iconst 0, 1) := by decide +kernel
theorem d_Ck_clearAll_12 : decode prog_3_method_2_code 12 = .ok (.putfield 22, 3) := by decide +kernel
theorem d_Ck_clearAll_15 : decode prog_3_method_2_code 15 = .ok (.aload_n 0, 1) := by decide +kernel
theorem d_Ck_clearAll_16 : decode prog_3_method_2_code 16 = .ok (.iconst 0, 1) := by decide +kernel
theorem d_Ck_clearAll_17 : decode prog_3_method_2_code 17 = .ok (.putfield 25, 3) := by decide +kernel
theorem d_Ck_clearAll_20 : decode prog_3_method_2_code 20 = .ok (.return_, 1) := by decide +kernel
def f_Ck_clearAll (μ : zM) (K : zM → Prop) : Prop := ∀ μ1 : zM, μ1 = zp μ 10 1 (0 : Int32) → (∀ μ2 : zM, μ2 = zp μ1 10 2 (0 : Int32) → (∀ μ3 : zM, μ3 = zp μ2 10 3 (0 : Int32) → (∀ μ4 : zM, μ4 = zp μ3 10 4 (0 : Int32) → (K μ4))))
set_option maxHeartbeats 4000000 in
set_option maxRecDepth 100000 in
theorem c_Ck_clearAll (l : Launch) (E : zE) (μ : zM) (K : zM → Prop) (h : f_Ck_clearAll μ K) : Met l y_Ck_clearAll (Cond.code y_Ck_clearAll prog_3_method_2_code 1 none :: zT) { frames := 0, cells := 0, slots := 0, locals := 0 } (va_Pc [.ref (E.2.1 10)] (zR E μ)) (va_Qv K (zR E) (zA E)) 0 0 (zA E) := by
  refine z_head (by decide) (Nat.le_of_ble_eq_true rfl) ?_
  intro p e s m below meth c X hr hlk w ls hl
  have X : zX E p s m _ c prog_3_method_2_code "BeatHeap$Clock" 1 := X
  have hx := X.1
  have hb := X.2.1
  have hl : lv_has ls 1 [(0, .ref (E.2.1 10))] := hl
  unfold f_Ck_clearAll at h
  refine lv_aload_n hx hb d_Ck_clearAll_0 rfl (lv_at hl 0 rfl) ?_
  refine lv_iconst (v := 0) hx hb d_Ck_clearAll_1 (by decide) ?_
  refine pt_10_1 X w w_fl_Ck_15 d_Ck_clearAll_2 (fun μ1 H locs eμ1 w => ?_)
  have h := h μ1 eμ1
  refine lv_aload_n hx hb d_Ck_clearAll_5 rfl (lv_at hl 0 rfl) ?_
  refine lv_iconst (v := 0) hx hb d_Ck_clearAll_6 (by decide) ?_
  refine pt_10_2 X w w_fl_Ck_19 d_Ck_clearAll_7 (fun μ2 H locs eμ2 w => ?_)
  have h := h μ2 eμ2
  refine lv_aload_n hx hb d_Ck_clearAll_10 rfl (lv_at hl 0 rfl) ?_
  refine lv_iconst (v := 0) hx hb d_Ck_clearAll_11 (by decide) ?_
  refine pt_10_3 X w w_fl_Ck_22 d_Ck_clearAll_12 (fun μ3 H locs eμ3 w => ?_)
  have h := h μ3 eμ3
  refine lv_aload_n hx hb d_Ck_clearAll_15 rfl (lv_at hl 0 rfl) ?_
  refine lv_iconst (v := 0) hx hb d_Ck_clearAll_16 (by decide) ?_
  refine pt_10_4 X w w_fl_Ck_25 d_Ck_clearAll_17 (fun μ4 H locs eμ4 w => ?_)
  have h := h μ4 eμ4
  exact z_vret X hr hlk w h d_Ck_clearAll_20
theorem q_Pi_clearAll : (y_Pi_clearAll.cls ≠ "java/lang/invoke/MethodHandle" ∧ y_Pi_clearAll.cls ≠ "java/lang/invoke/VarHandle") ∧ (parseMethodDescriptor y_Pi_clearAll.desc).map (fun d => d.parameters.length) = some 0 := by decide +kernel
theorem d_Pi_clearAll_0 : decode prog_5_method_2_code 0 = .ok (.aload_n 0, 1) := by decide +kernel
theorem d_Pi_clearAll_1 : decode prog_5_method_2_code 1 = .ok (.iconst 0, 1) := by decide +kernel
theorem d_Pi_clearAll_2 : decode prog_5_method_2_code 2 = .ok (.putfield 15, 3) := by decide +kernel
theorem d_Pi_clearAll_5 : decode prog_5_method_2_code 5 = .ok (.return_, 1) := by decide +kernel
def f_Pi_clearAll_12 (μ : zM) (K : zM → Prop) : Prop := ∀ μ1 : zM, μ1 = zp μ 12 1 (0 : Int32) → (K μ1)
set_option maxHeartbeats 4000000 in
set_option maxRecDepth 100000 in
theorem c_Pi_clearAll_12 (l : Launch) (E : zE) (μ : zM) (K : zM → Prop) (h : f_Pi_clearAll_12 μ K) : Met l y_Pi_clearAll (Cond.code y_Pi_clearAll prog_5_method_2_code 1 none :: zT) { frames := 0, cells := 0, slots := 0, locals := 0 } (va_Pc [.ref (E.2.1 12)] (zR E μ)) (va_Qv K (zR E) (zA E)) 0 0 (zA E) := by
  refine z_head (by decide) (Nat.le_of_ble_eq_true rfl) ?_
  intro p e s m below meth c X hr hlk w ls hl
  have X : zX E p s m _ c prog_5_method_2_code "BeatHeap$Pile" 1 := X
  have hx := X.1
  have hb := X.2.1
  have hl : lv_has ls 1 [(0, .ref (E.2.1 12))] := hl
  unfold f_Pi_clearAll_12 at h
  refine lv_aload_n hx hb d_Pi_clearAll_0 rfl (lv_at hl 0 rfl) ?_
  refine lv_iconst (v := 0) hx hb d_Pi_clearAll_1 (by decide) ?_
  refine pt_12_1 X w w_fl_Pi_15 d_Pi_clearAll_2 (fun μ1 H locs eμ1 w => ?_)
  have h := h μ1 eμ1
  exact z_vret X hr hlk w h d_Pi_clearAll_5
theorem q_Co_rest : (y_Co_rest.cls ≠ "java/lang/invoke/MethodHandle" ∧ y_Co_rest.cls ≠ "java/lang/invoke/VarHandle") ∧ (parseMethodDescriptor y_Co_rest.desc).map (fun d => d.parameters.length) = some 0 := by decide +kernel
theorem d_Co_rest_0 : decode prog_4_method_3_code 0 = .ok (.aload_n 0, 1) := by decide +kernel
theorem d_Co_rest_1 : decode prog_4_method_3_code 1 = .ok (.iconst 0, 1) := by decide +kernel
theorem d_Co_rest_2 : decode prog_4_method_3_code 2 = .ok (.putfield 55, 3) := by decide +kernel
theorem d_Co_rest_5 : decode prog_4_method_3_code 5 = .ok (.aload_n 0, 1) := by decide +kernel
theorem d_Co_rest_6 : decode prog_4_method_3_code 6 = .ok (.iconst 0, 1) := by decide +kernel
theorem d_Co_rest_7 : decode prog_4_method_3_code 7 = .ok (.putfield 58, 3) := by decide +kernel
theorem d_Co_rest_10 : decode prog_4_method_3_code 10 = .ok (.aload_n 0, 1) := by decide +kernel
theorem d_Co_rest_11 : decode prog_4_method_3_code 11 = .ok (.iconst 0, 1) := by decide +kernel
theorem d_Co_rest_12 : decode prog_4_method_3_code 12 = .ok (.putfield 61, 3) := by decide +kernel
theorem d_Co_rest_15 : decode prog_4_method_3_code 15 = .ok (.aload_n 0, 1) := by decide +kernel
theorem d_Co_rest_16 : decode prog_4_method_3_code 16 = .ok (.iconst (-1), 1) := by decide +kernel
theorem d_Co_rest_17 : decode prog_4_method_3_code 17 = .ok (.putfield 64, 3) := by decide +kernel
theorem d_Co_rest_20 : decode prog_4_method_3_code 20 = .ok (.aload_n 0, 1) := by decide +kernel
theorem d_Co_rest_21 : decode prog_4_method_3_code 21 = .ok (.iconst 0, 1) := by decide +kernel
theorem d_Co_rest_22 : decode prog_4_method_3_code 22 = .ok (.putfield 67, 3) := by decide +kernel
theorem d_Co_rest_25 : decode prog_4_method_3_code 25 = .ok (.aload_n 0, 1) := by decide +kernel
theorem d_Co_rest_26 : decode prog_4_method_3_code 26 = .ok (.iconst 0, 1) := by decide +kernel
theorem d_Co_rest_27 : decode prog_4_method_3_code 27 = .ok (.putfield 70, 3) := by decide +kernel
theorem d_Co_rest_30 : decode prog_4_method_3_code 30 = .ok (.return_, 1) := by decide +kernel
def f_Co_rest (μ : zM) (K : zM → Prop) : Prop := ∀ μ1 : zM, μ1 = zp μ 1 7 (0 : Int32) → (∀ μ2 : zM, μ2 = zp μ1 1 8 (0 : Int32) → (∀ μ3 : zM, μ3 = zp μ2 1 9 (0 : Int32) → (∀ μ4 : zM, μ4 = zp μ3 1 10 (-1 : Int32) → (∀ μ5 : zM, μ5 = zp μ4 1 11 (0 : Int32) → (∀ μ6 : zM, μ6 = zp μ5 1 12 (0 : Int32) → (K μ6))))))
set_option maxHeartbeats 4000000 in
set_option maxRecDepth 100000 in
theorem c_Co_rest (l : Launch) (E : zE) (μ : zM) (K : zM → Prop) (h : f_Co_rest μ K) : Met l y_Co_rest (Cond.code y_Co_rest prog_4_method_3_code 1 none :: zT) { frames := 0, cells := 0, slots := 0, locals := 0 } (va_Pc [.ref (E.2.1 1)] (zR E μ)) (va_Qv K (zR E) (zA E)) 0 0 (zA E) := by
  refine z_head (by decide) (Nat.le_of_ble_eq_true rfl) ?_
  intro p e s m below meth c X hr hlk w ls hl
  have X : zX E p s m _ c prog_4_method_3_code "BeatHeap$Collector" 1 := X
  have hx := X.1
  have hb := X.2.1
  have hl : lv_has ls 1 [(0, .ref (E.2.1 1))] := hl
  unfold f_Co_rest at h
  refine lv_aload_n hx hb d_Co_rest_0 rfl (lv_at hl 0 rfl) ?_
  refine lv_iconst (v := 0) hx hb d_Co_rest_1 (by decide) ?_
  refine pt_1_7 X w w_fl_Co_55 d_Co_rest_2 (fun μ1 H locs eμ1 w => ?_)
  have h := h μ1 eμ1
  refine lv_aload_n hx hb d_Co_rest_5 rfl (lv_at hl 0 rfl) ?_
  refine lv_iconst (v := 0) hx hb d_Co_rest_6 (by decide) ?_
  refine pt_1_8 X w w_fl_Co_58 d_Co_rest_7 (fun μ2 H locs eμ2 w => ?_)
  have h := h μ2 eμ2
  refine lv_aload_n hx hb d_Co_rest_10 rfl (lv_at hl 0 rfl) ?_
  refine lv_iconst (v := 0) hx hb d_Co_rest_11 (by decide) ?_
  refine pt_1_9 X w w_fl_Co_61 d_Co_rest_12 (fun μ3 H locs eμ3 w => ?_)
  have h := h μ3 eμ3
  refine lv_aload_n hx hb d_Co_rest_15 rfl (lv_at hl 0 rfl) ?_
  refine lv_iconst (v := (-1)) hx hb d_Co_rest_16 (by decide) ?_
  refine pt_1_10 X w w_fl_Co_64 d_Co_rest_17 (fun μ4 H locs eμ4 w => ?_)
  have h := h μ4 eμ4
  refine lv_aload_n hx hb d_Co_rest_20 rfl (lv_at hl 0 rfl) ?_
  refine lv_iconst (v := 0) hx hb d_Co_rest_21 (by decide) ?_
  refine pt_1_11 X w w_fl_Co_67 d_Co_rest_22 (fun μ5 H locs eμ5 w => ?_)
  have h := h μ5 eμ5
  refine lv_aload_n hx hb d_Co_rest_25 rfl (lv_at hl 0 rfl) ?_
  refine lv_iconst (v := 0) hx hb d_Co_rest_26 (by decide) ?_
  refine pt_1_12 X w w_fl_Co_70 d_Co_rest_27 (fun μ6 H locs eμ6 w => ?_)
  have h := h μ6 eμ6
  exact z_vret X hr hlk w h d_Co_rest_30
theorem q_Co_clearAll : (y_Co_clearAll.cls ≠ "java/lang/invoke/MethodHandle" ∧ y_Co_clearAll.cls ≠ "java/lang/invoke/VarHandle") ∧ (parseMethodDescriptor y_Co_clearAll.desc).map (fun d => d.parameters.length) = some 3 := by decide +kernel
theorem d_Co_clearAll_0 : decode prog_4_method_2_code 0 = .ok (.aload_n 0, 1) := by decide +kernel
theorem d_Co_clearAll_1 : decode prog_4_method_2_code 1 = .ok (.iload_n 1, 1) := by decide +kernel
theorem d_Co_clearAll_2 : decode prog_4_method_2_code 2 = .ok (.putfield 36, 3) := by decide +kernel
theorem d_Co_clearAll_5 : decode prog_4_method_2_code 5 = .ok (.aload_n 0, 1) := by decide +kernel
theorem d_Co_clearAll_6 : decode prog_4_method_2_code 6 = .ok (.iload_n 2, 1) := by decide +kernel
theorem d_Co_clearAll_7 : decode prog_4_method_2_code 7 = .ok (.putfield 40, 3) := by decide +kernel
theorem d_Co_clearAll_10 : decode prog_4_method_2_code 10 = .ok (.aload_n 0, 1) := by decide +kernel
theorem d_Co_clearAll_11 : decode prog_4_method_2_code 11 = .ok (.iload_n 3, 1) := by decide +kernel
theorem d_Co_clearAll_12 : decode prog_4_method_2_code 12 = .ok (.putfield 43, 3) := by decide +kernel
theorem d_Co_clearAll_15 : decode prog_4_method_2_code 15 = .ok (.aload_n 0, 1) := by decide +kernel
theorem d_Co_clearAll_16 : decode prog_4_method_2_code 16 = .ok (.iconst 0, 1) := by decide +kernel
theorem d_Co_clearAll_17 : decode prog_4_method_2_code 17 = .ok (.putfield 46, 3) := by decide +kernel
theorem d_Co_clearAll_20 : decode prog_4_method_2_code 20 = .ok (.aload_n 0, 1) := by decide +kernel
theorem d_Co_clearAll_21 : decode prog_4_method_2_code 21 = .ok (.getfield 28, 3) := by decide +kernel
theorem d_Co_clearAll_24 : decode prog_4_method_2_code 24 = .ok (.invokevirtual 49, 3) := by decide +kernel
theorem d_Co_clearAll_27 : decode prog_4_method_2_code 27 = .ok (.aload_n 0, 1) := by decide +kernel
theorem d_Co_clearAll_28 : decode prog_4_method_2_code 28 = .ok (.invokevirtual 52, 3) := by decide +kernel
theorem d_Co_clearAll_31 : decode prog_4_method_2_code 31 = .ok (.return_, 1) := by decide +kernel
def f_Co_clearAll (μ : zM) (a1 a2 a3 : Int32) (K : zM → Prop) : Prop := ∀ μ1 : zM, μ1 = zp μ 1 4 a1 → (∀ μ2 : zM, μ2 = zp μ1 1 5 a2 → (∀ μ3 : zM, μ3 = zp μ2 1 6 a3 → (∀ μ4 : zM, μ4 = zp μ3 1 13 (0 : Int32) → (f_Pi_clearAll_12 μ4 (fun μ5 => (f_Co_rest μ5 (fun μ6 => (K μ6))))))))
set_option maxHeartbeats 4000000 in
set_option maxRecDepth 100000 in
theorem c_Co_clearAll (l : Launch) (E : zE) (μ : zM) (a1 a2 a3 : Int32) (K : zM → Prop) (h : f_Co_clearAll μ a1 a2 a3 K) : Met l y_Co_clearAll (Cond.code y_Co_clearAll prog_4_method_2_code 4 none :: zT) { frames := 1, cells := 0, slots := 0, locals := 20 } (va_Pc [.ref (E.2.1 1), .int a1, .int a2, .int a3] (zR E μ)) (va_Qv K (zR E) (zA E)) 0 0 (zA E) := by
  refine z_head (by decide) (Nat.le_of_ble_eq_true rfl) ?_
  intro p e s m below meth c X hr hlk w ls hl
  have X : zX E p s m _ c prog_4_method_2_code "BeatHeap$Collector" 4 := X
  have hx := X.1
  have hb := X.2.1
  have hl : lv_has ls 4 [(0, .ref (E.2.1 1)), (1, .int a1), (2, .int a2), (3, .int a3)] := hl
  unfold f_Co_clearAll at h
  refine lv_aload_n hx hb d_Co_clearAll_0 rfl (lv_at hl 0 rfl) ?_
  refine lv_iload_n hx hb d_Co_clearAll_1 rfl (lv_at hl 1 rfl) ?_
  refine pt_1_4 X w w_fl_Co_36 d_Co_clearAll_2 (fun μ1 H locs eμ1 w => ?_)
  have h := h μ1 eμ1
  refine lv_aload_n hx hb d_Co_clearAll_5 rfl (lv_at hl 0 rfl) ?_
  refine lv_iload_n hx hb d_Co_clearAll_6 rfl (lv_at hl 2 rfl) ?_
  refine pt_1_5 X w w_fl_Co_40 d_Co_clearAll_7 (fun μ2 H locs eμ2 w => ?_)
  have h := h μ2 eμ2
  refine lv_aload_n hx hb d_Co_clearAll_10 rfl (lv_at hl 0 rfl) ?_
  refine lv_iload_n hx hb d_Co_clearAll_11 rfl (lv_at hl 3 rfl) ?_
  refine pt_1_6 X w w_fl_Co_43 d_Co_clearAll_12 (fun μ3 H locs eμ3 w => ?_)
  have h := h μ3 eμ3
  refine lv_aload_n hx hb d_Co_clearAll_15 rfl (lv_at hl 0 rfl) ?_
  refine lv_iconst (v := 0) hx hb d_Co_clearAll_16 (by decide) ?_
  refine pt_1_13 X w w_fl_Co_46 d_Co_clearAll_17 (fun μ4 H locs eμ4 w => ?_)
  have h := h μ4 eμ4
  refine lv_aload_n hx hb d_Co_clearAll_20 rfl (lv_at hl 0 rfl) ?_
  refine gt_1_2 X w w_fl_Co_28 d_Co_clearAll_21 ?_
  refine z_cVv (As := []) (rest := []) (q0 := 12) (ci := 3) X w (c_Pi_clearAll_12 l E μ4 _ h) rfl rfl rfl w_ml_Co_49 ⟨w_im_Pi_clearAll, w_se_Pi_clearAll⟩ w_in_Pi w_co_Pi_clearAll q_Pi_clearAll.1 q_Pi_clearAll.2 rfl ⟨Nat.le_of_ble_eq_true rfl, Nat.le_of_ble_eq_true rfl⟩ ⟨Nat.zero_le _, Nat.zero_le _⟩ hl.1 rfl (Nat.le_of_ble_eq_true rfl) d_Co_clearAll_24 (fun μ5 H locs h w => ?_)
  refine lv_aload_n hx hb d_Co_clearAll_27 rfl (lv_at hl 0 rfl) ?_
  refine z_cVv (As := []) (rest := []) (q0 := 1) (ci := 2) X w (c_Co_rest l E μ5 _ h) rfl rfl rfl w_ml_Co_52 ⟨w_im_Co_rest, w_se_Co_rest⟩ w_in_Co w_co_Co_rest q_Co_rest.1 q_Co_rest.2 rfl ⟨Nat.le_of_ble_eq_true rfl, Nat.le_of_ble_eq_true rfl⟩ ⟨Nat.zero_le _, Nat.zero_le _⟩ hl.1 rfl (Nat.le_of_ble_eq_true rfl) d_Co_clearAll_28 (fun μ6 H locs h w => ?_)
  exact z_vret X hr hlk w h d_Co_clearAll_31
theorem q_Bh_setAll : (y_Bh_setAll.cls ≠ "java/lang/invoke/MethodHandle" ∧ y_Bh_setAll.cls ≠ "java/lang/invoke/VarHandle") ∧ (parseMethodDescriptor y_Bh_setAll.desc).map (fun d => d.parameters.length) = some 4 := by decide +kernel
theorem d_Bh_setAll_0 : decode prog_1_method_26_code 0 = .ok (.aload_n 0, 1) := by decide +kernel
theorem d_Bh_setAll_1 : decode prog_1_method_26_code 1 = .ok (.getfield 30, 3) := by decide +kernel
theorem d_Bh_setAll_4 : decode prog_1_method_26_code 4 = .ok (.iconst (-1), 1) := by decide +kernel
theorem d_Bh_setAll_5 : decode prog_1_method_26_code 5 = .ok (.invokestatic 175, 3) := by decide +kernel
theorem d_Bh_setAll_8 : decode prog_1_method_26_code 8 = .ok (.aload_n 0, 1) := by decide +kernel
theorem d_Bh_setAll_9 : decode prog_1_method_26_code 9 = .ok (.iconst 0, 1) := by decide +kernel
theorem d_Bh_setAll_10 : decode prog_1_method_26_code 10 = .ok (.putfield 146, 3) := by decide +kernel
theorem d_Bh_setAll_13 : decode prog_1_method_26_code 13 = .ok (.aload_n 0, 1) := by decide +kernel
theorem d_Bh_setAll_14 : decode prog_1_method_26_code 14 = .ok (.getfield 20, 3) := by decide +kernel
theorem d_Bh_setAll_17 : decode prog_1_method_26_code 17 = .ok (.iload_n 1, 1) := by decide +kernel
theorem d_Bh_setAll_18 : decode prog_1_method_26_code 18 = .ok (.invokevirtual 181, 3) := by decide +kernel
theorem d_Bh_setAll_21 : decode prog_1_method_26_code 21 = .ok (.aload_n 0, 1) := by decide +kernel
theorem d_Bh_setAll_22 : decode prog_1_method_26_code 22 = .ok (.getfield 25, 3) := by decide +kernel
theorem d_Bh_setAll_25 : decode prog_1_method_26_code 25 = .ok (.invokevirtual 184, 3) := by decide +kernel
theorem d_Bh_setAll_28 : decode prog_1_method_26_code 28 = .ok (.aload_n 0, 1) := by decide +kernel
theorem d_Bh_setAll_29 : decode prog_1_method_26_code 29 = .ok (.getfield 12, 3) := by decide +kernel
theorem d_Bh_setAll_32 : decode prog_1_method_26_code 32 = .ok (.iload_n 2, 1) := by decide +kernel
theorem d_Bh_setAll_33 : decode prog_1_method_26_code 33 = .ok (.iload_n 3, 1) := by decide +kernel
theorem d_Bh_setAll_34 : decode prog_1_method_26_code 34 = .ok (.iload 4, 2) := by decide +kernel
theorem d_Bh_setAll_36 : decode prog_1_method_26_code 36 = .ok (.invokevirtual 186, 3) := by decide +kernel
theorem d_Bh_setAll_39 : decode prog_1_method_26_code 39 = .ok (.return_, 1) := by decide +kernel
def f_Bh_setAll (μ : zM) (a1 a2 a3 a4 : Int32) (K : zM → Prop) : Prop := f_Ar_fillI_14 μ (-1 : Int32) (fun μ1 => (∀ μ2 : zM, μ2 = zp μ1 0 5 (0 : Int32) → (f_Bk_clearAll μ2 a1 (fun μ3 => (f_Ck_clearAll μ3 (fun μ4 => (f_Co_clearAll μ4 a2 a3 a4 (fun μ5 => (K μ5)))))))))
set_option maxHeartbeats 4000000 in
set_option maxRecDepth 100000 in
theorem c_Bh_setAll (l : Launch) (E : zE) (μ : zM) (a1 a2 a3 a4 : Int32) (K : zM → Prop) (h : f_Bh_setAll μ a1 a2 a3 a4 K) : Met l y_Bh_setAll (Cond.code y_Bh_setAll prog_1_method_26_code 5 none :: zT) { frames := 2, cells := 0, slots := 0, locals := 44 } (va_Pc [.ref (E.2.1 0), .int a1, .int a2, .int a3, .int a4] (zR E μ)) (va_Qv K (zR E) (zA E)) 0 0 (zA E) := by
  refine z_head (by decide) (Nat.le_of_ble_eq_true rfl) ?_
  intro p e s m below meth c X hr hlk w ls hl
  have X : zX E p s m _ c prog_1_method_26_code "BeatHeap" 5 := X
  have hx := X.1
  have hb := X.2.1
  have hl : lv_has ls 5 [(0, .ref (E.2.1 0)), (1, .int a1), (2, .int a2), (3, .int a3), (4, .int a4)] := hl
  unfold f_Bh_setAll at h
  refine lv_aload_n hx hb d_Bh_setAll_0 rfl (lv_at hl 0 rfl) ?_
  refine gt_0_3 X w w_fl_Bh_30 d_Bh_setAll_1 ?_
  refine lv_iconst (v := (-1)) hx hb d_Bh_setAll_4 (by decide) ?_
  refine z_cSv (As := [.ref (E.2.1 14), .int (-1 : Int32)]) (rest := []) X w (c_Ar_fillI_14 l E μ (-1 : Int32) _ h) w_ml_Bh_175 w_st_Ar_fillI w_in_Ar w_co_Ar_fillI q_Ar_fillI.1 q_Ar_fillI.2 rfl ⟨Nat.le_of_ble_eq_true rfl, Nat.le_of_ble_eq_true rfl⟩ ⟨Nat.zero_le _, Nat.zero_le _⟩ hl.1 rfl (Nat.le_of_ble_eq_true rfl) d_Bh_setAll_5 (fun μ1 H locs h w => ?_)
  refine lv_aload_n hx hb d_Bh_setAll_8 rfl (lv_at hl 0 rfl) ?_
  refine lv_iconst (v := 0) hx hb d_Bh_setAll_9 (by decide) ?_
  refine pt_0_5 X w w_fl_Bh_146 d_Bh_setAll_10 (fun μ2 H locs eμ2 w => ?_)
  have h := h μ2 eμ2
  refine lv_aload_n hx hb d_Bh_setAll_13 rfl (lv_at hl 0 rfl) ?_
  refine gt_0_1 X w w_fl_Bh_20 d_Bh_setAll_14 ?_
  refine lv_iload_n hx hb d_Bh_setAll_17 rfl (lv_at hl 1 rfl) ?_
  refine z_cVv (As := [.int a1]) (rest := []) (q0 := 2) (ci := 0) X w (c_Bk_clearAll l E μ2 a1 _ h) rfl rfl rfl w_ml_Bh_181 ⟨w_im_Bk_clearAll, w_se_Bk_clearAll⟩ w_in_Bk w_co_Bk_clearAll q_Bk_clearAll.1 q_Bk_clearAll.2 rfl ⟨Nat.le_of_ble_eq_true rfl, Nat.le_of_ble_eq_true rfl⟩ ⟨Nat.zero_le _, Nat.zero_le _⟩ hl.1 rfl (Nat.le_of_ble_eq_true rfl) d_Bh_setAll_18 (fun μ3 H locs h w => ?_)
  refine lv_aload_n hx hb d_Bh_setAll_21 rfl (lv_at hl 0 rfl) ?_
  refine gt_0_2 X w w_fl_Bh_25 d_Bh_setAll_22 ?_
  refine z_cVv (As := []) (rest := []) (q0 := 10) (ci := 1) X w (c_Ck_clearAll l E μ3 _ h) rfl rfl rfl w_ml_Bh_184 ⟨w_im_Ck_clearAll, w_se_Ck_clearAll⟩ w_in_Ck w_co_Ck_clearAll q_Ck_clearAll.1 q_Ck_clearAll.2 rfl ⟨Nat.le_of_ble_eq_true rfl, Nat.le_of_ble_eq_true rfl⟩ ⟨Nat.zero_le _, Nat.zero_le _⟩ hl.1 rfl (Nat.le_of_ble_eq_true rfl) d_Bh_setAll_25 (fun μ4 H locs h w => ?_)
  refine lv_aload_n hx hb d_Bh_setAll_28 rfl (lv_at hl 0 rfl) ?_
  refine gt_0_0 X w w_fl_Bh_12 d_Bh_setAll_29 ?_
  refine lv_iload_n hx hb d_Bh_setAll_32 rfl (lv_at hl 2 rfl) ?_
  refine lv_iload_n hx hb d_Bh_setAll_33 rfl (lv_at hl 3 rfl) ?_
  refine lv_iload hx hb d_Bh_setAll_34 (lv_at hl 4 rfl) ?_
  refine z_cVv (As := [.int a2, .int a3, .int a4]) (rest := []) (q0 := 1) (ci := 2) X w (c_Co_clearAll l E μ4 a2 a3 a4 _ h) rfl rfl rfl w_ml_Bh_186 ⟨w_im_Co_clearAll, w_se_Co_clearAll⟩ w_in_Co w_co_Co_clearAll q_Co_clearAll.1 q_Co_clearAll.2 rfl ⟨Nat.le_of_ble_eq_true rfl, Nat.le_of_ble_eq_true rfl⟩ ⟨Nat.zero_le _, Nat.zero_le _⟩ hl.1 rfl (Nat.le_of_ble_eq_true rfl) d_Bh_setAll_36 (fun μ5 H locs h w => ?_)
  exact z_vret X hr hlk w h d_Bh_setAll_39
theorem q_Bh_within : (y_Bh_within.cls ≠ "java/lang/invoke/MethodHandle" ∧ y_Bh_within.cls ≠ "java/lang/invoke/VarHandle") ∧ (parseMethodDescriptor y_Bh_within.desc).map (fun d => d.parameters.length) = some 3 := by decide +kernel
theorem d_Bh_within_0 : decode prog_1_method_20_code 0 = .ok (.iload_n 0, 1) := by decide +kernel
theorem d_Bh_within_1 : decode prog_1_method_20_code 1 = .ok (.iload_n 1, 1) := by decide +kernel
theorem d_Bh_within_2 : decode prog_1_method_20_code 2 = .ok (.if_icmp .lt 12, 3) := by decide +kernel
theorem d_Bh_within_5 : decode prog_1_method_20_code 5 = .ok (.iload_n 0, 1) := by decide +kernel
theorem d_Bh_within_6 : decode prog_1_method_20_code 6 = .ok (.iload_n 2, 1) := by decide +kernel
theorem d_Bh_within_7 : decode prog_1_method_20_code 7 = .ok (.if_icmp .gt 7, 3) := by decide +kernel
theorem d_Bh_within_10 : decode prog_1_method_20_code 10 = .ok (.iconst 1, 1) := by decide +kernel
theorem d_Bh_within_11 : decode prog_1_method_20_code 11 = .ok (.goto 4, 3) := by decide +kernel
theorem d_Bh_within_14 : decode prog_1_method_20_code 14 = .ok (.iconst 0, 1) := by decide +kernel
theorem d_Bh_within_15 : decode prog_1_method_20_code 15 = .ok (.ireturn, 1) := by decide +kernel
def f_Bh_within (μ : zM) (a0 a1 a2 : Int32) (K : Int32 → zM → Prop) : Prop := (a0 < a1 → (K (0 : Int32) μ)) ∧ (¬ a0 < a1 → ((a2 < a0 → (K (0 : Int32) μ)) ∧ (¬ a2 < a0 → (K (1 : Int32) μ))))
set_option maxHeartbeats 4000000 in
set_option maxRecDepth 100000 in
theorem c_Bh_within (l : Launch) (E : zE) (μ : zM) (a0 a1 a2 : Int32) (K : Int32 → zM → Prop) (h : f_Bh_within μ a0 a1 a2 K) : Met l y_Bh_within (Cond.code y_Bh_within prog_1_method_20_code 3 (some .boolean) :: zT) { frames := 0, cells := 0, slots := 0, locals := 0 } (va_Pc [.int a0, .int a1, .int a2] (zR E μ)) (va_Qi K (zR E) (zA E)) 0 0 (zA E) := by
  refine z_head (by decide) (Nat.le_of_ble_eq_true rfl) ?_
  intro p e s m below meth c X hr hlk w ls hl
  have X : zX E p s m _ c prog_1_method_20_code "BeatHeap" 3 := X
  have hx := X.1
  have hb := X.2.1
  have hl : lv_has ls 3 [(0, .int a0), (1, .int a1), (2, .int a2)] := hl
  unfold f_Bh_within at h
  refine lv_iload_n hx hb d_Bh_within_0 rfl (lv_at hl 0 rfl) ?_
  refine lv_iload_n hx hb d_Bh_within_1 rfl (lv_at hl 1 rfl) ?_
  refine lv_icmp_lt (tgt := 14) hx hb d_Bh_within_2 (by decide) (fun c1 => ?_) (fun c1 => ?_)
  · have h := h.1 c1
    refine lv_iconst (v := 0) hx hb d_Bh_within_14 (by decide) ?_
    exact z_zret X hr hlk w (by decide) h d_Bh_within_15
  · have h := h.2 c1
    refine lv_iload_n hx hb d_Bh_within_5 rfl (lv_at hl 0 rfl) ?_
    refine lv_iload_n hx hb d_Bh_within_6 rfl (lv_at hl 2 rfl) ?_
    refine lv_icmp_gt (tgt := 14) hx hb d_Bh_within_7 (by decide) (fun c2 => ?_) (fun c2 => ?_)
    · have h := h.1 c2
      refine lv_iconst (v := 0) hx hb d_Bh_within_14 (by decide) ?_
      exact z_zret X hr hlk w (by decide) h d_Bh_within_15
    · have h := h.2 c2
      refine lv_iconst (v := 1) hx hb d_Bh_within_10 (by decide) ?_
      refine lv_goto (tgt := 15) hx hb d_Bh_within_11 (by decide) ?_
      exact z_zret X hr hlk w (by decide) h d_Bh_within_15
end
section
theorem q_Bh_begin : (y_Bh_begin.cls ≠ "java/lang/invoke/MethodHandle" ∧ y_Bh_begin.cls ≠ "java/lang/invoke/VarHandle") ∧ (parseMethodDescriptor y_Bh_begin.desc).map (fun d => d.parameters.length) = some 4 := by decide +kernel
theorem d_Bh_begin_0 : decode prog_1_method_2_code 0 = .ok (.iload_n 1, 1) := by decide +kernel
theorem d_Bh_begin_1 : decode prog_1_method_2_code 1 = .ok (.iconst 4, 1) := by decide +kernel
theorem d_Bh_begin_2 : decode prog_1_method_2_code 2 = .ok (.bipush 64, 2) := by decide +kernel
theorem d_Bh_begin_4 : decode prog_1_method_2_code 4 = .ok (.invokestatic 42, 3) := by decide +kernel
theorem d_Bh_begin_7 : decode prog_1_method_2_code 7 = .ok (.ifCond .eq 13, 3) := by decide +kernel
theorem d_Bh_begin_10 : decode prog_1_method_2_code 10 = .ok (.iload 4, 2) := by decide +kernel
theorem d_Bh_begin_12 : decode prog_1_method_2_code 12 = .ok (.iconst 0, 1) := by decide +kernel
theorem d_Bh_begin_13 : decode prog_1_method_2_code 13 = .ok (.iload_n 1, 1) := by decide +kernel
theorem d_Bh_begin_14 : decode prog_1_method_2_code 14 = .ok (.invokestatic 42, 3) := by decide +kernel
theorem d_Bh_begin_17 : decode prog_1_method_2_code 17 = .ok (.ifCond .ne 5, 3) := by decide +kernel
theorem d_Bh_begin_20 : decode prog_1_method_2_code 20 = .ok (.iconst 0, 1) := by decide +kernel
theorem d_Bh_begin_21 : decode prog_1_method_2_code 21 = .ok (.ireturn, 1) := by decide +kernel
theorem d_Bh_begin_22 : decode prog_1_method_2_code 22 = .ok (.iload_n 2, 1) := by decide +kernel
theorem d_Bh_begin_23 : decode prog_1_method_2_code 23 = .ok (.iconst 1, 1) := by decide +kernel
theorem d_Bh_begin_24 : decode prog_1_method_2_code 24 = .ok (.sipush 200, 3) := by decide +kernel
theorem d_Bh_begin_27 : decode prog_1_method_2_code 27 = .ok (.invokestatic 42, 3) := by decide +kernel
theorem d_Bh_begin_30 : decode prog_1_method_2_code 30 = .ok (.ifCond .eq 14, 3) := by decide +kernel
theorem d_Bh_begin_33 : decode prog_1_method_2_code 33 = .ok (.iload_n 3, 1) := by decide +kernel
theorem d_Bh_begin_34 : decode prog_1_method_2_code 34 = .ok (.iconst 1, 1) := by decide +kernel
theorem d_Bh_begin_35 : decode prog_1_method_2_code 35 = .ok (.sipush 200, 3) := by decide +kernel
theorem d_Bh_begin_38 : decode prog_1_method_2_code 38 = .ok (.invokestatic 42, 3) := by decide +kernel
theorem d_Bh_begin_41 : decode prog_1_method_2_code 41 = .ok (.ifCond .ne 5, 3) := by decide +kernel
theorem d_Bh_begin_44 : decode prog_1_method_2_code 44 = .ok (.iconst 0, 1) := by decide +kernel
theorem d_Bh_begin_45 : decode prog_1_method_2_code 45 = .ok (.ireturn, 1) := by decide +kernel
theorem d_Bh_begin_46 : decode prog_1_method_2_code 46 = .ok (.aload_n 0, 1) := by decide +kernel
theorem d_Bh_begin_47 : decode prog_1_method_2_code 47 = .ok (.iload_n 1, 1) := by decide +kernel
theorem d_Bh_begin_48 : decode prog_1_method_2_code 48 = .ok (.iload_n 2, 1) := by decide +kernel
theorem d_Bh_begin_49 : decode prog_1_method_2_code 49 = .ok (.iload_n 3, 1) := by decide +kernel
theorem d_Bh_begin_50 : decode prog_1_method_2_code 50 = .ok (.iload 4, 2) := by decide +kernel
theorem d_Bh_begin_52 : decode prog_1_method_2_code 52 = .ok (.invokevirtual 38, 3) := by decide +kernel
theorem d_Bh_begin_55 : decode prog_1_method_2_code 55 = .ok (.iconst 1, 1) := by decide +kernel
theorem d_Bh_begin_56 : decode prog_1_method_2_code 56 = .ok (.ireturn, 1) := by decide +kernel
def f_Bh_begin (μ : zM) (a1 a2 a3 a4 : Int32) (K : Int32 → zM → Prop) : Prop := f_Bh_within μ a1 (4 : Int32) (64 : Int32) (fun r2 μ1 => ((r2 = 0 → (K (0 : Int32) μ1)) ∧ (¬ r2 = 0 → (f_Bh_within μ1 a4 (0 : Int32) a1 (fun r5 μ4 => ((¬ r5 = 0 → (f_Bh_within μ4 a2 (1 : Int32) (200 : Int32) (fun r8 μ7 => ((r8 = 0 → (K (0 : Int32) μ7)) ∧ (¬ r8 = 0 → (f_Bh_within μ7 a3 (1 : Int32) (200 : Int32) (fun r11 μ10 => ((¬ r11 = 0 → (f_Bh_setAll μ10 a1 a2 a3 a4 (fun μ13 => (K (1 : Int32) μ13)))) ∧ (r11 = 0 → (K (0 : Int32) μ10)))))))))) ∧ (r5 = 0 → (K (0 : Int32) μ4))))))))
set_option maxHeartbeats 4000000 in
set_option maxRecDepth 100000 in
theorem c_Bh_begin (l : Launch) (E : zE) (μ : zM) (a1 a2 a3 a4 : Int32) (K : Int32 → zM → Prop) (h : f_Bh_begin μ a1 a2 a3 a4 K) : Met l y_Bh_begin (Cond.code y_Bh_begin prog_1_method_2_code 5 (some .boolean) :: zT) { frames := 3, cells := 0, slots := 0, locals := 68 } (va_Pc [.ref (E.2.1 0), .int a1, .int a2, .int a3, .int a4] (zR E μ)) (va_Qi K (zR E) (zA E)) 0 0 (zA E) := by
  refine z_head (by decide) (Nat.le_of_ble_eq_true rfl) ?_
  intro p e s m below meth c X hr hlk w ls hl
  have X : zX E p s m _ c prog_1_method_2_code "BeatHeap" 5 := X
  have hx := X.1
  have hb := X.2.1
  have hl : lv_has ls 5 [(0, .ref (E.2.1 0)), (1, .int a1), (2, .int a2), (3, .int a3), (4, .int a4)] := hl
  unfold f_Bh_begin at h
  refine lv_iload_n hx hb d_Bh_begin_0 rfl (lv_at hl 1 rfl) ?_
  refine lv_iconst (v := 4) hx hb d_Bh_begin_1 (by decide) ?_
  refine lv_bipush (v := 64) hx hb d_Bh_begin_2 (by decide) ?_
  refine z_cSi (As := [.int a1, .int (4 : Int32), .int (64 : Int32)]) (rest := []) X w (c_Bh_within l E μ a1 (4 : Int32) (64 : Int32) _ h) w_ml_Bh_42 w_st_Bh_within w_in_Bh w_co_Bh_within q_Bh_within.1 q_Bh_within.2 rfl ⟨Nat.le_of_ble_eq_true rfl, Nat.le_of_ble_eq_true rfl⟩ ⟨Nat.zero_le _, Nat.zero_le _⟩ hl.1 rfl (Nat.le_of_ble_eq_true rfl) d_Bh_begin_4 (fun r2 μ1 H locs h w => ?_)
  refine lv_if_eq (tgt := 20) hx hb d_Bh_begin_7 (by decide) (fun c3 => ?_) (fun c3 => ?_)
  · have h := h.1 c3
    refine lv_iconst (v := 0) hx hb d_Bh_begin_20 (by decide) ?_
    exact z_zret X hr hlk w (by decide) h d_Bh_begin_21
  · have h := h.2 c3
    refine lv_iload hx hb d_Bh_begin_10 (lv_at hl 4 rfl) ?_
    refine lv_iconst (v := 0) hx hb d_Bh_begin_12 (by decide) ?_
    refine lv_iload_n hx hb d_Bh_begin_13 rfl (lv_at hl 1 rfl) ?_
    refine z_cSi (As := [.int a4, .int (0 : Int32), .int a1]) (rest := []) X w (c_Bh_within l E μ1 a4 (0 : Int32) a1 _ h) w_ml_Bh_42 w_st_Bh_within w_in_Bh w_co_Bh_within q_Bh_within.1 q_Bh_within.2 rfl ⟨Nat.le_of_ble_eq_true rfl, Nat.le_of_ble_eq_true rfl⟩ ⟨Nat.zero_le _, Nat.zero_le _⟩ hl.1 rfl (Nat.le_of_ble_eq_true rfl) d_Bh_begin_14 (fun r5 μ4 H locs h w => ?_)
    refine lv_if_ne (tgt := 22) hx hb d_Bh_begin_17 (by decide) (fun c6 => ?_) (fun c6 => ?_)
    · have h := h.1 c6
      refine lv_iload_n hx hb d_Bh_begin_22 rfl (lv_at hl 2 rfl) ?_
      refine lv_iconst (v := 1) hx hb d_Bh_begin_23 (by decide) ?_
      refine lv_sipush (v := 200) hx hb d_Bh_begin_24 (by decide) ?_
      refine z_cSi (As := [.int a2, .int (1 : Int32), .int (200 : Int32)]) (rest := []) X w (c_Bh_within l E μ4 a2 (1 : Int32) (200 : Int32) _ h) w_ml_Bh_42 w_st_Bh_within w_in_Bh w_co_Bh_within q_Bh_within.1 q_Bh_within.2 rfl ⟨Nat.le_of_ble_eq_true rfl, Nat.le_of_ble_eq_true rfl⟩ ⟨Nat.zero_le _, Nat.zero_le _⟩ hl.1 rfl (Nat.le_of_ble_eq_true rfl) d_Bh_begin_27 (fun r8 μ7 H locs h w => ?_)
      refine lv_if_eq (tgt := 44) hx hb d_Bh_begin_30 (by decide) (fun c9 => ?_) (fun c9 => ?_)
      · have h := h.1 c9
        refine lv_iconst (v := 0) hx hb d_Bh_begin_44 (by decide) ?_
        exact z_zret X hr hlk w (by decide) h d_Bh_begin_45
      · have h := h.2 c9
        refine lv_iload_n hx hb d_Bh_begin_33 rfl (lv_at hl 3 rfl) ?_
        refine lv_iconst (v := 1) hx hb d_Bh_begin_34 (by decide) ?_
        refine lv_sipush (v := 200) hx hb d_Bh_begin_35 (by decide) ?_
        refine z_cSi (As := [.int a3, .int (1 : Int32), .int (200 : Int32)]) (rest := []) X w (c_Bh_within l E μ7 a3 (1 : Int32) (200 : Int32) _ h) w_ml_Bh_42 w_st_Bh_within w_in_Bh w_co_Bh_within q_Bh_within.1 q_Bh_within.2 rfl ⟨Nat.le_of_ble_eq_true rfl, Nat.le_of_ble_eq_true rfl⟩ ⟨Nat.zero_le _, Nat.zero_le _⟩ hl.1 rfl (Nat.le_of_ble_eq_true rfl) d_Bh_begin_38 (fun r11 μ10 H locs h w => ?_)
        refine lv_if_ne (tgt := 46) hx hb d_Bh_begin_41 (by decide) (fun c12 => ?_) (fun c12 => ?_)
        · have h := h.1 c12
          refine lv_aload_n hx hb d_Bh_begin_46 rfl (lv_at hl 0 rfl) ?_
          refine lv_iload_n hx hb d_Bh_begin_47 rfl (lv_at hl 1 rfl) ?_
          refine lv_iload_n hx hb d_Bh_begin_48 rfl (lv_at hl 2 rfl) ?_
          refine lv_iload_n hx hb d_Bh_begin_49 rfl (lv_at hl 3 rfl) ?_
          refine lv_iload hx hb d_Bh_begin_50 (lv_at hl 4 rfl) ?_
          refine z_cVv (As := [.int a1, .int a2, .int a3, .int a4]) (rest := []) (q0 := 0) (ci := 5) X w (c_Bh_setAll l E μ10 a1 a2 a3 a4 _ h) rfl rfl rfl w_ml_Bh_38 ⟨w_im_Bh_setAll, w_se_Bh_setAll⟩ w_in_Bh w_co_Bh_setAll q_Bh_setAll.1 q_Bh_setAll.2 rfl ⟨Nat.le_of_ble_eq_true rfl, Nat.le_of_ble_eq_true rfl⟩ ⟨Nat.zero_le _, Nat.zero_le _⟩ hl.1 rfl (Nat.le_of_ble_eq_true rfl) d_Bh_begin_52 (fun μ13 H locs h w => ?_)
          refine lv_iconst (v := 1) hx hb d_Bh_begin_55 (by decide) ?_
          exact z_zret X hr hlk w (by decide) h d_Bh_begin_56
        · have h := h.2 c12
          refine lv_iconst (v := 0) hx hb d_Bh_begin_44 (by decide) ?_
          exact z_zret X hr hlk w (by decide) h d_Bh_begin_45
    · have h := h.2 c6
      refine lv_iconst (v := 0) hx hb d_Bh_begin_20 (by decide) ?_
      exact z_zret X hr hlk w (by decide) h d_Bh_begin_21
theorem q_Bh_isRoot : (y_Bh_isRoot.cls ≠ "java/lang/invoke/MethodHandle" ∧ y_Bh_isRoot.cls ≠ "java/lang/invoke/VarHandle") ∧ (parseMethodDescriptor y_Bh_isRoot.desc).map (fun d => d.parameters.length) = some 1 := by decide +kernel
theorem d_Bh_isRoot_0 : decode prog_1_method_21_code 0 = .ok (.iload_n 0, 1) := by decide +kernel
theorem d_Bh_isRoot_1 : decode prog_1_method_21_code 1 = .ok (.ifCond .lt 13, 3) := by decide +kernel
theorem d_Bh_isRoot_4 : decode prog_1_method_21_code 4 = .ok (.iload_n 0, 1) := by decide +kernel
theorem d_Bh_isRoot_5 : decode prog_1_method_21_code 5 = .ok (.bipush 16, 2) := by decide +kernel
theorem d_Bh_isRoot_7 : decode prog_1_method_21_code 7 = .ok (.if_icmp .ge 7, 3) := by decide +kernel
theorem d_Bh_isRoot_10 : decode prog_1_method_21_code 10 = .ok (.iconst 1, 1) := by decide +kernel
theorem d_Bh_isRoot_11 : decode prog_1_method_21_code 11 = .ok (.goto 4, 3) := by decide +kernel
theorem d_Bh_isRoot_14 : decode prog_1_method_21_code 14 = .ok (.iconst 0, 1) := by decide +kernel
theorem d_Bh_isRoot_15 : decode prog_1_method_21_code 15 = .ok (.ireturn, 1) := by decide +kernel
def f_Bh_isRoot (μ : zM) (a0 : Int32) (K : Int32 → zM → Prop) : Prop := (a0 < 0 → (K (0 : Int32) μ)) ∧ (¬ a0 < 0 → (((16 : Int32) ≤ a0 → (K (0 : Int32) μ)) ∧ (¬ (16 : Int32) ≤ a0 → (K (1 : Int32) μ))))
set_option maxHeartbeats 4000000 in
set_option maxRecDepth 100000 in
theorem c_Bh_isRoot (l : Launch) (E : zE) (μ : zM) (a0 : Int32) (K : Int32 → zM → Prop) (h : f_Bh_isRoot μ a0 K) : Met l y_Bh_isRoot (Cond.code y_Bh_isRoot prog_1_method_21_code 1 (some .boolean) :: zT) { frames := 0, cells := 0, slots := 0, locals := 0 } (va_Pc [.int a0] (zR E μ)) (va_Qi K (zR E) (zA E)) 0 0 (zA E) := by
  refine z_head (by decide) (Nat.le_of_ble_eq_true rfl) ?_
  intro p e s m below meth c X hr hlk w ls hl
  have X : zX E p s m _ c prog_1_method_21_code "BeatHeap" 1 := X
  have hx := X.1
  have hb := X.2.1
  have hl : lv_has ls 1 [(0, .int a0)] := hl
  unfold f_Bh_isRoot at h
  refine lv_iload_n hx hb d_Bh_isRoot_0 rfl (lv_at hl 0 rfl) ?_
  refine lv_if_lt (tgt := 14) hx hb d_Bh_isRoot_1 (by decide) (fun c1 => ?_) (fun c1 => ?_)
  · have h := h.1 c1
    refine lv_iconst (v := 0) hx hb d_Bh_isRoot_14 (by decide) ?_
    exact z_zret X hr hlk w (by decide) h d_Bh_isRoot_15
  · have h := h.2 c1
    refine lv_iload_n hx hb d_Bh_isRoot_4 rfl (lv_at hl 0 rfl) ?_
    refine lv_bipush (v := 16) hx hb d_Bh_isRoot_5 (by decide) ?_
    refine lv_icmp_ge (tgt := 14) hx hb d_Bh_isRoot_7 (by decide) (fun c2 => ?_) (fun c2 => ?_)
    · have h := h.1 c2
      refine lv_iconst (v := 0) hx hb d_Bh_isRoot_14 (by decide) ?_
      exact z_zret X hr hlk w (by decide) h d_Bh_isRoot_15
    · have h := h.2 c2
      refine lv_iconst (v := 1) hx hb d_Bh_isRoot_10 (by decide) ?_
      refine lv_goto (tgt := 15) hx hb d_Bh_isRoot_11 (by decide) ?_
      exact z_zret X hr hlk w (by decide) h d_Bh_isRoot_15
theorem q_Bh_leastClass : (y_Bh_leastClass.cls ≠ "java/lang/invoke/MethodHandle" ∧ y_Bh_leastClass.cls ≠ "java/lang/invoke/VarHandle") ∧ (parseMethodDescriptor y_Bh_leastClass.desc).map (fun d => d.parameters.length) = some 1 := by decide +kernel
theorem d_Bh_leastClass_0 : decode prog_1_method_25_code 0 = .ok (.iconst 0, 1) := by decide +kernel
theorem d_Bh_leastClass_1 : decode prog_1_method_25_code 1 = .ok (.istore_n 1, 1) := by decide +kernel
theorem d_Bh_leastClass_2 : decode prog_1_method_25_code 2 = .ok (.iload_n 1, 1) := by decide +kernel
theorem d_Bh_leastClass_3 : decode prog_1_method_25_code 3 = .ok (.getstatic 166, 3) := by decide +kernel
theorem d_Bh_leastClass_6 : decode prog_1_method_25_code 6 = .ok (.arraylength, 1) := by decide +kernel
theorem d_Bh_leastClass_7 : decode prog_1_method_25_code 7 = .ok (.if_icmp .ge 20, 3) := by decide +kernel
theorem d_Bh_leastClass_10 : decode prog_1_method_25_code 10 = .ok (.iload_n 0, 1) := by decide +kernel
theorem d_Bh_leastClass_11 : decode prog_1_method_25_code 11 = .ok (.getstatic 166, 3) := by decide +kernel
theorem d_Bh_leastClass_14 : decode prog_1_method_25_code 14 = .ok (.iload_n 1, 1) := by decide +kernel
theorem d_Bh_leastClass_15 : decode prog_1_method_25_code 15 = .ok (.iaload, 1) := by decide +kernel
theorem d_Bh_leastClass_16 : decode prog_1_method_25_code 16 = .ok (.if_icmp .gt 5, 3) := by decide +kernel
theorem d_Bh_leastClass_19 : decode prog_1_method_25_code 19 = .ok (.iload_n 1, 1) := by decide +kernel
theorem d_Bh_leastClass_20 : decode prog_1_method_25_code 20 = .ok (.ireturn, 1) := by decide +kernel
theorem d_Bh_leastClass_21 : decode prog_1_method_25_code 21 = .ok (.iinc 1 1, 3) := by decide +kernel
theorem d_Bh_leastClass_24 : decode prog_1_method_25_code 24 = .ok (.goto (-22), 3) := by decide +kernel
theorem d_Bh_leastClass_27 : decode prog_1_method_25_code 27 = .ok (.iconst (-1), 1) := by decide +kernel
theorem d_Bh_leastClass_28 : decode prog_1_method_25_code 28 = .ok (.ireturn, 1) := by decide +kernel
noncomputable def F_Bh_leastClass_2 (K : Int32 → zM → Prop) (n : Nat) : Int32 → Int32 → zM → Prop := Nat.rec (motive := fun _ => Int32 → Int32 → zM → Prop) (fun _ _ _ => False) (fun _ ih x0 x1 μ => ((4 : Int32) ≤ x1 → (K (-1 : Int32) μ)) ∧ (¬ (4 : Int32) ≤ x1 → (vp_in x1 4 ∧ (((zb1 x1.toNatClampNeg) < x0 → (∀ x4 : Int32, x4 = x1 + 1 → (ih x0 x4 μ))) ∧ (¬ (zb1 x1.toNatClampNeg) < x0 → (K x1 μ)))))) n
def f_Bh_leastClass (μ : zM) (a0 : Int32) (K : Int32 → zM → Prop) : Prop := ∃ n : Nat, F_Bh_leastClass_2 K n a0 (0 : Int32) μ
set_option maxHeartbeats 4000000 in
set_option maxRecDepth 100000 in
theorem L_Bh_leastClass_2 {p : Program} {l : Launch} {e : Env} {s : State} {m : MethodId} {args : Array Value} {below : List Frame} {meth : Method} {c : Code} {E : zE} (X : zX E p s m args c prog_1_method_25_code "BeatHeap" 2) (hr : meth.sig.returnType = (some .int)) (hlk : meth.locks = false) (K : Int32 → zM → Prop) : ∀ (n : Nat) (x0 x1 : Int32) (μ : zM) (H : Heap) (locs : List Loc) (ls : Array Slot), F_Bh_leastClass_2 K n x0 x1 μ → zW E s μ H locs → lv_has ls 2 [(0, .int x0), (1, .int x1)] → W p l e { frames := 0, cells := 0, slots := 0, locals := 0 } s m args below meth c H locs 0 0 (MQ below (va_Qi K (zR E) (zA E)) args s 0 0 (zA E)) (F0 m 2 ls []) := by
  have hx := X.1
  have hb := X.2.1
  intro n
  induction n with
  | zero => intro x0 x1 μ H locs ls h; exact False.elim h
  | succ n ih =>
    intro x0 x1 μ H locs ls h w hl
    refine lv_iload_n hx hb d_Bh_leastClass_2 rfl (lv_at hl 1 rfl) ?_
    refine sg_1 X w w_fl_Bh_166 d_Bh_leastClass_3 ?_
    refine sn_1 (v := 4) X w (by decide) d_Bh_leastClass_6 ?_
    refine lv_icmp_ge (tgt := 27) hx hb d_Bh_leastClass_7 (by decide) (fun c1 => ?_) (fun c1 => ?_)
    · have h := h.1 c1
      refine lv_iconst (v := (-1)) hx hb d_Bh_leastClass_27 (by decide) ?_
      exact z_iret X hr hlk w h d_Bh_leastClass_28
    · have h := h.2 c1
      refine lv_iload_n hx hb d_Bh_leastClass_10 rfl (lv_at hl 0 rfl) ?_
      refine sg_1 X w w_fl_Bh_166 d_Bh_leastClass_11 ?_
      refine lv_iload_n hx hb d_Bh_leastClass_14 rfl (lv_at hl 1 rfl) ?_
      obtain ⟨hi2, h⟩ := h
      refine sl_1 X w hi2 d_Bh_leastClass_15 ?_
      refine lv_icmp_gt (tgt := 21) hx hb d_Bh_leastClass_16 (by decide) (fun c3 => ?_) (fun c3 => ?_)
      · have h := h.1 c3
        obtain ⟨x4, ex4⟩ : ∃ y : Int32, y = x1 + 1 := ⟨_, rfl⟩
        have h := h x4 ex4
        refine lv_iinc (v := x4) (lv' := [(1, .int x4), (0, .int x0)]) hx hb d_Bh_leastClass_21 hl (k := 1) rfl (by rw [ex4]; rfl) (by decide) rfl (fun ls hl => ?_)
        refine lv_goto (tgt := 2) hx hb d_Bh_leastClass_24 (by decide) ?_
        exact ih x0 x4 μ _ _ _ h w (lv_sub hl [1, 0] rfl)
      · have h := h.2 c3
        refine lv_iload_n hx hb d_Bh_leastClass_19 rfl (lv_at hl 1 rfl) ?_
        exact z_iret X hr hlk w h d_Bh_leastClass_20

set_option maxHeartbeats 4000000 in
set_option maxRecDepth 100000 in
theorem c_Bh_leastClass (l : Launch) (E : zE) (μ : zM) (a0 : Int32) (K : Int32 → zM → Prop) (h : f_Bh_leastClass μ a0 K) : Met l y_Bh_leastClass (Cond.code y_Bh_leastClass prog_1_method_25_code 2 (some .int) :: zT) { frames := 0, cells := 0, slots := 0, locals := 0 } (va_Pc [.int a0] (zR E μ)) (va_Qi K (zR E) (zA E)) 0 0 (zA E) := by
  refine z_head (by decide) (Nat.le_of_ble_eq_true rfl) ?_
  intro p e s m below meth c X hr hlk w ls hl
  have X : zX E p s m _ c prog_1_method_25_code "BeatHeap" 2 := X
  have hx := X.1
  have hb := X.2.1
  have hl : lv_has ls 2 [(0, .int a0)] := hl
  unfold f_Bh_leastClass at h
  refine lv_iconst (v := 0) hx hb d_Bh_leastClass_0 (by decide) ?_
  refine lv_istore_n (lv' := [(1, .int (0 : Int32)), (0, .int a0)]) hx hb d_Bh_leastClass_1 rfl hl (by decide) rfl (fun ls hl => ?_)
  obtain ⟨n, h⟩ := h
  exact L_Bh_leastClass_2 X hr hlk K n a0 (0 : Int32) μ _ _ _ h w (lv_sub hl [1, 0] rfl)
theorem q_Bh_isClass : (y_Bh_isClass.cls ≠ "java/lang/invoke/MethodHandle" ∧ y_Bh_isClass.cls ≠ "java/lang/invoke/VarHandle") ∧ (parseMethodDescriptor y_Bh_isClass.desc).map (fun d => d.parameters.length) = some 1 := by decide +kernel
theorem d_Bh_isClass_0 : decode prog_1_method_22_code 0 = .ok (.iload_n 0, 1) := by decide +kernel
theorem d_Bh_isClass_1 : decode prog_1_method_22_code 1 = .ok (.ifCond .lt 15, 3) := by decide +kernel
theorem d_Bh_isClass_4 : decode prog_1_method_22_code 4 = .ok (.iload_n 0, 1) := by decide +kernel
theorem d_Bh_isClass_5 : decode prog_1_method_22_code 5 = .ok (.getstatic 166, 3) := by decide +kernel
theorem d_Bh_isClass_8 : decode prog_1_method_22_code 8 = .ok (.arraylength, 1) := by decide +kernel
theorem d_Bh_isClass_9 : decode prog_1_method_22_code 9 = .ok (.if_icmp .ge 7, 3) := by decide +kernel
theorem d_Bh_isClass_12 : decode prog_1_method_22_code 12 = .ok (.iconst 1, 1) := by decide +kernel
theorem d_Bh_isClass_13 : decode prog_1_method_22_code 13 = .ok (.goto 4, 3) := by decide +kernel
theorem d_Bh_isClass_16 : decode prog_1_method_22_code 16 = .ok (.iconst 0, 1) := by decide +kernel
theorem d_Bh_isClass_17 : decode prog_1_method_22_code 17 = .ok (.ireturn, 1) := by decide +kernel
def f_Bh_isClass (μ : zM) (a0 : Int32) (K : Int32 → zM → Prop) : Prop := (a0 < 0 → (K (0 : Int32) μ)) ∧ (¬ a0 < 0 → (((4 : Int32) ≤ a0 → (K (0 : Int32) μ)) ∧ (¬ (4 : Int32) ≤ a0 → (K (1 : Int32) μ))))
set_option maxHeartbeats 4000000 in
set_option maxRecDepth 100000 in
theorem c_Bh_isClass (l : Launch) (E : zE) (μ : zM) (a0 : Int32) (K : Int32 → zM → Prop) (h : f_Bh_isClass μ a0 K) : Met l y_Bh_isClass (Cond.code y_Bh_isClass prog_1_method_22_code 1 (some .boolean) :: zT) { frames := 0, cells := 0, slots := 0, locals := 0 } (va_Pc [.int a0] (zR E μ)) (va_Qi K (zR E) (zA E)) 0 0 (zA E) := by
  refine z_head (by decide) (Nat.le_of_ble_eq_true rfl) ?_
  intro p e s m below meth c X hr hlk w ls hl
  have X : zX E p s m _ c prog_1_method_22_code "BeatHeap" 1 := X
  have hx := X.1
  have hb := X.2.1
  have hl : lv_has ls 1 [(0, .int a0)] := hl
  unfold f_Bh_isClass at h
  refine lv_iload_n hx hb d_Bh_isClass_0 rfl (lv_at hl 0 rfl) ?_
  refine lv_if_lt (tgt := 16) hx hb d_Bh_isClass_1 (by decide) (fun c1 => ?_) (fun c1 => ?_)
  · have h := h.1 c1
    refine lv_iconst (v := 0) hx hb d_Bh_isClass_16 (by decide) ?_
    exact z_zret X hr hlk w (by decide) h d_Bh_isClass_17
  · have h := h.2 c1
    refine lv_iload_n hx hb d_Bh_isClass_4 rfl (lv_at hl 0 rfl) ?_
    refine sg_1 X w w_fl_Bh_166 d_Bh_isClass_5 ?_
    refine sn_1 (v := 4) X w (by decide) d_Bh_isClass_8 ?_
    refine lv_icmp_ge (tgt := 16) hx hb d_Bh_isClass_9 (by decide) (fun c2 => ?_) (fun c2 => ?_)
    · have h := h.1 c2
      refine lv_iconst (v := 0) hx hb d_Bh_isClass_16 (by decide) ?_
      exact z_zret X hr hlk w (by decide) h d_Bh_isClass_17
    · have h := h.2 c2
      refine lv_iconst (v := 1) hx hb d_Bh_isClass_12 (by decide) ?_
      refine lv_goto (tgt := 17) hx hb d_Bh_isClass_13 (by decide) ?_
      exact z_zret X hr hlk w (by decide) h d_Bh_isClass_17
theorem q_Bh_blockWords : (y_Bh_blockWords.cls ≠ "java/lang/invoke/MethodHandle" ∧ y_Bh_blockWords.cls ≠ "java/lang/invoke/VarHandle") ∧ (parseMethodDescriptor y_Bh_blockWords.desc).map (fun d => d.parameters.length) = some 1 := by decide +kernel
theorem d_Bh_blockWords_0 : decode prog_1_method_23_code 0 = .ok (.iload_n 0, 1) := by decide +kernel
theorem d_Bh_blockWords_1 : decode prog_1_method_23_code 1 = .ok (.invokestatic 169, 3) := by decide +kernel
theorem d_Bh_blockWords_4 : decode prog_1_method_23_code 4 = .ok (.ifCond .eq 11, 3) := by decide +kernel
theorem d_Bh_blockWords_7 : decode prog_1_method_23_code 7 = .ok (.getstatic 166, 3) := by decide +kernel
theorem d_Bh_blockWords_10 : decode prog_1_method_23_code 10 = .ok (.iload_n 0, 1) := by decide +kernel
theorem d_Bh_blockWords_11 : decode prog_1_method_23_code 11 = .ok (.iaload, 1) := by decide +kernel
theorem d_Bh_blockWords_12 : decode prog_1_method_23_code 12 = .ok (.goto 5, 3) := by decide +kernel
theorem d_Bh_blockWords_15 : decode prog_1_method_23_code 15 = .ok (.bipush 64, 2) := by decide +kernel
theorem d_Bh_blockWords_17 : decode prog_1_method_23_code 17 = .ok (.ireturn, 1) := by decide +kernel
def f_Bh_blockWords (μ : zM) (a0 : Int32) (K : Int32 → zM → Prop) : Prop := f_Bh_isClass μ a0 (fun r2 μ1 => ((r2 = 0 → (K (64 : Int32) μ1)) ∧ (¬ r2 = 0 → (vp_in a0 4 ∧ (K (zb1 a0.toNatClampNeg) μ1)))))
set_option maxHeartbeats 4000000 in
set_option maxRecDepth 100000 in
theorem c_Bh_blockWords (l : Launch) (E : zE) (μ : zM) (a0 : Int32) (K : Int32 → zM → Prop) (h : f_Bh_blockWords μ a0 K) : Met l y_Bh_blockWords (Cond.code y_Bh_blockWords prog_1_method_23_code 1 (some .int) :: zT) { frames := 1, cells := 0, slots := 0, locals := 20 } (va_Pc [.int a0] (zR E μ)) (va_Qi K (zR E) (zA E)) 0 0 (zA E) := by
  refine z_head (by decide) (Nat.le_of_ble_eq_true rfl) ?_
  intro p e s m below meth c X hr hlk w ls hl
  have X : zX E p s m _ c prog_1_method_23_code "BeatHeap" 1 := X
  have hx := X.1
  have hb := X.2.1
  have hl : lv_has ls 1 [(0, .int a0)] := hl
  unfold f_Bh_blockWords at h
  refine lv_iload_n hx hb d_Bh_blockWords_0 rfl (lv_at hl 0 rfl) ?_
  refine z_cSi (As := [.int a0]) (rest := []) X w (c_Bh_isClass l E μ a0 _ h) w_ml_Bh_169 w_st_Bh_isClass w_in_Bh w_co_Bh_isClass q_Bh_isClass.1 q_Bh_isClass.2 rfl ⟨Nat.le_of_ble_eq_true rfl, Nat.le_of_ble_eq_true rfl⟩ ⟨Nat.zero_le _, Nat.zero_le _⟩ hl.1 rfl (Nat.le_of_ble_eq_true rfl) d_Bh_blockWords_1 (fun r2 μ1 H locs h w => ?_)
  refine lv_if_eq (tgt := 15) hx hb d_Bh_blockWords_4 (by decide) (fun c3 => ?_) (fun c3 => ?_)
  · have h := h.1 c3
    refine lv_bipush (v := 64) hx hb d_Bh_blockWords_15 (by decide) ?_
    exact z_iret X hr hlk w h d_Bh_blockWords_17
  · have h := h.2 c3
    refine sg_1 X w w_fl_Bh_166 d_Bh_blockWords_7 ?_
    refine lv_iload_n hx hb d_Bh_blockWords_10 rfl (lv_at hl 0 rfl) ?_
    obtain ⟨hi4, h⟩ := h
    refine sl_1 X w hi4 d_Bh_blockWords_11 ?_
    refine lv_goto (tgt := 17) hx hb d_Bh_blockWords_12 (by decide) ?_
    exact z_iret X hr hlk w h d_Bh_blockWords_17
theorem q_Bk_openPage : (y_Bk_openPage.cls ≠ "java/lang/invoke/MethodHandle" ∧ y_Bk_openPage.cls ≠ "java/lang/invoke/VarHandle") ∧ (parseMethodDescriptor y_Bk_openPage.desc).map (fun d => d.parameters.length) = some 1 := by decide +kernel
theorem d_Bk_openPage_0 : decode prog_2_method_19_code 0 = .ok (.iconst 0, 1) := by decide +kernel
theorem d_Bk_openPage_1 : decode prog_2_method_19_code 1 = .ok (.istore_n 2, 1) := by decide +kernel
theorem d_Bk_openPage_2 : decode prog_2_method_19_code 2 = .ok (.iload_n 2, 1) := by decide +kernel
theorem d_Bk_openPage_3 : decode prog_2_method_19_code 3 = .ok (.aload_n 0, 1) := by decide +kernel
theorem d_Bk_openPage_4 : decode prog_2_method_19_code 4 = .ok (.getfield 49, 3) := by decide +kernel
theorem d_Bk_openPage_7 : decode prog_2_method_19_code 7 = .ok (.if_icmp .ge 38, 3) := by decide +kernel
theorem d_Bk_openPage_10 : decode prog_2_method_19_code 10 = .ok (.aload_n 0, 1) := by decide +kernel
theorem d_Bk_openPage_11 : decode prog_2_method_19_code 11 = .ok (.getfield 28, 3) := by decide +kernel
theorem d_Bk_openPage_14 : decode prog_2_method_19_code 14 = .ok (.iload_n 2, 1) := by decide +kernel
theorem d_Bk_openPage_15 : decode prog_2_method_19_code 15 = .ok (.iaload, 1) := by decide +kernel
theorem d_Bk_openPage_16 : decode prog_2_method_19_code 16 = .ok (.iconst (-1), 1) := by decide +kernel
theorem d_Bk_openPage_17 : decode prog_2_method_19_code 17 = .ok (.if_icmp .ne 22, 3) := by decide +kernel
theorem d_Bk_openPage_20 : decode prog_2_method_19_code 20 = .ok (.aload_n 0, 1) := by decide +kernel
theorem d_Bk_openPage_21 : decode prog_2_method_19_code 21 = .ok (.getfield 28, 3) := by decide +kernel
theorem d_Bk_openPage_24 : decode prog_2_method_19_code 24 = .ok (.iload_n 2, 1) := by decide +kernel
theorem d_Bk_openPage_25 : decode prog_2_method_19_code 25 = .ok (.iload_n 1, 1) := by decide +kernel
theorem d_Bk_openPage_26 : decode prog_2_method_19_code 26 = .ok (.iastore, 1) := by decide +kernel
theorem d_Bk_openPage_27 : decode prog_2_method_19_code 27 = .ok (.aload_n 0, 1) := by decide +kernel
theorem d_Bk_openPage_28 : decode prog_2_method_19_code 28 = .ok (.dup, 1) := by decide +kernel
theorem d_Bk_openPage_29 : decode prog_2_method_19_code 29 = .ok (.getfield 53, 3) := by decide +kernel
theorem d_Bk_openPage_32 : decode prog_2_method_19_code 32 = .ok (.iconst 1, 1) := by decide +kernel
theorem d_Bk_openPage_33 : decode prog_2_method_19_code 33 = .ok (.isub, 1) := by decide +kernel
theorem d_Bk_openPage_34 : decode prog_2_method_19_code 34 = .ok (.putfield 53, 3) := by decide +kernel
theorem d_Bk_openPage_37 : decode prog_2_method_19_code 37 = .ok (.iload_n 2, 1) := by decide +kernel
theorem d_Bk_openPage_38 : decode prog_2_method_19_code 38 = .ok (.ireturn, 1) := by decide +kernel
theorem d_Bk_openPage_39 : decode prog_2_method_19_code 39 = .ok (.iinc 2 1, 3) := by decide +kernel
theorem d_Bk_openPage_42 : decode prog_2_method_19_code 42 = .ok (.goto (-40), 3) := by decide +kernel
theorem d_Bk_openPage_45 : decode prog_2_method_19_code 45 = .ok (.iconst (-1), 1) := by decide +kernel
theorem d_Bk_openPage_46 : decode prog_2_method_19_code 46 = .ok (.ireturn, 1) := by decide +kernel
noncomputable def F_Bk_openPage_2 (K : Int32 → zM → Prop) (n : Nat) : Int32 → Int32 → zM → Prop := Nat.rec (motive := fun _ => Int32 → Int32 → zM → Prop) (fun _ _ _ => False) (fun _ ih x1 x2 μ => ((μ 2 7) ≤ x2 → (K (-1 : Int32) μ)) ∧ (¬ (μ 2 7) ≤ x2 → (vp_in x2 64 ∧ ((¬ (μ 8 x2.toNatClampNeg) = (-1 : Int32) → (∀ x4 : Int32, x4 = x2 + 1 → (ih x1 x4 μ))) ∧ ((μ 8 x2.toNatClampNeg) = (-1 : Int32) → (vp_in x2 64 ∧ ∀ μ6 : zM, μ6 = zp μ 8 x2.toNatClampNeg x1 → (∀ μ7 : zM, μ7 = zp μ6 2 8 ((μ6 2 8) - (1 : Int32)) → (K x2 μ7)))))))) n
def f_Bk_openPage (μ : zM) (a1 : Int32) (K : Int32 → zM → Prop) : Prop := ∃ n : Nat, F_Bk_openPage_2 K n a1 (0 : Int32) μ
set_option maxHeartbeats 4000000 in
set_option maxRecDepth 100000 in
theorem L_Bk_openPage_2 {p : Program} {l : Launch} {e : Env} {s : State} {m : MethodId} {args : Array Value} {below : List Frame} {meth : Method} {c : Code} {E : zE} (X : zX E p s m args c prog_2_method_19_code "BeatHeap$Blocks" 3) (hr : meth.sig.returnType = (some .int)) (hlk : meth.locks = false) (K : Int32 → zM → Prop) : ∀ (n : Nat) (x1 x2 : Int32) (μ : zM) (H : Heap) (locs : List Loc) (ls : Array Slot), F_Bk_openPage_2 K n x1 x2 μ → zW E s μ H locs → lv_has ls 3 [(0, .ref (E.2.1 2)), (1, .int x1), (2, .int x2)] → W p l e { frames := 0, cells := 0, slots := 0, locals := 0 } s m args below meth c H locs 0 0 (MQ below (va_Qi K (zR E) (zA E)) args s 0 0 (zA E)) (F0 m 2 ls []) := by
  have hx := X.1
  have hb := X.2.1
  intro n
  induction n with
  | zero => intro x1 x2 μ H locs ls h; exact False.elim h
  | succ n ih =>
    intro x1 x2 μ H locs ls h w hl
    refine lv_iload_n hx hb d_Bk_openPage_2 rfl (lv_at hl 2 rfl) ?_
    refine lv_aload_n hx hb d_Bk_openPage_3 rfl (lv_at hl 0 rfl) ?_
    refine gt_2_7 X w w_fl_Bk_49 d_Bk_openPage_4 ?_
    refine lv_icmp_ge (tgt := 45) hx hb d_Bk_openPage_7 (by decide) (fun c1 => ?_) (fun c1 => ?_)
    · have h := h.1 c1
      refine lv_iconst (v := (-1)) hx hb d_Bk_openPage_45 (by decide) ?_
      exact z_iret X hr hlk w h d_Bk_openPage_46
    · have h := h.2 c1
      refine lv_aload_n hx hb d_Bk_openPage_10 rfl (lv_at hl 0 rfl) ?_
      refine gt_2_5 X w w_fl_Bk_28 d_Bk_openPage_11 ?_
      refine lv_iload_n hx hb d_Bk_openPage_14 rfl (lv_at hl 2 rfl) ?_
      obtain ⟨hi2, h⟩ := h
      refine al_8 X w hi2 d_Bk_openPage_15 ?_
      refine lv_iconst (v := (-1)) hx hb d_Bk_openPage_16 (by decide) ?_
      refine lv_icmp_ne (tgt := 39) hx hb d_Bk_openPage_17 (by decide) (fun c3 => ?_) (fun c3 => ?_)
      · have h := h.1 c3
        obtain ⟨x4, ex4⟩ : ∃ y : Int32, y = x2 + 1 := ⟨_, rfl⟩
        have h := h x4 ex4
        refine lv_iinc (v := x4) (lv' := [(2, .int x4), (0, .ref (E.2.1 2)), (1, .int x1)]) hx hb d_Bk_openPage_39 hl (k := 2) rfl (by rw [ex4]; rfl) (by decide) rfl (fun ls hl => ?_)
        refine lv_goto (tgt := 2) hx hb d_Bk_openPage_42 (by decide) ?_
        exact ih x1 x4 μ _ _ _ h w (lv_sub hl [1, 2, 0] rfl)
      · have h := h.2 c3
        refine lv_aload_n hx hb d_Bk_openPage_20 rfl (lv_at hl 0 rfl) ?_
        refine gt_2_5 X w w_fl_Bk_28 d_Bk_openPage_21 ?_
        refine lv_iload_n hx hb d_Bk_openPage_24 rfl (lv_at hl 2 rfl) ?_
        refine lv_iload_n hx hb d_Bk_openPage_25 rfl (lv_at hl 1 rfl) ?_
        obtain ⟨hi5, h⟩ := h
        refine as_8 X w hi5 d_Bk_openPage_26 (fun μ6 H locs eμ6 w => ?_)
        have h := h μ6 eμ6
        refine lv_aload_n hx hb d_Bk_openPage_27 rfl (lv_at hl 0 rfl) ?_
        refine lv_dup hx hb d_Bk_openPage_28 rfl ?_
        refine gt_2_8 X w w_fl_Bk_53 d_Bk_openPage_29 ?_
        refine lv_iconst (v := 1) hx hb d_Bk_openPage_32 (by decide) ?_
        refine lv_isub hx hb d_Bk_openPage_33 ?_
        refine pt_2_8 X w w_fl_Bk_53 d_Bk_openPage_34 (fun μ7 H locs eμ7 w => ?_)
        have h := h μ7 eμ7
        refine lv_iload_n hx hb d_Bk_openPage_37 rfl (lv_at hl 2 rfl) ?_
        exact z_iret X hr hlk w h d_Bk_openPage_38

set_option maxHeartbeats 4000000 in
set_option maxRecDepth 100000 in
theorem c_Bk_openPage (l : Launch) (E : zE) (μ : zM) (a1 : Int32) (K : Int32 → zM → Prop) (h : f_Bk_openPage μ a1 K) : Met l y_Bk_openPage (Cond.code y_Bk_openPage prog_2_method_19_code 3 (some .int) :: zT) { frames := 0, cells := 0, slots := 0, locals := 0 } (va_Pc [.ref (E.2.1 2), .int a1] (zR E μ)) (va_Qi K (zR E) (zA E)) 0 0 (zA E) := by
  refine z_head (by decide) (Nat.le_of_ble_eq_true rfl) ?_
  intro p e s m below meth c X hr hlk w ls hl
  have X : zX E p s m _ c prog_2_method_19_code "BeatHeap$Blocks" 3 := X
  have hx := X.1
  have hb := X.2.1
  have hl : lv_has ls 3 [(0, .ref (E.2.1 2)), (1, .int a1)] := hl
  unfold f_Bk_openPage at h
  refine lv_iconst (v := 0) hx hb d_Bk_openPage_0 (by decide) ?_
  refine lv_istore_n (lv' := [(2, .int (0 : Int32)), (0, .ref (E.2.1 2)), (1, .int a1)]) hx hb d_Bk_openPage_1 rfl hl (by decide) rfl (fun ls hl => ?_)
  obtain ⟨n, h⟩ := h
  exact L_Bk_openPage_2 X hr hlk K n a1 (0 : Int32) μ _ _ _ h w (lv_sub hl [1, 2, 0] rfl)
theorem q_Bk_pageWithRoom : (y_Bk_pageWithRoom.cls ≠ "java/lang/invoke/MethodHandle" ∧ y_Bk_pageWithRoom.cls ≠ "java/lang/invoke/VarHandle") ∧ (parseMethodDescriptor y_Bk_pageWithRoom.desc).map (fun d => d.parameters.length) = some 1 := by decide +kernel
theorem d_Bk_pageWithRoom_0 : decode prog_2_method_18_code 0 = .ok (.iload_n 1, 1) := by decide +kernel
theorem d_Bk_pageWithRoom_1 : decode prog_2_method_18_code 1 = .ok (.invokestatic 83, 3) := by decide +kernel
theorem d_Bk_pageWithRoom_4 : decode prog_2_method_18_code 4 = .ok (.ifCond .ne 5, 3) := by decide +kernel
theorem d_Bk_pageWithRoom_7 : decode prog_2_method_18_code 7 = .ok (.iconst (-1), 1) := by decide +kernel
theorem d_Bk_pageWithRoom_8 : decode prog_2_method_18_code 8 = .ok (.ireturn, 1) := by decide +kernel
theorem d_Bk_pageWithRoom_9 : decode prog_2_method_18_code 9 = .ok (.bipush 64, 2) := by decide +kernel
theorem d_Bk_pageWithRoom_11 : decode prog_2_method_18_code 11 = .ok (.iload_n 1, 1) := by decide +kernel
theorem d_Bk_pageWithRoom_12 : decode prog_2_method_18_code 12 = .ok (.invokestatic 86, 3) := by decide +kernel
theorem d_Bk_pageWithRoom_15 : decode prog_2_method_18_code 15 = .ok (.idiv, 1) := by decide +kernel
theorem d_Bk_pageWithRoom_16 : decode prog_2_method_18_code 16 = .ok (.istore_n 2, 1) := by decide +kernel
theorem d_Bk_pageWithRoom_17 : decode prog_2_method_18_code 17 = .ok (.iconst 0, 1) := by decide +kernel
theorem d_Bk_pageWithRoom_18 : decode prog_2_method_18_code 18 = .ok (.istore_n 3, 1) := by decide +kernel
theorem d_Bk_pageWithRoom_19 : decode prog_2_method_18_code 19 = .ok (.iload_n 3, 1) := by decide +kernel
theorem d_Bk_pageWithRoom_20 : decode prog_2_method_18_code 20 = .ok (.aload_n 0, 1) := by decide +kernel
theorem d_Bk_pageWithRoom_21 : decode prog_2_method_18_code 21 = .ok (.getfield 49, 3) := by decide +kernel
theorem d_Bk_pageWithRoom_24 : decode prog_2_method_18_code 24 = .ok (.if_icmp .ge 31, 3) := by decide +kernel
theorem d_Bk_pageWithRoom_27 : decode prog_2_method_18_code 27 = .ok (.aload_n 0, 1) := by decide +kernel
theorem d_Bk_pageWithRoom_28 : decode prog_2_method_18_code 28 = .ok (.getfield 28, 3) := by decide +kernel
theorem d_Bk_pageWithRoom_31 : decode prog_2_method_18_code 31 = .ok (.iload_n 3, 1) := by decide +kernel
theorem d_Bk_pageWithRoom_32 : decode prog_2_method_18_code 32 = .ok (.iaload, 1) := by decide +kernel
theorem d_Bk_pageWithRoom_33 : decode prog_2_method_18_code 33 = .ok (.iload_n 1, 1) := by decide +kernel
theorem d_Bk_pageWithRoom_34 : decode prog_2_method_18_code 34 = .ok (.if_icmp .ne 15, 3) := by decide +kernel
theorem d_Bk_pageWithRoom_37 : decode prog_2_method_18_code 37 = .ok (.aload_n 0, 1) := by decide +kernel
theorem d_Bk_pageWithRoom_38 : decode prog_2_method_18_code 38 = .ok (.getfield 31, 3) := by decide +kernel
theorem d_Bk_pageWithRoom_41 : decode prog_2_method_18_code 41 = .ok (.iload_n 3, 1) := by decide +kernel
theorem d_Bk_pageWithRoom_42 : decode prog_2_method_18_code 42 = .ok (.iaload, 1) := by decide +kernel
theorem d_Bk_pageWithRoom_43 : decode prog_2_method_18_code 43 = .ok (.iload_n 2, 1) := by decide +kernel
theorem d_Bk_pageWithRoom_44 : decode prog_2_method_18_code 44 = .ok (.if_icmp .ge 5, 3) := by decide +kernel
theorem d_Bk_pageWithRoom_47 : decode prog_2_method_18_code 47 = .ok (.iload_n 3, 1) := by decide +kernel
theorem d_Bk_pageWithRoom_48 : decode prog_2_method_18_code 48 = .ok (.ireturn, 1) := by decide +kernel
theorem d_Bk_pageWithRoom_49 : decode prog_2_method_18_code 49 = .ok (.iinc 3 1, 3) := by decide +kernel
theorem d_Bk_pageWithRoom_52 : decode prog_2_method_18_code 52 = .ok (.goto (-33), 3) := by decide +kernel
theorem d_Bk_pageWithRoom_55 : decode prog_2_method_18_code 55 = .ok (.aload_n 0, 1) := by decide +kernel
theorem d_Bk_pageWithRoom_56 : decode prog_2_method_18_code 56 = .ok (.iload_n 1, 1) := by decide +kernel
theorem d_Bk_pageWithRoom_57 : decode prog_2_method_18_code 57 = .ok (.invokevirtual 89, 3) := by decide +kernel
theorem d_Bk_pageWithRoom_60 : decode prog_2_method_18_code 60 = .ok (.ireturn, 1) := by decide +kernel
noncomputable def F_Bk_pageWithRoom_19 (K : Int32 → zM → Prop) (n : Nat) : Int32 → Int32 → Int32 → zM → Prop := Nat.rec (motive := fun _ => Int32 → Int32 → Int32 → zM → Prop) (fun _ _ _ _ => False) (fun _ ih x1 x2 x3 μ => ((μ 2 7) ≤ x3 → (f_Bk_openPage μ x1 (fun r10 μ9 => (K r10 μ9)))) ∧ (¬ (μ 2 7) ≤ x3 → (vp_in x3 64 ∧ ((¬ (μ 8 x3.toNatClampNeg) = x1 → (∀ x13 : Int32, x13 = x3 + 1 → (ih x1 x2 x13 μ))) ∧ ((μ 8 x3.toNatClampNeg) = x1 → (vp_in x3 64 ∧ ((x2 ≤ (μ 9 x3.toNatClampNeg) → (∀ x16 : Int32, x16 = x3 + 1 → (ih x1 x2 x16 μ))) ∧ (¬ x2 ≤ (μ 9 x3.toNatClampNeg) → (K x3 μ))))))))) n
def f_Bk_pageWithRoom (μ : zM) (a1 : Int32) (K : Int32 → zM → Prop) : Prop := f_Bh_isClass μ a1 (fun r2 μ1 => ((¬ r2 = 0 → (f_Bh_blockWords μ1 a1 (fun r5 μ4 => (¬ r5 = 0 ∧ (∀ x7 : Int32, x7 = ((64 : Int32) / r5) → (∃ n : Nat, F_Bk_pageWithRoom_19 K n a1 x7 (0 : Int32) μ4)))))) ∧ (r2 = 0 → (K (-1 : Int32) μ1))))
set_option maxHeartbeats 4000000 in
set_option maxRecDepth 100000 in
theorem L_Bk_pageWithRoom_19 {p : Program} {l : Launch} {e : Env} {s : State} {m : MethodId} {args : Array Value} {below : List Frame} {meth : Method} {c : Code} {E : zE} (X : zX E p s m args c prog_2_method_18_code "BeatHeap$Blocks" 4) (hr : meth.sig.returnType = (some .int)) (hlk : meth.locks = false) (K : Int32 → zM → Prop) : ∀ (n : Nat) (x1 x2 x3 : Int32) (μ : zM) (H : Heap) (locs : List Loc) (ls : Array Slot), F_Bk_pageWithRoom_19 K n x1 x2 x3 μ → zW E s μ H locs → lv_has ls 4 [(0, .ref (E.2.1 2)), (1, .int x1), (2, .int x2), (3, .int x3)] → W p l e { frames := 2, cells := 0, slots := 0, locals := 40 } s m args below meth c H locs 0 0 (MQ below (va_Qi K (zR E) (zA E)) args s 0 0 (zA E)) (F0 m 19 ls []) := by
  have hx := X.1
  have hb := X.2.1
  intro n
  induction n with
  | zero => intro x1 x2 x3 μ H locs ls h; exact False.elim h
  | succ n ih =>
    intro x1 x2 x3 μ H locs ls h w hl
    refine lv_iload_n hx hb d_Bk_pageWithRoom_19 rfl (lv_at hl 3 rfl) ?_
    refine lv_aload_n hx hb d_Bk_pageWithRoom_20 rfl (lv_at hl 0 rfl) ?_
    refine gt_2_7 X w w_fl_Bk_49 d_Bk_pageWithRoom_21 ?_
    refine lv_icmp_ge (tgt := 55) hx hb d_Bk_pageWithRoom_24 (by decide) (fun c8 => ?_) (fun c8 => ?_)
    · have h := h.1 c8
      refine lv_aload_n hx hb d_Bk_pageWithRoom_55 rfl (lv_at hl 0 rfl) ?_
      refine lv_iload_n hx hb d_Bk_pageWithRoom_56 rfl (lv_at hl 1 rfl) ?_
      refine z_cVi (As := [.int x1]) (rest := []) (q0 := 2) (ci := 0) X w (c_Bk_openPage l E μ x1 _ h) rfl rfl rfl w_ml_Bk_89 ⟨w_im_Bk_openPage, w_se_Bk_openPage⟩ w_in_Bk w_co_Bk_openPage q_Bk_openPage.1 q_Bk_openPage.2 rfl ⟨Nat.le_of_ble_eq_true rfl, Nat.le_of_ble_eq_true rfl⟩ ⟨Nat.zero_le _, Nat.zero_le _⟩ hl.1 rfl (Nat.le_of_ble_eq_true rfl) d_Bk_pageWithRoom_57 (fun r10 μ9 H locs h w => ?_)
      exact z_iret X hr hlk w h d_Bk_pageWithRoom_60
    · have h := h.2 c8
      refine lv_aload_n hx hb d_Bk_pageWithRoom_27 rfl (lv_at hl 0 rfl) ?_
      refine gt_2_5 X w w_fl_Bk_28 d_Bk_pageWithRoom_28 ?_
      refine lv_iload_n hx hb d_Bk_pageWithRoom_31 rfl (lv_at hl 3 rfl) ?_
      obtain ⟨hi11, h⟩ := h
      refine al_8 X w hi11 d_Bk_pageWithRoom_32 ?_
      refine lv_iload_n hx hb d_Bk_pageWithRoom_33 rfl (lv_at hl 1 rfl) ?_
      refine lv_icmp_ne (tgt := 49) hx hb d_Bk_pageWithRoom_34 (by decide) (fun c12 => ?_) (fun c12 => ?_)
      · have h := h.1 c12
        obtain ⟨x13, ex13⟩ : ∃ y : Int32, y = x3 + 1 := ⟨_, rfl⟩
        have h := h x13 ex13
        refine lv_iinc (v := x13) (lv' := [(3, .int x13), (0, .ref (E.2.1 2)), (1, .int x1), (2, .int x2)]) hx hb d_Bk_pageWithRoom_49 hl (k := 3) rfl (by rw [ex13]; rfl) (by decide) rfl (fun ls hl => ?_)
        refine lv_goto (tgt := 19) hx hb d_Bk_pageWithRoom_52 (by decide) ?_
        exact ih x1 x2 x13 μ _ _ _ h w (lv_sub hl [1, 2, 3, 0] rfl)
      · have h := h.2 c12
        refine lv_aload_n hx hb d_Bk_pageWithRoom_37 rfl (lv_at hl 0 rfl) ?_
        refine gt_2_6 X w w_fl_Bk_31 d_Bk_pageWithRoom_38 ?_
        refine lv_iload_n hx hb d_Bk_pageWithRoom_41 rfl (lv_at hl 3 rfl) ?_
        obtain ⟨hi14, h⟩ := h
        refine al_9 X w hi14 d_Bk_pageWithRoom_42 ?_
        refine lv_iload_n hx hb d_Bk_pageWithRoom_43 rfl (lv_at hl 2 rfl) ?_
        refine lv_icmp_ge (tgt := 49) hx hb d_Bk_pageWithRoom_44 (by decide) (fun c15 => ?_) (fun c15 => ?_)
        · have h := h.1 c15
          obtain ⟨x16, ex16⟩ : ∃ y : Int32, y = x3 + 1 := ⟨_, rfl⟩
          have h := h x16 ex16
          refine lv_iinc (v := x16) (lv' := [(3, .int x16), (0, .ref (E.2.1 2)), (1, .int x1), (2, .int x2)]) hx hb d_Bk_pageWithRoom_49 hl (k := 3) rfl (by rw [ex16]; rfl) (by decide) rfl (fun ls hl => ?_)
          refine lv_goto (tgt := 19) hx hb d_Bk_pageWithRoom_52 (by decide) ?_
          exact ih x1 x2 x16 μ _ _ _ h w (lv_sub hl [1, 2, 3, 0] rfl)
        · have h := h.2 c15
          refine lv_iload_n hx hb d_Bk_pageWithRoom_47 rfl (lv_at hl 3 rfl) ?_
          exact z_iret X hr hlk w h d_Bk_pageWithRoom_48

set_option maxHeartbeats 4000000 in
set_option maxRecDepth 100000 in
theorem c_Bk_pageWithRoom (l : Launch) (E : zE) (μ : zM) (a1 : Int32) (K : Int32 → zM → Prop) (h : f_Bk_pageWithRoom μ a1 K) : Met l y_Bk_pageWithRoom (Cond.code y_Bk_pageWithRoom prog_2_method_18_code 4 (some .int) :: zT) { frames := 2, cells := 0, slots := 0, locals := 40 } (va_Pc [.ref (E.2.1 2), .int a1] (zR E μ)) (va_Qi K (zR E) (zA E)) 0 0 (zA E) := by
  refine z_head (by decide) (Nat.le_of_ble_eq_true rfl) ?_
  intro p e s m below meth c X hr hlk w ls hl
  have X : zX E p s m _ c prog_2_method_18_code "BeatHeap$Blocks" 4 := X
  have hx := X.1
  have hb := X.2.1
  have hl : lv_has ls 4 [(0, .ref (E.2.1 2)), (1, .int a1)] := hl
  unfold f_Bk_pageWithRoom at h
  refine lv_iload_n hx hb d_Bk_pageWithRoom_0 rfl (lv_at hl 1 rfl) ?_
  refine z_cNi (As := [.int a1]) (rest := []) X w (c_Bh_isClass l E μ a1 _ h) w_nm_Bk_83 w_st_Bh_isClass w_in_Bh w_co_Bh_isClass q_Bh_isClass.1 q_Bh_isClass.2 rfl ⟨Nat.le_of_ble_eq_true rfl, Nat.le_of_ble_eq_true rfl⟩ ⟨Nat.zero_le _, Nat.zero_le _⟩ hl.1 rfl (Nat.le_of_ble_eq_true rfl) d_Bk_pageWithRoom_1 (fun r2 μ1 H locs h w => ?_)
  refine lv_if_ne (tgt := 9) hx hb d_Bk_pageWithRoom_4 (by decide) (fun c3 => ?_) (fun c3 => ?_)
  · have h := h.1 c3
    refine lv_bipush (v := 64) hx hb d_Bk_pageWithRoom_9 (by decide) ?_
    refine lv_iload_n hx hb d_Bk_pageWithRoom_11 rfl (lv_at hl 1 rfl) ?_
    refine z_cNi (As := [.int a1]) (rest := [.int (64 : Int32)]) X w (c_Bh_blockWords l E μ1 a1 _ h) w_nm_Bk_86 w_st_Bh_blockWords w_in_Bh w_co_Bh_blockWords q_Bh_blockWords.1 q_Bh_blockWords.2 rfl ⟨Nat.le_of_ble_eq_true rfl, Nat.le_of_ble_eq_true rfl⟩ ⟨Nat.zero_le _, Nat.zero_le _⟩ hl.1 rfl (Nat.le_of_ble_eq_true rfl) d_Bk_pageWithRoom_12 (fun r5 μ4 H locs h w => ?_)
    obtain ⟨hn6, h⟩ := h
    refine lv_idiv hx hb d_Bk_pageWithRoom_15 hn6 ?_
    refine lv_topi (fun x7 ex7 => ?_)
    have h := h x7 ex7
    refine lv_istore_n (lv' := [(2, .int x7), (0, .ref (E.2.1 2)), (1, .int a1)]) hx hb d_Bk_pageWithRoom_16 rfl hl (by decide) rfl (fun ls hl => ?_)
    refine lv_iconst (v := 0) hx hb d_Bk_pageWithRoom_17 (by decide) ?_
    refine lv_istore_n (lv' := [(3, .int (0 : Int32)), (2, .int x7), (0, .ref (E.2.1 2)), (1, .int a1)]) hx hb d_Bk_pageWithRoom_18 rfl hl (by decide) rfl (fun ls hl => ?_)
    obtain ⟨n, h⟩ := h
    exact L_Bk_pageWithRoom_19 X hr hlk K n a1 x7 (0 : Int32) μ4 _ _ _ h w (lv_sub hl [2, 3, 1, 0] rfl)
  · have h := h.2 c3
    refine lv_iconst (v := (-1)) hx hb d_Bk_pageWithRoom_7 (by decide) ?_
    exact z_iret X hr hlk w h d_Bk_pageWithRoom_8
theorem q_Bk_isPage : (y_Bk_isPage.cls ≠ "java/lang/invoke/MethodHandle" ∧ y_Bk_isPage.cls ≠ "java/lang/invoke/VarHandle") ∧ (parseMethodDescriptor y_Bk_isPage.desc).map (fun d => d.parameters.length) = some 1 := by decide +kernel
theorem d_Bk_isPage_0 : decode prog_2_method_4_code 0 = .ok (.iload_n 1, 1) := by decide +kernel
theorem d_Bk_isPage_1 : decode prog_2_method_4_code 1 = .ok (.ifCond .lt 15, 3) := by decide +kernel
theorem d_Bk_isPage_4 : decode prog_2_method_4_code 4 = .ok (.iload_n 1, 1) := by decide +kernel
theorem d_Bk_isPage_5 : decode prog_2_method_4_code 5 = .ok (.aload_n 0, 1) := by decide +kernel
theorem d_Bk_isPage_6 : decode prog_2_method_4_code 6 = .ok (.getfield 49, 3) := by decide +kernel
theorem d_Bk_isPage_9 : decode prog_2_method_4_code 9 = .ok (.if_icmp .ge 7, 3) := by decide +kernel
theorem d_Bk_isPage_12 : decode prog_2_method_4_code 12 = .ok (.iconst 1, 1) := by decide +kernel
theorem d_Bk_isPage_13 : decode prog_2_method_4_code 13 = .ok (.goto 4, 3) := by decide +kernel
theorem d_Bk_isPage_16 : decode prog_2_method_4_code 16 = .ok (.iconst 0, 1) := by decide +kernel
theorem d_Bk_isPage_17 : decode prog_2_method_4_code 17 = .ok (.ireturn, 1) := by decide +kernel
def f_Bk_isPage (μ : zM) (a1 : Int32) (K : Int32 → zM → Prop) : Prop := (a1 < 0 → (K (0 : Int32) μ)) ∧ (¬ a1 < 0 → (((μ 2 7) ≤ a1 → (K (0 : Int32) μ)) ∧ (¬ (μ 2 7) ≤ a1 → (K (1 : Int32) μ))))
set_option maxHeartbeats 4000000 in
set_option maxRecDepth 100000 in
theorem c_Bk_isPage (l : Launch) (E : zE) (μ : zM) (a1 : Int32) (K : Int32 → zM → Prop) (h : f_Bk_isPage μ a1 K) : Met l y_Bk_isPage (Cond.code y_Bk_isPage prog_2_method_4_code 2 (some .boolean) :: zT) { frames := 0, cells := 0, slots := 0, locals := 0 } (va_Pc [.ref (E.2.1 2), .int a1] (zR E μ)) (va_Qi K (zR E) (zA E)) 0 0 (zA E) := by
  refine z_head (by decide) (Nat.le_of_ble_eq_true rfl) ?_
  intro p e s m below meth c X hr hlk w ls hl
  have X : zX E p s m _ c prog_2_method_4_code "BeatHeap$Blocks" 2 := X
  have hx := X.1
  have hb := X.2.1
  have hl : lv_has ls 2 [(0, .ref (E.2.1 2)), (1, .int a1)] := hl
  unfold f_Bk_isPage at h
  refine lv_iload_n hx hb d_Bk_isPage_0 rfl (lv_at hl 1 rfl) ?_
  refine lv_if_lt (tgt := 16) hx hb d_Bk_isPage_1 (by decide) (fun c1 => ?_) (fun c1 => ?_)
  · have h := h.1 c1
    refine lv_iconst (v := 0) hx hb d_Bk_isPage_16 (by decide) ?_
    exact z_zret X hr hlk w (by decide) h d_Bk_isPage_17
  · have h := h.2 c1
    refine lv_iload_n hx hb d_Bk_isPage_4 rfl (lv_at hl 1 rfl) ?_
    refine lv_aload_n hx hb d_Bk_isPage_5 rfl (lv_at hl 0 rfl) ?_
    refine gt_2_7 X w w_fl_Bk_49 d_Bk_isPage_6 ?_
    refine lv_icmp_ge (tgt := 16) hx hb d_Bk_isPage_9 (by decide) (fun c2 => ?_) (fun c2 => ?_)
    · have h := h.1 c2
      refine lv_iconst (v := 0) hx hb d_Bk_isPage_16 (by decide) ?_
      exact z_zret X hr hlk w (by decide) h d_Bk_isPage_17
    · have h := h.2 c2
      refine lv_iconst (v := 1) hx hb d_Bk_isPage_12 (by decide) ?_
      refine lv_goto (tgt := 17) hx hb d_Bk_isPage_13 (by decide) ?_
      exact z_zret X hr hlk w (by decide) h d_Bk_isPage_17
theorem q_Bk_isInside : (y_Bk_isInside.cls ≠ "java/lang/invoke/MethodHandle" ∧ y_Bk_isInside.cls ≠ "java/lang/invoke/VarHandle") ∧ (parseMethodDescriptor y_Bk_isInside.desc).map (fun d => d.parameters.length) = some 1 := by decide +kernel
theorem d_Bk_isInside_0 : decode prog_2_method_3_code 0 = .ok (.iload_n 1, 1) := by decide +kernel
theorem d_Bk_isInside_1 : decode prog_2_method_3_code 1 = .ok (.ifCond .lt 18, 3) := by decide +kernel
theorem d_Bk_isInside_4 : decode prog_2_method_3_code 4 = .ok (.iload_n 1, 1) := by decide +kernel
theorem d_Bk_isInside_5 : decode prog_2_method_3_code 5 = .ok (.aload_n 0, 1) := by decide +kernel
theorem d_Bk_isInside_6 : decode prog_2_method_3_code 6 = .ok (.getfield 49, 3) := by decide +kernel
theorem d_Bk_isInside_9 : decode prog_2_method_3_code 9 = .ok (.bipush 64, 2) := by decide +kernel
theorem d_Bk_isInside_11 : decode prog_2_method_3_code 11 = .ok (.imul, 1) := by decide +kernel
theorem d_Bk_isInside_12 : decode prog_2_method_3_code 12 = .ok (.if_icmp .ge 7, 3) := by decide +kernel
theorem d_Bk_isInside_15 : decode prog_2_method_3_code 15 = .ok (.iconst 1, 1) := by decide +kernel
theorem d_Bk_isInside_16 : decode prog_2_method_3_code 16 = .ok (.goto 4, 3) := by decide +kernel
theorem d_Bk_isInside_19 : decode prog_2_method_3_code 19 = .ok (.iconst 0, 1) := by decide +kernel
theorem d_Bk_isInside_20 : decode prog_2_method_3_code 20 = .ok (.ireturn, 1) := by decide +kernel
def f_Bk_isInside (μ : zM) (a1 : Int32) (K : Int32 → zM → Prop) : Prop := (a1 < 0 → (K (0 : Int32) μ)) ∧ (¬ a1 < 0 → ((((μ 2 7) * (64 : Int32)) ≤ a1 → (K (0 : Int32) μ)) ∧ (¬ ((μ 2 7) * (64 : Int32)) ≤ a1 → (K (1 : Int32) μ))))
set_option maxHeartbeats 4000000 in
set_option maxRecDepth 100000 in
theorem c_Bk_isInside (l : Launch) (E : zE) (μ : zM) (a1 : Int32) (K : Int32 → zM → Prop) (h : f_Bk_isInside μ a1 K) : Met l y_Bk_isInside (Cond.code y_Bk_isInside prog_2_method_3_code 2 (some .boolean) :: zT) { frames := 0, cells := 0, slots := 0, locals := 0 } (va_Pc [.ref (E.2.1 2), .int a1] (zR E μ)) (va_Qi K (zR E) (zA E)) 0 0 (zA E) := by
  refine z_head (by decide) (Nat.le_of_ble_eq_true rfl) ?_
  intro p e s m below meth c X hr hlk w ls hl
  have X : zX E p s m _ c prog_2_method_3_code "BeatHeap$Blocks" 2 := X
  have hx := X.1
  have hb := X.2.1
  have hl : lv_has ls 2 [(0, .ref (E.2.1 2)), (1, .int a1)] := hl
  unfold f_Bk_isInside at h
  refine lv_iload_n hx hb d_Bk_isInside_0 rfl (lv_at hl 1 rfl) ?_
  refine lv_if_lt (tgt := 19) hx hb d_Bk_isInside_1 (by decide) (fun c1 => ?_) (fun c1 => ?_)
  · have h := h.1 c1
    refine lv_iconst (v := 0) hx hb d_Bk_isInside_19 (by decide) ?_
    exact z_zret X hr hlk w (by decide) h d_Bk_isInside_20
  · have h := h.2 c1
    refine lv_iload_n hx hb d_Bk_isInside_4 rfl (lv_at hl 1 rfl) ?_
    refine lv_aload_n hx hb d_Bk_isInside_5 rfl (lv_at hl 0 rfl) ?_
    refine gt_2_7 X w w_fl_Bk_49 d_Bk_isInside_6 ?_
    refine lv_bipush (v := 64) hx hb d_Bk_isInside_9 (by decide) ?_
    refine lv_imul hx hb d_Bk_isInside_11 ?_
    refine lv_icmp_ge (tgt := 19) hx hb d_Bk_isInside_12 (by decide) (fun c2 => ?_) (fun c2 => ?_)
    · have h := h.1 c2
      refine lv_iconst (v := 0) hx hb d_Bk_isInside_19 (by decide) ?_
      exact z_zret X hr hlk w (by decide) h d_Bk_isInside_20
    · have h := h.2 c2
      refine lv_iconst (v := 1) hx hb d_Bk_isInside_15 (by decide) ?_
      refine lv_goto (tgt := 20) hx hb d_Bk_isInside_16 (by decide) ?_
      exact z_zret X hr hlk w (by decide) h d_Bk_isInside_20
theorem q_Bk_kindOf : (y_Bk_kindOf.cls ≠ "java/lang/invoke/MethodHandle" ∧ y_Bk_kindOf.cls ≠ "java/lang/invoke/VarHandle") ∧ (parseMethodDescriptor y_Bk_kindOf.desc).map (fun d => d.parameters.length) = some 1 := by decide +kernel
theorem d_Bk_kindOf_0 : decode prog_2_method_9_code 0 = .ok (.aload_n 0, 1) := by decide +kernel
theorem d_Bk_kindOf_1 : decode prog_2_method_9_code 1 = .ok (.iload_n 1, 1) := by decide +kernel
theorem d_Bk_kindOf_2 : decode prog_2_method_9_code 2 = .ok (.invokevirtual 62, 3) := by decide +kernel
theorem d_Bk_kindOf_5 : decode prog_2_method_9_code 5 = .ok (.ifCond .eq 14, 3) := by decide +kernel
theorem d_Bk_kindOf_8 : decode prog_2_method_9_code 8 = .ok (.aload_n 0, 1) := by decide +kernel
theorem d_Bk_kindOf_9 : decode prog_2_method_9_code 9 = .ok (.getfield 15, 3) := by decide +kernel
theorem d_Bk_kindOf_12 : decode prog_2_method_9_code 12 = .ok (.iload_n 1, 1) := by decide +kernel
theorem d_Bk_kindOf_13 : decode prog_2_method_9_code 13 = .ok (.iconst 4, 1) := by decide +kernel
theorem d_Bk_kindOf_14 : decode prog_2_method_9_code 14 = .ok (.idiv, 1) := by decide +kernel
theorem d_Bk_kindOf_15 : decode prog_2_method_9_code 15 = .ok (.baload, 1) := by decide +kernel
theorem d_Bk_kindOf_16 : decode prog_2_method_9_code 16 = .ok (.goto 4, 3) := by decide +kernel
theorem d_Bk_kindOf_19 : decode prog_2_method_9_code 19 = .ok (.iconst 0, 1) := by decide +kernel
theorem d_Bk_kindOf_20 : decode prog_2_method_9_code 20 = .ok (.ireturn, 1) := by decide +kernel
def f_Bk_kindOf (μ : zM) (a1 : Int32) (K : Int32 → zM → Prop) : Prop := f_Bk_isInside μ a1 (fun r2 μ1 => ((r2 = 0 → (K (0 : Int32) μ1)) ∧ (¬ r2 = 0 → (vp_in (a1 / (4 : Int32)) 1024 ∧ (K (μ1 4 (a1 / (4 : Int32)).toNatClampNeg) μ1)))))
set_option maxHeartbeats 4000000 in
set_option maxRecDepth 100000 in
theorem c_Bk_kindOf (l : Launch) (E : zE) (μ : zM) (a1 : Int32) (K : Int32 → zM → Prop) (h : f_Bk_kindOf μ a1 K) : Met l y_Bk_kindOf (Cond.code y_Bk_kindOf prog_2_method_9_code 2 (some .int) :: zT) { frames := 1, cells := 0, slots := 0, locals := 21 } (va_Pc [.ref (E.2.1 2), .int a1] (zR E μ)) (va_Qi K (zR E) (zA E)) 0 0 (zA E) := by
  refine z_head (by decide) (Nat.le_of_ble_eq_true rfl) ?_
  intro p e s m below meth c X hr hlk w ls hl
  have X : zX E p s m _ c prog_2_method_9_code "BeatHeap$Blocks" 2 := X
  have hx := X.1
  have hb := X.2.1
  have hl : lv_has ls 2 [(0, .ref (E.2.1 2)), (1, .int a1)] := hl
  unfold f_Bk_kindOf at h
  refine lv_aload_n hx hb d_Bk_kindOf_0 rfl (lv_at hl 0 rfl) ?_
  refine lv_iload_n hx hb d_Bk_kindOf_1 rfl (lv_at hl 1 rfl) ?_
  refine z_cVi (As := [.int a1]) (rest := []) (q0 := 2) (ci := 0) X w (c_Bk_isInside l E μ a1 _ h) rfl rfl rfl w_ml_Bk_62 ⟨w_im_Bk_isInside, w_se_Bk_isInside⟩ w_in_Bk w_co_Bk_isInside q_Bk_isInside.1 q_Bk_isInside.2 rfl ⟨Nat.le_of_ble_eq_true rfl, Nat.le_of_ble_eq_true rfl⟩ ⟨Nat.zero_le _, Nat.zero_le _⟩ hl.1 rfl (Nat.le_of_ble_eq_true rfl) d_Bk_kindOf_2 (fun r2 μ1 H locs h w => ?_)
  refine lv_if_eq (tgt := 19) hx hb d_Bk_kindOf_5 (by decide) (fun c3 => ?_) (fun c3 => ?_)
  · have h := h.1 c3
    refine lv_iconst (v := 0) hx hb d_Bk_kindOf_19 (by decide) ?_
    exact z_iret X hr hlk w h d_Bk_kindOf_20
  · have h := h.2 c3
    refine lv_aload_n hx hb d_Bk_kindOf_8 rfl (lv_at hl 0 rfl) ?_
    refine gt_2_1 X w w_fl_Bk_15 d_Bk_kindOf_9 ?_
    refine lv_iload_n hx hb d_Bk_kindOf_12 rfl (lv_at hl 1 rfl) ?_
    refine lv_iconst (v := 4) hx hb d_Bk_kindOf_13 (by decide) ?_
    refine lv_idiv hx hb d_Bk_kindOf_14 (by decide) ?_
    obtain ⟨hi4, h⟩ := h
    refine al_4 X w hi4 d_Bk_kindOf_15 ?_
    refine lv_goto (tgt := 20) hx hb d_Bk_kindOf_16 (by decide) ?_
    exact z_iret X hr hlk w h d_Bk_kindOf_20
theorem q_Bk_firstVacant : (y_Bk_firstVacant.cls ≠ "java/lang/invoke/MethodHandle" ∧ y_Bk_firstVacant.cls ≠ "java/lang/invoke/VarHandle") ∧ (parseMethodDescriptor y_Bk_firstVacant.desc).map (fun d => d.parameters.length) = some 1 := by decide +kernel
theorem d_Bk_firstVacant_0 : decode prog_2_method_20_code 0 = .ok (.aload_n 0, 1) := by decide +kernel
theorem d_Bk_firstVacant_1 : decode prog_2_method_20_code 1 = .ok (.iload_n 1, 1) := by decide +kernel
theorem d_Bk_firstVacant_2 : decode prog_2_method_20_code 2 = .ok (.invokevirtual 74, 3) := by decide +kernel
theorem d_Bk_firstVacant_5 : decode prog_2_method_20_code 5 = .ok (.ifCond .ne 5, 3) := by decide +kernel
theorem d_Bk_firstVacant_8 : decode prog_2_method_20_code 8 = .ok (.iconst (-1), 1) := by decide +kernel
theorem d_Bk_firstVacant_9 : decode prog_2_method_20_code 9 = .ok (.ireturn, 1) := by decide +kernel
theorem d_Bk_firstVacant_10 : decode prog_2_method_20_code 10 = .ok (.aload_n 0, 1) := by decide +kernel
theorem d_Bk_firstVacant_11 : decode prog_2_method_20_code 11 = .ok (.getfield 28, 3) := by decide +kernel
theorem d_Bk_firstVacant_14 : decode prog_2_method_20_code 14 = .ok (.iload_n 1, 1) := by decide +kernel
theorem d_Bk_firstVacant_15 : decode prog_2_method_20_code 15 = .ok (.iaload, 1) := by decide +kernel
theorem d_Bk_firstVacant_16 : decode prog_2_method_20_code 16 = .ok (.invokestatic 86, 3) := by decide +kernel
theorem d_Bk_firstVacant_19 : decode prog_2_method_20_code 19 = .ok (.istore_n 2, 1) := by decide +kernel
theorem d_Bk_firstVacant_20 : decode prog_2_method_20_code 20 = .ok (.iload_n 1, 1) := by decide +kernel
theorem d_Bk_firstVacant_21 : decode prog_2_method_20_code 21 = .ok (.bipush 64, 2) := by decide +kernel
theorem d_Bk_firstVacant_23 : decode prog_2_method_20_code 23 = .ok (.imul, 1) := by decide +kernel
theorem d_Bk_firstVacant_24 : decode prog_2_method_20_code 24 = .ok (.istore_n 3, 1) := by decide +kernel
theorem d_Bk_firstVacant_25 : decode prog_2_method_20_code 25 = .ok (.iload_n 3, 1) := by decide +kernel
theorem d_Bk_firstVacant_26 : decode prog_2_method_20_code 26 = .ok (.iload_n 1, 1) := by decide +kernel
theorem d_Bk_firstVacant_27 : decode prog_2_method_20_code 27 = .ok (.iconst 1, 1) := by decide +kernel
theorem d_Bk_firstVacant_28 : decode prog_2_method_20_code 28 = .ok (.iadd, 1) := by decide +kernel
theorem d_Bk_firstVacant_29 : decode prog_2_method_20_code 29 = .ok (.bipush 64, 2) := by decide +kernel
theorem d_Bk_firstVacant_31 : decode prog_2_method_20_code 31 = .ok (.imul, 1) := by decide +kernel
theorem d_Bk_firstVacant_32 : decode prog_2_method_20_code 32 = .ok (.if_icmp .ge 20, 3) := by decide +kernel
theorem d_Bk_firstVacant_35 : decode prog_2_method_20_code 35 = .ok (.aload_n 0, 1) := by decide +kernel
theorem d_Bk_firstVacant_36 : decode prog_2_method_20_code 36 = .ok (.iload_n 3, 1) := by decide +kernel
theorem d_Bk_firstVacant_37 : decode prog_2_method_20_code 37 = .ok (.invokevirtual 92, 3) := by decide +kernel
theorem d_Bk_firstVacant_40 : decode prog_2_method_20_code 40 = .ok (.ifCond .ne 5, 3) := by decide +kernel
theorem d_Bk_firstVacant_43 : decode prog_2_method_20_code 43 = .ok (.iload_n 3, 1) := by decide +kernel
theorem d_Bk_firstVacant_44 : decode prog_2_method_20_code 44 = .ok (.ireturn, 1) := by decide +kernel
theorem d_Bk_firstVacant_45 : decode prog_2_method_20_code 45 = .ok (.iload_n 3, 1) := by decide +kernel
theorem d_Bk_firstVacant_46 : decode prog_2_method_20_code 46 = .ok (.iload_n 2, 1) := by decide +kernel
theorem d_Bk_firstVacant_47 : decode prog_2_method_20_code 47 = .ok (.iadd, 1) := by decide +kernel
theorem d_Bk_firstVacant_48 : decode prog_2_method_20_code 48 = .ok (.istore_n 3, 1) := by decide +kernel
theorem d_Bk_firstVacant_49 : decode prog_2_method_20_code 49 = .ok (.goto (-24), 3) := by decide +kernel
theorem d_Bk_firstVacant_52 : decode prog_2_method_20_code 52 = .ok (.iconst (-1), 1) := by decide +kernel
theorem d_Bk_firstVacant_53 : decode prog_2_method_20_code 53 = .ok (.ireturn, 1) := by decide +kernel
noncomputable def F_Bk_firstVacant_25 (K : Int32 → zM → Prop) (n : Nat) : Int32 → Int32 → Int32 → zM → Prop := Nat.rec (motive := fun _ => Int32 → Int32 → Int32 → zM → Prop) (fun _ _ _ _ => False) (fun _ ih x1 x2 x3 μ => (((x1 + (1 : Int32)) * (64 : Int32)) ≤ x3 → (K (-1 : Int32) μ)) ∧ (¬ ((x1 + (1 : Int32)) * (64 : Int32)) ≤ x3 → (f_Bk_kindOf μ x3 (fun r10 μ9 => ((¬ r10 = 0 → (∀ x12 : Int32, x12 = (x3 + x2) → (ih x1 x2 x12 μ9))) ∧ (r10 = 0 → (K x3 μ9))))))) n
def f_Bk_firstVacant (μ : zM) (a1 : Int32) (K : Int32 → zM → Prop) : Prop := f_Bk_isPage μ a1 (fun r2 μ1 => ((¬ r2 = 0 → (vp_in a1 64 ∧ (f_Bh_blockWords μ1 (μ1 8 a1.toNatClampNeg) (fun r6 μ5 => (∀ x7 : Int32, x7 = (a1 * (64 : Int32)) → (∃ n : Nat, F_Bk_firstVacant_25 K n a1 r6 x7 μ5)))))) ∧ (r2 = 0 → (K (-1 : Int32) μ1))))
set_option maxHeartbeats 4000000 in
set_option maxRecDepth 100000 in
theorem L_Bk_firstVacant_25 {p : Program} {l : Launch} {e : Env} {s : State} {m : MethodId} {args : Array Value} {below : List Frame} {meth : Method} {c : Code} {E : zE} (X : zX E p s m args c prog_2_method_20_code "BeatHeap$Blocks" 4) (hr : meth.sig.returnType = (some .int)) (hlk : meth.locks = false) (K : Int32 → zM → Prop) : ∀ (n : Nat) (x1 x2 x3 : Int32) (μ : zM) (H : Heap) (locs : List Loc) (ls : Array Slot), F_Bk_firstVacant_25 K n x1 x2 x3 μ → zW E s μ H locs → lv_has ls 4 [(0, .ref (E.2.1 2)), (1, .int x1), (2, .int x2), (3, .int x3)] → W p l e { frames := 2, cells := 0, slots := 0, locals := 42 } s m args below meth c H locs 0 0 (MQ below (va_Qi K (zR E) (zA E)) args s 0 0 (zA E)) (F0 m 25 ls []) := by
  have hx := X.1
  have hb := X.2.1
  intro n
  induction n with
  | zero => intro x1 x2 x3 μ H locs ls h; exact False.elim h
  | succ n ih =>
    intro x1 x2 x3 μ H locs ls h w hl
    refine lv_iload_n hx hb d_Bk_firstVacant_25 rfl (lv_at hl 3 rfl) ?_
    refine lv_iload_n hx hb d_Bk_firstVacant_26 rfl (lv_at hl 1 rfl) ?_
    refine lv_iconst (v := 1) hx hb d_Bk_firstVacant_27 (by decide) ?_
    refine lv_iadd hx hb d_Bk_firstVacant_28 ?_
    refine lv_bipush (v := 64) hx hb d_Bk_firstVacant_29 (by decide) ?_
    refine lv_imul hx hb d_Bk_firstVacant_31 ?_
    refine lv_icmp_ge (tgt := 52) hx hb d_Bk_firstVacant_32 (by decide) (fun c8 => ?_) (fun c8 => ?_)
    · have h := h.1 c8
      refine lv_iconst (v := (-1)) hx hb d_Bk_firstVacant_52 (by decide) ?_
      exact z_iret X hr hlk w h d_Bk_firstVacant_53
    · have h := h.2 c8
      refine lv_aload_n hx hb d_Bk_firstVacant_35 rfl (lv_at hl 0 rfl) ?_
      refine lv_iload_n hx hb d_Bk_firstVacant_36 rfl (lv_at hl 3 rfl) ?_
      refine z_cVi (As := [.int x3]) (rest := []) (q0 := 2) (ci := 0) X w (c_Bk_kindOf l E μ x3 _ h) rfl rfl rfl w_ml_Bk_92 ⟨w_im_Bk_kindOf, w_se_Bk_kindOf⟩ w_in_Bk w_co_Bk_kindOf q_Bk_kindOf.1 q_Bk_kindOf.2 rfl ⟨Nat.le_of_ble_eq_true rfl, Nat.le_of_ble_eq_true rfl⟩ ⟨Nat.zero_le _, Nat.zero_le _⟩ hl.1 rfl (Nat.le_of_ble_eq_true rfl) d_Bk_firstVacant_37 (fun r10 μ9 H locs h w => ?_)
      refine lv_if_ne (tgt := 45) hx hb d_Bk_firstVacant_40 (by decide) (fun c11 => ?_) (fun c11 => ?_)
      · have h := h.1 c11
        refine lv_iload_n hx hb d_Bk_firstVacant_45 rfl (lv_at hl 3 rfl) ?_
        refine lv_iload_n hx hb d_Bk_firstVacant_46 rfl (lv_at hl 2 rfl) ?_
        refine lv_iadd hx hb d_Bk_firstVacant_47 ?_
        refine lv_topi (fun x12 ex12 => ?_)
        have h := h x12 ex12
        refine lv_istore_n (lv' := [(3, .int x12), (0, .ref (E.2.1 2)), (1, .int x1), (2, .int x2)]) hx hb d_Bk_firstVacant_48 rfl hl (by decide) rfl (fun ls hl => ?_)
        refine lv_goto (tgt := 25) hx hb d_Bk_firstVacant_49 (by decide) ?_
        exact ih x1 x2 x12 μ9 _ _ _ h w (lv_sub hl [1, 2, 3, 0] rfl)
      · have h := h.2 c11
        refine lv_iload_n hx hb d_Bk_firstVacant_43 rfl (lv_at hl 3 rfl) ?_
        exact z_iret X hr hlk w h d_Bk_firstVacant_44

set_option maxHeartbeats 4000000 in
set_option maxRecDepth 100000 in
theorem c_Bk_firstVacant (l : Launch) (E : zE) (μ : zM) (a1 : Int32) (K : Int32 → zM → Prop) (h : f_Bk_firstVacant μ a1 K) : Met l y_Bk_firstVacant (Cond.code y_Bk_firstVacant prog_2_method_20_code 4 (some .int) :: zT) { frames := 2, cells := 0, slots := 0, locals := 42 } (va_Pc [.ref (E.2.1 2), .int a1] (zR E μ)) (va_Qi K (zR E) (zA E)) 0 0 (zA E) := by
  refine z_head (by decide) (Nat.le_of_ble_eq_true rfl) ?_
  intro p e s m below meth c X hr hlk w ls hl
  have X : zX E p s m _ c prog_2_method_20_code "BeatHeap$Blocks" 4 := X
  have hx := X.1
  have hb := X.2.1
  have hl : lv_has ls 4 [(0, .ref (E.2.1 2)), (1, .int a1)] := hl
  unfold f_Bk_firstVacant at h
  refine lv_aload_n hx hb d_Bk_firstVacant_0 rfl (lv_at hl 0 rfl) ?_
  refine lv_iload_n hx hb d_Bk_firstVacant_1 rfl (lv_at hl 1 rfl) ?_
  refine z_cVi (As := [.int a1]) (rest := []) (q0 := 2) (ci := 0) X w (c_Bk_isPage l E μ a1 _ h) rfl rfl rfl w_ml_Bk_74 ⟨w_im_Bk_isPage, w_se_Bk_isPage⟩ w_in_Bk w_co_Bk_isPage q_Bk_isPage.1 q_Bk_isPage.2 rfl ⟨Nat.le_of_ble_eq_true rfl, Nat.le_of_ble_eq_true rfl⟩ ⟨Nat.zero_le _, Nat.zero_le _⟩ hl.1 rfl (Nat.le_of_ble_eq_true rfl) d_Bk_firstVacant_2 (fun r2 μ1 H locs h w => ?_)
  refine lv_if_ne (tgt := 10) hx hb d_Bk_firstVacant_5 (by decide) (fun c3 => ?_) (fun c3 => ?_)
  · have h := h.1 c3
    refine lv_aload_n hx hb d_Bk_firstVacant_10 rfl (lv_at hl 0 rfl) ?_
    refine gt_2_5 X w w_fl_Bk_28 d_Bk_firstVacant_11 ?_
    refine lv_iload_n hx hb d_Bk_firstVacant_14 rfl (lv_at hl 1 rfl) ?_
    obtain ⟨hi4, h⟩ := h
    refine al_8 X w hi4 d_Bk_firstVacant_15 ?_
    refine z_cNi (As := [.int (μ1 8 a1.toNatClampNeg)]) (rest := []) X w (c_Bh_blockWords l E μ1 (μ1 8 a1.toNatClampNeg) _ h) w_nm_Bk_86 w_st_Bh_blockWords w_in_Bh w_co_Bh_blockWords q_Bh_blockWords.1 q_Bh_blockWords.2 rfl ⟨Nat.le_of_ble_eq_true rfl, Nat.le_of_ble_eq_true rfl⟩ ⟨Nat.zero_le _, Nat.zero_le _⟩ hl.1 rfl (Nat.le_of_ble_eq_true rfl) d_Bk_firstVacant_16 (fun r6 μ5 H locs h w => ?_)
    refine lv_istore_n (lv' := [(2, .int r6), (0, .ref (E.2.1 2)), (1, .int a1)]) hx hb d_Bk_firstVacant_19 rfl hl (by decide) rfl (fun ls hl => ?_)
    refine lv_iload_n hx hb d_Bk_firstVacant_20 rfl (lv_at hl 2 rfl) ?_
    refine lv_bipush (v := 64) hx hb d_Bk_firstVacant_21 (by decide) ?_
    refine lv_imul hx hb d_Bk_firstVacant_23 ?_
    refine lv_topi (fun x7 ex7 => ?_)
    have h := h x7 ex7
    refine lv_istore_n (lv' := [(3, .int x7), (2, .int r6), (0, .ref (E.2.1 2)), (1, .int a1)]) hx hb d_Bk_firstVacant_24 rfl hl (by decide) rfl (fun ls hl => ?_)
    obtain ⟨n, h⟩ := h
    exact L_Bk_firstVacant_25 X hr hlk K n a1 r6 x7 μ5 _ _ _ h w (lv_sub hl [2, 3, 1, 0] rfl)
  · have h := h.2 c3
    refine lv_iconst (v := (-1)) hx hb d_Bk_firstVacant_8 (by decide) ?_
    exact z_iret X hr hlk w h d_Bk_firstVacant_9
end
