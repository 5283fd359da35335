section
-- ===== PART A: goes FIRST, ahead of the names: the tables' words, and 'selects' of the private methods out of them =====
/-- a private method of a class that the tables say can be made, by its rows of tables_1 -/
def lw_okq (q : MethodName × Nat) : Prop := (q.1.cls ≠ "java/lang/invoke/MethodHandle" ∧ q.1.cls ≠ "java/lang/invoke/VarHandle") ∧ Cond.instantiable q.1.cls q.2 ∈ tables_1 ∧ Cond.privateMethod q.1 ∈ tables_1 ∧ Cond.instanceMethod q.1 ∈ tables_1
theorem lw_p0 : lw_okq (⟨"TwinVolumes", "find", "(I)LTwinVolumes$Volume;"⟩, 7) := ⟨⟨by decide +kernel, by decide +kernel⟩, List.mem_of_getElem? (i := 20) (by decide +kernel), List.mem_of_getElem? (i := 227) (by decide +kernel), List.mem_of_getElem? (i := 228) (by decide +kernel)⟩
theorem lw_p1 : lw_okq (⟨"TwinVolumes", "receivingOf", "(I)LTwinVolumes$Receiving;"⟩, 7) := ⟨⟨by decide +kernel, by decide +kernel⟩, List.mem_of_getElem? (i := 20) (by decide +kernel), List.mem_of_getElem? (i := 322) (by decide +kernel), List.mem_of_getElem? (i := 323) (by decide +kernel)⟩
theorem lw_p2 : lw_okq (⟨"java/lang/Throwable", "fillInStackTrace", "(I)Ljava/lang/Throwable;"⟩, 6) := ⟨⟨by decide +kernel, by decide +kernel⟩, List.mem_of_getElem? (i := 397) (by decide +kernel), List.mem_of_getElem? (i := 395) (by decide +kernel), List.mem_of_getElem? (i := 396) (by decide +kernel)⟩
theorem lw_p3 : lw_okq (⟨"TwinVolumes$Volume", "newBlocksWanted", "(III)I"⟩, 6) := ⟨⟨by decide +kernel, by decide +kernel⟩, List.mem_of_getElem? (i := 64) (by decide +kernel), List.mem_of_getElem? (i := 441) (by decide +kernel), List.mem_of_getElem? (i := 442) (by decide +kernel)⟩
theorem lw_p4 : lw_okq (⟨"TwinVolumes$Blocks", "takeLeastFree", "()I"⟩, 10) := ⟨⟨by decide +kernel, by decide +kernel⟩, List.mem_of_getElem? (i := 70) (by decide +kernel), List.mem_of_getElem? (i := 460) (by decide +kernel), List.mem_of_getElem? (i := 461) (by decide +kernel)⟩
theorem lw_p5 : lw_okq (⟨"TwinVolumes$Volume", "slotToLevel", "(III)I"⟩, 6) := ⟨⟨by decide +kernel, by decide +kernel⟩, List.mem_of_getElem? (i := 64) (by decide +kernel), List.mem_of_getElem? (i := 499) (by decide +kernel), List.mem_of_getElem? (i := 500) (by decide +kernel)⟩
theorem lw_p6 : lw_okq (⟨"TwinVolumes$Volume", "makeHoleIfEmpty", "(I)V"⟩, 6) := ⟨⟨by decide +kernel, by decide +kernel⟩, List.mem_of_getElem? (i := 64) (by decide +kernel), List.mem_of_getElem? (i := 504) (by decide +kernel), List.mem_of_getElem? (i := 505) (by decide +kernel)⟩
theorem lw_p7 : lw_okq (⟨"TwinVolumes$StreamBytes", "addNumber", "(JI)V"⟩, 2) := ⟨⟨by decide +kernel, by decide +kernel⟩, List.mem_of_getElem? (i := 28) (by decide +kernel), List.mem_of_getElem? (i := 629) (by decide +kernel), List.mem_of_getElem? (i := 630) (by decide +kernel)⟩
theorem lw_p8 : lw_okq (⟨"TwinVolumes$StreamBytes", "sumOf", "(II)J"⟩, 2) := ⟨⟨by decide +kernel, by decide +kernel⟩, List.mem_of_getElem? (i := 28) (by decide +kernel), List.mem_of_getElem? (i := 637) (by decide +kernel), List.mem_of_getElem? (i := 638) (by decide +kernel)⟩
theorem lw_p9 : lw_okq (⟨"TwinVolumes$Receiving", "takeRecord", "()I"⟩, 5) := ⟨⟨by decide +kernel, by decide +kernel⟩, List.mem_of_getElem? (i := 171) (by decide +kernel), List.mem_of_getElem? (i := 715) (by decide +kernel), List.mem_of_getElem? (i := 716) (by decide +kernel)⟩
theorem lw_p10 : lw_okq (⟨"TwinVolumes$Receiving", "takeWrite", "()I"⟩, 5) := ⟨⟨by decide +kernel, by decide +kernel⟩, List.mem_of_getElem? (i := 171) (by decide +kernel), List.mem_of_getElem? (i := 722) (by decide +kernel), List.mem_of_getElem? (i := 723) (by decide +kernel)⟩
theorem lw_p11 : lw_okq (⟨"TwinVolumes$Receiving", "takeClear", "()I"⟩, 5) := ⟨⟨by decide +kernel, by decide +kernel⟩, List.mem_of_getElem? (i := 171) (by decide +kernel), List.mem_of_getElem? (i := 728) (by decide +kernel), List.mem_of_getElem? (i := 729) (by decide +kernel)⟩
theorem lw_p12 : lw_okq (⟨"TwinVolumes$Receiving", "takeEnd", "()I"⟩, 5) := ⟨⟨by decide +kernel, by decide +kernel⟩, List.mem_of_getElem? (i := 171) (by decide +kernel), List.mem_of_getElem? (i := 733) (by decide +kernel), List.mem_of_getElem? (i := 734) (by decide +kernel)⟩
theorem lw_p13 : lw_okq (⟨"TwinVolumesModel", "fresh", "(II)V"⟩, 27) := ⟨⟨by decide +kernel, by decide +kernel⟩, List.mem_of_getElem? (i := 772) (by decide +kernel), List.mem_of_getElem? (i := 778) (by decide +kernel), List.mem_of_getElem? (i := 779) (by decide +kernel)⟩
theorem lw_p14 : lw_okq (⟨"TwinVolumesModel", "begins", "(I)V"⟩, 27) := ⟨⟨by decide +kernel, by decide +kernel⟩, List.mem_of_getElem? (i := 772) (by decide +kernel), List.mem_of_getElem? (i := 883) (by decide +kernel), List.mem_of_getElem? (i := 884) (by decide +kernel)⟩
theorem lw_p15 : lw_okq (⟨"TwinVolumesModel", "writes", "(IIIJ)I"⟩, 27) := ⟨⟨by decide +kernel, by decide +kernel⟩, List.mem_of_getElem? (i := 772) (by decide +kernel), List.mem_of_getElem? (i := 887) (by decide +kernel), List.mem_of_getElem? (i := 888) (by decide +kernel)⟩
def lw_privs_1 : List (MethodName × Nat) := [(⟨"TwinVolumes", "find", "(I)LTwinVolumes$Volume;"⟩, 7), (⟨"TwinVolumes", "receivingOf", "(I)LTwinVolumes$Receiving;"⟩, 7), (⟨"java/lang/Throwable", "fillInStackTrace", "(I)Ljava/lang/Throwable;"⟩, 6), (⟨"TwinVolumes$Volume", "newBlocksWanted", "(III)I"⟩, 6), (⟨"TwinVolumes$Blocks", "takeLeastFree", "()I"⟩, 10), (⟨"TwinVolumes$Volume", "slotToLevel", "(III)I"⟩, 6), (⟨"TwinVolumes$Volume", "makeHoleIfEmpty", "(I)V"⟩, 6), (⟨"TwinVolumes$StreamBytes", "addNumber", "(JI)V"⟩, 2), (⟨"TwinVolumes$StreamBytes", "sumOf", "(II)J"⟩, 2), (⟨"TwinVolumes$Receiving", "takeRecord", "()I"⟩, 5), (⟨"TwinVolumes$Receiving", "takeWrite", "()I"⟩, 5), (⟨"TwinVolumes$Receiving", "takeClear", "()I"⟩, 5), (⟨"TwinVolumes$Receiving", "takeEnd", "()I"⟩, 5), (⟨"TwinVolumesModel", "fresh", "(II)V"⟩, 27), (⟨"TwinVolumesModel", "begins", "(I)V"⟩, 27), (⟨"TwinVolumesModel", "writes", "(IIIJ)I"⟩, 27)]
theorem lw_r1 : ∀ q ∈ lw_privs_1, lw_okq q := List.forall_mem_cons.mpr ⟨lw_p0, List.forall_mem_cons.mpr ⟨lw_p1, List.forall_mem_cons.mpr ⟨lw_p2, List.forall_mem_cons.mpr ⟨lw_p3, List.forall_mem_cons.mpr ⟨lw_p4, List.forall_mem_cons.mpr ⟨lw_p5, List.forall_mem_cons.mpr ⟨lw_p6, List.forall_mem_cons.mpr ⟨lw_p7, List.forall_mem_cons.mpr ⟨lw_p8, List.forall_mem_cons.mpr ⟨lw_p9, List.forall_mem_cons.mpr ⟨lw_p10, List.forall_mem_cons.mpr ⟨lw_p11, List.forall_mem_cons.mpr ⟨lw_p12, List.forall_mem_cons.mpr ⟨lw_p13, List.forall_mem_cons.mpr ⟨lw_p14, List.forall_mem_cons.mpr ⟨lw_p15, fun _ h => absurd h List.not_mem_nil⟩⟩⟩⟩⟩⟩⟩⟩⟩⟩⟩⟩⟩⟩⟩⟩
theorem lw_p16 : lw_okq (⟨"TwinVolumesModel", "ways", "(III)I"⟩, 27) := ⟨⟨by decide +kernel, by decide +kernel⟩, List.mem_of_getElem? (i := 772) (by decide +kernel), List.mem_of_getElem? (i := 891) (by decide +kernel), List.mem_of_getElem? (i := 892) (by decide +kernel)⟩
theorem lw_p17 : lw_okq (⟨"TwinVolumesModel", "told", "(II)I"⟩, 27) := ⟨⟨by decide +kernel, by decide +kernel⟩, List.mem_of_getElem? (i := 772) (by decide +kernel), List.mem_of_getElem? (i := 895) (by decide +kernel), List.mem_of_getElem? (i := 896) (by decide +kernel)⟩
theorem lw_p18 : lw_okq (⟨"TwinVolumesModel", "wanted", "(III)I"⟩, 27) := ⟨⟨by decide +kernel, by decide +kernel⟩, List.mem_of_getElem? (i := 772) (by decide +kernel), List.mem_of_getElem? (i := 902) (by decide +kernel), List.mem_of_getElem? (i := 903) (by decide +kernel)⟩
theorem lw_p19 : lw_okq (⟨"TwinVolumesModel", "born", "(II)I"⟩, 27) := ⟨⟨by decide +kernel, by decide +kernel⟩, List.mem_of_getElem? (i := 772) (by decide +kernel), List.mem_of_getElem? (i := 906) (by decide +kernel), List.mem_of_getElem? (i := 907) (by decide +kernel)⟩
theorem lw_p20 : lw_okq (⟨"TwinVolumesModel", "freeMany", "(I)I"⟩, 27) := ⟨⟨by decide +kernel, by decide +kernel⟩, List.mem_of_getElem? (i := 772) (by decide +kernel), List.mem_of_getElem? (i := 910) (by decide +kernel), List.mem_of_getElem? (i := 911) (by decide +kernel)⟩
theorem lw_p21 : lw_okq (⟨"TwinVolumesModel", "renews", "(IIII)V"⟩, 27) := ⟨⟨by decide +kernel, by decide +kernel⟩, List.mem_of_getElem? (i := 772) (by decide +kernel), List.mem_of_getElem? (i := 914) (by decide +kernel), List.mem_of_getElem? (i := 915) (by decide +kernel)⟩
theorem lw_p22 : lw_okq (⟨"TwinVolumesModel", "take", "(II)I"⟩, 27) := ⟨⟨by decide +kernel, by decide +kernel⟩, List.mem_of_getElem? (i := 772) (by decide +kernel), List.mem_of_getElem? (i := 918) (by decide +kernel), List.mem_of_getElem? (i := 919) (by decide +kernel)⟩
theorem lw_p23 : lw_okq (⟨"TwinVolumesModel", "point", "(IIII)V"⟩, 27) := ⟨⟨by decide +kernel, by decide +kernel⟩, List.mem_of_getElem? (i := 772) (by decide +kernel), List.mem_of_getElem? (i := 922) (by decide +kernel), List.mem_of_getElem? (i := 923) (by decide +kernel)⟩
theorem lw_p24 : lw_okq (⟨"TwinVolumesModel", "sweeps", "(I)V"⟩, 27) := ⟨⟨by decide +kernel, by decide +kernel⟩, List.mem_of_getElem? (i := 772) (by decide +kernel), List.mem_of_getElem? (i := 926) (by decide +kernel), List.mem_of_getElem? (i := 927) (by decide +kernel)⟩
theorem lw_p25 : lw_okq (⟨"TwinVolumesModel", "isTree", "(II)Z"⟩, 27) := ⟨⟨by decide +kernel, by decide +kernel⟩, List.mem_of_getElem? (i := 772) (by decide +kernel), List.mem_of_getElem? (i := 930) (by decide +kernel), List.mem_of_getElem? (i := 931) (by decide +kernel)⟩
theorem lw_p26 : lw_okq (⟨"TwinVolumesModel", "clears", "(III)I"⟩, 27) := ⟨⟨by decide +kernel, by decide +kernel⟩, List.mem_of_getElem? (i := 772) (by decide +kernel), List.mem_of_getElem? (i := 938) (by decide +kernel), List.mem_of_getElem? (i := 939) (by decide +kernel)⟩
theorem lw_p27 : lw_okq (⟨"TwinVolumesModel", "hasNothing", "(II)Z"⟩, 27) := ⟨⟨by decide +kernel, by decide +kernel⟩, List.mem_of_getElem? (i := 772) (by decide +kernel), List.mem_of_getElem? (i := 942) (by decide +kernel), List.mem_of_getElem? (i := 943) (by decide +kernel)⟩
theorem lw_p28 : lw_okq (⟨"TwinVolumesModel", "isSnap", "(II)Z"⟩, 27) := ⟨⟨by decide +kernel, by decide +kernel⟩, List.mem_of_getElem? (i := 772) (by decide +kernel), List.mem_of_getElem? (i := 950) (by decide +kernel), List.mem_of_getElem? (i := 951) (by decide +kernel)⟩
theorem lw_p29 : lw_okq (⟨"TwinVolumesModel", "snaps", "(IIJ)V"⟩, 27) := ⟨⟨by decide +kernel, by decide +kernel⟩, List.mem_of_getElem? (i := 772) (by decide +kernel), List.mem_of_getElem? (i := 958) (by decide +kernel), List.mem_of_getElem? (i := 959) (by decide +kernel)⟩
theorem lw_p30 : lw_okq (⟨"TwinVolumesModel", "put", "(JI)V"⟩, 27) := ⟨⟨by decide +kernel, by decide +kernel⟩, List.mem_of_getElem? (i := 772) (by decide +kernel), List.mem_of_getElem? (i := 974) (by decide +kernel), List.mem_of_getElem? (i := 975) (by decide +kernel)⟩
theorem lw_p31 : lw_okq (⟨"TwinVolumesModel", "ends", "()V"⟩, 27) := ⟨⟨by decide +kernel, by decide +kernel⟩, List.mem_of_getElem? (i := 772) (by decide +kernel), List.mem_of_getElem? (i := 978) (by decide +kernel), List.mem_of_getElem? (i := 979) (by decide +kernel)⟩
def lw_privs_2 : List (MethodName × Nat) := [(⟨"TwinVolumesModel", "ways", "(III)I"⟩, 27), (⟨"TwinVolumesModel", "told", "(II)I"⟩, 27), (⟨"TwinVolumesModel", "wanted", "(III)I"⟩, 27), (⟨"TwinVolumesModel", "born", "(II)I"⟩, 27), (⟨"TwinVolumesModel", "freeMany", "(I)I"⟩, 27), (⟨"TwinVolumesModel", "renews", "(IIII)V"⟩, 27), (⟨"TwinVolumesModel", "take", "(II)I"⟩, 27), (⟨"TwinVolumesModel", "point", "(IIII)V"⟩, 27), (⟨"TwinVolumesModel", "sweeps", "(I)V"⟩, 27), (⟨"TwinVolumesModel", "isTree", "(II)Z"⟩, 27), (⟨"TwinVolumesModel", "clears", "(III)I"⟩, 27), (⟨"TwinVolumesModel", "hasNothing", "(II)Z"⟩, 27), (⟨"TwinVolumesModel", "isSnap", "(II)Z"⟩, 27), (⟨"TwinVolumesModel", "snaps", "(IIJ)V"⟩, 27), (⟨"TwinVolumesModel", "put", "(JI)V"⟩, 27), (⟨"TwinVolumesModel", "ends", "()V"⟩, 27)]
theorem lw_r2 : ∀ q ∈ lw_privs_2, lw_okq q := List.forall_mem_cons.mpr ⟨lw_p16, List.forall_mem_cons.mpr ⟨lw_p17, List.forall_mem_cons.mpr ⟨lw_p18, List.forall_mem_cons.mpr ⟨lw_p19, List.forall_mem_cons.mpr ⟨lw_p20, List.forall_mem_cons.mpr ⟨lw_p21, List.forall_mem_cons.mpr ⟨lw_p22, List.forall_mem_cons.mpr ⟨lw_p23, List.forall_mem_cons.mpr ⟨lw_p24, List.forall_mem_cons.mpr ⟨lw_p25, List.forall_mem_cons.mpr ⟨lw_p26, List.forall_mem_cons.mpr ⟨lw_p27, List.forall_mem_cons.mpr ⟨lw_p28, List.forall_mem_cons.mpr ⟨lw_p29, List.forall_mem_cons.mpr ⟨lw_p30, List.forall_mem_cons.mpr ⟨lw_p31, fun _ h => absurd h List.not_mem_nil⟩⟩⟩⟩⟩⟩⟩⟩⟩⟩⟩⟩⟩⟩⟩⟩
theorem lw_p32 : lw_okq (⟨"TwinVolumesModel", "sumOf", "(II)J"⟩, 27) := ⟨⟨by decide +kernel, by decide +kernel⟩, List.mem_of_getElem? (i := 772) (by decide +kernel), List.mem_of_getElem? (i := 982) (by decide +kernel), List.mem_of_getElem? (i := 983) (by decide +kernel)⟩
theorem lw_p33 : lw_okq (⟨"TwinVolumesModel", "brings", "(IIIII)Z"⟩, 27) := ⟨⟨by decide +kernel, by decide +kernel⟩, List.mem_of_getElem? (i := 772) (by decide +kernel), List.mem_of_getElem? (i := 987) (by decide +kernel), List.mem_of_getElem? (i := 988) (by decide +kernel)⟩
theorem lw_p34 : lw_okq (⟨"TwinVolumesModel", "isWhole", "(II)Z"⟩, 27) := ⟨⟨by decide +kernel, by decide +kernel⟩, List.mem_of_getElem? (i := 772) (by decide +kernel), List.mem_of_getElem? (i := 998) (by decide +kernel), List.mem_of_getElem? (i := 999) (by decide +kernel)⟩
theorem lw_p35 : lw_okq (⟨"TwinVolumesModel", "number", "(II)J"⟩, 27) := ⟨⟨by decide +kernel, by decide +kernel⟩, List.mem_of_getElem? (i := 772) (by decide +kernel), List.mem_of_getElem? (i := 1002) (by decide +kernel), List.mem_of_getElem? (i := 1003) (by decide +kernel)⟩
theorem lw_p36 : lw_okq (⟨"TwinVolumesModel", "record", "(I)I"⟩, 27) := ⟨⟨by decide +kernel, by decide +kernel⟩, List.mem_of_getElem? (i := 772) (by decide +kernel), List.mem_of_getElem? (i := 1010) (by decide +kernel), List.mem_of_getElem? (i := 1011) (by decide +kernel)⟩
theorem lw_p37 : lw_okq (⟨"TwinVolumesModel", "writesHere", "(I)I"⟩, 27) := ⟨⟨by decide +kernel, by decide +kernel⟩, List.mem_of_getElem? (i := 772) (by decide +kernel), List.mem_of_getElem? (i := 1014) (by decide +kernel), List.mem_of_getElem? (i := 1015) (by decide +kernel)⟩
theorem lw_p38 : lw_okq (⟨"TwinVolumesModel", "clearsHere", "(I)I"⟩, 27) := ⟨⟨by decide +kernel, by decide +kernel⟩, List.mem_of_getElem? (i := 772) (by decide +kernel), List.mem_of_getElem? (i := 1019) (by decide +kernel), List.mem_of_getElem? (i := 1020) (by decide +kernel)⟩
theorem lw_p39 : lw_okq (⟨"TwinVolumesModel", "endsHere", "(I)I"⟩, 27) := ⟨⟨by decide +kernel, by decide +kernel⟩, List.mem_of_getElem? (i := 772) (by decide +kernel), List.mem_of_getElem? (i := 1023) (by decide +kernel), List.mem_of_getElem? (i := 1024) (by decide +kernel)⟩
theorem lw_p40 : lw_okq (⟨"TwinVolumesModel", "stops", "(I)V"⟩, 27) := ⟨⟨by decide +kernel, by decide +kernel⟩, List.mem_of_getElem? (i := 772) (by decide +kernel), List.mem_of_getElem? (i := 1027) (by decide +kernel), List.mem_of_getElem? (i := 1028) (by decide +kernel)⟩
theorem lw_p41 : lw_okq (⟨"TwinVolumesModel", "isBlock", "(II)Z"⟩, 27) := ⟨⟨by decide +kernel, by decide +kernel⟩, List.mem_of_getElem? (i := 772) (by decide +kernel), List.mem_of_getElem? (i := 1056) (by decide +kernel), List.mem_of_getElem? (i := 1057) (by decide +kernel)⟩
def lw_privs_3 : List (MethodName × Nat) := [(⟨"TwinVolumesModel", "sumOf", "(II)J"⟩, 27), (⟨"TwinVolumesModel", "brings", "(IIIII)Z"⟩, 27), (⟨"TwinVolumesModel", "isWhole", "(II)Z"⟩, 27), (⟨"TwinVolumesModel", "number", "(II)J"⟩, 27), (⟨"TwinVolumesModel", "record", "(I)I"⟩, 27), (⟨"TwinVolumesModel", "writesHere", "(I)I"⟩, 27), (⟨"TwinVolumesModel", "clearsHere", "(I)I"⟩, 27), (⟨"TwinVolumesModel", "endsHere", "(I)I"⟩, 27), (⟨"TwinVolumesModel", "stops", "(I)V"⟩, 27), (⟨"TwinVolumesModel", "isBlock", "(II)Z"⟩, 27)]
theorem lw_r3 : ∀ q ∈ lw_privs_3, lw_okq q := List.forall_mem_cons.mpr ⟨lw_p32, List.forall_mem_cons.mpr ⟨lw_p33, List.forall_mem_cons.mpr ⟨lw_p34, List.forall_mem_cons.mpr ⟨lw_p35, List.forall_mem_cons.mpr ⟨lw_p36, List.forall_mem_cons.mpr ⟨lw_p37, List.forall_mem_cons.mpr ⟨lw_p38, List.forall_mem_cons.mpr ⟨lw_p39, List.forall_mem_cons.mpr ⟨lw_p40, List.forall_mem_cons.mpr ⟨lw_p41, fun _ h => absurd h List.not_mem_nil⟩⟩⟩⟩⟩⟩⟩⟩⟩⟩
def lw_privs : List (MethodName × Nat) := lw_privs_1 ++ (lw_privs_2 ++ (lw_privs_3))
def lw_tbl : List Cond := k2_sels lw_privs ++ tables_1
theorem lw_privs_ok : ∀ q ∈ lw_privs, lw_okq q := by
  show ∀ q ∈ lw_privs_1 ++ (lw_privs_2 ++ (lw_privs_3)), lw_okq q
  exact List.forall_mem_append.mpr ⟨lw_r1, List.forall_mem_append.mpr ⟨lw_r2, lw_r3⟩⟩
-- ===== end of PART A; then your names; then what follows =====
end
section
/-! ===== BEGIN words of one list among another's, by their places ===== -/
theorem goodIn_r {big : List Cond} (ws : List Cond) (ps : List Nat) (hp : ws = ps.filterMap (fun i => big[i]?)) (h : ws.all goodWord = true) : GoodIn big ws := by
  intro w hw
  have h1 := List.all_eq_true.mp h w hw
  rw [hp] at hw
  obtain ⟨i, -, hi⟩ := List.mem_filterMap.mp hw
  have hm : w ∈ big := by first | exact List.mem_of_getElem? hi | exact List.getElem?_mem hi
  exact ⟨hm, good_of_word h1⟩
theorem goodIn_app {big a b : List Cond} (ha : GoodIn big a) (hb : GoodIn big b) : GoodIn big (a ++ b) := fun w h => (List.mem_append.mp h).elim (ha w) (hb w)
theorem goodIn_ca {big a b : List Cond} {c : Cond} (ha : GoodIn big (c :: a)) (hb : GoodIn big b) : GoodIn big (c :: (a ++ b)) := fun w h => (List.mem_cons.mp h).elim (fun e => ha w (List.mem_cons.mpr (Or.inl e))) (fun h => (List.mem_append.mp h).elim (fun h => ha w (List.mem_cons.mpr (Or.inr h))) (hb w))
theorem goodIn_sub {big ws : List Cond} (hm : ∀ w ∈ ws, w ∈ big) (h : ws.all goodWord = true) : GoodIn big ws := fun w hw => ⟨hm w hw, good_of_word (List.all_eq_true.mp h w hw)⟩
/-! ===== END ===== -/

/-! ===== BEGIN exceptions that leave a method, and their catching by the caller (launches without stack traces) ===== -/
section VXA
/-! The laws vx_back, vx_callV, vx_callS, vx_callSW, vx_throw0, vx_throwS follow proofs of the library, with one case more: JvmDerived/Free/Laws.lean (Back.of_free), Shelf42/LK1.lean (callV, callS), Shelf/KitTraced.lean (throwNew0V, throwNewS). -/
/-- where a method has thrown q: the class by its name, the cell, what was written, the world -/
def vx_T (XC : String → State → State → Prop) (st : State) (q : Addr) (t : State) (mc ms : Nat) (free : Addr → Prop) : Prop :=
  ∃ (E : String) (ce : Cell) (L : List Loc), XC E st t ∧ t.heap[q]? = some ce ∧ ce.vm = .none ∧ st.vm.findClass E = some ce.cls ∧ st.WarmedH t.vm ∧ st.sameButNew ({ t with vm := st.vm } : State) L mc ms ∧ ∀ z ∈ L, free z.base
def vx_Q (Qc : Array Value → State → Outcome → State → Prop) (XC : String → State → State → Prop) (mc ms : Nat) (free : Addr → Prop) : Array Value → State → Outcome → State → Prop := fun a st o t =>
  (Qc a st o t ∧ ∃ L, FrameEnd st o t L mc ms ∧ ∀ q ∈ L, free q.base) ∨ ∃ q, o = .threw q ∧ vx_T XC st q t mc ms free
/-- a callee that returns or throws -/
def vx_Met (l : Launch) (y : MethodName) (ws : List Cond) (rm : Room) (Pc : Array Value → State → Prop) (Qc : Array Value → State → Outcome → State → Prop) (XC : String → State → State → Prop) (mc ms : Nat) (free : Addr → Prop) : Prop :=
  MetFree l y (headSpec ws rm) Pc (fun _ _ _ _ _ => True) (vx_Q Qc XC mc ms free)
def vx_Post (XC : String → State → State → Prop) (mc ms : Nat) (free : Addr → Prop) : Pt → Array Value → Addr → Pt → Prop := fun A a q B =>
  ∃ (g : JFrame) (mk : MethodId) (t : State) (L : List Loc) (E : String) (ce : Cell), B.U.heap = t.heap ∧ B.U.vm = t.vm ∧ XC E (A.U.calling g mk a) t ∧ t.heap[q]? = some ce ∧ ce.vm = .none ∧ A.U.vm.findClass E = some ce.cls ∧ B.locs = A.locs ++ L ∧ (∀ z ∈ L, free z.base) ∧ B.cells = A.cells + mc ∧ B.slots = A.slots + ms
def vx_Back (l : Launch) (R : Room) (p : Program) (e : Env) (below : List Frame) (s : State) (sargs : Array Value) (y : MethodName) (len W9 : Nat)
    (Pre : Pt → Array Value → Prop) (Post : Pt → Array Value → Option Value → Pt → Prop) (PostX : Pt → Array Value → Addr → Pt → Prop) : Prop :=
  ∀ (m : MethodId) (meth : Method) (c : Code) (A : Pt) (g : JFrame) (ig : Instr) (mk : MethodId) (a : Array Value),
    Stand p l e R s m sargs below meth c A.U A.locs A.cells A.slots → g.method = m → g.locals.size = c.maxLocals → decode c.code g.pc = .ok (ig, len) →
    2 * g.monitorRoom + (g.stack.map fun v => v.category).sum ≤ W9 → A.U.methodNamed? y = some mk → Pre A a →
    (∃ (v : Option Value) (B : Pt), Stand p l e R s m sargs below meth c B.U B.locs B.cells B.slots ∧ Post A a v B ∧
      Steps p.tables e below (doInvoke e (A.U.setTop g) [] mk a).1 (B.U.setTop { g with pc := g.pc + len, stack := v.toList ++ g.stack })) ∨
    (∃ (q : Addr) (B : Pt), Stand p l e R s m sargs below meth c B.U B.locs B.cells B.slots ∧ PostX A a q B ∧
      Steps p.tables e below (doInvoke e (A.U.setTop g) [] mk a).1 ((B.U.setTop g).pushFrame (.throwing q)))
section Payer
variable {l : Launch} {R : Room} {p : Program} {e : Env} {below : List Frame} {s : State} {sargs : Array Value} {y : MethodName} {len W9 : Nat}
theorem vx_back {ws : List Cond} {rm : Room} {Pc : Array Value → State → Prop} {Qc : Array Value → State → Outcome → State → Prop} {XC : String → State → State → Prop} {mc ms : Nat} {free : Addr → Prop} {bytes : ByteArray} {maxL : Nat} {ret : Option FieldType}
    (hM : vx_Met l y ws rm Pc Qc XC mc ms free) (hblind : FrameBlind Pc) (hrc : rm.cells = mc) (hrs : rm.slots = ms)
    (hframes : rm.frames + 1 ≤ R.frames) (hlocals : W9 + (maxL + 11) + rm.locals ≤ R.locals)
    (hws : ∀ w ∈ ws, ∀ a' U, s.WarmedH U.vm → w.before a' U = true) (hcode : Cond.code y bytes maxL ret ∈ ws) (hinit : ∀ a' U, s.WarmedH U.vm → (Cond.initialized y.cls).before a' U = true) :
    vx_Back l R p e below s sargs y len W9 (PreOf R mc ms Pc) (PostOf Qc mc ms free) (vx_Post XC mc ms free) := by
  intro m meth c A g ig mk a X hg hsize hdg hW hn hp
  have h1 : (headSpec ws rm).pre.before a A.U = true := atoms_intro fun w hw => hws w hw _ _ X.warmed
  have h2 : (Cond.code y bytes maxL ret).before a A.U = true := hws _ hcode _ _ X.warmed
  have h3 : (Cond.initialized y.cls).before a A.U = true := hinit _ _ X.warmed
  have h4 : A.cells + (headSpec ws rm).room.cells ≤ R.cells := by rw [show (headSpec ws rm).room.cells = mc from hrc]; exact hp.1
  have h5 : A.slots + (headSpec ws rm).room.slots ≤ R.slots := by rw [show (headSpec ws rm).room.slots = ms from hrs]; exact hp.2.1
  have hPc : Pc a (A.U.calling g mk a) := hblind _ _ _ _ hp.2.2
  obtain ⟨U, Ls, c0, s0⟩ := A
  dsimp only [Pt.U, Pt.locs, Pt.cells, Pt.slots] at h1 h2 h3 h4 h5 X hn hPc ⊢
  obtain ⟨methY, cY, hmY, hcY, -, hlY, -, -, -, -⟩ := Cond.code_spec hn h2
  obtain ⟨kY, hkY, -⟩ := className_of_methodNamed hn
  have hinitY : kY.init = .initialized := Cond.initialized_spec (findClass_of_methodNamed hn) hkY h3
  have h : At U g.method c below := by rw [hg]; exact X.here
  have hlocals9 : W9 + (maxL + 11) + (headSpec ws rm).room.locals ≤ R.locals := hlocals
  have happ : (headSpec ws rm).appliesLoose y e.platform (U.calling g mk a) = true :=
    Spec.appliesLoose_calling (g := g) h hdg hn hkY hinitY
      (X.room_calling (g := g) (R' := (headSpec ws rm).room) hsize hmY hcY hframes (by rw [hlY]; omega) h4 h5) h1
  obtain ⟨mid, hmid⟩ := h.above
  have hfr : (U.setTop g).frames = (.java g :: mid) ++ below := by rw [State.frames_setTop' g h.top, hmid]; rfl
  obtain ⟨o, s₂, hsteps, -, hend, hq⟩ := Steps.callFree hM p X.admits X.cas X.clock (acts := []) hfr happ hPc trivial
  have hq' : vx_Q Qc XC mc ms free a (U.calling g mk a) o s₂ := hq
  rw [State.frames_setTop' g h.top] at hend
  obtain ⟨g₀, hg0⟩ := Option.isSome_iff_exists.mp h.top
  obtain ⟨r, hr⟩ := State.topJava?_eq_some.mp hg0
  have hr' : (({ U with heap := s₂.heap, slotsUsed := s₂.slotsUsed } : State).setVm s₂.vm).frames = .java g₀ :: r := hr
  rcases hq' with ⟨hqc, L, hfe, hL⟩ | ⟨q, rfl, E, ce, L, hx, hce, hcv, hcl, hW₂, hsm, hL⟩
  · obtain ⟨⟨v, rfl⟩, hW₂, e2, q2, q3, q4, q5, q6⟩ := id hfe
    have e3 : s₂ = ({ (U.calling g mk a).setFrames s₂.frames with heap := s₂.heap, slotsUsed := s₂.slotsUsed } : State).setVm s₂.vm := by
      have : s₂ = ({ s₂ with vm := (U.calling g mk a).vm } : State).setVm s₂.vm := rfl
      rw [e2] at this
      exact this
    obtain ⟨c₂, i₂, len₂, hc₂, hd₂, hf₂⟩ := hend
    have hW' : U.WarmedH s₂.vm := hW₂
    have hcc : c₂ = c := by
      have h1 : s₂.code? g.method = U.code? g.method := by
        rw [State.code?_eq, State.code?_eq, hW'.alike.method?]
      exact Option.some.inj (hc₂.symm.trans (h1.trans h.code))
    subst hcc
    have hlen : len₂ = len := by rw [hdg] at hd₂; cases hd₂; rfl
    subst hlen
    have hs₂ : s₂ = (({ U with heap := s₂.heap, slotsUsed := s₂.slotsUsed } : State).setVm s₂.vm).setTop { g with pc := g.pc + len₂, stack := v.toList ++ g.stack } := by
      refine e3.trans ?_
      rw [hf₂, State.calling_eq h.top, State.setFrames_setFrames, State.setTop_of_frames _ hr', hr]
      rfl
    have hsame : U.sameButNew ({ U with heap := s₂.heap, slotsUsed := s₂.slotsUsed } : State) L mc ms := by
      refine ⟨?_, q2, q3, q4, q5, q6⟩
      obtain ⟨t, ht, -⟩ := State.frames_cons hr
      show ({ U with heap := s₂.heap, slotsUsed := s₂.slotsUsed } : State) = { U.setFrames U.frames with heap := s₂.heap, slotsUsed := s₂.slotsUsed }
      rw [State.setFrames_self ht]
    subst hg
    refine Or.inl ⟨v, ⟨(({ U with heap := s₂.heap, slotsUsed := s₂.slotsUsed } : State).setVm s₂.vm), Ls ++ L, c0 + mc, s0 + ms⟩,
      ⟨X.admits, X.cas, X.clock, X.frames, X.room, X.hears, X.method, X.code, (X.here.setHeapUsed s₂.heap s₂.slotsUsed).setVm hW'.alike, X.tail, State.WarmedH.trans X.warmed hW', X.limits, X.bytes, X.same.trans (hsame.setVm s.vm)⟩,
      ⟨g, mk, s₂, L, rfl, rfl, hqc, rfl, hL, rfl, rfl⟩, ?_⟩
    show Steps p.tables e below _ ((({ U with heap := s₂.heap, slotsUsed := s₂.slotsUsed } : State).setVm s₂.vm).setTop { g with pc := g.pc + len₂, stack := v.toList ++ g.stack })
    rw [← hs₂]
    exact hsteps
  · obtain ⟨e2, q2, q3, q4, q5, q6⟩ := id hsm
    have e3 : s₂ = ({ (U.calling g mk a).setFrames s₂.frames with heap := s₂.heap, slotsUsed := s₂.slotsUsed } : State).setVm s₂.vm := by
      have : s₂ = ({ s₂ with vm := (U.calling g mk a).vm } : State).setVm s₂.vm := rfl
      rw [e2] at this
      exact this
    have hf₂ : s₂.frames = .throwing q :: .java g :: U.frames.tail := hend
    have hW' : U.WarmedH s₂.vm := hW₂
    have hs₂ : s₂ = ((({ U with heap := s₂.heap, slotsUsed := s₂.slotsUsed } : State).setVm s₂.vm).setTop g).pushFrame (.throwing q) := by
      refine e3.trans ?_
      rw [hf₂, State.calling_eq h.top, State.setFrames_setFrames, State.pushFrame, State.frames_setTop _ hr', State.setTop_of_frames _ hr', State.setFrames_setFrames, hr]
      rfl
    have hsame : U.sameButNew ({ U with heap := s₂.heap, slotsUsed := s₂.slotsUsed } : State) L mc ms := by
      refine ⟨?_, q2, q3, q4, q5, q6⟩
      obtain ⟨t, ht, -⟩ := State.frames_cons hr
      show ({ U with heap := s₂.heap, slotsUsed := s₂.slotsUsed } : State) = { U.setFrames U.frames with heap := s₂.heap, slotsUsed := s₂.slotsUsed }
      rw [State.setFrames_self ht]
    subst hg
    refine Or.inr ⟨q, ⟨(({ U with heap := s₂.heap, slotsUsed := s₂.slotsUsed } : State).setVm s₂.vm), Ls ++ L, c0 + mc, s0 + ms⟩,
      ⟨X.admits, X.cas, X.clock, X.frames, X.room, X.hears, X.method, X.code, (X.here.setHeapUsed s₂.heap s₂.slotsUsed).setVm hW'.alike, X.tail, State.WarmedH.trans X.warmed hW', X.limits, X.bytes, X.same.trans (hsame.setVm s.vm)⟩,
      ⟨g, mk, s₂, L, E, ce, rfl, rfl, hx, hce, hcv, hcl, rfl, hL, rfl, rfl⟩, ?_⟩
    show Steps p.tables e below _ (((({ U with heap := s₂.heap, slotsUsed := s₂.slotsUsed } : State).setVm s₂.vm).setTop g).pushFrame (.throwing q))
    rw [← hs₂]
    exact hsteps
end Payer
section Calls
variable {p : Program} {l : Launch} {e : Env} {R : Room} {s : State} {m : MethodId} {args : Array Value} {below : List Frame} {meth : Method} {c : Code} {T : State} {locs : List Loc} {cells slots : Nat}
theorem vx_callV (X : Stand p l e R s m args below meth c T locs cells slots) (hexec : p.tables.exec = Jvm.exec) {own C : String} {index : Nat} {y : MethodName} {bytes : ByteArray} {maxL : Nat} {ret : Option FieldType}
    (hown : s.vm.findClass own = some m.cls) (hlink : (Cond.methodLink own index y).before args s = true) (hinst : (Cond.instanceMethod y).before args s = true) (hsel : (Cond.selects C y y).before args s = true)
    (hcode : (Cond.code y bytes maxL ret).before args s = true) (hy : y.cls ≠ "java/lang/invoke/MethodHandle" ∧ y.cls ≠ "java/lang/invoke/VarHandle")
    {W9 : Nat} {Pre : Pt → Array Value → Prop} {Post : Pt → Array Value → Option Value → Pt → Prop} {PostX : Pt → Array Value → Addr → Pt → Prop} (hK : vx_Back l R p e below s args y 3 W9 Pre Post PostX)
    {b : Addr} {cellB : Cell} (hcell : T.heap[b]? = some cellB) (hobj : cellB.vm.isStatics = false) (hcls : s.vm.findClass C = some cellB.cls)
    {g : JFrame} (hg : g.method = m) (hsize : g.locals.size = c.maxLocals) {argsL rest : List Value} (hlen : ∀ sig, parseMethodDescriptor y.desc = some sig → argsL.length = sig.parameters.length)
    (hstack : g.stack = argsL.reverse ++ .ref b :: rest) (hW : 2 * g.monitorRoom + (rest.map fun v => v.category).sum ≤ W9) (hdg : decode c.code g.pc = .ok (.invokevirtual index, 3))
    (hpre : ∀ vm₁, s.WarmedH vm₁ → Pre ⟨T.setVm vm₁, locs, cells, slots⟩ (Value.ref b :: argsL).toArray) :
    (∃ (v : Option Value) (vm₁ : Vm) (B : Pt), s.WarmedH vm₁ ∧ Stand p l e R s m args below meth c B.U B.locs B.cells B.slots ∧ Post ⟨T.setVm vm₁, locs, cells, slots⟩ (Value.ref b :: argsL).toArray v B ∧
      ∀ target, Steps p.tables e below (B.U.setTop { g with pc := g.pc + 3, stack := v.toList ++ rest }) target → Steps p.tables e below (T.setTop g) target) ∨
    (∃ (q : Addr) (vm₁ : Vm) (B : Pt), s.WarmedH vm₁ ∧ Stand p l e R s m args below meth c B.U B.locs B.cells B.slots ∧ PostX ⟨T.setVm vm₁, locs, cells, slots⟩ (Value.ref b :: argsL).toArray q B ∧
      Steps p.tables e below (T.setTop g) ((B.U.setTop { g with stack := rest }).pushFrame (.throwing q))) := by
  obtain ⟨mk, methM, hnamed, hmethM, hstM, habM⟩ := Cond.instanceMethod_spec hinst
  obtain ⟨methM', cM, hmethM', -, -, -, -, -, -, hsigM⟩ := Cond.code_spec hnamed hcode
  cases hmethM.symm.trans hmethM'
  obtain ⟨c2, r2, m2, q1, q2, q3, q4, kP, hkP, hkPi⟩ := Cond.selects_spec hsel
  cases hcls.symm.trans q1
  cases (State.methodFound?_of_named hnamed hy).symm.trans q2
  cases hnamed.symm.trans q3
  have hselP : selectMethod e.platform s.vm cellB.cls mk = .method mk := by rw [Launch.admits_selectMethod X.admits]; exact q4
  obtain ⟨vm₁, X₁, hstep₁⟩ := X.invokevirtual hexec hown hlink hnamed hmethM hstM hkP hkPi hy (a := b) (cell := cellB) hcell
    (fun z h => by rw [h] at hobj; cases hobj) hselP hmethM habM hkP hkPi (g := g) hg (argsL := argsL) (rest := rest) (hlen _ hsigM) hstack hdg
  rcases hK m meth c ⟨T.setVm vm₁, locs, cells, slots⟩ { g with stack := rest } (.invokevirtual index) mk (Value.ref b :: argsL).toArray X₁ hg hsize hdg hW (X₁.named hnamed) (hpre vm₁ X₁.warmed) with ⟨v, B, X', hpost, hsteps⟩ | ⟨q, B, X', hpost, hsteps⟩
  · exact Or.inl ⟨v, vm₁, B, X₁.warmed, X', hpost, fun target h => hstep₁ _ fun acts => by rw [doInvoke_state]; exact hsteps.trans h⟩
  · exact Or.inr ⟨q, vm₁, B, X₁.warmed, X', hpost, hstep₁ _ fun acts => by rw [doInvoke_state]; exact hsteps⟩
theorem vx_callS (X : Stand p l e R s m args below meth c T locs cells slots) (hexec : p.tables.exec = Jvm.exec) {own : String} {index : Nat} {y : MethodName} {bytes : ByteArray} {maxL : Nat} {ret : Option FieldType}
    (hown : s.vm.findClass own = some m.cls) (hlink : (Cond.methodLink own index y).before args s = true) (hstat : (Cond.static y).before args s = true) (hinit : (Cond.initialized y.cls).before args s = true)
    (hcode : (Cond.code y bytes maxL ret).before args s = true) (hy : y.cls ≠ "java/lang/invoke/MethodHandle" ∧ y.cls ≠ "java/lang/invoke/VarHandle")
    {W9 : Nat} {Pre : Pt → Array Value → Prop} {Post : Pt → Array Value → Option Value → Pt → Prop} {PostX : Pt → Array Value → Addr → Pt → Prop} (hK : vx_Back l R p e below s args y 3 W9 Pre Post PostX)
    {g : JFrame} (hg : g.method = m) (hsize : g.locals.size = c.maxLocals) {argsL rest : List Value} (hlen : ∀ sig, parseMethodDescriptor y.desc = some sig → argsL.length = sig.parameters.length)
    (hstack : g.stack = argsL.reverse ++ rest) (hW : 2 * g.monitorRoom + (rest.map fun v => v.category).sum ≤ W9) (hdg : decode c.code g.pc = .ok (.invokestatic index, 3))
    (hpre : ∀ vm₁, s.WarmedH vm₁ → Pre ⟨T.setVm vm₁, locs, cells, slots⟩ argsL.toArray) :
    (∃ (v : Option Value) (vm₁ : Vm) (B : Pt), s.WarmedH vm₁ ∧ Stand p l e R s m args below meth c B.U B.locs B.cells B.slots ∧ Post ⟨T.setVm vm₁, locs, cells, slots⟩ argsL.toArray v B ∧
      ∀ target, Steps p.tables e below (B.U.setTop { g with pc := g.pc + 3, stack := v.toList ++ rest }) target → Steps p.tables e below (T.setTop g) target) ∨
    (∃ (q : Addr) (vm₁ : Vm) (B : Pt), s.WarmedH vm₁ ∧ Stand p l e R s m args below meth c B.U B.locs B.cells B.slots ∧ PostX ⟨T.setVm vm₁, locs, cells, slots⟩ argsL.toArray q B ∧
      Steps p.tables e below (T.setTop g) ((B.U.setTop { g with stack := rest }).pushFrame (.throwing q))) := by
  obtain ⟨mk, hnamed⟩ := Cond.code_named hcode
  obtain ⟨methM, cM, hmethM, -, -, -, -, -, -, hsigM⟩ := Cond.code_spec hnamed hcode
  have hstatic : methM.isStatic = true := Cond.static_spec hnamed hmethM hstat
  obtain ⟨kP, hkP, -⟩ := className_of_methodNamed hnamed
  have hinitP : kP.init = .initialized := Cond.initialized_spec (findClass_of_methodNamed hnamed) hkP hinit
  obtain ⟨vm₁, X₁, hstep₁⟩ := X.invokestatic hexec hown hlink hnamed hmethM hstatic hkP hinitP hy (g := g) hg (argsL := argsL) (rest := rest) (hlen _ hsigM) hstack hdg
  rcases hK m meth c ⟨T.setVm vm₁, locs, cells, slots⟩ { g with stack := rest } (.invokestatic index) mk argsL.toArray X₁ hg hsize hdg hW (X₁.named hnamed) (hpre vm₁ X₁.warmed) with ⟨v, B, X', hpost, hsteps⟩ | ⟨q, B, X', hpost, hsteps⟩
  · exact Or.inl ⟨v, vm₁, B, X₁.warmed, X', hpost, fun target h => hstep₁ _ fun acts => by rw [doInvoke_state]; exact hsteps.trans h⟩
  · exact Or.inr ⟨q, vm₁, B, X₁.warmed, X', hpost, hstep₁ _ fun acts => by rw [doInvoke_state]; exact hsteps⟩
end Calls
theorem vx_cls {s : State} {T : State} {vm₁ : Vm} {E : String} {k : ClassId} (hW : s.WarmedH vm₁) (h : (T.setVm vm₁).vm.findClass E = some k) : s.vm.findClass E = some k := by
  have h1 : vm₁.findClass E = some k := h
  rw [hW.alike.findClass] at h1
  exact h1
/-- the method's frame g, with q thrown over it -/
def vx_W (p : Program) (l : Launch) (e : Env) (R : Room) (s : State) (m : MethodId) (args : Array Value) (below : List Frame) (meth : Method) (c : Code) (H : Heap) (locs : List Loc) (cells slots : Nat) (Q : State → Prop) (g : JFrame) (q : Addr) : Prop :=
  ∀ T : State, T.heap = H → Stand p l e R s m args below meth c T locs cells slots → ∃ t, Steps p.tables e below ((T.setTop g).pushFrame (.throwing q)) t ∧ Q t
def vx_Run (p : Program) (l : Launch) (e : Env) (R : Room) (s : State) (m : MethodId) (args : Array Value) (below : List Frame) (meth : Method) (c : Code) (H : Heap) (locs : List Loc) (cells slots mc ms : Nat) (g : JFrame) (rest : List Value) (Qa : State → Outcome → State → Prop) (XC : String → State → State → Prop) (free : Addr → Prop) : Prop :=
  ∀ T : State, T.heap = H → Stand p l e R s m args below meth c T locs cells slots →
    (∃ (v : Option Value) (st₀ t T' : State) (L : List Loc), st₀.heap = H ∧ Stand p l e R s m args below meth c T' (locs ++ L) (cells + mc) (slots + ms) ∧ (∀ q ∈ L, free q.base) ∧ T'.heap = t.heap ∧ T'.vm = t.vm ∧ Qa st₀ (.returned v) t ∧
      Goes p e below T g T' { g with pc := g.pc + 3, stack := v.toList ++ rest }) ∨
    (∃ (q : Addr) (st₀ t T' : State) (L : List Loc) (E : String) (ce : Cell), st₀.heap = H ∧ Stand p l e R s m args below meth c T' (locs ++ L) (cells + mc) (slots + ms) ∧ (∀ z ∈ L, free z.base) ∧ T'.heap = t.heap ∧ T'.vm = t.vm ∧ XC E st₀ t ∧ t.heap[q]? = some ce ∧ ce.vm = .none ∧ s.vm.findClass E = some ce.cls ∧
      Steps p.tables e below (T.setTop g) ((T'.setTop { g with stack := rest }).pushFrame (.throwing q)))
def vx_X {S : Type} (px : S → Prop) (B : String → S → State → Prop) (A : Nat → Prop) : String → State → State → Prop := fun E st t => ∃ u : S, px u ∧ B E u t ∧ va_F A st t
section Runs
variable {p : Program} {l : Launch} {e : Env} {R : Room} {s : State} {m : MethodId} {args : Array Value} {below : List Frame} {meth : Method} {c : Code} {H : Heap} {locs : List Loc} {cells slots : Nat}
variable {y : MethodName} {bytes cc : ByteArray} {maxL nL mc ms n index : Nat} {ret : Option FieldType} {ws : List Cond} {rm : Room} {Pc : Array Value → State → Prop} {Qc : Array Value → State → Outcome → State → Prop} {XC : String → State → State → Prop} {free : Addr → Prop} {Ts : List Cond} {own C : String} {b : Addr} {As rest : List Value} {g : JFrame}
theorem vx_callBack (cb : CallB R s args own index y bytes maxL ret ws rm mc ms n) (hM : vx_Met l y ws rm Pc Qc XC mc ms free) (hbl : FrameBlind Pc) : vx_Back l R p e below s args y 3 8 (PreOf R mc ms Pc) (PostOf Qc mc ms free) (vx_Post XC mc ms free) := by
  obtain ⟨hrc, hrs, hfr, hlo, hws, hcw, -, hini, -⟩ := cb
  exact vx_back (bytes := bytes) (maxL := maxL) (ret := ret) hM hbl hrc hrs hfr hlo hws hcw (fun a' U hW => word_at hW (Or.inl (by first | rfl | simp [Cond.onTables, Cond.keeps, Cond.steady])) hini)
theorem vx_runV (S : CallFix p m c cc nL s args Ts own) (hM : vx_Met l y ws rm Pc Qc XC mc ms free) (cw : CallW R s args own C index y bytes maxL ret ws rm mc ms n) (hp : PreV s H C b Pc As)
    (hg : g.method = m) (hn : As.length = n) (hsize : g.locals.size = nL) (hstack : g.stack = As.reverse ++ .ref b :: rest) (hW : 2 * g.monitorRoom + (rest.map fun v => v.category).sum ≤ 8) (hdg : decode cc g.pc = .ok (.invokevirtual index, 3)) (hf : cells + mc ≤ R.cells ∧ slots + ms ≤ R.slots) :
    vx_Run p l e R s m args below meth c H locs cells slots mc ms g rest (Qc (Value.ref b :: As).toArray) XC free := by
  have hK : vx_Back l R p e below s args y 3 8 (PreOf R mc ms Pc) (PostOf Qc mc ms free) (vx_Post XC mc ms free) := vx_callBack cw.1 hM hp.1
  obtain ⟨⟨-, -, -, -, -, -, hcode, -, hy, hlen, hl⟩, hin, hse⟩ := cw
  obtain ⟨hx, hb, hml, ho, -⟩ := S
  obtain ⟨-, ⟨cellB, hcB, hoB, hclB⟩, hPc⟩ := hp
  intro T hT X
  rcases vx_callV X hx (C := C) (bytes := bytes) (maxL := maxL) (ret := ret) ho hl hin hse hcode hy hK (by rw [hT]; exact hcB) hoB hclB hg (hsize.trans hml.symm) (argsL := As) (rest := rest) (fun sig h => hn.trans (hlen sig h)) hstack hW (by rw [hb]; exact hdg)
    (fun vm₁ hW₁ => ⟨hf.1, hf.2, hPc (T.setVm vm₁) hT hW₁⟩) with ⟨v, vm₁, ⟨U', l2, c2, s2⟩, hW₁, X', ⟨g', mk, t, L, e1, e2, hq, h1, hL, h2, h3⟩, st⟩ | ⟨q, vm₁, ⟨U', l2, c2, s2⟩, hW₁, X', ⟨g', mk, t, L, E, ce, e1, e2, hq, hce, hcv, hcl, h1, hL, h2, h3⟩, st⟩
  · dsimp only [Pt.U, Pt.locs, Pt.cells, Pt.slots] at X' e1 e2 h1 h2 h3 st
    subst h1; subst h2; subst h3
    exact Or.inl ⟨v, (T.setVm vm₁).calling g' mk (Value.ref b :: As).toArray, t, U', L, hT, X', hL, e1, e2, hq, st⟩
  · dsimp only [Pt.U, Pt.locs, Pt.cells, Pt.slots] at X' e1 e2 h1 h2 h3 st hcl
    subst h1; subst h2; subst h3
    exact Or.inr ⟨q, (T.setVm vm₁).calling g' mk (Value.ref b :: As).toArray, t, U', L, E, ce, hT, X', hL, e1, e2, hq, hce, hcv, vx_cls hW₁ hcl, st⟩
theorem vx_runS (S : CallFix p m c cc nL s args Ts own) (hM : vx_Met l y ws rm Pc Qc XC mc ms free) (cw : CallB R s args own index y bytes maxL ret ws rm mc ms n ∧ (Cond.static y).before args s = true) (hp : PreS s H Pc As)
    (hg : g.method = m) (hn : As.length = n) (hsize : g.locals.size = nL) (hstack : g.stack = As.reverse ++ rest) (hW : 2 * g.monitorRoom + (rest.map fun v => v.category).sum ≤ 8) (hdg : decode cc g.pc = .ok (.invokestatic index, 3)) (hf : cells + mc ≤ R.cells ∧ slots + ms ≤ R.slots) :
    vx_Run p l e R s m args below meth c H locs cells slots mc ms g rest (Qc As.toArray) XC free := by
  have hK : vx_Back l R p e below s args y 3 8 (PreOf R mc ms Pc) (PostOf Qc mc ms free) (vx_Post XC mc ms free) := vx_callBack cw.1 hM hp.1
  obtain ⟨⟨-, -, -, -, -, -, hcode, hini, hy, hlen, hl⟩, hstt⟩ := cw
  obtain ⟨hx, hb, hml, ho, -⟩ := S
  intro T hT X
  rcases vx_callS X hx (bytes := bytes) (maxL := maxL) (ret := ret) ho hl hstt hini hcode hy hK hg (hsize.trans hml.symm) (argsL := As) (rest := rest) (fun sig h => hn.trans (hlen sig h)) hstack hW (by rw [hb]; exact hdg)
    (fun vm₁ hW₁ => ⟨hf.1, hf.2, hp.2 (T.setVm vm₁) hT hW₁⟩) with ⟨v, vm₁, ⟨U', l2, c2, s2⟩, hW₁, X', ⟨g', mk, t, L, e1, e2, hq, h1, hL, h2, h3⟩, st⟩ | ⟨q, vm₁, ⟨U', l2, c2, s2⟩, hW₁, X', ⟨g', mk, t, L, E, ce, e1, e2, hq, hce, hcv, hcl, h1, hL, h2, h3⟩, st⟩
  · dsimp only [Pt.U, Pt.locs, Pt.cells, Pt.slots] at X' e1 e2 h1 h2 h3 st
    subst h1; subst h2; subst h3
    exact Or.inl ⟨v, (T.setVm vm₁).calling g' mk As.toArray, t, U', L, hT, X', hL, e1, e2, hq, st⟩
  · dsimp only [Pt.U, Pt.locs, Pt.cells, Pt.slots] at X' e1 e2 h1 h2 h3 st hcl
    subst h1; subst h2; subst h3
    exact Or.inr ⟨q, (T.setVm vm₁).calling g' mk As.toArray, t, U', L, E, ce, hT, X', hL, e1, e2, hq, hce, hcv, vx_cls hW₁ hcl, st⟩
end Runs
section Rows
variable {p : Program} {l : Launch} {e : Env} {R : Room} {s : State} {m : MethodId} {args : Array Value} {below : List Frame} {meth : Method} {c : Code} {H : Heap} {locs : List Loc} {cells slots : Nat} {Q : State → Prop}
variable {mc ms : Nat} {free : Addr → Prop} {A0 A1 : Nat → Prop} {H0 : Heap} {a : Array Value} {pc : Nat} {ls : Array Slot} {st0 rest : List Value}
theorem vx_keep {st₀ t T' : State} {L : List Loc} (h0 : st₀.heap = H) (e1 : T'.heap = t.heap) (hS : va_S A0 H0 H locs) (hA : ∀ q, q < H.size → A1 q → A0 q) (hf : ∀ q, free q → A0 q) (hL : ∀ q ∈ L, free q.base) (hF : va_F A1 st₀ t) :
    H.size ≤ T'.heap.size ∧ (∀ q : Nat, q < H.size → ¬ A1 q → T'.heap[q]? = H[q]?) ∧ va_S A0 H0 T'.heap (locs ++ L) := by
  obtain ⟨hz, hk⟩ := hF
  rw [h0] at hz hk
  exact ⟨by rw [e1]; exact hz, fun q h1 h2 => by rw [e1]; exact hk q h1 h2,
    ⟨Nat.le_trans hS.1 (by rw [e1]; exact hz), fun q h1 h2 => by rw [e1, hk q (Nat.lt_of_lt_of_le h1 hS.1) (fun z => h2 (hA q (Nat.lt_of_lt_of_le h1 hS.1) z))]; exact hS.2.1 q h1 h2, fun q hq => by
      rcases List.mem_append.mp hq with h | h
      · exact hS.2.2 q h
      · exact hf _ (hL q h)⟩⟩
theorem vx_calli {S SX : Type} {post : Int32 → S → Prop} {px : SX → Prop} {B : S → State → Prop} {BX : String → SX → State → Prop} {AX : Nat → Prop} (hr : vx_Run p l e R s m args below meth c H locs cells slots mc ms (F0 m pc ls st0) rest (va_Qi post B A1 a) (vx_X px BX AX) free) (hS : va_S A0 H0 H locs) (hA : ∀ q, q < H.size → A1 q → A0 q) (hf : ∀ q, free q → A0 q) (hAX : ∀ q, q < H.size → AX q → A0 q)
    (kx : ∀ (E : String) (ce : Cell) (q9 : Addr) (u : SX) (t : State) (H1 : Heap) (locs1 : List Loc), t.heap = H1 → s.vm.Alike t.vm → px u → BX E u t → H.size ≤ H1.size → (∀ q : Nat, q < H.size → ¬ AX q → H1[q]? = H[q]?) → va_S A0 H0 H1 locs1 → H1[q9]? = some ce → ce.vm = .none → s.vm.findClass E = some ce.cls → vx_W p l e R s m args below meth c H1 locs1 (cells + mc) (slots + ms) Q (F0 m pc ls rest) q9)
    (kk : ∀ (r : Int32) (u : S) (t : State) (H1 : Heap) (locs1 : List Loc), t.heap = H1 → s.vm.Alike t.vm → post r u → B u t → H.size ≤ H1.size → (∀ q : Nat, q < H.size → ¬ A1 q → H1[q]? = H[q]?) → va_S A0 H0 H1 locs1 → W p l e R s m args below meth c H1 locs1 (cells + mc) (slots + ms) Q (F0 m (pc + 3) ls (.int r :: rest))) : W p l e R s m args below meth c H locs cells slots Q (F0 m pc ls st0) := by
  intro T hT X
  rcases hr T hT X with ⟨v, st₀, t, T', L, h0, X', hL, e1, e2, ⟨⟨r, u, hv, hp, hb⟩, hF⟩, st⟩ | ⟨q, st₀, t, T', L, E, ce, h0, X', hL, e1, e2, ⟨u, hp, hb, hF⟩, hce, hcv, hcl, st⟩
  · cases hv
    obtain ⟨k1, k2, k3⟩ := vx_keep h0 e1 hS hA hf hL hF
    obtain ⟨t2, a1, b1⟩ := kk r u t T'.heap (locs ++ L) e1.symm (by rw [← e2]; exact X'.warmed.alike) hp hb k1 k2 k3 T' rfl X'
    exact ⟨t2, st t2 a1, b1⟩
  · obtain ⟨k1, k2, k3⟩ := vx_keep h0 e1 hS hAX hf hL hF
    obtain ⟨t2, a1, b1⟩ := kx E ce q u t T'.heap (locs ++ L) e1.symm (by rw [← e2]; exact X'.warmed.alike) hp hb k1 k2 k3 (by rw [e1]; exact hce) hcv hcl T' rfl X'
    exact ⟨t2, st.trans a1, b1⟩
theorem vx_calll {S SX : Type} {post : Int64 → S → Prop} {px : SX → Prop} {B : S → State → Prop} {BX : String → SX → State → Prop} {AX : Nat → Prop} (hr : vx_Run p l e R s m args below meth c H locs cells slots mc ms (F0 m pc ls st0) rest (va_Ql post B A1 a) (vx_X px BX AX) free) (hS : va_S A0 H0 H locs) (hA : ∀ q, q < H.size → A1 q → A0 q) (hf : ∀ q, free q → A0 q) (hAX : ∀ q, q < H.size → AX q → A0 q)
    (kx : ∀ (E : String) (ce : Cell) (q9 : Addr) (u : SX) (t : State) (H1 : Heap) (locs1 : List Loc), t.heap = H1 → s.vm.Alike t.vm → px u → BX E u t → H.size ≤ H1.size → (∀ q : Nat, q < H.size → ¬ AX q → H1[q]? = H[q]?) → va_S A0 H0 H1 locs1 → H1[q9]? = some ce → ce.vm = .none → s.vm.findClass E = some ce.cls → vx_W p l e R s m args below meth c H1 locs1 (cells + mc) (slots + ms) Q (F0 m pc ls rest) q9)
    (kk : ∀ (r : Int64) (u : S) (t : State) (H1 : Heap) (locs1 : List Loc), t.heap = H1 → s.vm.Alike t.vm → post r u → B u t → H.size ≤ H1.size → (∀ q : Nat, q < H.size → ¬ A1 q → H1[q]? = H[q]?) → va_S A0 H0 H1 locs1 → W p l e R s m args below meth c H1 locs1 (cells + mc) (slots + ms) Q (F0 m (pc + 3) ls (.long r :: rest))) : W p l e R s m args below meth c H locs cells slots Q (F0 m pc ls st0) := by
  intro T hT X
  rcases hr T hT X with ⟨v, st₀, t, T', L, h0, X', hL, e1, e2, ⟨⟨r, u, hv, hp, hb⟩, hF⟩, st⟩ | ⟨q, st₀, t, T', L, E, ce, h0, X', hL, e1, e2, ⟨u, hp, hb, hF⟩, hce, hcv, hcl, st⟩
  · cases hv
    obtain ⟨k1, k2, k3⟩ := vx_keep h0 e1 hS hA hf hL hF
    obtain ⟨t2, a1, b1⟩ := kk r u t T'.heap (locs ++ L) e1.symm (by rw [← e2]; exact X'.warmed.alike) hp hb k1 k2 k3 T' rfl X'
    exact ⟨t2, st t2 a1, b1⟩
  · obtain ⟨k1, k2, k3⟩ := vx_keep h0 e1 hS hAX hf hL hF
    obtain ⟨t2, a1, b1⟩ := kx E ce q u t T'.heap (locs ++ L) e1.symm (by rw [← e2]; exact X'.warmed.alike) hp hb k1 k2 k3 (by rw [e1]; exact hce) hcv hcl T' rfl X'
    exact ⟨t2, st.trans a1, b1⟩
theorem vx_callf {S SX : Type} {post : UInt32 → S → Prop} {px : SX → Prop} {B : S → State → Prop} {BX : String → SX → State → Prop} {AX : Nat → Prop} (hr : vx_Run p l e R s m args below meth c H locs cells slots mc ms (F0 m pc ls st0) rest (va_Qf post B A1 a) (vx_X px BX AX) free) (hS : va_S A0 H0 H locs) (hA : ∀ q, q < H.size → A1 q → A0 q) (hf : ∀ q, free q → A0 q) (hAX : ∀ q, q < H.size → AX q → A0 q)
    (kx : ∀ (E : String) (ce : Cell) (q9 : Addr) (u : SX) (t : State) (H1 : Heap) (locs1 : List Loc), t.heap = H1 → s.vm.Alike t.vm → px u → BX E u t → H.size ≤ H1.size → (∀ q : Nat, q < H.size → ¬ AX q → H1[q]? = H[q]?) → va_S A0 H0 H1 locs1 → H1[q9]? = some ce → ce.vm = .none → s.vm.findClass E = some ce.cls → vx_W p l e R s m args below meth c H1 locs1 (cells + mc) (slots + ms) Q (F0 m pc ls rest) q9)
    (kk : ∀ (r : UInt32) (u : S) (t : State) (H1 : Heap) (locs1 : List Loc), t.heap = H1 → s.vm.Alike t.vm → post r u → B u t → H.size ≤ H1.size → (∀ q : Nat, q < H.size → ¬ A1 q → H1[q]? = H[q]?) → va_S A0 H0 H1 locs1 → W p l e R s m args below meth c H1 locs1 (cells + mc) (slots + ms) Q (F0 m (pc + 3) ls (.float r :: rest))) : W p l e R s m args below meth c H locs cells slots Q (F0 m pc ls st0) := by
  intro T hT X
  rcases hr T hT X with ⟨v, st₀, t, T', L, h0, X', hL, e1, e2, ⟨⟨r, u, hv, hp, hb⟩, hF⟩, st⟩ | ⟨q, st₀, t, T', L, E, ce, h0, X', hL, e1, e2, ⟨u, hp, hb, hF⟩, hce, hcv, hcl, st⟩
  · cases hv
    obtain ⟨k1, k2, k3⟩ := vx_keep h0 e1 hS hA hf hL hF
    obtain ⟨t2, a1, b1⟩ := kk r u t T'.heap (locs ++ L) e1.symm (by rw [← e2]; exact X'.warmed.alike) hp hb k1 k2 k3 T' rfl X'
    exact ⟨t2, st t2 a1, b1⟩
  · obtain ⟨k1, k2, k3⟩ := vx_keep h0 e1 hS hAX hf hL hF
    obtain ⟨t2, a1, b1⟩ := kx E ce q u t T'.heap (locs ++ L) e1.symm (by rw [← e2]; exact X'.warmed.alike) hp hb k1 k2 k3 (by rw [e1]; exact hce) hcv hcl T' rfl X'
    exact ⟨t2, st.trans a1, b1⟩
theorem vx_calld {S SX : Type} {post : UInt64 → S → Prop} {px : SX → Prop} {B : S → State → Prop} {BX : String → SX → State → Prop} {AX : Nat → Prop} (hr : vx_Run p l e R s m args below meth c H locs cells slots mc ms (F0 m pc ls st0) rest (va_Qd post B A1 a) (vx_X px BX AX) free) (hS : va_S A0 H0 H locs) (hA : ∀ q, q < H.size → A1 q → A0 q) (hf : ∀ q, free q → A0 q) (hAX : ∀ q, q < H.size → AX q → A0 q)
    (kx : ∀ (E : String) (ce : Cell) (q9 : Addr) (u : SX) (t : State) (H1 : Heap) (locs1 : List Loc), t.heap = H1 → s.vm.Alike t.vm → px u → BX E u t → H.size ≤ H1.size → (∀ q : Nat, q < H.size → ¬ AX q → H1[q]? = H[q]?) → va_S A0 H0 H1 locs1 → H1[q9]? = some ce → ce.vm = .none → s.vm.findClass E = some ce.cls → vx_W p l e R s m args below meth c H1 locs1 (cells + mc) (slots + ms) Q (F0 m pc ls rest) q9)
    (kk : ∀ (r : UInt64) (u : S) (t : State) (H1 : Heap) (locs1 : List Loc), t.heap = H1 → s.vm.Alike t.vm → post r u → B u t → H.size ≤ H1.size → (∀ q : Nat, q < H.size → ¬ A1 q → H1[q]? = H[q]?) → va_S A0 H0 H1 locs1 → W p l e R s m args below meth c H1 locs1 (cells + mc) (slots + ms) Q (F0 m (pc + 3) ls (.double r :: rest))) : W p l e R s m args below meth c H locs cells slots Q (F0 m pc ls st0) := by
  intro T hT X
  rcases hr T hT X with ⟨v, st₀, t, T', L, h0, X', hL, e1, e2, ⟨⟨r, u, hv, hp, hb⟩, hF⟩, st⟩ | ⟨q, st₀, t, T', L, E, ce, h0, X', hL, e1, e2, ⟨u, hp, hb, hF⟩, hce, hcv, hcl, st⟩
  · cases hv
    obtain ⟨k1, k2, k3⟩ := vx_keep h0 e1 hS hA hf hL hF
    obtain ⟨t2, a1, b1⟩ := kk r u t T'.heap (locs ++ L) e1.symm (by rw [← e2]; exact X'.warmed.alike) hp hb k1 k2 k3 T' rfl X'
    exact ⟨t2, st t2 a1, b1⟩
  · obtain ⟨k1, k2, k3⟩ := vx_keep h0 e1 hS hAX hf hL hF
    obtain ⟨t2, a1, b1⟩ := kx E ce q u t T'.heap (locs ++ L) e1.symm (by rw [← e2]; exact X'.warmed.alike) hp hb k1 k2 k3 (by rw [e1]; exact hce) hcv hcl T' rfl X'
    exact ⟨t2, st.trans a1, b1⟩
theorem vx_callv {S SX : Type} {post : S → Prop} {px : SX → Prop} {B : S → State → Prop} {BX : String → SX → State → Prop} {AX : Nat → Prop} (hr : vx_Run p l e R s m args below meth c H locs cells slots mc ms (F0 m pc ls st0) rest (va_Qv post B A1 a) (vx_X px BX AX) free) (hS : va_S A0 H0 H locs) (hA : ∀ q, q < H.size → A1 q → A0 q) (hf : ∀ q, free q → A0 q) (hAX : ∀ q, q < H.size → AX q → A0 q)
    (kx : ∀ (E : String) (ce : Cell) (q9 : Addr) (u : SX) (t : State) (H1 : Heap) (locs1 : List Loc), t.heap = H1 → s.vm.Alike t.vm → px u → BX E u t → H.size ≤ H1.size → (∀ q : Nat, q < H.size → ¬ AX q → H1[q]? = H[q]?) → va_S A0 H0 H1 locs1 → H1[q9]? = some ce → ce.vm = .none → s.vm.findClass E = some ce.cls → vx_W p l e R s m args below meth c H1 locs1 (cells + mc) (slots + ms) Q (F0 m pc ls rest) q9)
    (kk : ∀ (u : S) (t : State) (H1 : Heap) (locs1 : List Loc), t.heap = H1 → s.vm.Alike t.vm → post u → B u t → H.size ≤ H1.size → (∀ q : Nat, q < H.size → ¬ A1 q → H1[q]? = H[q]?) → va_S A0 H0 H1 locs1 → W p l e R s m args below meth c H1 locs1 (cells + mc) (slots + ms) Q (F0 m (pc + 3) ls (rest))) : W p l e R s m args below meth c H locs cells slots Q (F0 m pc ls st0) := by
  intro T hT X
  rcases hr T hT X with ⟨v, st₀, t, T', L, h0, X', hL, e1, e2, ⟨⟨u, hv, hp, hb⟩, hF⟩, st⟩ | ⟨q, st₀, t, T', L, E, ce, h0, X', hL, e1, e2, ⟨u, hp, hb, hF⟩, hce, hcv, hcl, st⟩
  · cases hv
    obtain ⟨k1, k2, k3⟩ := vx_keep h0 e1 hS hA hf hL hF
    obtain ⟨t2, a1, b1⟩ := kk u t T'.heap (locs ++ L) e1.symm (by rw [← e2]; exact X'.warmed.alike) hp hb k1 k2 k3 T' rfl X'
    exact ⟨t2, st t2 a1, b1⟩
  · obtain ⟨k1, k2, k3⟩ := vx_keep h0 e1 hS hAX hf hL hF
    obtain ⟨t2, a1, b1⟩ := kx E ce q u t T'.heap (locs ++ L) e1.symm (by rw [← e2]; exact X'.warmed.alike) hp hb k1 k2 k3 (by rw [e1]; exact hce) hcv hcl T' rfl X'
    exact ⟨t2, st.trans a1, b1⟩
/-- caught by the row x of this method's table; the rows ahead don't take it -/
theorem vx_catch {own name : String} {E : String} {ce : Cell} {q : Addr} (hown : s.vm.findClass own = some m.cls) (pre : List ExceptionTableEntry) (x : ExceptionTableEntry) (suf : List ExceptionTableEntry) (hsplit : c.exceptionTable.toList = pre ++ x :: suf)
    (hpass : ∀ z ∈ pre, covers z pc = false ∨ (z.catchType ≠ 0 ∧ ∃ nm : String, (Cond.classLink own z.catchType nm).before args s = true ∧ va_Nc E nm s)) (hx : covers x pc = true) (h0 : x.catchType ≠ 0)
    (hlink : (Cond.classLink own x.catchType name).before args s = true) (hcast : (Cond.castable E name).before args s = true) (hcell : H[q]? = some ce) (hv : ce.vm = .none) (hcl : s.vm.findClass E = some ce.cls)
    (kk : W p l e R s m args below meth c H locs cells slots Q (F0 m x.handlerPc ls [.ref q])) : vx_W p l e R s m args below meth c H locs cells slots Q (F0 m pc ls rest) q := by
  intro T hT X
  have hpl : e.platform.magicAccessors = ({} : Platform).magicAccessors := by rw [X.admits.platform]
  obtain ⟨c3, c4, hc3, hc4, hasg⟩ := Cond.castable_spec hcast
  cases Option.some.inj (hc3.symm.trans hcl)
  obtain ⟨c5, hc5, hcl5⟩ := Cond.classLink_spec hown hlink e.platform hpl
  cases Option.some.inj (hc4.symm.trans hc5)
  obtain ⟨vm', X', st⟩ := X.thenCaughtThrough q (g := F0 m pc ls rest) rfl (Steps.refl _) (by rw [hT]; exact hcell) (by rw [hv]; rfl) (by obtain ⟨k9, h9, -⟩ := Vm.findClass_spec hcl; exact ⟨k9, h9⟩) pre x suf hsplit
    (fun z hz => by
      rcases hpass z hz with h | ⟨hz0, nm, hl1, hn1⟩
      · exact Or.inl h
      · obtain ⟨c6, hc6, hcl6⟩ := Cond.classLink_spec hown hl1 e.platform hpl
        obtain ⟨a8, b8, h1, h2, h3⟩ := hn1
        cases Option.some.inj (h1.symm.trans hcl)
        cases Option.some.inj (h2.symm.trans hc6)
        exact Or.inr ⟨hz0, _, hcl6, h3⟩) hx (Or.inr ⟨h0, c4, hcl5, hasg⟩)
  obtain ⟨t, a1, b1⟩ := kk (T.setVm vm') hT X'
  exact ⟨t, st.trans a1, b1⟩
end Rows
section Ends
variable {p : Program} {l : Launch} {e : Env} {R : Room} {s : State} {m : MethodId} {args : Array Value} {below : List Frame} {meth : Method} {c : Code} {H : Heap} {locs : List Loc} {cells slots : Nat} {Q : State → Prop}
variable {mc ms : Nat} {free : Addr → Prop} {A0 A1 : Nat → Prop} {H0 : Heap} {a : Array Value} {ls : Array Slot} {st0 rest : List Value}
variable {Qc : Array Value → State → Outcome → State → Prop} {XC : String → State → State → Prop}
/-- what a body that may throw owes at its end -/
def vx_MQ (below : List Frame) (Qc : Array Value → State → Outcome → State → Prop) (XC : String → State → State → Prop) (a : Array Value) (s : State) (mc ms : Nat) (free : Addr → Prop) : State → Prop := fun t =>
  ∃ o, t.status = .running ∧ Ended t below o ∧ vx_Q Qc XC mc ms free a s o t
theorem vx_ret {g : JFrame} {mc ms : Nat} (k : W p l e R s m args below meth c H locs cells slots (MQ below Qc args s mc ms free) g) : W p l e R s m args below meth c H locs cells slots (vx_MQ below Qc XC args s mc ms free) g := by
  intro T hT X
  obtain ⟨t, a1, o, b1, b2, b3, b4⟩ := k T hT X
  exact ⟨t, a1, o, b1, b2, Or.inl ⟨b3, b4⟩⟩
/-- not caught here: it goes on to the caller -/
theorem vx_widen {g : JFrame} {q : Addr} {k n : Nat} (h1 : cells ≤ k) (h2 : slots ≤ n) (kk : vx_W p l e R s m args below meth c H locs k n Q g q) : vx_W p l e R s m args below meth c H locs cells slots Q g q := fun T hT X => kk T hT (stand_widen X h1 h2)
theorem vx_out {pc : Nat} {E : String} {ce : Cell} {q : Addr} {mc ms : Nat} (hout : ∀ x ∈ c.exceptionTable.toList, covers x pc = false) (hlocks : meth.locks = false) (hcell : H[q]? = some ce) (hv : ce.vm = .none) (hcl : s.vm.findClass E = some ce.cls)
    (hx : ∀ t : State, t.heap = H → s.vm.Alike t.vm → XC E s t) (hf : ∀ z ∈ locs, free z.base) (hc : cells ≤ mc) (hs : slots ≤ ms) :
    vx_W p l e R s m args below meth c H locs cells slots (vx_MQ below Qc XC args s mc ms free) (F0 m pc ls rest) q := by
  intro T hT X
  obtain ⟨st1, hrun, hend, hW, hsm⟩ := X.leaveThrown q (g := F0 m pc ls rest) rfl rfl rfl hout hlocks
  have hcell9 : (T.setFrames (.throwing q :: below)).heap[q]? = some ce := by
    show T.heap[q]? = some ce
    rw [hT]; exact hcell
  exact ⟨_, st1, .threw q, hrun, hend, Or.inr ⟨q, rfl, E, ce, locs, hx _ hT hW.alike, hcell9, hv, hcl, hW, hsm.mono hc hs, hf⟩⟩
theorem vx_frame {U : State} {k n : Nat} (h : s.sameButNew ({ U with vm := s.vm } : State) locs k n) : s.heap.size ≤ U.heap.size ∧ ∀ q : Nat, q < s.heap.size → (∀ z ∈ locs, z.base ≠ q) → U.heap[q]? = s.heap[q]? := by
  obtain ⟨-, h2, -, -, -, h6⟩ := h
  refine ⟨h2, fun q hq hz => ?_⟩
  obtain ⟨c9, e1, e2, e3, e4⟩ := h6 q _ (Array.getElem?_eq_getElem hq)
  have hs : c9.slots = (s.heap[q]).slots := Array.ext_getElem? fun i => e4 i fun hm => hz _ hm rfl
  have h9 : c9 = s.heap[q] := by
    rw [hs] at e2
    exact e2
  have e5 : U.heap[q]? = some c9 := e1
  rw [e5, h9, Array.getElem?_eq_getElem hq]
/-- the words of a throw but the four that speak of the heap -/
def vx_no (w : Cond) : Bool := decide (w ≠ .isRef (.static Bundle.tN "UNASSIGNED_STACK" Bundle.steD)) && decide (w ≠ .isRef (.static Bundle.tN "SUPPRESSED_SENTINEL" Bundle.listD)) && decide (w ≠ .laysStatic Bundle.tN "UNASSIGNED_STACK" Bundle.steD) && decide (w ≠ .laysStatic Bundle.tN "SUPPRESSED_SENTINEL" Bundle.listD)
def vx_at0 (own : String) (ic : Nat) (X : String) (names : List String) : List Cond := (Bundle.ownAtoms0 own ic X names).filter vx_no
def vx_atS (own : String) (ic : Nat) (X : String) (names : List String) : List Cond := (Bundle.ownAtoms own ic X names).filter vx_no
/-- a word that the tables alone decide, or a good one -/
def vx_ot (w : Cond) : Bool := w.onTables || goodWord w
theorem vx_ot_at {args a' : Array Value} {s U : State} {w : Cond} (hW : s.WarmedH U.vm) (hvm : s.vm = U.vm) (hg : vx_ot w = true) (h : w.before args s = true) : w.before a' U = true := by
  simp only [vx_ot, Bool.or_eq_true] at hg
  rcases hg with hg | hg
  · exact va_tabs hg hvm h
  · exact word_at hW (good_of_word hg) h
/-- a list's words: the good ones out of the method's own list, the others by premises of their own -/
theorem vx_hat {args : Array Value} {s : State} {L B : List Cond} (h1 : ∀ w ∈ L.filter goodWord, w.before args s = true) (h2 : ∀ w ∈ L.filter (fun w => !goodWord w), w ∈ B) (h3 : ∀ w ∈ B, w.before args s = true) : ∀ w ∈ L, w.before args s = true := by
  intro w hw
  by_cases g : goodWord w = true
  · exact h1 w (List.mem_filter.mpr ⟨hw, g⟩)
  · refine h3 w (h2 w (List.mem_filter.mpr ⟨hw, ?_⟩))
    show (!goodWord w) = true
    cases hgw : goodWord w
    · rfl
    · exact absurd hgw g
theorem vx_c {args : Array Value} {s : State} {w : Cond} {B : List Cond} (h : w.before args s = true) (t : ∀ w ∈ B, w.before args s = true) : ∀ w' ∈ w :: B, w'.before args s = true := fun w' h' => (List.mem_cons.mp h').elim (fun e => by rw [e]; exact h) (t w')
theorem vx_n {args : Array Value} {s : State} : ∀ w ∈ ([] : List Cond), w.before args s = true := fun _ h => nomatch h
theorem vx_own {args : Array Value} {s : State} {L : List Cond} (h1 : ∀ w ∈ L.filter vx_no, w.before args s = true)
    (hU : (Cond.isRef (.static Bundle.tN "UNASSIGNED_STACK" Bundle.steD)).before args s = true) (hN : (Cond.isRef (.static Bundle.tN "SUPPRESSED_SENTINEL" Bundle.listD)).before args s = true)
    (lU : (Cond.laysStatic Bundle.tN "UNASSIGNED_STACK" Bundle.steD).before args s = true) (lN : (Cond.laysStatic Bundle.tN "SUPPRESSED_SENTINEL" Bundle.listD).before args s = true) : ∀ w ∈ L, w.before args s = true := by
  intro w hw
  by_cases e1 : w = .isRef (.static Bundle.tN "UNASSIGNED_STACK" Bundle.steD)
  · rw [e1]; exact hU
  · by_cases e2 : w = .isRef (.static Bundle.tN "SUPPRESSED_SENTINEL" Bundle.listD)
    · rw [e2]; exact hN
    · by_cases e3 : w = .laysStatic Bundle.tN "UNASSIGNED_STACK" Bundle.steD
      · rw [e3]; exact lU
      · by_cases e4 : w = .laysStatic Bundle.tN "SUPPRESSED_SENTINEL" Bundle.listD
        · rw [e4]; exact lN
        · exact h1 w (List.mem_filter.mpr ⟨hw, by unfold vx_no; rw [decide_eq_true e1, decide_eq_true e2, decide_eq_true e3, decide_eq_true e4]; rfl⟩)
/-- where a static field lies, its class's statics cell in H -/
def vx_L (C n d : String) (A : Nat → Prop) (U : State) (H : Heap) : Prop := ∃ (c : ClassId) (k : Class) (i : Nat) (f : Field) (a : Nat) (cell : Cell), U.vm.findClass C = some c ∧ U.fieldFound? C n d = some (c, k, i, f) ∧ f.isStatic = true ∧ k.statics = some a ∧ H[a]? = some cell ∧ cell.vm.isStatics = true ∧ cell.cls = c ∧ f.slot < cell.slots.size ∧ k.staticTypes[f.slot]? = some f.type ∧ ¬ A a
theorem vx_L.moved {C n d : String} {A : Nat → Prop} {u U : State} {H : Heap} (hvm : u.vm.Alike U.vm) (h : vx_L C n d A u H) : vx_L C n d A U H := by
  obtain ⟨c, k, i, f, a, cell, h1, h2, h3, h4, h5, h6, h7, h8, h9, h10⟩ := h
  obtain ⟨k', hi', he⟩ := State.fieldFound?_setVm hvm h2
  exact ⟨c, k', i, f, a, cell, by rw [hvm.findClass]; exact h1, hi', h3, by rw [he]; exact h4, h5, h6, h7, h8, by rw [he]; exact h9, h10⟩
theorem vx_L.kept {C n d : String} {A : Nat → Prop} {U : State} {H H1 : Heap} (h : vx_L C n d A U H) (hq : ∀ a : Nat, a < H.size → ¬ A a → H1[a]? = H[a]?) : vx_L C n d A U H1 := by
  obtain ⟨c, k, i, f, a, cell, h1, h2, h3, h4, h5, h6, h7, h8, h9, h10⟩ := h
  exact ⟨c, k, i, f, a, cell, h1, h2, h3, h4, by rw [hq a (Array.getElem?_eq_some_iff.mp h5).1 h10]; exact h5, h6, h7, h8, h9, h10⟩
theorem vx_L.narrow {C n d : String} {A B : Nat → Prop} {U : State} {H : Heap} (h : vx_L C n d A U H) (hAB : ∀ q, B q → A q) : vx_L C n d B U H := by
  obtain ⟨c, k, i, f, a, cell, h1, h2, h3, h4, h5, h6, h7, h8, h9, h10⟩ := h
  exact ⟨c, k, i, f, a, cell, h1, h2, h3, h4, h5, h6, h7, h8, h9, fun z => h10 (hAB _ z)⟩
theorem vx_L.word {C n d : String} {A : Nat → Prop} {s : State} {args : Array Value} (h : vx_L C n d A s s.heap) : (Cond.laysStatic C n d).before args s = true := by
  obtain ⟨c, k, i, f, a, cell, h1, h2, h3, h4, h5, h6, h7, h8, h9, -⟩ := h
  show (Cond.laysStatic C n d).holds args s none s [] = true
  exact Cond.laysStatic_of h1 h2 h3 h4 h5 h6 h7 h8 h9
/-- .. and what it holds: null or some reference -/
def vx_Zq (C n d : String) (A : Nat → Prop) (U : State) (H : Heap) : Prop := va_Zq C n d A U H ∧ vx_L C n d A U H
theorem vx_Zq.moved {C n d : String} {A : Nat → Prop} {u U : State} {H : Heap} (hvm : u.vm.Alike U.vm) (h : vx_Zq C n d A u H) : vx_Zq C n d A U H := ⟨va_Zq.moved hvm h.1, vx_L.moved hvm h.2⟩
theorem vx_Zq.kept {C n d : String} {A : Nat → Prop} {U : State} {H H1 : Heap} (h : vx_Zq C n d A U H) (hq : ∀ a : Nat, a < H.size → ¬ A a → H1[a]? = H[a]?) : vx_Zq C n d A U H1 := ⟨va_Zq.kept h.1 hq, vx_L.kept h.2 hq⟩
theorem vx_Zq.narrow {C n d : String} {A B : Nat → Prop} {U : State} {H : Heap} (h : vx_Zq C n d A U H) (hAB : ∀ q, B q → A q) : vx_Zq C n d B U H := ⟨va_Zq.narrow h.1 hAB, vx_L.narrow h.2 hAB⟩
theorem vx_Zqof {args : Array Value} {s : State} {C n d : String} {A : Nat → Prop} (hl : (Cond.laysStatic C n d).before args s = true) (hini : (Cond.initialized C).before args s = true) (h : (Cond.isRef (.static C n d)).before args s = true) (hA : ∀ a : Nat, a < s.heap.size → ¬ A a) : vx_Zq C n d A s s.heap := by
  refine ⟨va_Zqof hl hini h hA, ?_⟩
  obtain ⟨c, k, i, f, a, cell, h1, h2, h3, h4, h5, h6, h7, h8, h9⟩ := Cond.laysStatic_spec hl
  exact ⟨c, k, i, f, a, cell, h1, h2, h3, h4, h5, h6, h7, h8, h9, hA a (Array.getElem?_eq_some_iff.mp h5).1⟩
theorem vx_isRef {C n d : String} {v : Value} {A : Nat → Prop} {s : State} {args : Array Value} (h : va_Z C n d v A s s.heap) (hv : v.isRef = true) : (Cond.isRef (.static C n d)).before args s = true := by
  obtain ⟨cf, kf, fi, f, a, cell, h1, h2, h3, h4, h5, h6, h7, -⟩ := h
  have he : (Term.static C n d).eval args s none [] s = some v := by
    simp [Term.eval, State.fieldNamed?, h1, h2, h4, h5, h6, h7]
  simp only [Cond.before, Cond.holds, Cond.value, he]
  cases v <;> simp_all [Value.isRef]
theorem vx_isRefq {C n d : String} {A : Nat → Prop} {s : State} {args : Array Value} (h : va_Zq C n d A s s.heap) : (Cond.isRef (.static C n d)).before args s = true := by
  rcases h with h | ⟨t, h⟩
  · exact vx_isRef h rfl
  · exact vx_isRef h rfl
/-- the same frame, seen from here: as if the method were called anew in this heap -/
theorem vx_rebase {T : State} (X : Stand p l e R s m args below meth c T locs cells slots) {R' : Room} (hf : R'.frames ≤ R.frames) (hl : R'.locals ≤ R.locals) (hc : cells + R'.cells ≤ R.cells) (hs : slots + R'.slots ≤ R.slots) :
    Stand p l e R' ((T.setVm s.vm).setFrames (.invoking m args :: below)) m args below meth c T [] 0 0 := by
  have htop : (T.setVm s.vm).topJava?.isSome := X.here.top
  have hF : ((T.setVm s.vm).setFrames (.invoking m args :: below)).frames = .invoking m args :: below := State.frames_setFrames _ (State.cur_lt_of_top htop)
  obtain ⟨g₀, hg0⟩ := Option.isSome_iff_exists.mp htop
  obtain ⟨r, hr⟩ := State.topJava?_eq_some.mp hg0
  have hl9 : e.platform.stackLimits (T.setVm s.vm).me = e.platform.stackLimits s.me := X.limits
  have hb9 : (T.setVm s.vm).me.stackBytes = s.me.stackBytes := X.bytes
  refine ⟨X.admits, X.cas, X.clock, hF, ?_, X.hears, X.method, X.code, X.here, X.tail, X.warmed, ?_, ?_, ?_⟩
  · have h := X.room
    have hU : ((T.setVm s.vm).setFrames (.invoking m args :: below)).localsInUse = s.localsInUse := by
      rw [State.localsInUse_invoking hF (meth := meth) (c := c) X.method X.code, State.localsInUse_invoking X.frames X.method X.code]
    simp only [State.hasRoom, Bool.and_eq_true, decide_eq_true_eq] at h ⊢
    obtain ⟨⟨⟨⟨h1, h2, h3, h4, h5, h6⟩, h7⟩, h8⟩, h9⟩ := h
    rw [X.frames, List.length_cons] at h2 h3
    have q1 := X.heapSize
    have q2 := X.used
    simp only [hF, hU, List.length_cons, State.stackLimits_setFrames, State.stackBytes_setFrames, hl9, hb9]
    refine ⟨⟨⟨⟨by omega, by omega, by omega, by omega, by omega, h6⟩, ?_⟩, ?_⟩, X.book⟩
    · show T.heap.size + R'.cells ≤ e.platform.maxCells
      omega
    · show T.slotsUsed + R'.slots ≤ e.platform.maxSlots
      omega
  · rw [State.stackLimits_setFrames]; rfl
  · rw [State.stackBytes_setFrames]; rfl
  · refine ⟨?_, Nat.le_refl _, Nat.le_refl _, ?_, ?_, fun a c9 h9 => ⟨c9, h9, rfl, rfl, fun _ _ => rfl⟩⟩
    · obtain ⟨t, ht, -⟩ := State.frames_cons hr
      show T.setVm s.vm = { ((T.setVm s.vm).setFrames (.invoking m args :: below)).setFrames (T.setVm s.vm).frames with heap := T.heap, slotsUsed := T.slotsUsed }
      rw [State.setFrames_setFrames, State.setFrames_self ht]
      rfl
    · show T.slotsUsed = T.slotsUsed + ((T.heap.toList.drop T.heap.size).map (·.slots.size)).sum
      rw [List.drop_eq_nil_of_le (Nat.le_of_eq Array.length_toList)]
      rfl
    · show ((T.heap.toList.drop T.heap.size).map (·.slots.size)).sum ≤ 0
      rw [List.drop_eq_nil_of_le (Nat.le_of_eq Array.length_toList)]
      exact Nat.le_refl _
/-- 'throw new E()': new; dup; invokespecial; athrow -/
theorem vx_throw0 {cc : ByteArray} {pc : Nat} (hexec : p.tables.exec = Jvm.exec) (hb : c.code = cc) (hl : l.stackTraces = false) {own cls : String} {names : List String} {ik ic mc ms : Nat} {A : Nat → Prop}
    (hown : s.vm.findClass own = some m.cls) (hcls : Bundle.fit cls = true) (hnames : ∀ n ∈ names, Bundle.fit n = true)
    (hk : (Cond.classLink own ik cls).before args s = true) (hini : (Cond.initialized cls).before args s = true) (hat : ∀ w ∈ vx_at0 own ic cls names, w.before args s = true)
    (hgood : ∀ w ∈ Cond.classLink own ik cls :: Cond.initialized cls :: vx_at0 own ic cls names, vx_ot w = true)
    (hU : vx_Zq Bundle.tN "UNASSIGNED_STACK" Bundle.steD A s s.heap) (hN : vx_Zq Bundle.tN "SUPPRESSED_SENTINEL" Bundle.listD A s s.heap) (hS : va_S A s.heap H locs) (hsize : ls.size = c.maxLocals)
    (d0 : decode cc pc = .ok (.new ik, 3)) (d3 : decode cc (pc + 3) = .ok (.dup, 1)) (d4 : decode cc (pc + 4) = .ok (.invokespecial ic, 3)) (d7 : decode cc (pc + 7) = .ok (.athrow, 1))
    (hout : ∀ x ∈ c.exceptionTable.toList, covers x (pc + 7) = false)
    (hRframes : names.length + 3 < R.frames) (hRlocals : (rest.map fun v => v.category).sum + (13 * (names.length + 1) + 42) ≤ R.locals) (hRcells : cells + 1 ≤ R.cells) (hRslots : slots + 6 ≤ R.slots) (hlocks : meth.locks = false)
    (hx : ∀ t : State, s.vm.Alike t.vm → H.size ≤ t.heap.size → (∀ q : Nat, q < H.size → t.heap[q]? = H[q]?) → XC cls s t)
    (hf : ∀ z ∈ locs, free z.base) (hc : cells + 1 ≤ mc) (hs : slots + 6 ≤ ms) :
    W p l e R s m args below meth c H locs cells slots (vx_MQ below Qc XC args s mc ms free) (F0 m pc ls rest) := by
  intro T hT X
  have htr : e.platform.stackTraces = false := (show e.platform.stackTraces = l.stackTraces by rw [X.admits.platform]).trans hl
  have Y := vx_rebase X (R' := { frames := R.frames, locals := R.locals, cells := 1, slots := 6 }) (Nat.le_refl _) (Nat.le_refl _) hRcells hRslots
  obtain ⟨s', hA⟩ : ∃ z, z = (T.setVm s.vm).setFrames (.invoking m args :: below) := ⟨_, rfl⟩
  rw [← hA] at Y
  have hvm : s'.vm = s.vm := by rw [hA]; rfl
  have hhp : s'.heap = H := by rw [hA]; exact hT
  have hW0 : s.WarmedH s'.vm := by rw [hvm]; exact State.WarmedH.refl s
  have hat' : ∀ w ∈ vx_at0 own ic cls names, w.before args s' = true := fun w hw => vx_ot_at hW0 hvm.symm (hgood w (List.mem_cons_of_mem _ (List.mem_cons_of_mem _ hw))) (hat w hw)
  have hk' : (Cond.classLink own ik cls).before args s' = true := vx_ot_at hW0 hvm.symm (hgood _ List.mem_cons_self) hk
  have hini' : (Cond.initialized cls).before args s' = true := vx_ot_at hW0 hvm.symm (hgood _ (List.mem_cons_of_mem _ List.mem_cons_self)) hini
  have hU' : vx_Zq Bundle.tN "UNASSIGNED_STACK" Bundle.steD A s' s'.heap := by rw [hhp]; exact vx_Zq.moved hW0.alike (hU.kept hS.2.1)
  have hN' : vx_Zq Bundle.tN "SUPPRESSED_SENTINEL" Bundle.listD A s' s'.heap := by rw [hhp]; exact vx_Zq.moved hW0.alike (hN.kept hS.2.1)
  have h : ∀ w ∈ Bundle.ownAtoms0 own ic cls names, w.before args s' = true := vx_own hat' (vx_isRefq hU'.1) (vx_isRefq hN'.1) hU'.2.word hN'.2.word
  have hown' : s'.vm.findClass own = some m.cls := by rw [hvm]; exact hown
  have hins : (Cond.instantiable cls 6).before args s' = true := h _ (by simp [Bundle.ownAtoms0])
  obtain ⟨vm₁, cX, kX, hfX, hkX, -, -, X₁, st1⟩ := Y.newCold hexec (own := own) (C := cls) (index := ik) (n := 6) hown' hk' hins hini'
    (g := F0 m pc ls rest) rfl (by rw [hb]; exact d0) (Nat.le_refl _) (Nat.le_refl _)
  generalize hT1 : (T.setVm vm₁).pushCell { cls := cX, slots := kX.instanceTypes.map defaultValue, vm := .none } = T1 at X₁ st1
  have hcat : (Value.ref T.heap.size).category = 1 := rfl
  have hcellA : T1.heap[T.heap.size]? = some (freshCell cX kX) := by rw [← hT1]; exact State.heap_pushCell_size _ _
  have d3' : decode c.code (pc + 3) = .ok (.dup, 1) := by rw [hb]; exact d3
  obtain ⟨U, hsteps, hrun, hend, hW, hsame, ce, hce, hO⟩ := X₁.ctorThrow0 hexec htr (own := own) (cls := cls) (names := names) (ic := ic) hown' hcls hnames h (fun x hx => nomatch hx) hfX hkX hcellA (by rw [hhp, hT]; exact Nat.le_refl _)
    (g := { method := m, pc := pc + 4, locals := ls, stack := .ref T.heap.size :: .ref T.heap.size :: rest, locked := none }) rfl hsize rfl rfl (rest := rest) rfl
    (by rw [hb]; exact d4) (by rw [hb]; exact d7) hout hRframes (by simp only [List.map_cons, List.sum_cons, hcat]; omega) hlocks
  obtain ⟨f1, f2⟩ := vx_frame hsame
  rw [hhp] at f1 f2
  have hWs : s.WarmedH U.vm := State.WarmedH.trans hW0 hW
  have hcl : s.vm.findClass cls = some ce.cls := by
    have h9 := hO.cls
    rw [hvm] at h9
    exact h9
  have hall : s.sameButNew ({ U with vm := s.vm } : State) locs mc ms := by
    subst hA
    obtain ⟨e1, e2⟩ := hsame
    rw [State.setFrames_setFrames] at e1
    have h2 : (T.setVm s.vm).sameButNew ({ U with vm := s.vm } : State) [] (0 + 1) (0 + 6) := ⟨e1, e2⟩
    have h3 := X.same.trans h2
    rw [List.append_nil] at h3
    exact h3.mono hc hs
  refine ⟨U, ?_, .threw T.heap.size, hrun, hend, Or.inr ⟨T.heap.size, rfl, cls, ce, locs, hx U hWs.alike f1 (fun q hq => f2 q hq (fun z hz => nomatch hz)), hce, hO.vm, hcl, hWs, hall, hf⟩⟩
  refine st1 _ ?_
  show Steps p.tables e below (T1.setTop { method := m, pc := pc + 3, locals := ls, stack := .ref T.heap.size :: rest, locked := none }) _
  jvm_step X₁.here [X₁.here.top, hexec, d3', Value.category]
  exact hsteps
/-- 'throw new E("text")': new; dup; ldc; invokespecial; athrow -/
theorem vx_throwS {cc : ByteArray} {pc : Nat} (hexec : p.tables.exec = Jvm.exec) (hb : c.code = cc) (hl : l.stackTraces = false) {own cls text : String} {names : List String} {ik is ic mc ms sa : Nat} {A : Nat → Prop}
    (hown : s.vm.findClass own = some m.cls) (hcls : Bundle.fit cls = true) (hnames : ∀ n ∈ names, Bundle.fit n = true)
    (hk : (Cond.classLink own ik cls).before args s = true) (hini : (Cond.initialized cls).before args s = true) (hstr : vk_R own is text sa s) (hat : ∀ w ∈ vx_atS own ic cls names, w.before args s = true)
    (hgood : ∀ w ∈ Cond.classLink own ik cls :: Cond.initialized cls :: vx_atS own ic cls names, vx_ot w = true)
    (hU : vx_Zq Bundle.tN "UNASSIGNED_STACK" Bundle.steD A s s.heap) (hN : vx_Zq Bundle.tN "SUPPRESSED_SENTINEL" Bundle.listD A s s.heap) (hS : va_S A s.heap H locs) (hsize : ls.size = c.maxLocals)
    (d0 : decode cc pc = .ok (.new ik, 3)) (d3 : decode cc (pc + 3) = .ok (.dup, 1)) (d4 : decode cc (pc + 4) = .ok (.ldc is, 2)) (d6 : decode cc (pc + 6) = .ok (.invokespecial ic, 3)) (d9 : decode cc (pc + 9) = .ok (.athrow, 1))
    (hout : ∀ x ∈ c.exceptionTable.toList, covers x (pc + 9) = false)
    (hRframes : names.length + 3 < R.frames) (hRlocals : (rest.map fun v => v.category).sum + (13 * (names.length + 1) + 43) ≤ R.locals) (hRcells : cells + 1 ≤ R.cells) (hRslots : slots + 6 ≤ R.slots) (hlocks : meth.locks = false)
    (hx : ∀ t : State, s.vm.Alike t.vm → H.size ≤ t.heap.size → (∀ q : Nat, q < H.size → t.heap[q]? = H[q]?) → XC cls s t)
    (hf : ∀ z ∈ locs, free z.base) (hc : cells + 1 ≤ mc) (hs : slots + 6 ≤ ms) :
    W p l e R s m args below meth c H locs cells slots (vx_MQ below Qc XC args s mc ms free) (F0 m pc ls rest) := by
  intro T hT X
  have htr : e.platform.stackTraces = false := (show e.platform.stackTraces = l.stackTraces by rw [X.admits.platform]).trans hl
  have Y := vx_rebase X (R' := { frames := R.frames, locals := R.locals, cells := 1, slots := 6 }) (Nat.le_refl _) (Nat.le_refl _) hRcells hRslots
  obtain ⟨s', hA⟩ : ∃ z, z = (T.setVm s.vm).setFrames (.invoking m args :: below) := ⟨_, rfl⟩
  rw [← hA] at Y
  have hvm : s'.vm = s.vm := by rw [hA]; rfl
  have hhp : s'.heap = H := by rw [hA]; exact hT
  have hW0 : s.WarmedH s'.vm := by rw [hvm]; exact State.WarmedH.refl s
  have hat' : ∀ w ∈ vx_atS own ic cls names, w.before args s' = true := fun w hw => vx_ot_at hW0 hvm.symm (hgood w (List.mem_cons_of_mem _ (List.mem_cons_of_mem _ hw))) (hat w hw)
  have hk' : (Cond.classLink own ik cls).before args s' = true := vx_ot_at hW0 hvm.symm (hgood _ List.mem_cons_self) hk
  have hini' : (Cond.initialized cls).before args s' = true := vx_ot_at hW0 hvm.symm (hgood _ (List.mem_cons_of_mem _ List.mem_cons_self)) hini
  have hU' : vx_Zq Bundle.tN "UNASSIGNED_STACK" Bundle.steD A s' s'.heap := by rw [hhp]; exact vx_Zq.moved hW0.alike (hU.kept hS.2.1)
  have hN' : vx_Zq Bundle.tN "SUPPRESSED_SENTINEL" Bundle.listD A s' s'.heap := by rw [hhp]; exact vx_Zq.moved hW0.alike (hN.kept hS.2.1)
  have h : ∀ w ∈ Bundle.ownAtoms own ic cls names, w.before args s' = true := vx_own hat' (vx_isRefq hU'.1) (vx_isRefq hN'.1) hU'.2.word hN'.2.word
  have hown' : s'.vm.findClass own = some m.cls := by rw [hvm]; exact hown
  have hins : (Cond.instantiable cls 6).before args s' = true := h _ (by simp [Bundle.ownAtoms])
  obtain ⟨vm₁, cX, kX, hfX, hkX, -, -, X₁, st1⟩ := Y.newCold hexec (own := own) (C := cls) (index := ik) (n := 6) hown' hk' hins hini'
    (g := F0 m pc ls rest) rfl (by rw [hb]; exact d0) (Nat.le_refl _) (Nat.le_refl _)
  generalize hT1 : (T.setVm vm₁).pushCell { cls := cX, slots := kX.instanceTypes.map defaultValue, vm := .none } = T1 at X₁ st1
  have hcat : (Value.ref T.heap.size).category = 1 := rfl
  have hcellA : T1.heap[T.heap.size]? = some (freshCell cX kX) := by rw [← hT1]; exact State.heap_pushCell_size _ _
  have d3' : decode c.code (pc + 3) = .ok (.dup, 1) := by rw [hb]; exact d3
  have d4' : decode c.code (pc + 4) = .ok (.ldc is, 2) := by rw [hb]; exact d4
  have hstr' : vk_R own is text sa s' := vk_R.warm hW0 hstr
  obtain ⟨U, hsteps, hrun, hend, hW, hsame, ce, hce, hO⟩ := X₁.ctorThrowS hexec htr (own := own) (cls := cls) (names := names) (ic := ic) hown' hcls hnames h (fun x hx => nomatch hx) hfX hkX hcellA (by rw [hhp, hT]; exact Nat.le_refl _) (msg := .ref sa) rfl
    (g := { method := m, pc := pc + 6, locals := ls, stack := .ref sa :: .ref T.heap.size :: .ref T.heap.size :: rest, locked := none }) rfl hsize rfl rfl (rest := rest) rfl
    (by rw [hb]; exact d6) (by rw [hb]; exact d9) hout hRframes (by simp only [List.map_cons, List.sum_cons, hcat]; omega) hlocks
  obtain ⟨f1, f2⟩ := vx_frame hsame
  rw [hhp] at f1 f2
  have hWs : s.WarmedH U.vm := State.WarmedH.trans hW0 hW
  have hcl : s.vm.findClass cls = some ce.cls := by
    have h9 := hO.cls
    rw [hvm] at h9
    exact h9
  have hall : s.sameButNew ({ U with vm := s.vm } : State) locs mc ms := by
    subst hA
    obtain ⟨e1, e2⟩ := hsame
    rw [State.setFrames_setFrames] at e1
    have h2 : (T.setVm s.vm).sameButNew ({ U with vm := s.vm } : State) [] (0 + 1) (0 + 6) := ⟨e1, e2⟩
    have h3 := X.same.trans h2
    rw [List.append_nil] at h3
    exact h3.mono hc hs
  refine ⟨U, ?_, .threw T.heap.size, hrun, hend, Or.inr ⟨T.heap.size, rfl, cls, ce, locs, hx U hWs.alike f1 (fun q hq => f2 q hq (fun z hz => nomatch hz)), hce, hO.vm, hcl, hWs, hall, hf⟩⟩
  refine st1 _ ?_
  show Steps p.tables e below (T1.setTop { method := m, pc := pc + 3, locals := ls, stack := .ref T.heap.size :: rest, locked := none }) _
  jvm_step X₁.here [X₁.here.top, hexec, d3', Value.category]
  exact X₁.ldcString hexec (own := own) (text := text) (index := is) (a := sa) hown' hstr'.1 hstr'.2
    (g := { method := m, pc := pc + 4, locals := ls, stack := .ref T.heap.size :: .ref T.heap.size :: rest, locked := none }) rfl d4' _ hsteps
/-- 'throw new E("text")', the text by a wide index -/
theorem vx_throwSW {cc : ByteArray} {pc : Nat} (hexec : p.tables.exec = Jvm.exec) (hb : c.code = cc) (hl : l.stackTraces = false) {own cls text : String} {names : List String} {ik is ic mc ms sa : Nat} {A : Nat → Prop}
    (hown : s.vm.findClass own = some m.cls) (hcls : Bundle.fit cls = true) (hnames : ∀ n ∈ names, Bundle.fit n = true)
    (hk : (Cond.classLink own ik cls).before args s = true) (hini : (Cond.initialized cls).before args s = true) (hstr : vk_R own is text sa s) (hat : ∀ w ∈ vx_atS own ic cls names, w.before args s = true)
    (hgood : ∀ w ∈ Cond.classLink own ik cls :: Cond.initialized cls :: vx_atS own ic cls names, vx_ot w = true)
    (hU : vx_Zq Bundle.tN "UNASSIGNED_STACK" Bundle.steD A s s.heap) (hN : vx_Zq Bundle.tN "SUPPRESSED_SENTINEL" Bundle.listD A s s.heap) (hS : va_S A s.heap H locs) (hsize : ls.size = c.maxLocals)
    (d0 : decode cc pc = .ok (.new ik, 3)) (d3 : decode cc (pc + 3) = .ok (.dup, 1)) (d4 : decode cc (pc + 4) = .ok (.ldc_w is, 3)) (d7 : decode cc (pc + 7) = .ok (.invokespecial ic, 3)) (d10 : decode cc (pc + 10) = .ok (.athrow, 1))
    (hout : ∀ x ∈ c.exceptionTable.toList, covers x (pc + 10) = false)
    (hRframes : names.length + 3 < R.frames) (hRlocals : (rest.map fun v => v.category).sum + (13 * (names.length + 1) + 43) ≤ R.locals) (hRcells : cells + 1 ≤ R.cells) (hRslots : slots + 6 ≤ R.slots) (hlocks : meth.locks = false)
    (hx : ∀ t : State, s.vm.Alike t.vm → H.size ≤ t.heap.size → (∀ q : Nat, q < H.size → t.heap[q]? = H[q]?) → XC cls s t)
    (hf : ∀ z ∈ locs, free z.base) (hc : cells + 1 ≤ mc) (hs : slots + 6 ≤ ms) :
    W p l e R s m args below meth c H locs cells slots (vx_MQ below Qc XC args s mc ms free) (F0 m pc ls rest) := by
  intro T hT X
  have htr : e.platform.stackTraces = false := (show e.platform.stackTraces = l.stackTraces by rw [X.admits.platform]).trans hl
  have Y := vx_rebase X (R' := { frames := R.frames, locals := R.locals, cells := 1, slots := 6 }) (Nat.le_refl _) (Nat.le_refl _) hRcells hRslots
  obtain ⟨s', hA⟩ : ∃ z, z = (T.setVm s.vm).setFrames (.invoking m args :: below) := ⟨_, rfl⟩
  rw [← hA] at Y
  have hvm : s'.vm = s.vm := by rw [hA]; rfl
  have hhp : s'.heap = H := by rw [hA]; exact hT
  have hW0 : s.WarmedH s'.vm := by rw [hvm]; exact State.WarmedH.refl s
  have hat' : ∀ w ∈ vx_atS own ic cls names, w.before args s' = true := fun w hw => vx_ot_at hW0 hvm.symm (hgood w (List.mem_cons_of_mem _ (List.mem_cons_of_mem _ hw))) (hat w hw)
  have hk' : (Cond.classLink own ik cls).before args s' = true := vx_ot_at hW0 hvm.symm (hgood _ List.mem_cons_self) hk
  have hini' : (Cond.initialized cls).before args s' = true := vx_ot_at hW0 hvm.symm (hgood _ (List.mem_cons_of_mem _ List.mem_cons_self)) hini
  have hU' : vx_Zq Bundle.tN "UNASSIGNED_STACK" Bundle.steD A s' s'.heap := by rw [hhp]; exact vx_Zq.moved hW0.alike (hU.kept hS.2.1)
  have hN' : vx_Zq Bundle.tN "SUPPRESSED_SENTINEL" Bundle.listD A s' s'.heap := by rw [hhp]; exact vx_Zq.moved hW0.alike (hN.kept hS.2.1)
  have h : ∀ w ∈ Bundle.ownAtoms own ic cls names, w.before args s' = true := vx_own hat' (vx_isRefq hU'.1) (vx_isRefq hN'.1) hU'.2.word hN'.2.word
  have hown' : s'.vm.findClass own = some m.cls := by rw [hvm]; exact hown
  have hins : (Cond.instantiable cls 6).before args s' = true := h _ (by simp [Bundle.ownAtoms])
  obtain ⟨vm₁, cX, kX, hfX, hkX, -, -, X₁, st1⟩ := Y.newCold hexec (own := own) (C := cls) (index := ik) (n := 6) hown' hk' hins hini'
    (g := F0 m pc ls rest) rfl (by rw [hb]; exact d0) (Nat.le_refl _) (Nat.le_refl _)
  generalize hT1 : (T.setVm vm₁).pushCell { cls := cX, slots := kX.instanceTypes.map defaultValue, vm := .none } = T1 at X₁ st1
  have hcat : (Value.ref T.heap.size).category = 1 := rfl
  have hcellA : T1.heap[T.heap.size]? = some (freshCell cX kX) := by rw [← hT1]; exact State.heap_pushCell_size _ _
  have d3' : decode c.code (pc + 3) = .ok (.dup, 1) := by rw [hb]; exact d3
  have d4' : decode c.code (pc + 4) = .ok (.ldc_w is, 3) := by rw [hb]; exact d4
  have hstr' : vk_R own is text sa s' := vk_R.warm hW0 hstr
  obtain ⟨U, hsteps, hrun, hend, hW, hsame, ce, hce, hO⟩ := X₁.ctorThrowS hexec htr (own := own) (cls := cls) (names := names) (ic := ic) hown' hcls hnames h (fun x hx => nomatch hx) hfX hkX hcellA (by rw [hhp, hT]; exact Nat.le_refl _) (msg := .ref sa) rfl
    (g := { method := m, pc := pc + 7, locals := ls, stack := .ref sa :: .ref T.heap.size :: .ref T.heap.size :: rest, locked := none }) rfl hsize rfl rfl (rest := rest) rfl
    (by rw [hb]; exact d7) (by rw [hb]; exact d10) hout hRframes (by simp only [List.map_cons, List.sum_cons, hcat]; omega) hlocks
  obtain ⟨f1, f2⟩ := vx_frame hsame
  rw [hhp] at f1 f2
  have hWs : s.WarmedH U.vm := State.WarmedH.trans hW0 hW
  have hcl : s.vm.findClass cls = some ce.cls := by
    have h9 := hO.cls
    rw [hvm] at h9
    exact h9
  have hall : s.sameButNew ({ U with vm := s.vm } : State) locs mc ms := by
    subst hA
    obtain ⟨e1, e2⟩ := hsame
    rw [State.setFrames_setFrames] at e1
    have h2 : (T.setVm s.vm).sameButNew ({ U with vm := s.vm } : State) [] (0 + 1) (0 + 6) := ⟨e1, e2⟩
    have h3 := X.same.trans h2
    rw [List.append_nil] at h3
    exact h3.mono hc hs
  refine ⟨U, ?_, .threw T.heap.size, hrun, hend, Or.inr ⟨T.heap.size, rfl, cls, ce, locs, hx U hWs.alike f1 (fun q hq => f2 q hq (fun z hz => nomatch hz)), hce, hO.vm, hcl, hWs, hall, hf⟩⟩
  refine st1 _ ?_
  show Steps p.tables e below (T1.setTop { method := m, pc := pc + 3, locals := ls, stack := .ref T.heap.size :: rest, locked := none }) _
  jvm_step X₁.here [X₁.here.top, hexec, d3', Value.category]
  exact X₁.ldcStringW hexec (own := own) (text := text) (index := is) (a := sa) hown' hstr'.1 hstr'.2
    (g := { method := m, pc := pc + 4, locals := ls, stack := .ref T.heap.size :: .ref T.heap.size :: rest, locked := none }) rfl d4' _ hsteps
end Ends
section Bodies
variable {l : Launch}
theorem vx_ofW {y : MethodName} {ws ws' : List Cond} {rm : Room} {Pc : Array Value → State → Prop} {Qc : Array Value → State → Outcome → State → Prop} {XC : String → State → State → Prop} {mc ms : Nat} {free : Addr → Prop} {cc : ByteArray} {maxL : Nat} {ret : Option FieldType}
    (hy : plainName y.cls = true) (hw : ws = Cond.code y cc maxL ret :: ws')
    (body : ∀ p e s m args below meth c s₁, BodyLoose p l y (headSpec ws rm) cc maxL ret e s m args below meth c s₁ → c.maxLocals = maxL → (∀ x ∈ c.exceptionTable.toList, False) → Pc args s →
      W p l e (headSpec ws rm).room s m args below meth c s.heap [] 0 0 (vx_MQ below Qc XC args s mc ms free) (entryFrame m args maxL)) : vx_Met l y ws rm Pc Qc XC mc ms free := by
  refine MetFree.of_bodyS (code := cc) (maxLocals := maxL) (ret := ret) hy ?_ ?_
  · intro args s m h hn
    obtain ⟨meth, c, h1, h2, h3, h4, h5, h6, -, -⟩ := Cond.code_spec hn (atoms_spec (ws := ws) h _ (by rw [hw]; exact List.mem_cons_self))
    exact ⟨meth, c, h1, h2, h3, h4, h5, h6⟩
  · intro p e s m args below meth c s₁ B hml hP _
    have hh0 : s₁.heap = s.heap := by rw [B.state]; rfl
    have ht : ∀ x ∈ c.exceptionTable.toList, False := by
      obtain ⟨meth9, c9, h1, h2, -, -, -, -, h7, -⟩ := Cond.code_spec B.named (atoms_spec (ws := ws) B.pre _ (by rw [hw]; exact List.mem_cons_self))
      cases Option.some.inj (h1.symm.trans B.method)
      cases Option.some.inj (h2.symm.trans (Stand.of_body B).code)
      intro x hx
      rw [Array.isEmpty_iff.mp h7] at hx
      cases hx
    obtain ⟨t, a1, o, b1, b2, b3⟩ := body p e s m args below meth c s₁ B hml ht hP s₁ hh0 (Stand.of_body B)
    exact ⟨t, o, a1, b1, b2, b3⟩
/-- the table of a body with handlers -/
theorem vx_table {p : Program} {x y : MethodName} {S : Spec} {cc bytes : ByteArray} {maxL maxL' : Nat} {ret ret' : Option FieldType} {e : Env} {s s₁ : State} {m : MethodId} {args : Array Value} {below : List Frame} {meth : Method} {c : Code} {hh : List (Nat × Nat × Nat × Nat)}
    (B : BodyLoose p l y S cc maxL ret e s m args below meth c s₁) (h : (Cond.codeWith y bytes maxL' ret' hh).before args s = true) : c.exceptionTable.toList = tableOf hh := by
  obtain ⟨m9, meth9, c9, hn9, h1, h2, -, -, h6, -⟩ := Cond.codeWith_spec h
  cases Option.some.inj (hn9.symm.trans B.named)
  cases Option.some.inj (h1.symm.trans B.method)
  cases Option.some.inj (h2.symm.trans (Stand.of_body B).code)
  rw [← h6, table_eq]
end Bodies
end VXA
/-! ===== END ===== -/
/-! ===== BEGIN a static call of a method with an exception table ===== -/
section VXS
variable {p : Program} {l : Launch} {e : Env} {R : Room} {s : State} {m : MethodId} {args : Array Value} {below : List Frame} {meth : Method} {c : Code} {T : State} {H : Heap} {locs : List Loc} {cells slots : Nat}
abbrev vx_CSW (R : Room) (s : State) (args : Array Value) (own : String) (index : Nat) (y : MethodName) (bytes : ByteArray) (maxL : Nat) (ret : Option FieldType) (hh : List (Nat × Nat × Nat × Nat)) (ws : List Cond) (rm : Room) (mc ms n : Nat) : Prop :=
  (rm.cells = mc ∧ rm.slots = ms ∧ rm.frames + 1 ≤ R.frames ∧ 8 + (maxL + 11) + rm.locals ≤ R.locals ∧ (∀ w ∈ ws, ∀ (a' : Array Value) (U : State), s.WarmedH U.vm → w.before a' U = true) ∧ Cond.codeWith y bytes maxL ret hh ∈ ws) ∧
  (Cond.codeWith y bytes maxL ret hh).before args s = true ∧ (Cond.initialized y.cls).before args s = true ∧ (y.cls ≠ "java/lang/invoke/MethodHandle" ∧ y.cls ≠ "java/lang/invoke/VarHandle") ∧
  (∀ sig, parseMethodDescriptor y.desc = some sig → n = sig.parameters.length) ∧ (Cond.methodLink own index y).before args s = true ∧ (Cond.static y).before args s = true
theorem vx_cwSW {own : String} {index maxL mc ms : Nat} {y : MethodName} {bytes : ByteArray} {ret : Option FieldType} {hh : List (Nat × Nat × Nat × Nat)} {Ts ws ws' : List Cond} {rm : Room} (n : Nat) (ht : ∀ w ∈ Ts, w.before args s = true) (hT : GoodIn Ts (va_wsS own index y ws)) (hw : ws = Cond.codeWith y bytes maxL ret hh :: ws') (hrc : rm.cells = mc) (hrs : rm.slots = ms)
    (hd : y.cls ≠ "java/lang/invoke/MethodHandle" ∧ y.cls ≠ "java/lang/invoke/VarHandle" ∧ (parseMethodDescriptor y.desc).map (fun d => d.parameters.length) = some n) (hR : rm.frames + 1 ≤ R.frames ∧ 8 + (maxL + 11) + rm.locals ≤ R.locals) :
    vx_CSW R s args own index y bytes maxL ret hh ws rm mc ms n := by
  have ok : ∀ w ∈ va_wsS own index y ws, w.before args s = true := fun w h => ht w (hT w h).1
  have hG : GoodIn Ts ws := fun w h => hT w (by unfold va_wsS; exact List.mem_append_right _ h)
  have hc : Cond.codeWith y bytes maxL ret hh ∈ ws := by rw [hw]; exact List.mem_cons_self
  refine ⟨⟨hrc, hrs, hR.1, hR.2, pay_in ht hG, hc⟩, ht _ (hG _ hc).1, ok _ (by simp [va_wsS]), ⟨hd.1, hd.2.1⟩, fun sig h => ?_, ok _ (by simp [va_wsS]), ok _ (by simp [va_wsS])⟩
  have h2 := hd.2.2
  rw [h] at h2
  exact (Option.some.inj h2).symm
theorem vx_callSW (X : Stand p l e R s m args below meth c T locs cells slots) (hexec : p.tables.exec = Jvm.exec) {own : String} {index : Nat} {y : MethodName} {bytes : ByteArray} {maxL : Nat} {ret : Option FieldType} {hh : List (Nat × Nat × Nat × Nat)}
    (hown : s.vm.findClass own = some m.cls) (hlink : (Cond.methodLink own index y).before args s = true) (hstat : (Cond.static y).before args s = true) (hinit : (Cond.initialized y.cls).before args s = true)
    (hcode : (Cond.codeWith y bytes maxL ret hh).before args s = true) (hy : y.cls ≠ "java/lang/invoke/MethodHandle" ∧ y.cls ≠ "java/lang/invoke/VarHandle")
    {W9 : Nat} {Pre : Pt → Array Value → Prop} {Post : Pt → Array Value → Option Value → Pt → Prop} (hK : Back l R p e below s args y 3 W9 Pre Post)
    {g : JFrame} (hg : g.method = m) (hsize : g.locals.size = c.maxLocals) {argsL rest : List Value} (hlen : ∀ sig, parseMethodDescriptor y.desc = some sig → argsL.length = sig.parameters.length)
    (hstack : g.stack = argsL.reverse ++ rest) (hW : 2 * g.monitorRoom + (rest.map fun v => v.category).sum ≤ W9) (hdg : decode c.code g.pc = .ok (.invokestatic index, 3))
    (hpre : ∀ vm₁, s.WarmedH vm₁ → Pre ⟨T.setVm vm₁, locs, cells, slots⟩ argsL.toArray) :
    ∃ (v : Option Value) (vm₁ : Vm) (B : Pt), s.WarmedH vm₁ ∧ Stand p l e R s m args below meth c B.U B.locs B.cells B.slots ∧ Post ⟨T.setVm vm₁, locs, cells, slots⟩ argsL.toArray v B ∧
      ∀ target, Steps p.tables e below (B.U.setTop { g with pc := g.pc + 3, stack := v.toList ++ rest }) target → Steps p.tables e below (T.setTop g) target := by
  obtain ⟨mk, methM, cM, hnamed, hmethM, -, -, -, -, -, -, hsigM⟩ := Cond.codeWith_spec hcode
  have hstatic : methM.isStatic = true := Cond.static_spec hnamed hmethM hstat
  obtain ⟨kP, hkP, -⟩ := className_of_methodNamed hnamed
  have hinitP : kP.init = .initialized := Cond.initialized_spec (findClass_of_methodNamed hnamed) hkP hinit
  obtain ⟨vm₁, X₁, hstep₁⟩ := X.invokestatic hexec hown hlink hnamed hmethM hstatic hkP hinitP hy (g := g) hg (argsL := argsL) (rest := rest) (hlen _ hsigM) hstack hdg
  obtain ⟨v, B, X', hpost, hsteps⟩ := hK m meth c ⟨T.setVm vm₁, locs, cells, slots⟩ { g with stack := rest } (.invokestatic index) mk argsL.toArray X₁ hg hsize hdg hW (X₁.named hnamed) (hpre vm₁ X₁.warmed)
  exact ⟨v, vm₁, B, X₁.warmed, X', hpost, fun target h => hstep₁ _ fun acts => by rw [doInvoke_state]; exact hsteps.trans h⟩
theorem vx_runSW {y : MethodName} {bytes cc : ByteArray} {maxL nL mc ms n index : Nat} {ret : Option FieldType} {hh : List (Nat × Nat × Nat × Nat)} {ws : List Cond} {rm : Room} {Pc : Array Value → State → Prop} {Qc : Array Value → State → Outcome → State → Prop} {free : Addr → Prop} {Ts : List Cond} {own : String} {As rest : List Value} {g : JFrame}
    (S : CallFix p m c cc nL s args Ts own) (hM : Met l y ws rm Pc Qc mc ms free) (cw : vx_CSW R s args own index y bytes maxL ret hh ws rm mc ms n) (hp : PreS s H Pc As)
    (hg : g.method = m) (hn : As.length = n) (hsize : g.locals.size = nL) (hstack : g.stack = As.reverse ++ rest) (hW : 2 * g.monitorRoom + (rest.map fun v => v.category).sum ≤ 8) (hdg : decode cc g.pc = .ok (.invokestatic index, 3)) (hf : cells + mc ≤ R.cells ∧ slots + ms ≤ R.slots) :
    va_Run p l e R s m args below meth c H locs cells slots mc ms g rest (Qc As.toArray) (free) := by
  obtain ⟨⟨hrc, hrs, hfr, hlo, hws, hcw⟩, hcode, hini, hy, hlen, hl, hstt⟩ := cw
  have hK : Back l R p e below s args y 3 8 (PreOf R mc ms Pc) (PostOf Qc mc ms free) := va_backW (hh := hh) (bytes := bytes) (maxL := maxL) (ret := ret) hM hp.1 hrc hrs hfr hlo hws hcw (fun a' U hW => word_at hW (Or.inl (by first | rfl | simp [Cond.onTables, Cond.keeps, Cond.steady])) hini)
  obtain ⟨hx, hb, hml, ho, -⟩ := S
  intro T hT X
  obtain ⟨v, vm₁, ⟨U', l2, c2, s2⟩, hW₁, X', ⟨g', mk, t, L, e1, e2, hq, h1, hL, h2, h3⟩, st⟩ := vx_callSW X hx (hh := hh) (bytes := bytes) (maxL := maxL) (ret := ret) ho hl hstt hini hcode hy hK hg (hsize.trans hml.symm) (argsL := As) (rest := rest) (fun sig h => hn.trans (hlen sig h)) hstack hW (by rw [hb]; exact hdg)
    (fun vm₁ hW₁ => ⟨hf.1, hf.2, hp.2 (T.setVm vm₁) hT hW₁⟩)
  dsimp only [Pt.U, Pt.locs, Pt.cells, Pt.slots] at X' e1 e2 h1 h2 h3 st
  subst h1; subst h2; subst h3
  exact ⟨v, (T.setVm vm₁).calling g' mk As.toArray, t, U', L, hT, X', hL, e1, e2, hq, st⟩
/-- not caught here, past rows that name other classes: it goes on to the caller -/
theorem vx_outP {p : Program} {l : Launch} {e : Env} {R : Room} {s : State} {m : MethodId} {args : Array Value} {below : List Frame} {meth : Method} {c : Code} {H : Heap} {locs : List Loc} {cells slots : Nat} {free : Addr → Prop} {ls : Array Slot} {rest : List Value} {Qc : Array Value → State → Outcome → State → Prop} {XC : String → State → State → Prop}
    {pc : Nat} {own E : String} {ce : Cell} {q : Addr} {mc ms : Nat} (hown : s.vm.findClass own = some m.cls) (hlocks : meth.locks = false)
    (hpass : ∀ z ∈ c.exceptionTable.toList, covers z pc = false ∨ (z.catchType ≠ 0 ∧ ∃ nm : String, (Cond.classLink own z.catchType nm).before args s = true ∧ va_Nc E nm s)) (hcell : H[q]? = some ce) (hv : ce.vm = .none) (hcl : s.vm.findClass E = some ce.cls)
    (hx : ∀ t : State, t.heap = H → s.vm.Alike t.vm → XC E s t) (hf : ∀ z ∈ locs, free z.base) (hc : cells ≤ mc) (hs : slots ≤ ms) :
    vx_W p l e R s m args below meth c H locs cells slots (vx_MQ below Qc XC args s mc ms free) (F0 m pc ls rest) q := by
  intro T hT X
  have hpl : e.platform.magicAccessors = ({} : Platform).magicAccessors := by rw [X.admits.platform]
  obtain ⟨vm', hW', X', st⟩ := X.outThrough hlocks q (g := F0 m pc ls rest) rfl rfl rfl (cell := ce) (by rw [hT]; exact hcell) (by rw [hv]; rfl)
    (by obtain ⟨k9, h9, -⟩ := Vm.findClass_spec hcl; exact ⟨k9, h9⟩) (fun z hz => by
      rcases hpass z hz with h | ⟨hz0, nm, hl1, hn1⟩
      · exact Or.inl h
      · obtain ⟨c6, hc6, hcl6⟩ := Cond.classLink_spec hown hl1 e.platform hpl
        obtain ⟨a8, b8, h1, h2, h3⟩ := hn1
        cases Option.some.inj (h1.symm.trans hcl)
        cases Option.some.inj (h2.symm.trans hc6)
        exact Or.inr ⟨hz0, _, hcl6, h3⟩)
  obtain ⟨g₀, hfr⟩ := X'.frames_eq
  have hcell9 : ((T.setVm vm').setFrames (.throwing q :: below)).heap[q]? = some ce := by
    show T.heap[q]? = some ce
    rw [hT]; exact hcell
  have hend : Ended ((T.setVm vm').setFrames (.throwing q :: below)) below (.threw q) := State.frames_setFrames _ (State.cur_lt_of_frames hfr)
  refine ⟨(T.setVm vm').setFrames (.throwing q :: below), ?_, .threw q, X'.here.running, hend, Or.inr ⟨q, rfl, E, ce, locs, hx _ hT (X'.ends _).1.alike, hcell9, hv, hcl, (X'.ends _).1, (X'.ends _).2.mono hc hs, hf⟩⟩
  rw [X.pushThrowing_eq]
  exact st
/-- a thing of a world lies in the heap -/
theorem vx_lt {D : va_G} {cl : List vw_C} {ws : va_W} {H1 : Heap} (h : va_P D cl ws H1) {k : Nat} {q : Nat × va_E} (hk : ws[k]? = some q) : q.1 < H1.size := (h k q hk).lt
end VXS
/-! ===== END ===== -/
/-! ===== BEGIN methods with a table of their own: called by a name, returning or throwing ===== -/
section VXH
/-! vx_backW, vx_callVX, vx_callSX, vx_callVW, vx_runVW, vx_runVX, vx_runSX, vx_ofWH follow the same proofs as their sisters above (Free/Laws.lean, Shelf42/LK1.lean); vx_outP calls Shelf42/NT130.lean (outThrough). -/
section
variable {l : Launch} {R : Room} {p : Program} {e : Env} {below : List Frame} {s : State} {sargs : Array Value} {y : MethodName} {len W9 : Nat}
theorem vx_backW {ws : List Cond} {rm : Room} {Pc : Array Value → State → Prop} {Qc : Array Value → State → Outcome → State → Prop} {XC : String → State → State → Prop} {mc ms : Nat} {free : Addr → Prop} {bytes : ByteArray} {maxL : Nat} {ret : Option FieldType} {hh : List (Nat × Nat × Nat × Nat)}
    (hM : vx_Met l y ws rm Pc Qc XC mc ms free) (hblind : FrameBlind Pc) (hrc : rm.cells = mc) (hrs : rm.slots = ms)
    (hframes : rm.frames + 1 ≤ R.frames) (hlocals : W9 + (maxL + 11) + rm.locals ≤ R.locals)
    (hws : ∀ w ∈ ws, ∀ a' U, s.WarmedH U.vm → w.before a' U = true) (hcode : Cond.codeWith y bytes maxL ret hh ∈ ws) (hinit : ∀ a' U, s.WarmedH U.vm → (Cond.initialized y.cls).before a' U = true) :
    vx_Back l R p e below s sargs y len W9 (PreOf R mc ms Pc) (PostOf Qc mc ms free) (vx_Post XC mc ms free) := by
  intro m meth c A g ig mk a X hg hsize hdg hW hn hp
  have h1 : (headSpec ws rm).pre.before a A.U = true := atoms_intro fun w hw => hws w hw _ _ X.warmed
  have h2 : (Cond.codeWith y bytes maxL ret hh).before a A.U = true := hws _ hcode _ _ X.warmed
  have h3 : (Cond.initialized y.cls).before a A.U = true := hinit _ _ X.warmed
  have h4 : A.cells + (headSpec ws rm).room.cells ≤ R.cells := by rw [show (headSpec ws rm).room.cells = mc from hrc]; exact hp.1
  have h5 : A.slots + (headSpec ws rm).room.slots ≤ R.slots := by rw [show (headSpec ws rm).room.slots = ms from hrs]; exact hp.2.1
  have hPc : Pc a (A.U.calling g mk a) := hblind _ _ _ _ hp.2.2
  obtain ⟨U, Ls, c0, s0⟩ := A
  dsimp only [Pt.U, Pt.locs, Pt.cells, Pt.slots] at h1 h2 h3 h4 h5 X hn hPc ⊢
  obtain ⟨m9, methY, cY, hn9, hmY, hcY, -, hlY, -⟩ := Cond.codeWith_spec h2
  cases Option.some.inj (hn9.symm.trans hn)
  obtain ⟨kY, hkY, -⟩ := className_of_methodNamed hn
  have hinitY : kY.init = .initialized := Cond.initialized_spec (findClass_of_methodNamed hn) hkY h3
  have h : At U g.method c below := by rw [hg]; exact X.here
  have hlocals9 : W9 + (maxL + 11) + (headSpec ws rm).room.locals ≤ R.locals := hlocals
  have happ : (headSpec ws rm).appliesLoose y e.platform (U.calling g mk a) = true :=
    Spec.appliesLoose_calling (g := g) h hdg hn hkY hinitY
      (X.room_calling (g := g) (R' := (headSpec ws rm).room) hsize hmY hcY hframes (by rw [hlY]; omega) h4 h5) h1
  obtain ⟨mid, hmid⟩ := h.above
  have hfr : (U.setTop g).frames = (.java g :: mid) ++ below := by rw [State.frames_setTop' g h.top, hmid]; rfl
  obtain ⟨o, s₂, hsteps, -, hend, hq⟩ := Steps.callFree hM p X.admits X.cas X.clock (acts := []) hfr happ hPc trivial
  have hq' : vx_Q Qc XC mc ms free a (U.calling g mk a) o s₂ := hq
  rw [State.frames_setTop' g h.top] at hend
  obtain ⟨g₀, hg0⟩ := Option.isSome_iff_exists.mp h.top
  obtain ⟨r, hr⟩ := State.topJava?_eq_some.mp hg0
  have hr' : (({ U with heap := s₂.heap, slotsUsed := s₂.slotsUsed } : State).setVm s₂.vm).frames = .java g₀ :: r := hr
  rcases hq' with ⟨hqc, L, hfe, hL⟩ | ⟨q, rfl, E, ce, L, hx, hce, hcv, hcl, hW₂, hsm, hL⟩
  · obtain ⟨⟨v, rfl⟩, hW₂, e2, q2, q3, q4, q5, q6⟩ := id hfe
    have e3 : s₂ = ({ (U.calling g mk a).setFrames s₂.frames with heap := s₂.heap, slotsUsed := s₂.slotsUsed } : State).setVm s₂.vm := by
      have : s₂ = ({ s₂ with vm := (U.calling g mk a).vm } : State).setVm s₂.vm := rfl
      rw [e2] at this
      exact this
    obtain ⟨c₂, i₂, len₂, hc₂, hd₂, hf₂⟩ := hend
    have hW' : U.WarmedH s₂.vm := hW₂
    have hcc : c₂ = c := by
      have h1 : s₂.code? g.method = U.code? g.method := by
        rw [State.code?_eq, State.code?_eq, hW'.alike.method?]
      exact Option.some.inj (hc₂.symm.trans (h1.trans h.code))
    subst hcc
    have hlen : len₂ = len := by rw [hdg] at hd₂; cases hd₂; rfl
    subst hlen
    have hs₂ : s₂ = (({ U with heap := s₂.heap, slotsUsed := s₂.slotsUsed } : State).setVm s₂.vm).setTop { g with pc := g.pc + len₂, stack := v.toList ++ g.stack } := by
      refine e3.trans ?_
      rw [hf₂, State.calling_eq h.top, State.setFrames_setFrames, State.setTop_of_frames _ hr', hr]
      rfl
    have hsame : U.sameButNew ({ U with heap := s₂.heap, slotsUsed := s₂.slotsUsed } : State) L mc ms := by
      refine ⟨?_, q2, q3, q4, q5, q6⟩
      obtain ⟨t, ht, -⟩ := State.frames_cons hr
      show ({ U with heap := s₂.heap, slotsUsed := s₂.slotsUsed } : State) = { U.setFrames U.frames with heap := s₂.heap, slotsUsed := s₂.slotsUsed }
      rw [State.setFrames_self ht]
    subst hg
    refine Or.inl ⟨v, ⟨(({ U with heap := s₂.heap, slotsUsed := s₂.slotsUsed } : State).setVm s₂.vm), Ls ++ L, c0 + mc, s0 + ms⟩,
      ⟨X.admits, X.cas, X.clock, X.frames, X.room, X.hears, X.method, X.code, (X.here.setHeapUsed s₂.heap s₂.slotsUsed).setVm hW'.alike, X.tail, State.WarmedH.trans X.warmed hW', X.limits, X.bytes, X.same.trans (hsame.setVm s.vm)⟩,
      ⟨g, mk, s₂, L, rfl, rfl, hqc, rfl, hL, rfl, rfl⟩, ?_⟩
    show Steps p.tables e below _ ((({ U with heap := s₂.heap, slotsUsed := s₂.slotsUsed } : State).setVm s₂.vm).setTop { g with pc := g.pc + len₂, stack := v.toList ++ g.stack })
    rw [← hs₂]
    exact hsteps
  · obtain ⟨e2, q2, q3, q4, q5, q6⟩ := id hsm
    have e3 : s₂ = ({ (U.calling g mk a).setFrames s₂.frames with heap := s₂.heap, slotsUsed := s₂.slotsUsed } : State).setVm s₂.vm := by
      have : s₂ = ({ s₂ with vm := (U.calling g mk a).vm } : State).setVm s₂.vm := rfl
      rw [e2] at this
      exact this
    have hf₂ : s₂.frames = .throwing q :: .java g :: U.frames.tail := hend
    have hW' : U.WarmedH s₂.vm := hW₂
    have hs₂ : s₂ = ((({ U with heap := s₂.heap, slotsUsed := s₂.slotsUsed } : State).setVm s₂.vm).setTop g).pushFrame (.throwing q) := by
      refine e3.trans ?_
      rw [hf₂, State.calling_eq h.top, State.setFrames_setFrames, State.pushFrame, State.frames_setTop _ hr', State.setTop_of_frames _ hr', State.setFrames_setFrames, hr]
      rfl
    have hsame : U.sameButNew ({ U with heap := s₂.heap, slotsUsed := s₂.slotsUsed } : State) L mc ms := by
      refine ⟨?_, q2, q3, q4, q5, q6⟩
      obtain ⟨t, ht, -⟩ := State.frames_cons hr
      show ({ U with heap := s₂.heap, slotsUsed := s₂.slotsUsed } : State) = { U.setFrames U.frames with heap := s₂.heap, slotsUsed := s₂.slotsUsed }
      rw [State.setFrames_self ht]
    subst hg
    refine Or.inr ⟨q, ⟨(({ U with heap := s₂.heap, slotsUsed := s₂.slotsUsed } : State).setVm s₂.vm), Ls ++ L, c0 + mc, s0 + ms⟩,
      ⟨X.admits, X.cas, X.clock, X.frames, X.room, X.hears, X.method, X.code, (X.here.setHeapUsed s₂.heap s₂.slotsUsed).setVm hW'.alike, X.tail, State.WarmedH.trans X.warmed hW', X.limits, X.bytes, X.same.trans (hsame.setVm s.vm)⟩,
      ⟨g, mk, s₂, L, E, ce, rfl, rfl, hx, hce, hcv, hcl, rfl, hL, rfl, rfl⟩, ?_⟩
    show Steps p.tables e below _ (((({ U with heap := s₂.heap, slotsUsed := s₂.slotsUsed } : State).setVm s₂.vm).setTop g).pushFrame (.throwing q))
    rw [← hs₂]
    exact hsteps
end
variable {p : Program} {l : Launch} {e : Env} {R : Room} {s : State} {m : MethodId} {args : Array Value} {below : List Frame} {meth : Method} {c : Code} {T : State} {H : Heap} {locs : List Loc} {cells slots : Nat}
theorem vx_callVX (X : Stand p l e R s m args below meth c T locs cells slots) (hexec : p.tables.exec = Jvm.exec) {own C : String} {index : Nat} {y : MethodName} {bytes : ByteArray} {maxL : Nat} {ret : Option FieldType} {hh : List (Nat × Nat × Nat × Nat)}
    (hown : s.vm.findClass own = some m.cls) (hlink : (Cond.methodLink own index y).before args s = true) (hinst : (Cond.instanceMethod y).before args s = true) (hsel : (Cond.selects C y y).before args s = true)
    (hcode : (Cond.codeWith y bytes maxL ret hh).before args s = true) (hy : y.cls ≠ "java/lang/invoke/MethodHandle" ∧ y.cls ≠ "java/lang/invoke/VarHandle")
    {W9 : Nat} {Pre : Pt → Array Value → Prop} {Post : Pt → Array Value → Option Value → Pt → Prop} {PostX : Pt → Array Value → Addr → Pt → Prop} (hK : vx_Back l R p e below s args y 3 W9 Pre Post PostX)
    {b : Addr} {cellB : Cell} (hcell : T.heap[b]? = some cellB) (hobj : cellB.vm.isStatics = false) (hcls : s.vm.findClass C = some cellB.cls)
    {g : JFrame} (hg : g.method = m) (hsize : g.locals.size = c.maxLocals) {argsL rest : List Value} (hlen : ∀ sig, parseMethodDescriptor y.desc = some sig → argsL.length = sig.parameters.length)
    (hstack : g.stack = argsL.reverse ++ .ref b :: rest) (hW : 2 * g.monitorRoom + (rest.map fun v => v.category).sum ≤ W9) (hdg : decode c.code g.pc = .ok (.invokevirtual index, 3))
    (hpre : ∀ vm₁, s.WarmedH vm₁ → Pre ⟨T.setVm vm₁, locs, cells, slots⟩ (Value.ref b :: argsL).toArray) :
    (∃ (v : Option Value) (vm₁ : Vm) (B : Pt), s.WarmedH vm₁ ∧ Stand p l e R s m args below meth c B.U B.locs B.cells B.slots ∧ Post ⟨T.setVm vm₁, locs, cells, slots⟩ (Value.ref b :: argsL).toArray v B ∧
      ∀ target, Steps p.tables e below (B.U.setTop { g with pc := g.pc + 3, stack := v.toList ++ rest }) target → Steps p.tables e below (T.setTop g) target) ∨
    (∃ (q : Addr) (vm₁ : Vm) (B : Pt), s.WarmedH vm₁ ∧ Stand p l e R s m args below meth c B.U B.locs B.cells B.slots ∧ PostX ⟨T.setVm vm₁, locs, cells, slots⟩ (Value.ref b :: argsL).toArray q B ∧
      Steps p.tables e below (T.setTop g) ((B.U.setTop { g with stack := rest }).pushFrame (.throwing q))) := by
  obtain ⟨mk, methM, hnamed, hmethM, hstM, habM⟩ := Cond.instanceMethod_spec hinst
  obtain ⟨m8, methM', cM, hn8, hmethM', -, -, -, -, -, -, hsigM⟩ := Cond.codeWith_spec hcode
  cases Option.some.inj (hn8.symm.trans hnamed)
  cases hmethM.symm.trans hmethM'
  obtain ⟨c2, r2, m2, q1, q2, q3, q4, kP, hkP, hkPi⟩ := Cond.selects_spec hsel
  cases hcls.symm.trans q1
  cases (State.methodFound?_of_named hnamed hy).symm.trans q2
  cases hnamed.symm.trans q3
  have hselP : selectMethod e.platform s.vm cellB.cls mk = .method mk := by rw [Launch.admits_selectMethod X.admits]; exact q4
  obtain ⟨vm₁, X₁, hstep₁⟩ := X.invokevirtual hexec hown hlink hnamed hmethM hstM hkP hkPi hy (a := b) (cell := cellB) hcell
    (fun z h => by rw [h] at hobj; cases hobj) hselP hmethM habM hkP hkPi (g := g) hg (argsL := argsL) (rest := rest) (hlen _ hsigM) hstack hdg
  rcases hK m meth c ⟨T.setVm vm₁, locs, cells, slots⟩ { g with stack := rest } (.invokevirtual index) mk (Value.ref b :: argsL).toArray X₁ hg hsize hdg hW (X₁.named hnamed) (hpre vm₁ X₁.warmed) with ⟨v, B, X', hpost, hsteps⟩ | ⟨q, B, X', hpost, hsteps⟩
  · exact Or.inl ⟨v, vm₁, B, X₁.warmed, X', hpost, fun target h => hstep₁ _ fun acts => by rw [doInvoke_state]; exact hsteps.trans h⟩
  · exact Or.inr ⟨q, vm₁, B, X₁.warmed, X', hpost, hstep₁ _ fun acts => by rw [doInvoke_state]; exact hsteps⟩
theorem vx_callSX (X : Stand p l e R s m args below meth c T locs cells slots) (hexec : p.tables.exec = Jvm.exec) {own : String} {index : Nat} {y : MethodName} {bytes : ByteArray} {maxL : Nat} {ret : Option FieldType} {hh : List (Nat × Nat × Nat × Nat)}
    (hown : s.vm.findClass own = some m.cls) (hlink : (Cond.methodLink own index y).before args s = true) (hstat : (Cond.static y).before args s = true) (hinit : (Cond.initialized y.cls).before args s = true)
    (hcode : (Cond.codeWith y bytes maxL ret hh).before args s = true) (hy : y.cls ≠ "java/lang/invoke/MethodHandle" ∧ y.cls ≠ "java/lang/invoke/VarHandle")
    {W9 : Nat} {Pre : Pt → Array Value → Prop} {Post : Pt → Array Value → Option Value → Pt → Prop} {PostX : Pt → Array Value → Addr → Pt → Prop} (hK : vx_Back l R p e below s args y 3 W9 Pre Post PostX)
    {g : JFrame} (hg : g.method = m) (hsize : g.locals.size = c.maxLocals) {argsL rest : List Value} (hlen : ∀ sig, parseMethodDescriptor y.desc = some sig → argsL.length = sig.parameters.length)
    (hstack : g.stack = argsL.reverse ++ rest) (hW : 2 * g.monitorRoom + (rest.map fun v => v.category).sum ≤ W9) (hdg : decode c.code g.pc = .ok (.invokestatic index, 3))
    (hpre : ∀ vm₁, s.WarmedH vm₁ → Pre ⟨T.setVm vm₁, locs, cells, slots⟩ argsL.toArray) :
    (∃ (v : Option Value) (vm₁ : Vm) (B : Pt), s.WarmedH vm₁ ∧ Stand p l e R s m args below meth c B.U B.locs B.cells B.slots ∧ Post ⟨T.setVm vm₁, locs, cells, slots⟩ argsL.toArray v B ∧
      ∀ target, Steps p.tables e below (B.U.setTop { g with pc := g.pc + 3, stack := v.toList ++ rest }) target → Steps p.tables e below (T.setTop g) target) ∨
    (∃ (q : Addr) (vm₁ : Vm) (B : Pt), s.WarmedH vm₁ ∧ Stand p l e R s m args below meth c B.U B.locs B.cells B.slots ∧ PostX ⟨T.setVm vm₁, locs, cells, slots⟩ argsL.toArray q B ∧
      Steps p.tables e below (T.setTop g) ((B.U.setTop { g with stack := rest }).pushFrame (.throwing q))) := by
  obtain ⟨mk, methM, cM, hnamed, hmethM, -, -, -, -, -, -, hsigM⟩ := Cond.codeWith_spec hcode
  have hstatic : methM.isStatic = true := Cond.static_spec hnamed hmethM hstat
  obtain ⟨kP, hkP, -⟩ := className_of_methodNamed hnamed
  have hinitP : kP.init = .initialized := Cond.initialized_spec (findClass_of_methodNamed hnamed) hkP hinit
  obtain ⟨vm₁, X₁, hstep₁⟩ := X.invokestatic hexec hown hlink hnamed hmethM hstatic hkP hinitP hy (g := g) hg (argsL := argsL) (rest := rest) (hlen _ hsigM) hstack hdg
  rcases hK m meth c ⟨T.setVm vm₁, locs, cells, slots⟩ { g with stack := rest } (.invokestatic index) mk argsL.toArray X₁ hg hsize hdg hW (X₁.named hnamed) (hpre vm₁ X₁.warmed) with ⟨v, B, X', hpost, hsteps⟩ | ⟨q, B, X', hpost, hsteps⟩
  · exact Or.inl ⟨v, vm₁, B, X₁.warmed, X', hpost, fun target h => hstep₁ _ fun acts => by rw [doInvoke_state]; exact hsteps.trans h⟩
  · exact Or.inr ⟨q, vm₁, B, X₁.warmed, X', hpost, hstep₁ _ fun acts => by rw [doInvoke_state]; exact hsteps⟩
theorem vx_callVW (X : Stand p l e R s m args below meth c T locs cells slots) (hexec : p.tables.exec = Jvm.exec) {own C : String} {index : Nat} {y : MethodName} {bytes : ByteArray} {maxL : Nat} {ret : Option FieldType} {hh : List (Nat × Nat × Nat × Nat)}
    (hown : s.vm.findClass own = some m.cls) (hlink : (Cond.methodLink own index y).before args s = true) (hinst : (Cond.instanceMethod y).before args s = true) (hsel : (Cond.selects C y y).before args s = true)
    (hcode : (Cond.codeWith y bytes maxL ret hh).before args s = true) (hy : y.cls ≠ "java/lang/invoke/MethodHandle" ∧ y.cls ≠ "java/lang/invoke/VarHandle")
    {W9 : Nat} {Pre : Pt → Array Value → Prop} {Post : Pt → Array Value → Option Value → Pt → Prop} (hK : Back l R p e below s args y 3 W9 Pre Post)
    {b : Addr} {cellB : Cell} (hcell : T.heap[b]? = some cellB) (hobj : cellB.vm.isStatics = false) (hcls : s.vm.findClass C = some cellB.cls)
    {g : JFrame} (hg : g.method = m) (hsize : g.locals.size = c.maxLocals) {argsL rest : List Value} (hlen : ∀ sig, parseMethodDescriptor y.desc = some sig → argsL.length = sig.parameters.length)
    (hstack : g.stack = argsL.reverse ++ .ref b :: rest) (hW : 2 * g.monitorRoom + (rest.map fun v => v.category).sum ≤ W9) (hdg : decode c.code g.pc = .ok (.invokevirtual index, 3))
    (hpre : ∀ vm₁, s.WarmedH vm₁ → Pre ⟨T.setVm vm₁, locs, cells, slots⟩ (Value.ref b :: argsL).toArray) :
    ∃ (v : Option Value) (vm₁ : Vm) (B : Pt), s.WarmedH vm₁ ∧ Stand p l e R s m args below meth c B.U B.locs B.cells B.slots ∧ Post ⟨T.setVm vm₁, locs, cells, slots⟩ (Value.ref b :: argsL).toArray v B ∧
      ∀ target, Steps p.tables e below (B.U.setTop { g with pc := g.pc + 3, stack := v.toList ++ rest }) target → Steps p.tables e below (T.setTop g) target := by
  obtain ⟨mk, methM, hnamed, hmethM, hstM, habM⟩ := Cond.instanceMethod_spec hinst
  obtain ⟨m8, methM', cM, hn8, hmethM', -, -, -, -, -, -, hsigM⟩ := Cond.codeWith_spec hcode
  cases Option.some.inj (hn8.symm.trans hnamed)
  cases hmethM.symm.trans hmethM'
  obtain ⟨c2, r2, m2, q1, q2, q3, q4, kP, hkP, hkPi⟩ := Cond.selects_spec hsel
  cases hcls.symm.trans q1
  cases (State.methodFound?_of_named hnamed hy).symm.trans q2
  cases hnamed.symm.trans q3
  have hselP : selectMethod e.platform s.vm cellB.cls mk = .method mk := by rw [Launch.admits_selectMethod X.admits]; exact q4
  obtain ⟨vm₁, X₁, hstep₁⟩ := X.invokevirtual hexec hown hlink hnamed hmethM hstM hkP hkPi hy (a := b) (cell := cellB) hcell
    (fun z h => by rw [h] at hobj; cases hobj) hselP hmethM habM hkP hkPi (g := g) hg (argsL := argsL) (rest := rest) (hlen _ hsigM) hstack hdg
  obtain ⟨v, B, X', hpost, hsteps⟩ := hK m meth c ⟨T.setVm vm₁, locs, cells, slots⟩ { g with stack := rest } (.invokevirtual index) mk (Value.ref b :: argsL).toArray X₁ hg hsize hdg hW (X₁.named hnamed) (hpre vm₁ X₁.warmed)
  exact ⟨v, vm₁, B, X₁.warmed, X', hpost, fun target h => hstep₁ _ fun acts => by rw [doInvoke_state]; exact hsteps.trans h⟩
abbrev vx_CVW (R : Room) (s : State) (args : Array Value) (own C : String) (index : Nat) (y : MethodName) (bytes : ByteArray) (maxL : Nat) (ret : Option FieldType) (hh : List (Nat × Nat × Nat × Nat)) (ws : List Cond) (rm : Room) (mc ms n : Nat) : Prop :=
  (rm.cells = mc ∧ rm.slots = ms ∧ rm.frames + 1 ≤ R.frames ∧ 8 + (maxL + 11) + rm.locals ≤ R.locals ∧ (∀ w ∈ ws, ∀ (a' : Array Value) (U : State), s.WarmedH U.vm → w.before a' U = true) ∧ Cond.codeWith y bytes maxL ret hh ∈ ws) ∧
  (Cond.codeWith y bytes maxL ret hh).before args s = true ∧ (Cond.initialized y.cls).before args s = true ∧ (y.cls ≠ "java/lang/invoke/MethodHandle" ∧ y.cls ≠ "java/lang/invoke/VarHandle") ∧
  (∀ sig, parseMethodDescriptor y.desc = some sig → n = sig.parameters.length) ∧ (Cond.methodLink own index y).before args s = true ∧ (Cond.instanceMethod y).before args s = true ∧ (Cond.selects C y y).before args s = true
theorem vx_cwVW {own C : String} {index maxL mc ms : Nat} {y : MethodName} {bytes : ByteArray} {ret : Option FieldType} {hh : List (Nat × Nat × Nat × Nat)} {Ts ws ws' : List Cond} {rm : Room} (n : Nat) (ht : ∀ w ∈ Ts, w.before args s = true) (hT : GoodIn Ts (wsV own index C y ws)) (hw : ws = Cond.codeWith y bytes maxL ret hh :: ws') (hrc : rm.cells = mc) (hrs : rm.slots = ms)
    (hd : y.cls = C ∧ y.cls ≠ "java/lang/invoke/MethodHandle" ∧ y.cls ≠ "java/lang/invoke/VarHandle" ∧ (parseMethodDescriptor y.desc).map (fun d => d.parameters.length) = some n) (hR : rm.frames + 1 ≤ R.frames ∧ 8 + (maxL + 11) + rm.locals ≤ R.locals) :
    vx_CVW R s args own C index y bytes maxL ret hh ws rm mc ms n := by
  obtain ⟨hC, hd⟩ := hd
  subst hC
  have ok : ∀ w ∈ wsV own index y.cls y ws, w.before args s = true := fun w h => ht w (hT w h).1
  have hG : GoodIn Ts ws := fun w h => hT w (by unfold wsV; exact List.mem_append_right _ h)
  have hc : Cond.codeWith y bytes maxL ret hh ∈ ws := by rw [hw]; exact List.mem_cons_self
  refine ⟨⟨hrc, hrs, hR.1, hR.2, pay_in ht hG, hc⟩, ht _ (hG _ hc).1, ok _ (by simp [wsV]), ⟨hd.1, hd.2.1⟩, fun sig h => ?_, ok _ (by simp [wsV]), ok _ (by simp [wsV]), ok _ (by simp [wsV])⟩
  have h2 := hd.2.2
  rw [h] at h2
  exact (Option.some.inj h2).symm
theorem vx_runVW {y : MethodName} {bytes cc : ByteArray} {maxL nL mc ms n index : Nat} {ret : Option FieldType} {hh : List (Nat × Nat × Nat × Nat)} {ws : List Cond} {rm : Room} {Pc : Array Value → State → Prop} {Qc : Array Value → State → Outcome → State → Prop} {free : Addr → Prop} {Ts : List Cond} {own C : String} {b : Addr} {As rest : List Value} {g : JFrame}
    (S : CallFix p m c cc nL s args Ts own) (hM : Met l y ws rm Pc Qc mc ms free) (cw : vx_CVW R s args own C index y bytes maxL ret hh ws rm mc ms n) (hp : PreV s H C b Pc As)
    (hg : g.method = m) (hn : As.length = n) (hsize : g.locals.size = nL) (hstack : g.stack = As.reverse ++ .ref b :: rest) (hW : 2 * g.monitorRoom + (rest.map fun v => v.category).sum ≤ 8) (hdg : decode cc g.pc = .ok (.invokevirtual index, 3)) (hf : cells + mc ≤ R.cells ∧ slots + ms ≤ R.slots) :
    va_Run p l e R s m args below meth c H locs cells slots mc ms g rest (Qc (Value.ref b :: As).toArray) free := by
  obtain ⟨⟨hrc, hrs, hfr, hlo, hws, hcw⟩, hcode, hini, hy, hlen, hl, hin, hse⟩ := cw
  have hK : Back l R p e below s args y 3 8 (PreOf R mc ms Pc) (PostOf Qc mc ms free) := va_backW (hh := hh) (bytes := bytes) (maxL := maxL) (ret := ret) hM hp.1 hrc hrs hfr hlo hws hcw (fun a' U hW => word_at hW (Or.inl (by first | rfl | simp [Cond.onTables, Cond.keeps, Cond.steady])) hini)
  obtain ⟨hx, hb, hml, ho, -⟩ := S
  obtain ⟨-, ⟨cellB, hcB, hoB, hclB⟩, hPc⟩ := hp
  intro T hT X
  obtain ⟨v, vm₁, ⟨U', l2, c2, s2⟩, hW₁, X', ⟨g', mk, t, L, e1, e2, hq, h1, hL, h2, h3⟩, st⟩ := vx_callVW X hx (C := C) (hh := hh) (bytes := bytes) (maxL := maxL) (ret := ret) ho hl hin hse hcode hy hK (by rw [hT]; exact hcB) hoB hclB hg (hsize.trans hml.symm) (argsL := As) (rest := rest) (fun sig h => hn.trans (hlen sig h)) hstack hW (by rw [hb]; exact hdg)
    (fun vm₁ hW₁ => ⟨hf.1, hf.2, hPc (T.setVm vm₁) hT hW₁⟩)
  dsimp only [Pt.U, Pt.locs, Pt.cells, Pt.slots] at X' e1 e2 h1 h2 h3 st
  subst h1; subst h2; subst h3
  exact ⟨v, (T.setVm vm₁).calling g' mk (Value.ref b :: As).toArray, t, U', L, hT, X', hL, e1, e2, hq, st⟩
section
variable {y : MethodName} {bytes cc : ByteArray} {maxL nL mc ms n index : Nat} {ret : Option FieldType} {ws : List Cond} {rm : Room} {Pc : Array Value → State → Prop} {Qc : Array Value → State → Outcome → State → Prop} {XC : String → State → State → Prop} {free : Addr → Prop} {Ts : List Cond} {own C : String} {b : Addr} {As rest : List Value} {g : JFrame}
theorem vx_runVX {hh : List (Nat × Nat × Nat × Nat)} (S : CallFix p m c cc nL s args Ts own) (hM : vx_Met l y ws rm Pc Qc XC mc ms free) (cw : vx_CVW R s args own C index y bytes maxL ret hh ws rm mc ms n) (hp : PreV s H C b Pc As)
    (hg : g.method = m) (hn : As.length = n) (hsize : g.locals.size = nL) (hstack : g.stack = As.reverse ++ .ref b :: rest) (hW : 2 * g.monitorRoom + (rest.map fun v => v.category).sum ≤ 8) (hdg : decode cc g.pc = .ok (.invokevirtual index, 3)) (hf : cells + mc ≤ R.cells ∧ slots + ms ≤ R.slots) :
    vx_Run p l e R s m args below meth c H locs cells slots mc ms g rest (Qc (Value.ref b :: As).toArray) XC free := by
  obtain ⟨⟨hrc, hrs, hfr, hlo, hws, hcw⟩, hcode, hini, hy, hlen, hl, hin, hse⟩ := cw
  have hK : vx_Back l R p e below s args y 3 8 (PreOf R mc ms Pc) (PostOf Qc mc ms free) (vx_Post XC mc ms free) := vx_backW (hh := hh) (bytes := bytes) (maxL := maxL) (ret := ret) hM hp.1 hrc hrs hfr hlo hws hcw (fun a' U hW => word_at hW (Or.inl (by first | rfl | simp [Cond.onTables, Cond.keeps, Cond.steady])) hini)
  obtain ⟨hx, hb, hml, ho, -⟩ := S
  obtain ⟨-, ⟨cellB, hcB, hoB, hclB⟩, hPc⟩ := hp
  intro T hT X
  rcases vx_callVX X hx (C := C) (hh := hh) (bytes := bytes) (maxL := maxL) (ret := ret) ho hl hin hse hcode hy hK (by rw [hT]; exact hcB) hoB hclB hg (hsize.trans hml.symm) (argsL := As) (rest := rest) (fun sig h => hn.trans (hlen sig h)) hstack hW (by rw [hb]; exact hdg)
    (fun vm₁ hW₁ => ⟨hf.1, hf.2, hPc (T.setVm vm₁) hT hW₁⟩) with ⟨v, vm₁, ⟨U', l2, c2, s2⟩, hW₁, X', ⟨g', mk, t, L, e1, e2, hq, h1, hL, h2, h3⟩, st⟩ | ⟨q, vm₁, ⟨U', l2, c2, s2⟩, hW₁, X', ⟨g', mk, t, L, E, ce, e1, e2, hq, hce, hcv, hcl, h1, hL, h2, h3⟩, st⟩
  · dsimp only [Pt.U, Pt.locs, Pt.cells, Pt.slots] at X' e1 e2 h1 h2 h3 st
    subst h1; subst h2; subst h3
    exact Or.inl ⟨v, (T.setVm vm₁).calling g' mk (Value.ref b :: As).toArray, t, U', L, hT, X', hL, e1, e2, hq, st⟩
  · dsimp only [Pt.U, Pt.locs, Pt.cells, Pt.slots] at X' e1 e2 h1 h2 h3 st hcl
    subst h1; subst h2; subst h3
    exact Or.inr ⟨q, (T.setVm vm₁).calling g' mk (Value.ref b :: As).toArray, t, U', L, E, ce, hT, X', hL, e1, e2, hq, hce, hcv, vx_cls hW₁ hcl, st⟩
theorem vx_runSX {hh : List (Nat × Nat × Nat × Nat)} (S : CallFix p m c cc nL s args Ts own) (hM : vx_Met l y ws rm Pc Qc XC mc ms free) (cw : vx_CSW R s args own index y bytes maxL ret hh ws rm mc ms n) (hp : PreS s H Pc As)
    (hg : g.method = m) (hn : As.length = n) (hsize : g.locals.size = nL) (hstack : g.stack = As.reverse ++ rest) (hW : 2 * g.monitorRoom + (rest.map fun v => v.category).sum ≤ 8) (hdg : decode cc g.pc = .ok (.invokestatic index, 3)) (hf : cells + mc ≤ R.cells ∧ slots + ms ≤ R.slots) :
    vx_Run p l e R s m args below meth c H locs cells slots mc ms g rest (Qc As.toArray) XC free := by
  obtain ⟨⟨hrc, hrs, hfr, hlo, hws, hcw⟩, hcode, hini, hy, hlen, hl, hstt⟩ := cw
  have hK : vx_Back l R p e below s args y 3 8 (PreOf R mc ms Pc) (PostOf Qc mc ms free) (vx_Post XC mc ms free) := vx_backW (hh := hh) (bytes := bytes) (maxL := maxL) (ret := ret) hM hp.1 hrc hrs hfr hlo hws hcw (fun a' U hW => word_at hW (Or.inl (by first | rfl | simp [Cond.onTables, Cond.keeps, Cond.steady])) hini)
  obtain ⟨hx, hb, hml, ho, -⟩ := S
  intro T hT X
  rcases vx_callSX X hx (hh := hh) (bytes := bytes) (maxL := maxL) (ret := ret) ho hl hstt hini hcode hy hK hg (hsize.trans hml.symm) (argsL := As) (rest := rest) (fun sig h => hn.trans (hlen sig h)) hstack hW (by rw [hb]; exact hdg)
    (fun vm₁ hW₁ => ⟨hf.1, hf.2, hp.2 (T.setVm vm₁) hT hW₁⟩) with ⟨v, vm₁, ⟨U', l2, c2, s2⟩, hW₁, X', ⟨g', mk, t, L, e1, e2, hq, h1, hL, h2, h3⟩, st⟩ | ⟨q, vm₁, ⟨U', l2, c2, s2⟩, hW₁, X', ⟨g', mk, t, L, E, ce, e1, e2, hq, hce, hcv, hcl, h1, hL, h2, h3⟩, st⟩
  · dsimp only [Pt.U, Pt.locs, Pt.cells, Pt.slots] at X' e1 e2 h1 h2 h3 st
    subst h1; subst h2; subst h3
    exact Or.inl ⟨v, (T.setVm vm₁).calling g' mk As.toArray, t, U', L, hT, X', hL, e1, e2, hq, st⟩
  · dsimp only [Pt.U, Pt.locs, Pt.cells, Pt.slots] at X' e1 e2 h1 h2 h3 st hcl
    subst h1; subst h2; subst h3
    exact Or.inr ⟨q, (T.setVm vm₁).calling g' mk As.toArray, t, U', L, E, ce, hT, X', hL, e1, e2, hq, hce, hcv, vx_cls hW₁ hcl, st⟩
end
end VXH
theorem vx_ofWH {l : Launch} {y : MethodName} {ws ws' : List Cond} {rm : Room} {Pc : Array Value → State → Prop} {Qc : Array Value → State → Outcome → State → Prop} {XC : String → State → State → Prop} {mc ms : Nat} {free : Addr → Prop} {cc : ByteArray} {maxL : Nat} {ret : Option FieldType} {hh : List (Nat × Nat × Nat × Nat)}
    (hy : plainName y.cls = true) (hw : ws = Cond.codeWith y cc maxL ret hh :: ws')
    (body : ∀ p e s m args below meth c s₁, BodyLoose p l y (headSpec ws rm) cc maxL ret e s m args below meth c s₁ → c.maxLocals = maxL → Pc args s →
      W p l e (headSpec ws rm).room s m args below meth c s.heap [] 0 0 (vx_MQ below Qc XC args s mc ms free) (entryFrame m args maxL)) : vx_Met l y ws rm Pc Qc XC mc ms free := by
  refine MetFree.of_bodyS (code := cc) (maxLocals := maxL) (ret := ret) hy ?_ ?_
  · intro args s m h hn
    obtain ⟨m9, meth, c, hn9, h1, h2, h3, h4, -, h5, h6, -⟩ := Cond.codeWith_spec (atoms_spec (ws := ws) h _ (by rw [hw]; exact List.mem_cons_self))
    cases hn.symm.trans hn9
    exact ⟨meth, c, h1, h2, h3, h4, h5, h6⟩
  · intro p e s m args below meth c s₁ B hml hP _
    have hh0 : s₁.heap = s.heap := by rw [B.state]; rfl
    obtain ⟨t, a1, o, b1, b2, b3⟩ := body p e s m args below meth c s₁ B hml hP s₁ hh0 (Stand.of_body B)
    exact ⟨t, o, a1, b1, b2, b3⟩
/-! ===== END ===== -/
end
section
/-! ===== BEGIN printed: names, fields, word lists, decode rows ===== -/
def RX0 : String := "TwinVolumes$Blocks"
def TX0 : u_T := fun k => match k with
  | 0 => ("TwinVolumes$Blocks", "levels", "LTwinVolumes$IntRow;", true)
  | 1 => ("TwinVolumes$Blocks", "birthsOfBlocks", "LTwinVolumes$IntRow;", true)
  | 2 => ("TwinVolumes$Blocks", "tellers", "LTwinVolumes$IntRow;", true)
  | 3 => ("TwinVolumes$Blocks", "numbers", "LTwinVolumes$LongRow;", true)
  | 4 => ("TwinVolumes$Blocks", "told", "LTwinVolumes$IntRow;", true)
  | 5 => ("TwinVolumes$Blocks", "births", "LTwinVolumes$IntRow;", true)
  | 6 => ("TwinVolumes$Blocks", "loose", "LTwinVolumes$IntRow;", true)
  | 7 => ("TwinVolumes$Blocks", "looseCount", "I", false)
  | 8 => ("TwinVolumes$Blocks", "count", "I", false)
  | _ => ("TwinVolumes$Blocks", "free", "I", false)
def tyX0 : Nat → FieldType := fun k => match k with
  | 0 => .object "TwinVolumes$IntRow"
  | 1 => .object "TwinVolumes$IntRow"
  | 2 => .object "TwinVolumes$IntRow"
  | 3 => .object "TwinVolumes$LongRow"
  | 4 => .object "TwinVolumes$IntRow"
  | 5 => .object "TwinVolumes$IntRow"
  | 6 => .object "TwinVolumes$IntRow"
  | 7 => .int
  | 8 => .int
  | _ => .int
abbrev wsX00 : List Cond := u_ws RX0 TX0 10
theorem nmX0 : ∀ a, a < 10 → ∀ b, b < 10 → a ≠ b → (TX0 a).2.1 ≠ (TX0 b).2.1 := by decide +kernel
theorem tyX0_ok : ∀ k, k < 10 → parseFieldDescriptor (TX0 k).2.2.1 = some (tyX0 k) := by decide +kernel
abbrev cX0_init : ByteArray := prog_2_method_1_code
def yX0_init : MethodName := ⟨RX0, "<init>", "()V"⟩
abbrev cX0_startAnew : ByteArray := prog_2_method_2_code
def yX0_startAnew : MethodName := ⟨RX0, "startAnew", "(I)V"⟩
abbrev cX0_count : ByteArray := prog_2_method_3_code
def yX0_count : MethodName := ⟨RX0, "count", "()I"⟩
abbrev cX0_free : ByteArray := prog_2_method_4_code
def yX0_free : MethodName := ⟨RX0, "free", "()I"⟩
abbrev cX0_has : ByteArray := prog_2_method_5_code
def yX0_has : MethodName := ⟨RX0, "has", "(I)Z"⟩
abbrev cX0_level : ByteArray := prog_2_method_6_code
def yX0_level : MethodName := ⟨RX0, "level", "(I)I"⟩
abbrev cX0_birthOfBlock : ByteArray := prog_2_method_7_code
def yX0_birthOfBlock : MethodName := ⟨RX0, "birthOfBlock", "(I)I"⟩
abbrev cX0_tellers : ByteArray := prog_2_method_8_code
def yX0_tellers : MethodName := ⟨RX0, "tellers", "(I)I"⟩
abbrev cX0_number : ByteArray := prog_2_method_9_code
def yX0_number : MethodName := ⟨RX0, "number", "(I)J"⟩
abbrev cX0_putNumber : ByteArray := prog_2_method_10_code
def yX0_putNumber : MethodName := ⟨RX0, "putNumber", "(IJ)V"⟩
abbrev cX0_told : ByteArray := prog_2_method_11_code
def yX0_told : MethodName := ⟨RX0, "told", "(I)I"⟩
abbrev cX0_birth : ByteArray := prog_2_method_12_code
def yX0_birth : MethodName := ⟨RX0, "birth", "(I)I"⟩
abbrev cX0_slotIn : ByteArray := prog_2_method_13_code
def yX0_slotIn : MethodName := ⟨RX0, "slotIn", "(II)I"⟩
abbrev cX0_point : ByteArray := prog_2_method_14_code
def yX0_point : MethodName := ⟨RX0, "point", "(III)V"⟩
abbrev cX0_hasOnlyHoles : ByteArray := prog_2_method_15_code
def yX0_hasOnlyHoles : MethodName := ⟨RX0, "hasOnlyHoles", "(I)Z"⟩
abbrev cX0_wantsNewBlock : ByteArray := prog_2_method_16_code
def yX0_wantsNewBlock : MethodName := ⟨RX0, "wantsNewBlock", "(II)Z"⟩
abbrev cX0_renew : ByteArray := prog_2_method_17_code
def yX0_renew : MethodName := ⟨RX0, "renew", "(III)V"⟩
abbrev cX0_takeLeastFree : ByteArray := prog_2_method_18_code
def yX0_takeLeastFree : MethodName := ⟨RX0, "takeLeastFree", "()I"⟩
abbrev cX0_settle : ByteArray := prog_2_method_19_code
def yX0_settle : MethodName := ⟨RX0, "settle", "()V"⟩
def RX1 : String := "TwinVolumes$IntRow"
def TX1 : u_T := fun k => match k with
  | _ => ("TwinVolumes$IntRow", "cells", "[I", true)
def tyX1 : Nat → FieldType := fun k => match k with
  | _ => .array .int
abbrev wsX10 : List Cond := u_ws RX1 TX1 1
theorem nmX1 : ∀ a, a < 1 → ∀ b, b < 1 → a ≠ b → (TX1 a).2.1 ≠ (TX1 b).2.1 := by decide +kernel
theorem tyX1_ok : ∀ k, k < 1 → parseFieldDescriptor (TX1 k).2.2.1 = some (tyX1 k) := by decide +kernel
abbrev cX1_init : ByteArray := prog_3_method_1_code
def yX1_init : MethodName := ⟨RX1, "<init>", "(I)V"⟩
abbrev cX1_at : ByteArray := prog_3_method_2_code
def yX1_at : MethodName := ⟨RX1, "at", "(I)I"⟩
abbrev cX1_put : ByteArray := prog_3_method_3_code
def yX1_put : MethodName := ⟨RX1, "put", "(II)V"⟩
abbrev cX1_fill : ByteArray := prog_3_method_4_code
def yX1_fill : MethodName := ⟨RX1, "fill", "(I)V"⟩
def RX2 : String := "TwinVolumes$LongRow"
def TX2 : u_T := fun k => match k with
  | _ => ("TwinVolumes$LongRow", "cells", "[J", true)
def tyX2 : Nat → FieldType := fun k => match k with
  | _ => .array .long
abbrev wsX20 : List Cond := u_ws RX2 TX2 1
theorem nmX2 : ∀ a, a < 1 → ∀ b, b < 1 → a ≠ b → (TX2 a).2.1 ≠ (TX2 b).2.1 := by decide +kernel
theorem tyX2_ok : ∀ k, k < 1 → parseFieldDescriptor (TX2 k).2.2.1 = some (tyX2 k) := by decide +kernel
abbrev cX2_init : ByteArray := prog_4_method_1_code
def yX2_init : MethodName := ⟨RX2, "<init>", "(I)V"⟩
abbrev cX2_at : ByteArray := prog_4_method_2_code
def yX2_at : MethodName := ⟨RX2, "at", "(I)J"⟩
abbrev cX2_put : ByteArray := prog_4_method_3_code
def yX2_put : MethodName := ⟨RX2, "put", "(IJ)V"⟩
def RX3 : String := "TwinVolumes$Receiving"
def TX3 : u_T := fun k => match k with
  | 0 => ("TwinVolumes$Receiving", "volume", "LTwinVolumes$Volume;", true)
  | 1 => ("TwinVolumes$Receiving", "bytes", "LTwinVolumes$StreamBytes;", true)
  | 2 => ("TwinVolumes$Receiving", "position", "I", false)
  | 3 => ("TwinVolumes$Receiving", "received", "I", false)
  | _ => ("TwinVolumes$Receiving", "targetMark", "J", false)
def tyX3 : Nat → FieldType := fun k => match k with
  | 0 => .object "TwinVolumes$Volume"
  | 1 => .object "TwinVolumes$StreamBytes"
  | 2 => .int
  | 3 => .int
  | _ => .long
abbrev wsX30 : List Cond := u_ws RX3 TX3 5
theorem nmX3 : ∀ a, a < 5 → ∀ b, b < 5 → a ≠ b → (TX3 a).2.1 ≠ (TX3 b).2.1 := by decide +kernel
theorem tyX3_ok : ∀ k, k < 5 → parseFieldDescriptor (TX3 k).2.2.1 = some (tyX3 k) := by decide +kernel
abbrev cX3_init : ByteArray := prog_5_method_1_code
def yX3_init : MethodName := ⟨RX3, "<init>", "(LTwinVolumes$Volume;LTwinVolumes$StreamBytes;)V"⟩
abbrev cX3_received : ByteArray := prog_5_method_2_code
def yX3_received : MethodName := ⟨RX3, "received", "()I"⟩
abbrev cX3_forget : ByteArray := prog_5_method_3_code
def yX3_forget : MethodName := ⟨RX3, "forget", "()V"⟩
abbrev cX3_takeBegin : ByteArray := prog_5_method_4_code
def yX3_takeBegin : MethodName := ⟨RX3, "takeBegin", "()I"⟩
abbrev cX3_takeRecords : ByteArray := prog_5_method_5_code
def yX3_takeRecords : MethodName := ⟨RX3, "takeRecords", "(I)I"⟩
abbrev cX3_takeRecord : ByteArray := prog_5_method_6_code
def yX3_takeRecord : MethodName := ⟨RX3, "takeRecord", "()I"⟩
abbrev cX3_sizeOf : ByteArray := prog_5_method_7_code
def yX3_sizeOf : MethodName := ⟨RX3, "sizeOf", "(I)I"⟩
abbrev cX3_takeWrite : ByteArray := prog_5_method_8_code
def yX3_takeWrite : MethodName := ⟨RX3, "takeWrite", "()I"⟩
abbrev cX3_takeClear : ByteArray := prog_5_method_9_code
def yX3_takeClear : MethodName := ⟨RX3, "takeClear", "()I"⟩
abbrev cX3_takeEnd : ByteArray := prog_5_method_10_code
def yX3_takeEnd : MethodName := ⟨RX3, "takeEnd", "()I"⟩
def RX4 : String := "TwinVolumes$Sending"
def TX4 : u_T := fun k => match k with
  | 0 => ("TwinVolumes$Sending", "bytes", "LTwinVolumes$StreamBytes;", true)
  | 1 => ("TwinVolumes$Sending", "since", "I", false)
  | 2 => ("TwinVolumes$Sending", "writes", "I", false)
  | 3 => ("TwinVolumes$Sending", "clears", "I", false)
  | _ => ("TwinVolumes$Sending", "seen", "I", false)
def tyX4 : Nat → FieldType := fun k => match k with
  | 0 => .object "TwinVolumes$StreamBytes"
  | 1 => .int
  | 2 => .int
  | 3 => .int
  | _ => .int
abbrev wsX40 : List Cond := u_ws RX4 TX4 5
theorem nmX4 : ∀ a, a < 5 → ∀ b, b < 5 → a ≠ b → (TX4 a).2.1 ≠ (TX4 b).2.1 := by decide +kernel
theorem tyX4_ok : ∀ k, k < 5 → parseFieldDescriptor (TX4 k).2.2.1 = some (tyX4 k) := by decide +kernel
abbrev cX4_init : ByteArray := prog_6_method_1_code
def yX4_init : MethodName := ⟨RX4, "<init>", "(LTwinVolumes$StreamBytes;)V"⟩
abbrev cX4_writes : ByteArray := prog_6_method_2_code
def yX4_writes : MethodName := ⟨RX4, "writes", "()I"⟩
abbrev cX4_clears : ByteArray := prog_6_method_3_code
def yX4_clears : MethodName := ⟨RX4, "clears", "()I"⟩
abbrev cX4_seen : ByteArray := prog_6_method_4_code
def yX4_seen : MethodName := ⟨RX4, "seen", "()I"⟩
abbrev cX4_fillStream : ByteArray := prog_6_method_5_code
def yX4_fillStream : MethodName := ⟨RX4, "fillStream", "(LTwinVolumes$Volume;II)V"⟩
abbrev cX4_goOver : ByteArray := prog_6_method_6_code
def yX4_goOver : MethodName := ⟨RX4, "goOver", "(LTwinVolumes$Sending;LTwinVolumes$Blocks;III)V"⟩
def RX5 : String := "TwinVolumes$StreamBytes"
def TX5 : u_T := fun k => match k with
  | 0 => ("TwinVolumes$StreamBytes", "cells", "[B", true)
  | _ => ("TwinVolumes$StreamBytes", "length", "I", false)
def tyX5 : Nat → FieldType := fun k => match k with
  | 0 => .array .byte
  | _ => .int
abbrev wsX50 : List Cond := u_ws RX5 TX5 2
theorem nmX5 : ∀ a, a < 2 → ∀ b, b < 2 → a ≠ b → (TX5 a).2.1 ≠ (TX5 b).2.1 := by decide +kernel
theorem tyX5_ok : ∀ k, k < 2 → parseFieldDescriptor (TX5 k).2.2.1 = some (tyX5 k) := by decide +kernel
abbrev cX5_init : ByteArray := prog_7_method_1_code
def yX5_init : MethodName := ⟨RX5, "<init>", "()V"⟩
abbrev cX5_length : ByteArray := prog_7_method_2_code
def yX5_length : MethodName := ⟨RX5, "length", "()I"⟩
abbrev cX5_at : ByteArray := prog_7_method_3_code
def yX5_at : MethodName := ⟨RX5, "at", "(I)I"⟩
abbrev cX5_put : ByteArray := prog_7_method_4_code
def yX5_put : MethodName := ⟨RX5, "put", "(II)V"⟩
abbrev cX5_shorten : ByteArray := prog_7_method_5_code
def yX5_shorten : MethodName := ⟨RX5, "shorten", "(I)V"⟩
abbrev cX5_addBegin : ByteArray := prog_7_method_6_code
def yX5_addBegin : MethodName := ⟨RX5, "addBegin", "(JJ)V"⟩
abbrev cX5_addWrite : ByteArray := prog_7_method_7_code
def yX5_addWrite : MethodName := ⟨RX5, "addWrite", "(IJ)V"⟩
abbrev cX5_addClear : ByteArray := prog_7_method_8_code
def yX5_addClear : MethodName := ⟨RX5, "addClear", "(II)V"⟩
abbrev cX5_addEnd : ByteArray := prog_7_method_9_code
def yX5_addEnd : MethodName := ⟨RX5, "addEnd", "(I)V"⟩
abbrev cX5_addNumber : ByteArray := prog_7_method_10_code
def yX5_addNumber : MethodName := ⟨RX5, "addNumber", "(JI)V"⟩
abbrev cX5_numberAt : ByteArray := prog_7_method_11_code
def yX5_numberAt : MethodName := ⟨RX5, "numberAt", "(II)J"⟩
abbrev cX5_isWhole : ByteArray := prog_7_method_12_code
def yX5_isWhole : MethodName := ⟨RX5, "isWhole", "(II)Z"⟩
abbrev cX5_sumOf : ByteArray := prog_7_method_13_code
def yX5_sumOf : MethodName := ⟨RX5, "sumOf", "(II)J"⟩
def RX6 : String := "TwinVolumes$Volume"
def TX6 : u_T := fun k => match k with
  | 0 => ("TwinVolumes$Volume", "blocks", "LTwinVolumes$Blocks;", true)
  | 1 => ("TwinVolumes$Volume", "marks", "LTwinVolumes$LongRow;", true)
  | 2 => ("TwinVolumes$Volume", "generations", "LTwinVolumes$IntRow;", true)
  | 3 => ("TwinVolumes$Volume", "generation", "I", false)
  | 4 => ("TwinVolumes$Volume", "snapshots", "I", false)
  | _ => ("TwinVolumes$Volume", "busy", "Z", false)
def tyX6 : Nat → FieldType := fun k => match k with
  | 0 => .object "TwinVolumes$Blocks"
  | 1 => .object "TwinVolumes$LongRow"
  | 2 => .object "TwinVolumes$IntRow"
  | 3 => .int
  | 4 => .int
  | _ => .boolean
abbrev wsX60 : List Cond := u_ws RX6 TX6 6
theorem nmX6 : ∀ a, a < 6 → ∀ b, b < 6 → a ≠ b → (TX6 a).2.1 ≠ (TX6 b).2.1 := by decide +kernel
theorem tyX6_ok : ∀ k, k < 6 → parseFieldDescriptor (TX6 k).2.2.1 = some (tyX6 k) := by decide +kernel
abbrev cX6_init : ByteArray := prog_8_method_1_code
def yX6_init : MethodName := ⟨RX6, "<init>", "()V"⟩
abbrev cX6_startAnew : ByteArray := prog_8_method_2_code
def yX6_startAnew : MethodName := ⟨RX6, "startAnew", "(I)V"⟩
abbrev cX6_blocks : ByteArray := prog_8_method_3_code
def yX6_blocks : MethodName := ⟨RX6, "blocks", "()LTwinVolumes$Blocks;"⟩
abbrev cX6_generation : ByteArray := prog_8_method_4_code
def yX6_generation : MethodName := ⟨RX6, "generation", "()I"⟩
abbrev cX6_snapshots : ByteArray := prog_8_method_5_code
def yX6_snapshots : MethodName := ⟨RX6, "snapshots", "()I"⟩
abbrev cX6_isBusy : ByteArray := prog_8_method_6_code
def yX6_isBusy : MethodName := ⟨RX6, "isBusy", "()Z"⟩
abbrev cX6_hasSnapshot : ByteArray := prog_8_method_7_code
def yX6_hasSnapshot : MethodName := ⟨RX6, "hasSnapshot", "(I)Z"⟩
abbrev cX6_markOf : ByteArray := prog_8_method_8_code
def yX6_markOf : MethodName := ⟨RX6, "markOf", "(I)J"⟩
abbrev cX6_generationOf : ByteArray := prog_8_method_9_code
def yX6_generationOf : MethodName := ⟨RX6, "generationOf", "(I)I"⟩
abbrev cX6_settle : ByteArray := prog_8_method_10_code
def yX6_settle : MethodName := ⟨RX6, "settle", "()V"⟩
abbrev cX6_readPlace : ByteArray := prog_8_method_11_code
def yX6_readPlace : MethodName := ⟨RX6, "readPlace", "(II)J"⟩
abbrev cX6_writePlace : ByteArray := prog_8_method_12_code
def yX6_writePlace : MethodName := ⟨RX6, "writePlace", "(IIJ)Z"⟩
abbrev cX6_clearPlace : ByteArray := prog_8_method_13_code
def yX6_clearPlace : MethodName := ⟨RX6, "clearPlace", "(II)Z"⟩
abbrev cX6_makeHoleIfEmpty : ByteArray := prog_8_method_14_code
def yX6_makeHoleIfEmpty : MethodName := ⟨RX6, "makeHoleIfEmpty", "(I)V"⟩
abbrev cX6_slotToLevel : ByteArray := prog_8_method_15_code
def yX6_slotToLevel : MethodName := ⟨RX6, "slotToLevel", "(III)I"⟩
abbrev cX6_newBlocksWanted : ByteArray := prog_8_method_16_code
def yX6_newBlocksWanted : MethodName := ⟨RX6, "newBlocksWanted", "(III)I"⟩
abbrev cX6_keepLive : ByteArray := prog_8_method_17_code
def yX6_keepLive : MethodName := ⟨RX6, "keepLive", "(J)I"⟩
abbrev cX6_dropSnapshot : ByteArray := prog_8_method_18_code
def yX6_dropSnapshot : MethodName := ⟨RX6, "dropSnapshot", "(I)I"⟩
abbrev cX6_returnToLatest : ByteArray := prog_8_method_19_code
def yX6_returnToLatest : MethodName := ⟨RX6, "returnToLatest", "()I"⟩
abbrev cX6_isLatest : ByteArray := prog_8_method_20_code
def yX6_isLatest : MethodName := ⟨RX6, "isLatest", "(J)Z"⟩
abbrev cX6_hasMark : ByteArray := prog_8_method_21_code
def yX6_hasMark : MethodName := ⟨RX6, "hasMark", "(J)Z"⟩
abbrev cX6_isDirty : ByteArray := prog_8_method_22_code
def yX6_isDirty : MethodName := ⟨RX6, "isDirty", "()Z"⟩
abbrev cX6_makeHidden : ByteArray := prog_8_method_23_code
def yX6_makeHidden : MethodName := ⟨RX6, "makeHidden", "()V"⟩
abbrev cX6_dropHidden : ByteArray := prog_8_method_24_code
def yX6_dropHidden : MethodName := ⟨RX6, "dropHidden", "()V"⟩
abbrev cX6_keepHidden : ByteArray := prog_8_method_25_code
def yX6_keepHidden : MethodName := ⟨RX6, "keepHidden", "(J)V"⟩
def RX7 : String := "TwinVolumes"
def TX7 : u_T := fun k => match k with
  | 0 => ("TwinVolumes", "bytes", "LTwinVolumes$StreamBytes;", true)
  | 1 => ("TwinVolumes", "sending", "LTwinVolumes$Sending;", true)
  | 2 => ("TwinVolumes", "volumeZero", "LTwinVolumes$Volume;", true)
  | 3 => ("TwinVolumes", "volumeOne", "LTwinVolumes$Volume;", true)
  | 4 => ("TwinVolumes", "receivingZero", "LTwinVolumes$Receiving;", true)
  | 5 => ("TwinVolumes", "receivingOne", "LTwinVolumes$Receiving;", true)
  | _ => ("TwinVolumes", "nextMark", "J", false)
def tyX7 : Nat → FieldType := fun k => match k with
  | 0 => .object "TwinVolumes$StreamBytes"
  | 1 => .object "TwinVolumes$Sending"
  | 2 => .object "TwinVolumes$Volume"
  | 3 => .object "TwinVolumes$Volume"
  | 4 => .object "TwinVolumes$Receiving"
  | 5 => .object "TwinVolumes$Receiving"
  | _ => .long
abbrev wsX70 : List Cond := u_ws RX7 TX7 7
theorem nmX7 : ∀ a, a < 7 → ∀ b, b < 7 → a ≠ b → (TX7 a).2.1 ≠ (TX7 b).2.1 := by decide +kernel
theorem tyX7_ok : ∀ k, k < 7 → parseFieldDescriptor (TX7 k).2.2.1 = some (tyX7 k) := by decide +kernel
abbrev cX7_init : ByteArray := prog_1_method_1_code
def yX7_init : MethodName := ⟨RX7, "<init>", "()V"⟩
abbrev cX7_format : ByteArray := prog_1_method_2_code
def yX7_format : MethodName := ⟨RX7, "format", "(II)V"⟩
abbrev cX7_write : ByteArray := prog_1_method_3_code
def yX7_write : MethodName := ⟨RX7, "write", "(IIJ)I"⟩
abbrev cX7_clear : ByteArray := prog_1_method_4_code
def yX7_clear : MethodName := ⟨RX7, "clear", "(II)I"⟩
abbrev cX7_read : ByteArray := prog_1_method_5_code
def yX7_read : MethodName := ⟨RX7, "read", "(III)J"⟩
abbrev cX7_snapshot : ByteArray := prog_1_method_6_code
def yX7_snapshot : MethodName := ⟨RX7, "snapshot", "(I)I"⟩
abbrev cX7_destroy : ByteArray := prog_1_method_7_code
def yX7_destroy : MethodName := ⟨RX7, "destroy", "(II)I"⟩
abbrev cX7_rollback : ByteArray := prog_1_method_8_code
def yX7_rollback : MethodName := ⟨RX7, "rollback", "(I)I"⟩
abbrev cX7_send : ByteArray := prog_1_method_9_code
def yX7_send : MethodName := ⟨RX7, "send", "(III)I"⟩
abbrev cX7_receive : ByteArray := prog_1_method_10_code
def yX7_receive : MethodName := ⟨RX7, "receive", "(I)I"⟩
abbrev cX7_step : ByteArray := prog_1_method_11_code
def yX7_step : MethodName := ⟨RX7, "step", "(II)I"⟩
abbrev cX7_crash : ByteArray := prog_1_method_12_code
def yX7_crash : MethodName := ⟨RX7, "crash", "(I)Z"⟩
abbrev cX7_stream : ByteArray := prog_1_method_13_code
def yX7_stream : MethodName := ⟨RX7, "stream", "(I)I"⟩
abbrev cX7_patch : ByteArray := prog_1_method_14_code
def yX7_patch : MethodName := ⟨RX7, "patch", "(II)I"⟩
abbrev cX7_cut : ByteArray := prog_1_method_15_code
def yX7_cut : MethodName := ⟨RX7, "cut", "(I)V"⟩
abbrev cX7_snap : ByteArray := prog_1_method_16_code
def yX7_snap : MethodName := ⟨RX7, "snap", "(III)J"⟩
abbrev cX7_block : ByteArray := prog_1_method_17_code
def yX7_block : MethodName := ⟨RX7, "block", "(III)I"⟩
abbrev cX7_pointer : ByteArray := prog_1_method_18_code
def yX7_pointer : MethodName := ⟨RX7, "pointer", "(IIII)I"⟩
abbrev cX7_data : ByteArray := prog_1_method_19_code
def yX7_data : MethodName := ⟨RX7, "data", "(II)J"⟩
abbrev cX7_look : ByteArray := prog_1_method_20_code
def yX7_look : MethodName := ⟨RX7, "look", "(II)I"⟩
abbrev cX7_sent : ByteArray := prog_1_method_21_code
def yX7_sent : MethodName := ⟨RX7, "sent", "(I)I"⟩
abbrev cX7_find : ByteArray := prog_1_method_22_code
def yX7_find : MethodName := ⟨RX7, "find", "(I)LTwinVolumes$Volume;"⟩
abbrev cX7_receivingOf : ByteArray := prog_1_method_23_code
def yX7_receivingOf : MethodName := ⟨RX7, "receivingOf", "(I)LTwinVolumes$Receiving;"⟩
abbrev cX7_isPlace : ByteArray := prog_1_method_24_code
def yX7_isPlace : MethodName := ⟨RX7, "isPlace", "(I)Z"⟩
def RX8 : String := "TwinVolumesModel"
def TX8 : u_T := fun k => match k with
  | 0 => ("TwinVolumesModel", "thrown", "I", false)
  | 1 => ("TwinVolumesModel", "many", "[I", true)
  | 2 => ("TwinVolumesModel", "level", "[I", true)
  | 3 => ("TwinVolumesModel", "tells", "[I", true)
  | 4 => ("TwinVolumesModel", "birth", "[I", true)
  | 5 => ("TwinVolumesModel", "data", "[J", true)
  | 6 => ("TwinVolumesModel", "free", "[Z", true)
  | 7 => ("TwinVolumesModel", "treeTells", "[I", true)
  | 8 => ("TwinVolumesModel", "treeBirth", "[I", true)
  | 9 => ("TwinVolumesModel", "generation", "[I", true)
  | 10 => ("TwinVolumesModel", "snaps", "[I", true)
  | 11 => ("TwinVolumesModel", "snapGeneration", "[I", true)
  | 12 => ("TwinVolumesModel", "snapMark", "[J", true)
  | 13 => ("TwinVolumesModel", "busy", "[Z", true)
  | 14 => ("TwinVolumesModel", "at", "[I", true)
  | 15 => ("TwinVolumesModel", "received", "[I", true)
  | 16 => ("TwinVolumesModel", "target", "[J", true)
  | 17 => ("TwinVolumesModel", "nextMark", "J", false)
  | 18 => ("TwinVolumesModel", "stream", "[B", true)
  | 19 => ("TwinVolumesModel", "streamed", "I", false)
  | 20 => ("TwinVolumesModel", "records", "I", false)
  | 21 => ("TwinVolumesModel", "writes", "I", false)
  | 22 => ("TwinVolumesModel", "clears", "I", false)
  | 23 => ("TwinVolumesModel", "seen", "I", false)
  | 24 => ("TwinVolumesModel", "reached", "[Z", true)
  | 25 => ("TwinVolumesModel", "way", "[I", true)
  | _ => ("TwinVolumesModel", "recordFrom", "I", false)
def tyX8 : Nat → FieldType := fun k => match k with
  | 0 => .int
  | 1 => .array .int
  | 2 => .array .int
  | 3 => .array .int
  | 4 => .array .int
  | 5 => .array .long
  | 6 => .array .boolean
  | 7 => .array .int
  | 8 => .array .int
  | 9 => .array .int
  | 10 => .array .int
  | 11 => .array .int
  | 12 => .array .long
  | 13 => .array .boolean
  | 14 => .array .int
  | 15 => .array .int
  | 16 => .array .long
  | 17 => .long
  | 18 => .array .byte
  | 19 => .int
  | 20 => .int
  | 21 => .int
  | 22 => .int
  | 23 => .int
  | 24 => .array .boolean
  | 25 => .array .int
  | _ => .int
abbrev wsX80 : List Cond := u_ws RX8 TX8 27
theorem nmX8 : ∀ a, a < 27 → ∀ b, b < 27 → a ≠ b → (TX8 a).2.1 ≠ (TX8 b).2.1 := by decide +kernel
theorem tyX8_ok : ∀ k, k < 27 → parseFieldDescriptor (TX8 k).2.2.1 = some (tyX8 k) := by decide +kernel
abbrev cX8_init : ByteArray := prog_10_method_1_code
def yX8_init : MethodName := ⟨RX8, "<init>", "()V"⟩
abbrev cX8_thrown : ByteArray := prog_10_method_2_code
def yX8_thrown : MethodName := ⟨RX8, "thrown", "()I"⟩
abbrev cX8_isVolume : ByteArray := prog_10_method_3_code
def yX8_isVolume : MethodName := ⟨RX8, "isVolume", "(I)Z"⟩
abbrev cX8_fresh : ByteArray := prog_10_method_4_code
def yX8_fresh : MethodName := ⟨RX8, "fresh", "(II)V"⟩
abbrev cX8_format : ByteArray := prog_10_method_5_code
def yX8_format : MethodName := ⟨RX8, "format", "(II)V"⟩
abbrev cX8_told : ByteArray := prog_10_method_6_code
def yX8_told : MethodName := ⟨RX8, "told", "(II)I"⟩
abbrev cX8_born : ByteArray := prog_10_method_7_code
def yX8_born : MethodName := ⟨RX8, "born", "(II)I"⟩
abbrev cX8_point : ByteArray := prog_10_method_8_code
def yX8_point : MethodName := ⟨RX8, "point", "(IIII)V"⟩
abbrev cX8_turn : ByteArray := prog_10_method_9_code
def yX8_turn : MethodName := ⟨RX8, "turn", "(II)I"⟩
abbrev cX8_isTree : ByteArray := prog_10_method_10_code
def yX8_isTree : MethodName := ⟨RX8, "isTree", "(II)Z"⟩
abbrev cX8_sweeps : ByteArray := prog_10_method_11_code
def yX8_sweeps : MethodName := ⟨RX8, "sweeps", "(I)V"⟩
abbrev cX8_begins : ByteArray := prog_10_method_12_code
def yX8_begins : MethodName := ⟨RX8, "begins", "(I)V"⟩
abbrev cX8_freeMany : ByteArray := prog_10_method_13_code
def yX8_freeMany : MethodName := ⟨RX8, "freeMany", "(I)I"⟩
abbrev cX8_take : ByteArray := prog_10_method_14_code
def yX8_take : MethodName := ⟨RX8, "take", "(II)I"⟩
abbrev cX8_ways : ByteArray := prog_10_method_15_code
def yX8_ways : MethodName := ⟨RX8, "ways", "(III)I"⟩
abbrev cX8_wanted : ByteArray := prog_10_method_16_code
def yX8_wanted : MethodName := ⟨RX8, "wanted", "(III)I"⟩
abbrev cX8_renews : ByteArray := prog_10_method_17_code
def yX8_renews : MethodName := ⟨RX8, "renews", "(IIII)V"⟩
abbrev cX8_writes : ByteArray := prog_10_method_18_code
def yX8_writes : MethodName := ⟨RX8, "writes", "(IIIJ)I"⟩
abbrev cX8_hasNothing : ByteArray := prog_10_method_19_code
def yX8_hasNothing : MethodName := ⟨RX8, "hasNothing", "(II)Z"⟩
abbrev cX8_clears : ByteArray := prog_10_method_20_code
def yX8_clears : MethodName := ⟨RX8, "clears", "(III)I"⟩
abbrev cX8_isPlace : ByteArray := prog_10_method_21_code
def yX8_isPlace : MethodName := ⟨RX8, "isPlace", "(I)Z"⟩
abbrev cX8_write : ByteArray := prog_10_method_22_code
def yX8_write : MethodName := ⟨RX8, "write", "(IIJ)I"⟩
abbrev cX8_clear : ByteArray := prog_10_method_23_code
def yX8_clear : MethodName := ⟨RX8, "clear", "(II)I"⟩
abbrev cX8_isSnap : ByteArray := prog_10_method_24_code
def yX8_isSnap : MethodName := ⟨RX8, "isSnap", "(II)Z"⟩
abbrev cX8_read : ByteArray := prog_10_method_25_code
def yX8_read : MethodName := ⟨RX8, "read", "(III)J"⟩
abbrev cX8_snaps : ByteArray := prog_10_method_26_code
def yX8_snaps : MethodName := ⟨RX8, "snaps", "(IIJ)V"⟩
abbrev cX8_snapshot : ByteArray := prog_10_method_27_code
def yX8_snapshot : MethodName := ⟨RX8, "snapshot", "(I)I"⟩
abbrev cX8_destroy : ByteArray := prog_10_method_28_code
def yX8_destroy : MethodName := ⟨RX8, "destroy", "(II)I"⟩
abbrev cX8_rollback : ByteArray := prog_10_method_29_code
def yX8_rollback : MethodName := ⟨RX8, "rollback", "(I)I"⟩
abbrev cX8_put : ByteArray := prog_10_method_30_code
def yX8_put : MethodName := ⟨RX8, "put", "(JI)V"⟩
abbrev cX8_sumOf : ByteArray := prog_10_method_31_code
def yX8_sumOf : MethodName := ⟨RX8, "sumOf", "(II)J"⟩
abbrev cX8_ends : ByteArray := prog_10_method_32_code
def yX8_ends : MethodName := ⟨RX8, "ends", "()V"⟩
abbrev cX8_brings : ByteArray := prog_10_method_33_code
def yX8_brings : MethodName := ⟨RX8, "brings", "(IIIII)Z"⟩
abbrev cX8_send : ByteArray := prog_10_method_34_code
def yX8_send : MethodName := ⟨RX8, "send", "(III)I"⟩
abbrev cX8_number : ByteArray := prog_10_method_35_code
def yX8_number : MethodName := ⟨RX8, "number", "(II)J"⟩
abbrev cX8_isWhole : ByteArray := prog_10_method_36_code
def yX8_isWhole : MethodName := ⟨RX8, "isWhole", "(II)Z"⟩
abbrev cX8_receive : ByteArray := prog_10_method_37_code
def yX8_receive : MethodName := ⟨RX8, "receive", "(I)I"⟩
abbrev cX8_stops : ByteArray := prog_10_method_38_code
def yX8_stops : MethodName := ⟨RX8, "stops", "(I)V"⟩
abbrev cX8_endsHere : ByteArray := prog_10_method_39_code
def yX8_endsHere : MethodName := ⟨RX8, "endsHere", "(I)I"⟩
abbrev cX8_clearsHere : ByteArray := prog_10_method_40_code
def yX8_clearsHere : MethodName := ⟨RX8, "clearsHere", "(I)I"⟩
abbrev cX8_writesHere : ByteArray := prog_10_method_41_code
def yX8_writesHere : MethodName := ⟨RX8, "writesHere", "(I)I"⟩
abbrev cX8_record : ByteArray := prog_10_method_42_code
def yX8_record : MethodName := ⟨RX8, "record", "(I)I"⟩
abbrev cX8_step : ByteArray := prog_10_method_43_code
def yX8_step : MethodName := ⟨RX8, "step", "(II)I"⟩
abbrev cX8_crash : ByteArray := prog_10_method_44_code
def yX8_crash : MethodName := ⟨RX8, "crash", "(I)Z"⟩
abbrev cX8_stream : ByteArray := prog_10_method_45_code
def yX8_stream : MethodName := ⟨RX8, "stream", "(I)I"⟩
abbrev cX8_patch : ByteArray := prog_10_method_46_code
def yX8_patch : MethodName := ⟨RX8, "patch", "(II)I"⟩
abbrev cX8_cut : ByteArray := prog_10_method_47_code
def yX8_cut : MethodName := ⟨RX8, "cut", "(I)V"⟩
abbrev cX8_snap : ByteArray := prog_10_method_48_code
def yX8_snap : MethodName := ⟨RX8, "snap", "(III)J"⟩
abbrev cX8_isBlock : ByteArray := prog_10_method_49_code
def yX8_isBlock : MethodName := ⟨RX8, "isBlock", "(II)Z"⟩
abbrev cX8_block : ByteArray := prog_10_method_50_code
def yX8_block : MethodName := ⟨RX8, "block", "(III)I"⟩
abbrev cX8_pointer : ByteArray := prog_10_method_51_code
def yX8_pointer : MethodName := ⟨RX8, "pointer", "(IIII)I"⟩
abbrev cX8_data : ByteArray := prog_10_method_52_code
def yX8_data : MethodName := ⟨RX8, "data", "(II)J"⟩
abbrev cX8_look : ByteArray := prog_10_method_53_code
def yX8_look : MethodName := ⟨RX8, "look", "(II)I"⟩
abbrev cX8_sent : ByteArray := prog_10_method_54_code
def yX8_sent : MethodName := ⟨RX8, "sent", "(I)I"⟩
def RJx145de : String := "java/io/Serializable"
def TJx145de : u_T := fun k => match k with
  | _ => ("", "", "", false)
def tyJx145de : Nat → FieldType := fun k => match k with
  | _ => .int
abbrev wsJx145de0 : List Cond := u_ws RJx145de TJx145de 0
theorem nmJx145de : ∀ a, a < 0 → ∀ b, b < 0 → a ≠ b → (TJx145de a).2.1 ≠ (TJx145de b).2.1 := by decide +kernel
theorem tyJx145de_ok : ∀ k, k < 0 → parseFieldDescriptor (TJx145de k).2.2.1 = some (tyJx145de k) := by decide +kernel
def RJ9 : String := "java/lang/Math"
def TJ9 : u_T := fun k => match k with
  | _ => ("", "", "", false)
def tyJ9 : Nat → FieldType := fun k => match k with
  | _ => .int
abbrev wsJ90 : List Cond := u_ws RJ9 TJ9 0
theorem nmJ9 : ∀ a, a < 0 → ∀ b, b < 0 → a ≠ b → (TJ9 a).2.1 ≠ (TJ9 b).2.1 := by decide +kernel
theorem tyJ9_ok : ∀ k, k < 0 → parseFieldDescriptor (TJ9 k).2.2.1 = some (tyJ9 k) := by decide +kernel
abbrev cJ9_max_7cf53 : ByteArray := prog_15_method_65_code
def yJ9_max_7cf53 : MethodName := ⟨RJ9, "max", "(II)I"⟩
def RJ7 : String := "java/util/Arrays"
def TJ7 : u_T := fun k => match k with
  | _ => ("", "", "", false)
def tyJ7 : Nat → FieldType := fun k => match k with
  | _ => .int
abbrev wsJ70 : List Cond := u_ws RJ7 TJ7 0
theorem nmJ7 : ∀ a, a < 0 → ∀ b, b < 0 → a ≠ b → (TJ7 a).2.1 ≠ (TJ7 b).2.1 := by decide +kernel
theorem tyJ7_ok : ∀ k, k < 0 → parseFieldDescriptor (TJ7 k).2.2.1 = some (tyJ7 k) := by decide +kernel
abbrev cJ7_fill_53178 : ByteArray := prog_19_method_103_code
def yJ7_fill_53178 : MethodName := ⟨RJ7, "fill", "([II)V"⟩
def RL : String := "TwinVolumesLaw"
abbrev cL_format : ByteArray := method_3_code
def yL_format : MethodName := ⟨RL, "format", "(LTwinVolumes;II)I"⟩
abbrev cL_write : ByteArray := method_4_code
def yL_write : MethodName := ⟨RL, "write", "(LTwinVolumes;IIJ[J)I"⟩
abbrev cL_clear : ByteArray := method_5_code
def yL_clear : MethodName := ⟨RL, "clear", "(LTwinVolumes;II[J)I"⟩
abbrev cL_read : ByteArray := method_6_code
def yL_read : MethodName := ⟨RL, "read", "(LTwinVolumes;III[J)I"⟩
abbrev cL_snapshot : ByteArray := method_7_code
def yL_snapshot : MethodName := ⟨RL, "snapshot", "(LTwinVolumes;I[J)I"⟩
abbrev cL_destroy : ByteArray := method_8_code
def yL_destroy : MethodName := ⟨RL, "destroy", "(LTwinVolumes;II[J)I"⟩
abbrev cL_rollback : ByteArray := method_9_code
def yL_rollback : MethodName := ⟨RL, "rollback", "(LTwinVolumes;I[J)I"⟩
abbrev cL_send : ByteArray := method_10_code
def yL_send : MethodName := ⟨RL, "send", "(LTwinVolumes;III[J)I"⟩
abbrev cL_receive : ByteArray := method_11_code
def yL_receive : MethodName := ⟨RL, "receive", "(LTwinVolumes;I[J)I"⟩
abbrev cL_step : ByteArray := method_12_code
def yL_step : MethodName := ⟨RL, "step", "(LTwinVolumes;II[J)I"⟩
abbrev cL_crash : ByteArray := method_13_code
def yL_crash : MethodName := ⟨RL, "crash", "(LTwinVolumes;I[J)I"⟩
abbrev cL_patch : ByteArray := method_14_code
def yL_patch : MethodName := ⟨RL, "patch", "(LTwinVolumes;II[J)I"⟩
abbrev cL_cut : ByteArray := method_15_code
def yL_cut : MethodName := ⟨RL, "cut", "(LTwinVolumes;I)I"⟩
abbrev cL_law : ByteArray := code
def yL_law : MethodName := ⟨RL, "law", "([I)Z"⟩
abbrev vwCl : List vw_C := [(RX0, TX0, 10), (RX1, TX1, 1), (RX2, TX2, 1), (RX3, TX3, 5), (RX4, TX4, 5), (RX5, TX5, 2), (RX6, TX6, 6), (RX7, TX7, 7), (RX8, TX8, 27)]
def gW : List Cond := lw_tbl.filter goodWord
theorem gWm {w : Cond} (i : Nat) (h : lw_tbl[i]? = some w) (hg : goodWord w = true) : w ∈ gW := List.mem_filter.mpr ⟨List.mem_of_getElem? h, hg⟩
theorem gW_good : ∀ w ∈ gW, goodWord w = true := fun w h => (List.mem_filter.mp h).2
theorem gMem {w a : Cond} (h : w ∈ gW) : w ∈ a :: gW := List.mem_cons_of_mem _ h
theorem gIn {a : Cond} {L : List Cond} (h : ∀ w ∈ L, w ∈ gW) : ∀ w ∈ L, w ∈ a :: gW := fun w hw => List.mem_cons_of_mem _ (h w hw)
theorem gGood {a : Cond} {L : List Cond} (h : ∀ w ∈ L, w ∈ gW) : GoodIn (a :: gW) L := fun w hw => ⟨List.mem_cons_of_mem _ (h w hw), good_of_word (gW_good w (h w hw))⟩
theorem gSelf {y : Cond} (h : y ∈ gW) : ∀ w ∈ (y :: gW), w ∈ gW := fun w hw => (List.mem_cons.mp hw).elim (fun e => e ▸ h) id
theorem gIV {a : Cond} {own C : String} {idx : Nat} {y : MethodName} {b : ByteArray} {n : Nat} {r : Option FieldType} (h1 : Cond.methodLink own idx y ∈ gW) (h2 : Cond.instanceMethod y ∈ gW) (h3 : Cond.selects C y y ∈ gW) (h4 : Cond.initialized C ∈ gW) (h5 : Cond.code y b n r ∈ gW) : GoodIn (a :: gW) (wsV own idx C y (Cond.code y b n r :: gW)) := gGood fun w hw => by
  rcases List.mem_append.mp hw with h | h
  · simp only [List.mem_cons, List.not_mem_nil, or_false] at h
    rcases h with rfl | rfl | rfl | rfl <;> assumption
  · exact gSelf h5 w h
theorem gIS {a : Cond} {own : String} {idx : Nat} {y : MethodName} {b : ByteArray} {n : Nat} {r : Option FieldType} (h1 : Cond.methodLink own idx y ∈ gW) (h2 : Cond.static y ∈ gW) (h4 : Cond.initialized y.cls ∈ gW) (h5 : Cond.code y b n r ∈ gW) : GoodIn (a :: gW) (va_wsS own idx y (Cond.code y b n r :: gW)) := gGood fun w hw => by
  rcases List.mem_append.mp hw with h | h
  · simp only [List.mem_cons, List.not_mem_nil, or_false] at h
    rcases h with rfl | rfl | rfl <;> assumption
  · exact gSelf h5 w h
theorem tdec {cc : ByteArray} {T : List (Nat × Instr × Nat)} (h : ∀ q ∈ T, decode cc q.1 = .ok (q.2.1, q.2.2)) (i : Nat) {pc n : Nat} {ins : Instr} (hi : T[i]? = some (pc, ins, n)) : decode cc pc = .ok (ins, n) := h (pc, ins, n) (List.mem_of_getElem? hi)
theorem fl_X0_14 : Cond.fieldLink RX0 14 (TX0 0).1 (TX0 0).2.1 (TX0 0).2.2.1 ∈ gW := gWm 143 (by decide +kernel) rfl
theorem fl_X0_20 : Cond.fieldLink RX0 20 (TX0 1).1 (TX0 1).2.1 (TX0 1).2.2.1 ∈ gW := gWm 144 (by decide +kernel) rfl
theorem fl_X0_23 : Cond.fieldLink RX0 23 (TX0 2).1 (TX0 2).2.1 (TX0 2).2.2.1 ∈ gW := gWm 145 (by decide +kernel) rfl
theorem fl_X0_29 : Cond.fieldLink RX0 29 (TX0 3).1 (TX0 3).2.1 (TX0 3).2.2.1 ∈ gW := gWm 146 (by decide +kernel) rfl
theorem fl_X0_33 : Cond.fieldLink RX0 33 (TX0 4).1 (TX0 4).2.1 (TX0 4).2.2.1 ∈ gW := gWm 147 (by decide +kernel) rfl
theorem fl_X0_36 : Cond.fieldLink RX0 36 (TX0 5).1 (TX0 5).2.1 (TX0 5).2.2.1 ∈ gW := gWm 148 (by decide +kernel) rfl
theorem fl_X0_39 : Cond.fieldLink RX0 39 (TX0 6).1 (TX0 6).2.1 (TX0 6).2.2.1 ∈ gW := gWm 149 (by decide +kernel) rfl
theorem fl_X0_45 : Cond.fieldLink RX0 45 (TX0 7).1 (TX0 7).2.1 (TX0 7).2.2.1 ∈ gW := gWm 150 (by decide +kernel) rfl
theorem fl_X0_49 : Cond.fieldLink RX0 49 (TX0 8).1 (TX0 8).2.1 (TX0 8).2.2.1 ∈ gW := gWm 151 (by decide +kernel) rfl
theorem fl_X0_52 : Cond.fieldLink RX0 52 (TX0 9).1 (TX0 9).2.1 (TX0 9).2.2.1 ∈ gW := gWm 152 (by decide +kernel) rfl
theorem fl_X1_15 : Cond.fieldLink RX1 15 (TX1 0).1 (TX1 0).2.1 (TX1 0).2.2.1 ∈ gW := gWm 126 (by decide +kernel) rfl
theorem fl_X2_13 : Cond.fieldLink RX2 13 (TX2 0).1 (TX2 0).2.1 (TX2 0).2.2.1 ∈ gW := gWm 138 (by decide +kernel) rfl
theorem fl_X3_9 : Cond.fieldLink RX3 9 (TX3 0).1 (TX3 0).2.1 (TX3 0).2.2.1 ∈ gW := gWm 218 (by decide +kernel) rfl
theorem fl_X3_15 : Cond.fieldLink RX3 15 (TX3 1).1 (TX3 1).2.1 (TX3 1).2.2.1 ∈ gW := gWm 219 (by decide +kernel) rfl
theorem fl_X3_19 : Cond.fieldLink RX3 19 (TX3 3).1 (TX3 3).2.1 (TX3 3).2.2.1 ∈ gW := gWm 221 (by decide +kernel) rfl
theorem fl_X3_60 : Cond.fieldLink RX3 60 (TX3 2).1 (TX3 2).2.1 (TX3 2).2.2.1 ∈ gW := gWm 220 (by decide +kernel) rfl
theorem fl_X3_63 : Cond.fieldLink RX3 63 (TX3 4).1 (TX3 4).2.1 (TX3 4).2.2.1 ∈ gW := gWm 222 (by decide +kernel) rfl
theorem fl_X4_9 : Cond.fieldLink RX4 9 (TX4 0).1 (TX4 0).2.1 (TX4 0).2.2.1 ∈ gW := gWm 89 (by decide +kernel) rfl
theorem fl_X4_15 : Cond.fieldLink RX4 15 (TX4 2).1 (TX4 2).2.1 (TX4 2).2.2.1 ∈ gW := gWm 91 (by decide +kernel) rfl
theorem fl_X4_19 : Cond.fieldLink RX4 19 (TX4 3).1 (TX4 3).2.1 (TX4 3).2.2.1 ∈ gW := gWm 92 (by decide +kernel) rfl
theorem fl_X4_22 : Cond.fieldLink RX4 22 (TX4 4).1 (TX4 4).2.1 (TX4 4).2.2.1 ∈ gW := gWm 93 (by decide +kernel) rfl
theorem fl_X4_31 : Cond.fieldLink RX4 31 (TX4 1).1 (TX4 1).2.1 (TX4 1).2.2.1 ∈ gW := gWm 90 (by decide +kernel) rfl
theorem fl_X5_9 : Cond.fieldLink RX5 9 (TX5 0).1 (TX5 0).2.1 (TX5 0).2.2.1 ∈ gW := gWm 75 (by decide +kernel) rfl
theorem fl_X5_15 : Cond.fieldLink RX5 15 (TX5 1).1 (TX5 1).2.1 (TX5 1).2.2.1 ∈ gW := gWm 76 (by decide +kernel) rfl
theorem fl_X6_12 : Cond.fieldLink RX6 12 (TX6 0).1 (TX6 0).2.1 (TX6 0).2.2.1 ∈ gW := gWm 193 (by decide +kernel) rfl
theorem fl_X6_23 : Cond.fieldLink RX6 23 (TX6 1).1 (TX6 1).2.1 (TX6 1).2.2.1 ∈ gW := gWm 194 (by decide +kernel) rfl
theorem fl_X6_30 : Cond.fieldLink RX6 30 (TX6 2).1 (TX6 2).2.1 (TX6 2).2.2.1 ∈ gW := gWm 195 (by decide +kernel) rfl
theorem fl_X6_38 : Cond.fieldLink RX6 38 (TX6 3).1 (TX6 3).2.1 (TX6 3).2.2.1 ∈ gW := gWm 196 (by decide +kernel) rfl
theorem fl_X6_42 : Cond.fieldLink RX6 42 (TX6 4).1 (TX6 4).2.1 (TX6 4).2.2.1 ∈ gW := gWm 197 (by decide +kernel) rfl
theorem fl_X6_45 : Cond.fieldLink RX6 45 (TX6 5).1 (TX6 5).2.1 (TX6 5).2.2.1 ∈ gW := gWm 198 (by decide +kernel) rfl
theorem fl_X7_12 : Cond.fieldLink RX7 12 (TX7 0).1 (TX7 0).2.1 (TX7 0).2.2.1 ∈ gW := gWm 234 (by decide +kernel) rfl
theorem fl_X7_21 : Cond.fieldLink RX7 21 (TX7 1).1 (TX7 1).2.1 (TX7 1).2.2.1 ∈ gW := gWm 235 (by decide +kernel) rfl
theorem fl_X7_28 : Cond.fieldLink RX7 28 (TX7 2).1 (TX7 2).2.1 (TX7 2).2.2.1 ∈ gW := gWm 236 (by decide +kernel) rfl
theorem fl_X7_32 : Cond.fieldLink RX7 32 (TX7 3).1 (TX7 3).2.1 (TX7 3).2.2.1 ∈ gW := gWm 237 (by decide +kernel) rfl
theorem fl_X7_40 : Cond.fieldLink RX7 40 (TX7 4).1 (TX7 4).2.1 (TX7 4).2.2.1 ∈ gW := gWm 238 (by decide +kernel) rfl
theorem fl_X7_44 : Cond.fieldLink RX7 44 (TX7 5).1 (TX7 5).2.1 (TX7 5).2.2.1 ∈ gW := gWm 239 (by decide +kernel) rfl
theorem fl_X7_47 : Cond.fieldLink RX7 47 (TX7 6).1 (TX7 6).2.1 (TX7 6).2.2.1 ∈ gW := gWm 240 (by decide +kernel) rfl
theorem fl_X8_9 : Cond.fieldLink RX8 9 (TX8 1).1 (TX8 1).2.1 (TX8 1).2.2.1 ∈ gW := gWm 824 (by decide +kernel) rfl
theorem fl_X8_13 : Cond.fieldLink RX8 13 (TX8 2).1 (TX8 2).2.1 (TX8 2).2.2.1 ∈ gW := gWm 825 (by decide +kernel) rfl
theorem fl_X8_16 : Cond.fieldLink RX8 16 (TX8 3).1 (TX8 3).2.1 (TX8 3).2.2.1 ∈ gW := gWm 826 (by decide +kernel) rfl
theorem fl_X8_19 : Cond.fieldLink RX8 19 (TX8 4).1 (TX8 4).2.1 (TX8 4).2.2.1 ∈ gW := gWm 827 (by decide +kernel) rfl
theorem fl_X8_22 : Cond.fieldLink RX8 22 (TX8 5).1 (TX8 5).2.1 (TX8 5).2.2.1 ∈ gW := gWm 828 (by decide +kernel) rfl
theorem fl_X8_26 : Cond.fieldLink RX8 26 (TX8 6).1 (TX8 6).2.1 (TX8 6).2.2.1 ∈ gW := gWm 829 (by decide +kernel) rfl
theorem fl_X8_30 : Cond.fieldLink RX8 30 (TX8 7).1 (TX8 7).2.1 (TX8 7).2.2.1 ∈ gW := gWm 830 (by decide +kernel) rfl
theorem fl_X8_33 : Cond.fieldLink RX8 33 (TX8 8).1 (TX8 8).2.1 (TX8 8).2.2.1 ∈ gW := gWm 831 (by decide +kernel) rfl
theorem fl_X8_36 : Cond.fieldLink RX8 36 (TX8 9).1 (TX8 9).2.1 (TX8 9).2.2.1 ∈ gW := gWm 832 (by decide +kernel) rfl
theorem fl_X8_39 : Cond.fieldLink RX8 39 (TX8 10).1 (TX8 10).2.1 (TX8 10).2.2.1 ∈ gW := gWm 833 (by decide +kernel) rfl
theorem fl_X8_42 : Cond.fieldLink RX8 42 (TX8 11).1 (TX8 11).2.1 (TX8 11).2.2.1 ∈ gW := gWm 834 (by decide +kernel) rfl
theorem fl_X8_45 : Cond.fieldLink RX8 45 (TX8 12).1 (TX8 12).2.1 (TX8 12).2.2.1 ∈ gW := gWm 835 (by decide +kernel) rfl
theorem fl_X8_48 : Cond.fieldLink RX8 48 (TX8 13).1 (TX8 13).2.1 (TX8 13).2.2.1 ∈ gW := gWm 836 (by decide +kernel) rfl
theorem fl_X8_51 : Cond.fieldLink RX8 51 (TX8 14).1 (TX8 14).2.1 (TX8 14).2.2.1 ∈ gW := gWm 837 (by decide +kernel) rfl
theorem fl_X8_54 : Cond.fieldLink RX8 54 (TX8 15).1 (TX8 15).2.1 (TX8 15).2.2.1 ∈ gW := gWm 838 (by decide +kernel) rfl
theorem fl_X8_57 : Cond.fieldLink RX8 57 (TX8 16).1 (TX8 16).2.1 (TX8 16).2.2.1 ∈ gW := gWm 839 (by decide +kernel) rfl
theorem fl_X8_60 : Cond.fieldLink RX8 60 (TX8 17).1 (TX8 17).2.1 (TX8 17).2.2.1 ∈ gW := gWm 840 (by decide +kernel) rfl
theorem fl_X8_64 : Cond.fieldLink RX8 64 (TX8 18).1 (TX8 18).2.1 (TX8 18).2.2.1 ∈ gW := gWm 841 (by decide +kernel) rfl
theorem fl_X8_68 : Cond.fieldLink RX8 68 (TX8 24).1 (TX8 24).2.1 (TX8 24).2.2.1 ∈ gW := gWm 847 (by decide +kernel) rfl
theorem fl_X8_71 : Cond.fieldLink RX8 71 (TX8 25).1 (TX8 25).2.1 (TX8 25).2.2.1 ∈ gW := gWm 848 (by decide +kernel) rfl
theorem fl_X8_78 : Cond.fieldLink RX8 78 (TX8 0).1 (TX8 0).2.1 (TX8 0).2.2.1 ∈ gW := gWm 823 (by decide +kernel) rfl
theorem fl_X8_147 : Cond.fieldLink RX8 147 (TX8 19).1 (TX8 19).2.1 (TX8 19).2.2.1 ∈ gW := gWm 842 (by decide +kernel) rfl
theorem fl_X8_152 : Cond.fieldLink RX8 152 (TX8 26).1 (TX8 26).2.1 (TX8 26).2.2.1 ∈ gW := gWm 849 (by decide +kernel) rfl
theorem fl_X8_163 : Cond.fieldLink RX8 163 (TX8 20).1 (TX8 20).2.1 (TX8 20).2.2.1 ∈ gW := gWm 843 (by decide +kernel) rfl
theorem fl_X8_171 : Cond.fieldLink RX8 171 (TX8 22).1 (TX8 22).2.1 (TX8 22).2.2.1 ∈ gW := gWm 845 (by decide +kernel) rfl
theorem fl_X8_173 : Cond.fieldLink RX8 173 (TX8 23).1 (TX8 23).2.1 (TX8 23).2.2.1 ∈ gW := gWm 846 (by decide +kernel) rfl
theorem fl_X8_178 : Cond.fieldLink RX8 178 (TX8 21).1 (TX8 21).2.1 (TX8 21).2.2.1 ∈ gW := gWm 844 (by decide +kernel) rfl
theorem ml_L_7 : Cond.methodLink RL 7 yX7_format ∈ gW := gWm 395 (by decide +kernel) rfl
theorem ml_L_15 : Cond.methodLink RL 15 yX7_write ∈ gW := gWm 471 (by decide +kernel) rfl
theorem ml_L_19 : Cond.methodLink RL 19 yX7_clear ∈ gW := gWm 532 (by decide +kernel) rfl
theorem ml_L_23 : Cond.methodLink RL 23 yX7_read ∈ gW := gWm 557 (by decide +kernel) rfl
theorem ml_L_29 : Cond.methodLink RL 29 yX7_snapshot ∈ gW := gWm 586 (by decide +kernel) rfl
theorem ml_L_37 : Cond.methodLink RL 37 yX7_destroy ∈ gW := gWm 630 (by decide +kernel) rfl
theorem ml_L_40 : Cond.methodLink RL 40 yX7_rollback ∈ gW := gWm 641 (by decide +kernel) rfl
theorem ml_L_43 : Cond.methodLink RL 43 yX7_send ∈ gW := gWm 652 (by decide +kernel) rfl
theorem ml_L_47 : Cond.methodLink RL 47 yX7_receive ∈ gW := gWm 709 (by decide +kernel) rfl
theorem ml_L_50 : Cond.methodLink RL 50 yX7_step ∈ gW := gWm 748 (by decide +kernel) rfl
theorem ml_L_53 : Cond.methodLink RL 53 yX7_crash ∈ gW := gWm 792 (by decide +kernel) rfl
theorem ml_L_57 : Cond.methodLink RL 57 yX7_patch ∈ gW := gWm 800 (by decide +kernel) rfl
theorem ml_L_60 : Cond.methodLink RL 60 yX7_cut ∈ gW := gWm 808 (by decide +kernel) rfl
theorem ml_L_64 : Cond.methodLink RL 64 yX7_init ∈ gW := gWm 63 (by decide +kernel) rfl
theorem ml_L_67 : Cond.methodLink RL 67 yX8_init ∈ gW := gWm 815 (by decide +kernel) rfl
theorem ml_L_68 : Cond.methodLink RL 68 yL_format ∈ gW := gWm 391 (by decide +kernel) rfl
theorem ml_L_73 : Cond.methodLink RL 73 yX8_format ∈ gW := gWm 910 (by decide +kernel) rfl
theorem ml_L_74 : Cond.methodLink RL 74 yX8_thrown ∈ gW := gWm 906 (by decide +kernel) rfl
theorem ml_L_80 : Cond.methodLink RL 80 yL_write ∈ gW := gWm 468 (by decide +kernel) rfl
theorem ml_L_83 : Cond.methodLink RL 83 yX8_write ∈ gW := gWm 917 (by decide +kernel) rfl
theorem ml_L_84 : Cond.methodLink RL 84 yL_clear ∈ gW := gWm 529 (by decide +kernel) rfl
theorem ml_L_87 : Cond.methodLink RL 87 yX8_clear ∈ gW := gWm 975 (by decide +kernel) rfl
theorem ml_L_88 : Cond.methodLink RL 88 yL_read ∈ gW := gWm 553 (by decide +kernel) rfl
theorem ml_L_91 : Cond.methodLink RL 91 yX8_read ∈ gW := gWm 987 (by decide +kernel) rfl
theorem ml_L_92 : Cond.methodLink RL 92 yL_snapshot ∈ gW := gWm 581 (by decide +kernel) rfl
theorem ml_L_95 : Cond.methodLink RL 95 yX8_snapshot ∈ gW := gWm 995 (by decide +kernel) rfl
theorem ml_L_96 : Cond.methodLink RL 96 yL_destroy ∈ gW := gWm 627 (by decide +kernel) rfl
theorem ml_L_98 : Cond.methodLink RL 98 yX8_destroy ∈ gW := gWm 1003 (by decide +kernel) rfl
theorem ml_L_99 : Cond.methodLink RL 99 yL_rollback ∈ gW := gWm 638 (by decide +kernel) rfl
theorem ml_L_101 : Cond.methodLink RL 101 yX8_rollback ∈ gW := gWm 1007 (by decide +kernel) rfl
theorem ml_L_102 : Cond.methodLink RL 102 yL_send ∈ gW := gWm 649 (by decide +kernel) rfl
theorem ml_L_104 : Cond.methodLink RL 104 yX8_send ∈ gW := gWm 1011 (by decide +kernel) rfl
theorem ml_L_105 : Cond.methodLink RL 105 yL_receive ∈ gW := gWm 706 (by decide +kernel) rfl
theorem ml_L_107 : Cond.methodLink RL 107 yX8_receive ∈ gW := gWm 1035 (by decide +kernel) rfl
theorem ml_L_108 : Cond.methodLink RL 108 yL_step ∈ gW := gWm 745 (by decide +kernel) rfl
theorem ml_L_110 : Cond.methodLink RL 110 yX8_step ∈ gW := gWm 1047 (by decide +kernel) rfl
theorem ml_L_111 : Cond.methodLink RL 111 yL_crash ∈ gW := gWm 789 (by decide +kernel) rfl
theorem ml_L_113 : Cond.methodLink RL 113 yX8_crash ∈ gW := gWm 1072 (by decide +kernel) rfl
theorem ml_L_114 : Cond.methodLink RL 114 yX7_stream ∈ gW := gWm 256 (by decide +kernel) rfl
theorem ml_L_117 : Cond.methodLink RL 117 yX8_stream ∈ gW := gWm 1076 (by decide +kernel) rfl
theorem ml_L_118 : Cond.methodLink RL 118 yL_patch ∈ gW := gWm 797 (by decide +kernel) rfl
theorem ml_L_120 : Cond.methodLink RL 120 yX8_patch ∈ gW := gWm 1080 (by decide +kernel) rfl
theorem ml_L_121 : Cond.methodLink RL 121 yL_cut ∈ gW := gWm 805 (by decide +kernel) rfl
theorem ml_L_124 : Cond.methodLink RL 124 yX8_cut ∈ gW := gWm 1084 (by decide +kernel) rfl
theorem ml_L_125 : Cond.methodLink RL 125 yX7_snap ∈ gW := gWm 264 (by decide +kernel) rfl
theorem ml_L_128 : Cond.methodLink RL 128 yX8_snap ∈ gW := gWm 1088 (by decide +kernel) rfl
theorem ml_L_129 : Cond.methodLink RL 129 yX7_block ∈ gW := gWm 306 (by decide +kernel) rfl
theorem ml_L_132 : Cond.methodLink RL 132 yX8_block ∈ gW := gWm 1093 (by decide +kernel) rfl
theorem ml_L_133 : Cond.methodLink RL 133 yX7_pointer ∈ gW := gWm 326 (by decide +kernel) rfl
theorem ml_L_137 : Cond.methodLink RL 137 yX8_pointer ∈ gW := gWm 1101 (by decide +kernel) rfl
theorem ml_L_138 : Cond.methodLink RL 138 yX7_data ∈ gW := gWm 330 (by decide +kernel) rfl
theorem ml_L_142 : Cond.methodLink RL 142 yX8_data ∈ gW := gWm 1105 (by decide +kernel) rfl
theorem ml_L_143 : Cond.methodLink RL 143 yX7_look ∈ gW := gWm 339 (by decide +kernel) rfl
theorem ml_L_146 : Cond.methodLink RL 146 yX8_look ∈ gW := gWm 1109 (by decide +kernel) rfl
theorem ml_L_147 : Cond.methodLink RL 147 yX7_sent ∈ gW := gWm 371 (by decide +kernel) rfl
theorem ml_L_150 : Cond.methodLink RL 150 yX8_sent ∈ gW := gWm 1113 (by decide +kernel) rfl
theorem ml_X0_11 : Cond.methodLink RX0 11 yX1_init ∈ gW := gWm 119 (by decide +kernel) rfl
theorem ml_X0_28 : Cond.methodLink RX0 28 yX2_init ∈ gW := gWm 133 (by decide +kernel) rfl
theorem ml_X0_42 : Cond.methodLink RX0 42 yX1_fill ∈ gW := gWm 186 (by decide +kernel) rfl
theorem ml_X0_55 : Cond.methodLink RX0 55 yX1_at ∈ gW := gWm 301 (by decide +kernel) rfl
theorem ml_X0_59 : Cond.methodLink RX0 59 yX2_at ∈ gW := gWm 338 (by decide +kernel) rfl
theorem ml_X0_62 : Cond.methodLink RX0 62 yX2_put ∈ gW := gWm 517 (by decide +kernel) rfl
theorem ml_X0_66 : Cond.methodLink RX0 66 yX1_put ∈ gW := gWm 505 (by decide +kernel) rfl
theorem ml_X0_69 : Cond.methodLink RX0 69 yX0_wantsNewBlock ∈ gW := gWm 500 (by decide +kernel) rfl
theorem ml_X0_73 : Cond.methodLink RX0 73 yX0_takeLeastFree ∈ gW := gWm 501 (by decide +kernel) rfl
theorem ml_X0_77 : Cond.methodLink RX0 77 yX0_point ∈ gW := gWm 509 (by decide +kernel) rfl
theorem ml_X1_21 : Cond.methodLink RX1 21 yJ7_fill_53178 ∈ gW := gWm 190 (by decide +kernel) rfl
theorem ml_X3_23 : Cond.methodLink RX3 23 yX6_isBusy ∈ gW := gWm 717 (by decide +kernel) rfl
theorem ml_X3_29 : Cond.methodLink RX3 29 yX5_at ∈ gW := gWm 718 (by decide +kernel) rfl
theorem ml_X3_35 : Cond.methodLink RX3 35 yX5_isWhole ∈ gW := gWm 719 (by decide +kernel) rfl
theorem ml_X3_39 : Cond.methodLink RX3 39 yX5_numberAt ∈ gW := gWm 727 (by decide +kernel) rfl
theorem ml_X3_43 : Cond.methodLink RX3 43 yX6_snapshots ∈ gW := gWm 728 (by decide +kernel) rfl
theorem ml_X3_47 : Cond.methodLink RX3 47 yX6_isLatest ∈ gW := gWm 729 (by decide +kernel) rfl
theorem ml_X3_51 : Cond.methodLink RX3 51 yX6_isDirty ∈ gW := gWm 733 (by decide +kernel) rfl
theorem ml_X3_54 : Cond.methodLink RX3 54 yX6_hasMark ∈ gW := gWm 737 (by decide +kernel) rfl
theorem ml_X3_57 : Cond.methodLink RX3 57 yX6_makeHidden ∈ gW := gWm 741 (by decide +kernel) rfl
theorem ml_X3_67 : Cond.methodLink RX3 67 yX3_takeRecord ∈ gW := gWm 756 (by decide +kernel) rfl
theorem ml_X3_70 : Cond.methodLink RX3 70 yX6_settle ∈ gW := gWm 784 (by decide +kernel) rfl
theorem ml_X3_73 : Cond.methodLink RX3 73 yX6_dropHidden ∈ gW := gWm 785 (by decide +kernel) rfl
theorem ml_X3_76 : Cond.methodLink RX3 76 yX3_sizeOf ∈ gW := gWm 760 (by decide +kernel) rfl
theorem ml_X3_79 : Cond.methodLink RX3 79 yX3_takeWrite ∈ gW := gWm 763 (by decide +kernel) rfl
theorem ml_X3_82 : Cond.methodLink RX3 82 yX3_takeClear ∈ gW := gWm 769 (by decide +kernel) rfl
theorem ml_X3_85 : Cond.methodLink RX3 85 yX3_takeEnd ∈ gW := gWm 774 (by decide +kernel) rfl
theorem ml_X3_92 : Cond.methodLink RX3 92 yX6_writePlace ∈ gW := gWm 768 (by decide +kernel) rfl
theorem ml_X3_96 : Cond.methodLink RX3 96 yX6_clearPlace ∈ gW := gWm 773 (by decide +kernel) rfl
theorem ml_X3_99 : Cond.methodLink RX3 99 yX5_length ∈ gW := gWm 778 (by decide +kernel) rfl
theorem ml_X3_102 : Cond.methodLink RX3 102 yX6_keepHidden ∈ gW := gWm 779 (by decide +kernel) rfl
theorem ml_X4_25 : Cond.methodLink RX4 25 yX6_generationOf ∈ gW := gWm 660 (by decide +kernel) rfl
theorem ml_X4_34 : Cond.methodLink RX4 34 yX5_shorten ∈ gW := gWm 661 (by decide +kernel) rfl
theorem ml_X4_40 : Cond.methodLink RX4 40 yX6_markOf ∈ gW := gWm 665 (by decide +kernel) rfl
theorem ml_X4_44 : Cond.methodLink RX4 44 yX5_addBegin ∈ gW := gWm 666 (by decide +kernel) rfl
theorem ml_X4_48 : Cond.methodLink RX4 48 yX6_blocks ∈ gW := gWm 684 (by decide +kernel) rfl
theorem ml_X4_52 : Cond.methodLink RX4 52 yX4_goOver ∈ gW := gWm 685 (by decide +kernel) rfl
theorem ml_X4_56 : Cond.methodLink RX4 56 yX5_addEnd ∈ gW := gWm 701 (by decide +kernel) rfl
theorem ml_X4_59 : Cond.methodLink RX4 59 yX0_birth ∈ gW := gWm 688 (by decide +kernel) rfl
theorem ml_X4_64 : Cond.methodLink RX4 64 yX0_told ∈ gW := gWm 689 (by decide +kernel) rfl
theorem ml_X4_67 : Cond.methodLink RX4 67 yX5_addClear ∈ gW := gWm 690 (by decide +kernel) rfl
theorem ml_X4_71 : Cond.methodLink RX4 71 yX0_number ∈ gW := gWm 695 (by decide +kernel) rfl
theorem ml_X4_74 : Cond.methodLink RX4 74 yX5_addWrite ∈ gW := gWm 696 (by decide +kernel) rfl
theorem ml_X5_19 : Cond.methodLink RX5 19 yX5_addNumber ∈ gW := gWm 670 (by decide +kernel) rfl
theorem ml_X5_23 : Cond.methodLink RX5 23 yX5_sumOf ∈ gW := gWm 678 (by decide +kernel) rfl
theorem ml_X5_33 : Cond.methodLink RX5 33 yX5_put ∈ gW := gWm 674 (by decide +kernel) rfl
theorem ml_X5_37 : Cond.methodLink RX5 37 yX5_at ∈ gW := gWm 682 (by decide +kernel) rfl
theorem ml_X5_41 : Cond.methodLink RX5 41 yX5_numberAt ∈ gW := gWm 723 (by decide +kernel) rfl
theorem ml_X6_20 : Cond.methodLink RX6 20 yX2_init ∈ gW := gWm 175 (by decide +kernel) rfl
theorem ml_X6_29 : Cond.methodLink RX6 29 yX1_init ∈ gW := gWm 177 (by decide +kernel) rfl
theorem ml_X6_34 : Cond.methodLink RX6 34 yX6_startAnew ∈ gW := gWm 178 (by decide +kernel) rfl
theorem ml_X6_37 : Cond.methodLink RX6 37 yX0_startAnew ∈ gW := gWm 182 (by decide +kernel) rfl
theorem ml_X6_49 : Cond.methodLink RX6 49 yX2_at ∈ gW := gWm 281 (by decide +kernel) rfl
theorem ml_X6_53 : Cond.methodLink RX6 53 yX1_at ∈ gW := gWm 289 (by decide +kernel) rfl
theorem ml_X6_56 : Cond.methodLink RX6 56 yX0_settle ∈ gW := gWm 525 (by decide +kernel) rfl
theorem ml_X6_59 : Cond.methodLink RX6 59 yX6_slotToLevel ∈ gW := gWm 540 (by decide +kernel) rfl
theorem ml_X6_63 : Cond.methodLink RX6 63 yX0_told ∈ gW := gWm 490 (by decide +kernel) rfl
theorem ml_X6_66 : Cond.methodLink RX6 66 yX0_number ∈ gW := gWm 580 (by decide +kernel) rfl
theorem ml_X6_69 : Cond.methodLink RX6 69 yX6_newBlocksWanted ∈ gW := gWm 482 (by decide +kernel) rfl
theorem ml_X6_72 : Cond.methodLink RX6 72 yX0_free ∈ gW := gWm 495 (by decide +kernel) rfl
theorem ml_X6_76 : Cond.methodLink RX6 76 yX0_renew ∈ gW := gWm 496 (by decide +kernel) rfl
theorem ml_X6_80 : Cond.methodLink RX6 80 yX0_slotIn ∈ gW := gWm 491 (by decide +kernel) rfl
theorem ml_X6_84 : Cond.methodLink RX6 84 yX0_putNumber ∈ gW := gWm 513 (by decide +kernel) rfl
theorem ml_X6_88 : Cond.methodLink RX6 88 yX0_point ∈ gW := gWm 544 (by decide +kernel) rfl
theorem ml_X6_91 : Cond.methodLink RX6 91 yX6_makeHoleIfEmpty ∈ gW := gWm 545 (by decide +kernel) rfl
theorem ml_X6_94 : Cond.methodLink RX6 94 yX0_hasOnlyHoles ∈ gW := gWm 549 (by decide +kernel) rfl
theorem ml_X6_98 : Cond.methodLink RX6 98 yX0_wantsNewBlock ∈ gW := gWm 486 (by decide +kernel) rfl
theorem ml_X6_102 : Cond.methodLink RX6 102 yX0_birth ∈ gW := gWm 624 (by decide +kernel) rfl
theorem ml_X6_105 : Cond.methodLink RX6 105 yX2_put ∈ gW := gWm 625 (by decide +kernel) rfl
theorem ml_X6_108 : Cond.methodLink RX6 108 yX1_put ∈ gW := gWm 626 (by decide +kernel) rfl
theorem ml_X6_111 : Cond.methodLink RX6 111 yX6_keepLive ∈ gW := gWm 783 (by decide +kernel) rfl
theorem ml_X7_18 : Cond.methodLink RX7 18 yX4_init ∈ gW := gWm 85 (by decide +kernel) rfl
theorem ml_X7_27 : Cond.methodLink RX7 27 yX6_init ∈ gW := gWm 107 (by decide +kernel) rfl
theorem ml_X7_37 : Cond.methodLink RX7 37 yX3_init ∈ gW := gWm 214 (by decide +kernel) rfl
theorem ml_X7_51 : Cond.methodLink RX7 51 yX7_find ∈ gW := gWm 268 (by decide +kernel) rfl
theorem ml_X7_58 : Cond.methodLink RX7 58 yX6_startAnew ∈ gW := gWm 463 (by decide +kernel) rfl
theorem ml_X7_62 : Cond.methodLink RX7 62 yX7_receivingOf ∈ gW := gWm 363 (by decide +kernel) rfl
theorem ml_X7_66 : Cond.methodLink RX7 66 yX3_forget ∈ gW := gWm 464 (by decide +kernel) rfl
theorem ml_X7_69 : Cond.methodLink RX7 69 yX7_isPlace ∈ gW := gWm 475 (by decide +kernel) rfl
theorem ml_X7_73 : Cond.methodLink RX7 73 yX6_isBusy ∈ gW := gWm 359 (by decide +kernel) rfl
theorem ml_X7_77 : Cond.methodLink RX7 77 yX6_writePlace ∈ gW := gWm 478 (by decide +kernel) rfl
theorem ml_X7_81 : Cond.methodLink RX7 81 yX6_settle ∈ gW := gWm 521 (by decide +kernel) rfl
theorem ml_X7_84 : Cond.methodLink RX7 84 yX6_clearPlace ∈ gW := gWm 536 (by decide +kernel) rfl
theorem ml_X7_88 : Cond.methodLink RX7 88 yX6_hasSnapshot ∈ gW := gWm 272 (by decide +kernel) rfl
theorem ml_X7_94 : Cond.methodLink RX7 94 yX6_readPlace ∈ gW := gWm 576 (by decide +kernel) rfl
theorem ml_X7_101 : Cond.methodLink RX7 101 yX6_snapshots ∈ gW := gWm 355 (by decide +kernel) rfl
theorem ml_X7_108 : Cond.methodLink RX7 108 yX6_keepLive ∈ gW := gWm 620 (by decide +kernel) rfl
theorem ml_X7_112 : Cond.methodLink RX7 112 yX6_dropSnapshot ∈ gW := gWm 634 (by decide +kernel) rfl
theorem ml_X7_116 : Cond.methodLink RX7 116 yX6_returnToLatest ∈ gW := gWm 645 (by decide +kernel) rfl
theorem ml_X7_119 : Cond.methodLink RX7 119 yX4_fillStream ∈ gW := gWm 656 (by decide +kernel) rfl
theorem ml_X7_123 : Cond.methodLink RX7 123 yX5_length ∈ gW := gWm 387 (by decide +kernel) rfl
theorem ml_X7_126 : Cond.methodLink RX7 126 yX3_takeBegin ∈ gW := gWm 713 (by decide +kernel) rfl
theorem ml_X7_129 : Cond.methodLink RX7 129 yX3_takeRecords ∈ gW := gWm 752 (by decide +kernel) rfl
theorem ml_X7_132 : Cond.methodLink RX7 132 yX6_dropHidden ∈ gW := gWm 796 (by decide +kernel) rfl
theorem ml_X7_135 : Cond.methodLink RX7 135 yX5_at ∈ gW := gWm 260 (by decide +kernel) rfl
theorem ml_X7_138 : Cond.methodLink RX7 138 yX5_put ∈ gW := gWm 804 (by decide +kernel) rfl
theorem ml_X7_142 : Cond.methodLink RX7 142 yX5_shorten ∈ gW := gWm 812 (by decide +kernel) rfl
theorem ml_X7_147 : Cond.methodLink RX7 147 yX6_markOf ∈ gW := gWm 277 (by decide +kernel) rfl
theorem ml_X7_151 : Cond.methodLink RX7 151 yX6_generationOf ∈ gW := gWm 285 (by decide +kernel) rfl
theorem ml_X7_154 : Cond.methodLink RX7 154 yX6_blocks ∈ gW := gWm 293 (by decide +kernel) rfl
theorem ml_X7_158 : Cond.methodLink RX7 158 yX0_told ∈ gW := gWm 297 (by decide +kernel) rfl
theorem ml_X7_163 : Cond.methodLink RX7 163 yX0_birth ∈ gW := gWm 302 (by decide +kernel) rfl
theorem ml_X7_166 : Cond.methodLink RX7 166 yX0_has ∈ gW := gWm 310 (by decide +kernel) rfl
theorem ml_X7_169 : Cond.methodLink RX7 169 yX0_level ∈ gW := gWm 314 (by decide +kernel) rfl
theorem ml_X7_172 : Cond.methodLink RX7 172 yX0_birthOfBlock ∈ gW := gWm 318 (by decide +kernel) rfl
theorem ml_X7_175 : Cond.methodLink RX7 175 yX0_tellers ∈ gW := gWm 322 (by decide +kernel) rfl
theorem ml_X7_178 : Cond.methodLink RX7 178 yX0_number ∈ gW := gWm 334 (by decide +kernel) rfl
theorem ml_X7_181 : Cond.methodLink RX7 181 yX0_count ∈ gW := gWm 343 (by decide +kernel) rfl
theorem ml_X7_184 : Cond.methodLink RX7 184 yX0_free ∈ gW := gWm 347 (by decide +kernel) rfl
theorem ml_X7_187 : Cond.methodLink RX7 187 yX6_generation ∈ gW := gWm 351 (by decide +kernel) rfl
theorem ml_X7_190 : Cond.methodLink RX7 190 yX3_received ∈ gW := gWm 367 (by decide +kernel) rfl
theorem ml_X7_193 : Cond.methodLink RX7 193 yX4_writes ∈ gW := gWm 375 (by decide +kernel) rfl
theorem ml_X7_196 : Cond.methodLink RX7 196 yX4_clears ∈ gW := gWm 379 (by decide +kernel) rfl
theorem ml_X7_199 : Cond.methodLink RX7 199 yX4_seen ∈ gW := gWm 383 (by decide +kernel) rfl
theorem ml_X8_74 : Cond.methodLink RX8 74 yX8_fresh ∈ gW := gWm 819 (by decide +kernel) rfl
theorem ml_X8_82 : Cond.methodLink RX8 82 yX8_isVolume ∈ gW := gWm 914 (by decide +kernel) rfl
theorem ml_X8_86 : Cond.methodLink RX8 86 yX8_isTree ∈ gW := gWm 971 (by decide +kernel) rfl
theorem ml_X8_90 : Cond.methodLink RX8 90 yX8_told ∈ gW := gWm 936 (by decide +kernel) rfl
theorem ml_X8_94 : Cond.methodLink RX8 94 yX8_turn ∈ gW := gWm 940 (by decide +kernel) rfl
theorem ml_X8_97 : Cond.methodLink RX8 97 yX8_born ∈ gW := gWm 947 (by decide +kernel) rfl
theorem ml_X8_100 : Cond.methodLink RX8 100 yX8_take ∈ gW := gWm 959 (by decide +kernel) rfl
theorem ml_X8_103 : Cond.methodLink RX8 103 yX8_point ∈ gW := gWm 963 (by decide +kernel) rfl
theorem ml_X8_107 : Cond.methodLink RX8 107 yX8_ways ∈ gW := gWm 932 (by decide +kernel) rfl
theorem ml_X8_111 : Cond.methodLink RX8 111 yX8_wanted ∈ gW := gWm 943 (by decide +kernel) rfl
theorem ml_X8_114 : Cond.methodLink RX8 114 yX8_freeMany ∈ gW := gWm 951 (by decide +kernel) rfl
theorem ml_X8_118 : Cond.methodLink RX8 118 yX8_renews ∈ gW := gWm 955 (by decide +kernel) rfl
theorem ml_X8_121 : Cond.methodLink RX8 121 yX8_hasNothing ∈ gW := gWm 983 (by decide +kernel) rfl
theorem ml_X8_124 : Cond.methodLink RX8 124 yX8_isPlace ∈ gW := gWm 921 (by decide +kernel) rfl
theorem ml_X8_127 : Cond.methodLink RX8 127 yX8_begins ∈ gW := gWm 924 (by decide +kernel) rfl
theorem ml_X8_131 : Cond.methodLink RX8 131 yX8_writes ∈ gW := gWm 928 (by decide +kernel) rfl
theorem ml_X8_135 : Cond.methodLink RX8 135 yX8_sweeps ∈ gW := gWm 967 (by decide +kernel) rfl
theorem ml_X8_138 : Cond.methodLink RX8 138 yX8_clears ∈ gW := gWm 979 (by decide +kernel) rfl
theorem ml_X8_141 : Cond.methodLink RX8 141 yX8_isSnap ∈ gW := gWm 991 (by decide +kernel) rfl
theorem ml_X8_144 : Cond.methodLink RX8 144 yX8_snaps ∈ gW := gWm 999 (by decide +kernel) rfl
theorem ml_X8_155 : Cond.methodLink RX8 155 yX8_sumOf ∈ gW := gWm 1023 (by decide +kernel) rfl
theorem ml_X8_159 : Cond.methodLink RX8 159 yX8_put ∈ gW := gWm 1015 (by decide +kernel) rfl
theorem ml_X8_168 : Cond.methodLink RX8 168 yX8_ends ∈ gW := gWm 1019 (by decide +kernel) rfl
theorem ml_X8_180 : Cond.methodLink RX8 180 yX8_brings ∈ gW := gWm 1028 (by decide +kernel) rfl
theorem ml_X8_186 : Cond.methodLink RX8 186 yX8_number ∈ gW := gWm 1043 (by decide +kernel) rfl
theorem ml_X8_189 : Cond.methodLink RX8 189 yX8_isWhole ∈ gW := gWm 1039 (by decide +kernel) rfl
theorem ml_X8_194 : Cond.methodLink RX8 194 yX8_writesHere ∈ gW := gWm 1055 (by decide +kernel) rfl
theorem ml_X8_197 : Cond.methodLink RX8 197 yX8_clearsHere ∈ gW := gWm 1060 (by decide +kernel) rfl
theorem ml_X8_200 : Cond.methodLink RX8 200 yX8_endsHere ∈ gW := gWm 1064 (by decide +kernel) rfl
theorem ml_X8_203 : Cond.methodLink RX8 203 yX8_stops ∈ gW := gWm 1068 (by decide +kernel) rfl
theorem ml_X8_206 : Cond.methodLink RX8 206 yX8_record ∈ gW := gWm 1051 (by decide +kernel) rfl
theorem ml_X8_211 : Cond.methodLink RX8 211 yX8_isBlock ∈ gW := gWm 1097 (by decide +kernel) rfl
theorem kl_L_78 : Cond.constantLong RL 78 4294967295 ∈ gW := gWm 1117 (by decide +kernel) rfl
theorem kl_X5_27 : Cond.constantLong RX5 27 2 ∈ gW := gWm 700 (by decide +kernel) rfl
theorem kl_X5_29 : Cond.constantLong RX5 29 3 ∈ gW := gWm 694 (by decide +kernel) rfl
theorem kl_X5_31 : Cond.constantLong RX5 31 4 ∈ gW := gWm 705 (by decide +kernel) rfl
theorem kl_X5_44 : Cond.constantLong RX5 44 4294967295 ∈ gW := gWm 683 (by decide +kernel) rfl
theorem kl_X7_145 : Cond.constantLong RX7 145 (-1) ∈ gW := gWm 276 (by decide +kernel) rfl
theorem kl_X8_150 : Cond.constantLong RX8 150 4294967295 ∈ gW := gWm 1027 (by decide +kernel) rfl
theorem kl_X8_166 : Cond.constantLong RX8 166 3 ∈ gW := gWm 1032 (by decide +kernel) rfl
theorem kl_X8_176 : Cond.constantLong RX8 176 2 ∈ gW := gWm 1033 (by decide +kernel) rfl
theorem kl_X8_184 : Cond.constantLong RX8 184 4 ∈ gW := gWm 1034 (by decide +kernel) rfl
theorem kl_X8_192 : Cond.constantLong RX8 192 512 ∈ gW := gWm 1059 (by decide +kernel) rfl
theorem kl_X8_209 : Cond.constantLong RX8 209 (-1) ∈ gW := gWm 1092 (by decide +kernel) rfl
theorem cd_X0_init : Cond.code yX0_init cX0_init 1 none ∈ gW := gWm 115 (by decide +kernel) rfl
theorem im_X0_init : Cond.instanceMethod yX0_init ∈ gW := gWm 114 (by decide +kernel) rfl
theorem cd_X0_startAnew : Cond.code yX0_startAnew cX0_startAnew 2 none ∈ gW := gWm 185 (by decide +kernel) rfl
theorem im_X0_startAnew : Cond.instanceMethod yX0_startAnew ∈ gW := gWm 183 (by decide +kernel) rfl
theorem sl_X0_startAnew : Cond.selects RX0 yX0_startAnew yX0_startAnew ∈ gW := gWm 184 (by decide +kernel) rfl
theorem cd_X0_count : Cond.code yX0_count cX0_count 1 (some .int) ∈ gW := gWm 346 (by decide +kernel) rfl
theorem im_X0_count : Cond.instanceMethod yX0_count ∈ gW := gWm 344 (by decide +kernel) rfl
theorem sl_X0_count : Cond.selects RX0 yX0_count yX0_count ∈ gW := gWm 345 (by decide +kernel) rfl
theorem cd_X0_free : Cond.code yX0_free cX0_free 1 (some .int) ∈ gW := gWm 350 (by decide +kernel) rfl
theorem im_X0_free : Cond.instanceMethod yX0_free ∈ gW := gWm 348 (by decide +kernel) rfl
theorem sl_X0_free : Cond.selects RX0 yX0_free yX0_free ∈ gW := gWm 349 (by decide +kernel) rfl
theorem cd_X0_has : Cond.code yX0_has cX0_has 2 (some .boolean) ∈ gW := gWm 313 (by decide +kernel) rfl
theorem im_X0_has : Cond.instanceMethod yX0_has ∈ gW := gWm 311 (by decide +kernel) rfl
theorem sl_X0_has : Cond.selects RX0 yX0_has yX0_has ∈ gW := gWm 312 (by decide +kernel) rfl
theorem cd_X0_level : Cond.code yX0_level cX0_level 2 (some .int) ∈ gW := gWm 317 (by decide +kernel) rfl
theorem im_X0_level : Cond.instanceMethod yX0_level ∈ gW := gWm 315 (by decide +kernel) rfl
theorem sl_X0_level : Cond.selects RX0 yX0_level yX0_level ∈ gW := gWm 316 (by decide +kernel) rfl
theorem cd_X0_birthOfBlock : Cond.code yX0_birthOfBlock cX0_birthOfBlock 2 (some .int) ∈ gW := gWm 321 (by decide +kernel) rfl
theorem im_X0_birthOfBlock : Cond.instanceMethod yX0_birthOfBlock ∈ gW := gWm 319 (by decide +kernel) rfl
theorem sl_X0_birthOfBlock : Cond.selects RX0 yX0_birthOfBlock yX0_birthOfBlock ∈ gW := gWm 320 (by decide +kernel) rfl
theorem cd_X0_tellers : Cond.code yX0_tellers cX0_tellers 2 (some .int) ∈ gW := gWm 325 (by decide +kernel) rfl
theorem im_X0_tellers : Cond.instanceMethod yX0_tellers ∈ gW := gWm 323 (by decide +kernel) rfl
theorem sl_X0_tellers : Cond.selects RX0 yX0_tellers yX0_tellers ∈ gW := gWm 324 (by decide +kernel) rfl
theorem cd_X0_number : Cond.code yX0_number cX0_number 2 (some .long) ∈ gW := gWm 337 (by decide +kernel) rfl
theorem im_X0_number : Cond.instanceMethod yX0_number ∈ gW := gWm 335 (by decide +kernel) rfl
theorem sl_X0_number : Cond.selects RX0 yX0_number yX0_number ∈ gW := gWm 336 (by decide +kernel) rfl
theorem cd_X0_putNumber : Cond.code yX0_putNumber cX0_putNumber 4 none ∈ gW := gWm 516 (by decide +kernel) rfl
theorem im_X0_putNumber : Cond.instanceMethod yX0_putNumber ∈ gW := gWm 514 (by decide +kernel) rfl
theorem sl_X0_putNumber : Cond.selects RX0 yX0_putNumber yX0_putNumber ∈ gW := gWm 515 (by decide +kernel) rfl
theorem cd_X0_told : Cond.code yX0_told cX0_told 2 (some .int) ∈ gW := gWm 300 (by decide +kernel) rfl
theorem im_X0_told : Cond.instanceMethod yX0_told ∈ gW := gWm 298 (by decide +kernel) rfl
theorem sl_X0_told : Cond.selects RX0 yX0_told yX0_told ∈ gW := gWm 299 (by decide +kernel) rfl
theorem cd_X0_birth : Cond.code yX0_birth cX0_birth 2 (some .int) ∈ gW := gWm 305 (by decide +kernel) rfl
theorem im_X0_birth : Cond.instanceMethod yX0_birth ∈ gW := gWm 303 (by decide +kernel) rfl
theorem sl_X0_birth : Cond.selects RX0 yX0_birth yX0_birth ∈ gW := gWm 304 (by decide +kernel) rfl
theorem cd_X0_slotIn : Cond.code yX0_slotIn cX0_slotIn 4 (some .int) ∈ gW := gWm 494 (by decide +kernel) rfl
theorem im_X0_slotIn : Cond.instanceMethod yX0_slotIn ∈ gW := gWm 492 (by decide +kernel) rfl
theorem sl_X0_slotIn : Cond.selects RX0 yX0_slotIn yX0_slotIn ∈ gW := gWm 493 (by decide +kernel) rfl
theorem cd_X0_point : Cond.code yX0_point cX0_point 5 none ∈ gW := gWm 512 (by decide +kernel) rfl
theorem im_X0_point : Cond.instanceMethod yX0_point ∈ gW := gWm 510 (by decide +kernel) rfl
theorem sl_X0_point : Cond.selects RX0 yX0_point yX0_point ∈ gW := gWm 511 (by decide +kernel) rfl
theorem cd_X0_hasOnlyHoles : Cond.code yX0_hasOnlyHoles cX0_hasOnlyHoles 3 (some .boolean) ∈ gW := gWm 552 (by decide +kernel) rfl
theorem im_X0_hasOnlyHoles : Cond.instanceMethod yX0_hasOnlyHoles ∈ gW := gWm 550 (by decide +kernel) rfl
theorem sl_X0_hasOnlyHoles : Cond.selects RX0 yX0_hasOnlyHoles yX0_hasOnlyHoles ∈ gW := gWm 551 (by decide +kernel) rfl
theorem cd_X0_wantsNewBlock : Cond.code yX0_wantsNewBlock cX0_wantsNewBlock 3 (some .boolean) ∈ gW := gWm 489 (by decide +kernel) rfl
theorem im_X0_wantsNewBlock : Cond.instanceMethod yX0_wantsNewBlock ∈ gW := gWm 487 (by decide +kernel) rfl
theorem sl_X0_wantsNewBlock : Cond.selects RX0 yX0_wantsNewBlock yX0_wantsNewBlock ∈ gW := gWm 488 (by decide +kernel) rfl
theorem cd_X0_renew : Cond.code yX0_renew cX0_renew 7 none ∈ gW := gWm 499 (by decide +kernel) rfl
theorem im_X0_renew : Cond.instanceMethod yX0_renew ∈ gW := gWm 497 (by decide +kernel) rfl
theorem sl_X0_renew : Cond.selects RX0 yX0_renew yX0_renew ∈ gW := gWm 498 (by decide +kernel) rfl
theorem cd_X0_takeLeastFree : Cond.code yX0_takeLeastFree cX0_takeLeastFree 2 (some .int) ∈ gW := gWm 504 (by decide +kernel) rfl
theorem im_X0_takeLeastFree : Cond.instanceMethod yX0_takeLeastFree ∈ gW := gWm 503 (by decide +kernel) rfl
theorem sl_X0_takeLeastFree : Cond.selects RX0 yX0_takeLeastFree yX0_takeLeastFree ∈ gW := gWm 4 (by decide +kernel) rfl
theorem cd_X0_settle : Cond.code yX0_settle cX0_settle 4 none ∈ gW := gWm 528 (by decide +kernel) rfl
theorem im_X0_settle : Cond.instanceMethod yX0_settle ∈ gW := gWm 526 (by decide +kernel) rfl
theorem sl_X0_settle : Cond.selects RX0 yX0_settle yX0_settle ∈ gW := gWm 527 (by decide +kernel) rfl
theorem cd_X1_init : Cond.code yX1_init cX1_init 2 none ∈ gW := gWm 121 (by decide +kernel) rfl
theorem im_X1_init : Cond.instanceMethod yX1_init ∈ gW := gWm 120 (by decide +kernel) rfl
theorem cd_X1_at : Cond.code yX1_at cX1_at 2 (some .int) ∈ gW := gWm 292 (by decide +kernel) rfl
theorem im_X1_at : Cond.instanceMethod yX1_at ∈ gW := gWm 290 (by decide +kernel) rfl
theorem sl_X1_at : Cond.selects RX1 yX1_at yX1_at ∈ gW := gWm 291 (by decide +kernel) rfl
theorem cd_X1_put : Cond.code yX1_put cX1_put 3 none ∈ gW := gWm 508 (by decide +kernel) rfl
theorem im_X1_put : Cond.instanceMethod yX1_put ∈ gW := gWm 506 (by decide +kernel) rfl
theorem sl_X1_put : Cond.selects RX1 yX1_put yX1_put ∈ gW := gWm 507 (by decide +kernel) rfl
theorem cd_X1_fill : Cond.code yX1_fill cX1_fill 2 none ∈ gW := gWm 189 (by decide +kernel) rfl
theorem im_X1_fill : Cond.instanceMethod yX1_fill ∈ gW := gWm 187 (by decide +kernel) rfl
theorem sl_X1_fill : Cond.selects RX1 yX1_fill yX1_fill ∈ gW := gWm 188 (by decide +kernel) rfl
theorem cd_X2_init : Cond.code yX2_init cX2_init 2 none ∈ gW := gWm 135 (by decide +kernel) rfl
theorem im_X2_init : Cond.instanceMethod yX2_init ∈ gW := gWm 134 (by decide +kernel) rfl
theorem cd_X2_at : Cond.code yX2_at cX2_at 2 (some .long) ∈ gW := gWm 284 (by decide +kernel) rfl
theorem im_X2_at : Cond.instanceMethod yX2_at ∈ gW := gWm 282 (by decide +kernel) rfl
theorem sl_X2_at : Cond.selects RX2 yX2_at yX2_at ∈ gW := gWm 283 (by decide +kernel) rfl
theorem cd_X2_put : Cond.code yX2_put cX2_put 4 none ∈ gW := gWm 520 (by decide +kernel) rfl
theorem im_X2_put : Cond.instanceMethod yX2_put ∈ gW := gWm 518 (by decide +kernel) rfl
theorem sl_X2_put : Cond.selects RX2 yX2_put yX2_put ∈ gW := gWm 519 (by decide +kernel) rfl
theorem cd_X3_init : Cond.code yX3_init cX3_init 3 none ∈ gW := gWm 216 (by decide +kernel) rfl
theorem im_X3_init : Cond.instanceMethod yX3_init ∈ gW := gWm 215 (by decide +kernel) rfl
theorem cd_X3_received : Cond.code yX3_received cX3_received 1 (some .int) ∈ gW := gWm 370 (by decide +kernel) rfl
theorem im_X3_received : Cond.instanceMethod yX3_received ∈ gW := gWm 368 (by decide +kernel) rfl
theorem sl_X3_received : Cond.selects RX3 yX3_received yX3_received ∈ gW := gWm 369 (by decide +kernel) rfl
theorem cd_X3_forget : Cond.code yX3_forget cX3_forget 1 none ∈ gW := gWm 467 (by decide +kernel) rfl
theorem im_X3_forget : Cond.instanceMethod yX3_forget ∈ gW := gWm 465 (by decide +kernel) rfl
theorem sl_X3_forget : Cond.selects RX3 yX3_forget yX3_forget ∈ gW := gWm 466 (by decide +kernel) rfl
theorem cd_X3_takeBegin : Cond.code yX3_takeBegin cX3_takeBegin 5 (some .int) ∈ gW := gWm 716 (by decide +kernel) rfl
theorem im_X3_takeBegin : Cond.instanceMethod yX3_takeBegin ∈ gW := gWm 714 (by decide +kernel) rfl
theorem sl_X3_takeBegin : Cond.selects RX3 yX3_takeBegin yX3_takeBegin ∈ gW := gWm 715 (by decide +kernel) rfl
theorem cd_X3_takeRecords : Cond.code yX3_takeRecords cX3_takeRecords 4 (some .int) ∈ gW := gWm 755 (by decide +kernel) rfl
theorem im_X3_takeRecords : Cond.instanceMethod yX3_takeRecords ∈ gW := gWm 753 (by decide +kernel) rfl
theorem sl_X3_takeRecords : Cond.selects RX3 yX3_takeRecords yX3_takeRecords ∈ gW := gWm 754 (by decide +kernel) rfl
theorem cd_X3_takeRecord : Cond.code yX3_takeRecord cX3_takeRecord 4 (some .int) ∈ gW := gWm 759 (by decide +kernel) rfl
theorem im_X3_takeRecord : Cond.instanceMethod yX3_takeRecord ∈ gW := gWm 758 (by decide +kernel) rfl
theorem sl_X3_takeRecord : Cond.selects RX3 yX3_takeRecord yX3_takeRecord ∈ gW := gWm 9 (by decide +kernel) rfl
theorem cd_X3_sizeOf : Cond.code yX3_sizeOf cX3_sizeOf 1 (some .int) ∈ gW := gWm 762 (by decide +kernel) rfl
theorem st_X3_sizeOf : Cond.static yX3_sizeOf ∈ gW := gWm 761 (by decide +kernel) rfl
theorem cd_X3_takeWrite : Cond.code yX3_takeWrite cX3_takeWrite 2 (some .int) ∈ gW := gWm 766 (by decide +kernel) rfl
theorem im_X3_takeWrite : Cond.instanceMethod yX3_takeWrite ∈ gW := gWm 765 (by decide +kernel) rfl
theorem sl_X3_takeWrite : Cond.selects RX3 yX3_takeWrite yX3_takeWrite ∈ gW := gWm 10 (by decide +kernel) rfl
theorem cd_X3_takeClear : Cond.code yX3_takeClear cX3_takeClear 4 (some .int) ∈ gW := gWm 772 (by decide +kernel) rfl
theorem im_X3_takeClear : Cond.instanceMethod yX3_takeClear ∈ gW := gWm 771 (by decide +kernel) rfl
theorem sl_X3_takeClear : Cond.selects RX3 yX3_takeClear yX3_takeClear ∈ gW := gWm 11 (by decide +kernel) rfl
theorem cd_X3_takeEnd : Cond.code yX3_takeEnd cX3_takeEnd 1 (some .int) ∈ gW := gWm 777 (by decide +kernel) rfl
theorem im_X3_takeEnd : Cond.instanceMethod yX3_takeEnd ∈ gW := gWm 776 (by decide +kernel) rfl
theorem sl_X3_takeEnd : Cond.selects RX3 yX3_takeEnd yX3_takeEnd ∈ gW := gWm 12 (by decide +kernel) rfl
theorem cd_X4_init : Cond.code yX4_init cX4_init 2 none ∈ gW := gWm 87 (by decide +kernel) rfl
theorem im_X4_init : Cond.instanceMethod yX4_init ∈ gW := gWm 86 (by decide +kernel) rfl
theorem cd_X4_writes : Cond.code yX4_writes cX4_writes 1 (some .int) ∈ gW := gWm 378 (by decide +kernel) rfl
theorem im_X4_writes : Cond.instanceMethod yX4_writes ∈ gW := gWm 376 (by decide +kernel) rfl
theorem sl_X4_writes : Cond.selects RX4 yX4_writes yX4_writes ∈ gW := gWm 377 (by decide +kernel) rfl
theorem cd_X4_clears : Cond.code yX4_clears cX4_clears 1 (some .int) ∈ gW := gWm 382 (by decide +kernel) rfl
theorem im_X4_clears : Cond.instanceMethod yX4_clears ∈ gW := gWm 380 (by decide +kernel) rfl
theorem sl_X4_clears : Cond.selects RX4 yX4_clears yX4_clears ∈ gW := gWm 381 (by decide +kernel) rfl
theorem cd_X4_seen : Cond.code yX4_seen cX4_seen 1 (some .int) ∈ gW := gWm 386 (by decide +kernel) rfl
theorem im_X4_seen : Cond.instanceMethod yX4_seen ∈ gW := gWm 384 (by decide +kernel) rfl
theorem sl_X4_seen : Cond.selects RX4 yX4_seen yX4_seen ∈ gW := gWm 385 (by decide +kernel) rfl
theorem cd_X4_fillStream : Cond.code yX4_fillStream cX4_fillStream 4 none ∈ gW := gWm 659 (by decide +kernel) rfl
theorem im_X4_fillStream : Cond.instanceMethod yX4_fillStream ∈ gW := gWm 657 (by decide +kernel) rfl
theorem sl_X4_fillStream : Cond.selects RX4 yX4_fillStream yX4_fillStream ∈ gW := gWm 658 (by decide +kernel) rfl
theorem cd_X4_goOver : Cond.code yX4_goOver cX4_goOver 7 none ∈ gW := gWm 687 (by decide +kernel) rfl
theorem st_X4_goOver : Cond.static yX4_goOver ∈ gW := gWm 686 (by decide +kernel) rfl
theorem cd_X5_init : Cond.code yX5_init cX5_init 1 none ∈ gW := gWm 73 (by decide +kernel) rfl
theorem im_X5_init : Cond.instanceMethod yX5_init ∈ gW := gWm 72 (by decide +kernel) rfl
theorem cd_X5_length : Cond.code yX5_length cX5_length 1 (some .int) ∈ gW := gWm 390 (by decide +kernel) rfl
theorem im_X5_length : Cond.instanceMethod yX5_length ∈ gW := gWm 388 (by decide +kernel) rfl
theorem sl_X5_length : Cond.selects RX5 yX5_length yX5_length ∈ gW := gWm 389 (by decide +kernel) rfl
theorem cd_X5_at : Cond.code yX5_at cX5_at 2 (some .int) ∈ gW := gWm 263 (by decide +kernel) rfl
theorem im_X5_at : Cond.instanceMethod yX5_at ∈ gW := gWm 261 (by decide +kernel) rfl
theorem sl_X5_at : Cond.selects RX5 yX5_at yX5_at ∈ gW := gWm 262 (by decide +kernel) rfl
theorem cd_X5_put : Cond.code yX5_put cX5_put 3 none ∈ gW := gWm 677 (by decide +kernel) rfl
theorem im_X5_put : Cond.instanceMethod yX5_put ∈ gW := gWm 675 (by decide +kernel) rfl
theorem sl_X5_put : Cond.selects RX5 yX5_put yX5_put ∈ gW := gWm 676 (by decide +kernel) rfl
theorem cd_X5_shorten : Cond.code yX5_shorten cX5_shorten 2 none ∈ gW := gWm 664 (by decide +kernel) rfl
theorem im_X5_shorten : Cond.instanceMethod yX5_shorten ∈ gW := gWm 662 (by decide +kernel) rfl
theorem sl_X5_shorten : Cond.selects RX5 yX5_shorten yX5_shorten ∈ gW := gWm 663 (by decide +kernel) rfl
theorem cd_X5_addBegin : Cond.code yX5_addBegin cX5_addBegin 6 none ∈ gW := gWm 669 (by decide +kernel) rfl
theorem im_X5_addBegin : Cond.instanceMethod yX5_addBegin ∈ gW := gWm 667 (by decide +kernel) rfl
theorem sl_X5_addBegin : Cond.selects RX5 yX5_addBegin yX5_addBegin ∈ gW := gWm 668 (by decide +kernel) rfl
theorem cd_X5_addWrite : Cond.code yX5_addWrite cX5_addWrite 5 none ∈ gW := gWm 699 (by decide +kernel) rfl
theorem im_X5_addWrite : Cond.instanceMethod yX5_addWrite ∈ gW := gWm 697 (by decide +kernel) rfl
theorem sl_X5_addWrite : Cond.selects RX5 yX5_addWrite yX5_addWrite ∈ gW := gWm 698 (by decide +kernel) rfl
theorem cd_X5_addClear : Cond.code yX5_addClear cX5_addClear 4 none ∈ gW := gWm 693 (by decide +kernel) rfl
theorem im_X5_addClear : Cond.instanceMethod yX5_addClear ∈ gW := gWm 691 (by decide +kernel) rfl
theorem sl_X5_addClear : Cond.selects RX5 yX5_addClear yX5_addClear ∈ gW := gWm 692 (by decide +kernel) rfl
theorem cd_X5_addEnd : Cond.code yX5_addEnd cX5_addEnd 3 none ∈ gW := gWm 704 (by decide +kernel) rfl
theorem im_X5_addEnd : Cond.instanceMethod yX5_addEnd ∈ gW := gWm 702 (by decide +kernel) rfl
theorem sl_X5_addEnd : Cond.selects RX5 yX5_addEnd yX5_addEnd ∈ gW := gWm 703 (by decide +kernel) rfl
theorem cd_X5_addNumber : Cond.code yX5_addNumber cX5_addNumber 5 none ∈ gW := gWm 673 (by decide +kernel) rfl
theorem im_X5_addNumber : Cond.instanceMethod yX5_addNumber ∈ gW := gWm 672 (by decide +kernel) rfl
theorem sl_X5_addNumber : Cond.selects RX5 yX5_addNumber yX5_addNumber ∈ gW := gWm 7 (by decide +kernel) rfl
theorem cd_X5_numberAt : Cond.code yX5_numberAt cX5_numberAt 6 (some .long) ∈ gW := gWm 726 (by decide +kernel) rfl
theorem im_X5_numberAt : Cond.instanceMethod yX5_numberAt ∈ gW := gWm 724 (by decide +kernel) rfl
theorem sl_X5_numberAt : Cond.selects RX5 yX5_numberAt yX5_numberAt ∈ gW := gWm 725 (by decide +kernel) rfl
theorem cd_X5_isWhole : Cond.code yX5_isWhole cX5_isWhole 4 (some .boolean) ∈ gW := gWm 722 (by decide +kernel) rfl
theorem im_X5_isWhole : Cond.instanceMethod yX5_isWhole ∈ gW := gWm 720 (by decide +kernel) rfl
theorem sl_X5_isWhole : Cond.selects RX5 yX5_isWhole yX5_isWhole ∈ gW := gWm 721 (by decide +kernel) rfl
theorem cd_X5_sumOf : Cond.code yX5_sumOf cX5_sumOf 6 (some .long) ∈ gW := gWm 681 (by decide +kernel) rfl
theorem im_X5_sumOf : Cond.instanceMethod yX5_sumOf ∈ gW := gWm 680 (by decide +kernel) rfl
theorem sl_X5_sumOf : Cond.selects RX5 yX5_sumOf yX5_sumOf ∈ gW := gWm 8 (by decide +kernel) rfl
theorem cd_X6_init : Cond.code yX6_init cX6_init 1 none ∈ gW := gWm 109 (by decide +kernel) rfl
theorem im_X6_init : Cond.instanceMethod yX6_init ∈ gW := gWm 108 (by decide +kernel) rfl
theorem cd_X6_startAnew : Cond.code yX6_startAnew cX6_startAnew 2 none ∈ gW := gWm 181 (by decide +kernel) rfl
theorem im_X6_startAnew : Cond.instanceMethod yX6_startAnew ∈ gW := gWm 179 (by decide +kernel) rfl
theorem sl_X6_startAnew : Cond.selects RX6 yX6_startAnew yX6_startAnew ∈ gW := gWm 180 (by decide +kernel) rfl
theorem cd_X6_blocks : Cond.code yX6_blocks cX6_blocks 1 (some (.object "TwinVolumes$Blocks")) ∈ gW := gWm 296 (by decide +kernel) rfl
theorem im_X6_blocks : Cond.instanceMethod yX6_blocks ∈ gW := gWm 294 (by decide +kernel) rfl
theorem sl_X6_blocks : Cond.selects RX6 yX6_blocks yX6_blocks ∈ gW := gWm 295 (by decide +kernel) rfl
theorem cd_X6_generation : Cond.code yX6_generation cX6_generation 1 (some .int) ∈ gW := gWm 354 (by decide +kernel) rfl
theorem im_X6_generation : Cond.instanceMethod yX6_generation ∈ gW := gWm 352 (by decide +kernel) rfl
theorem sl_X6_generation : Cond.selects RX6 yX6_generation yX6_generation ∈ gW := gWm 353 (by decide +kernel) rfl
theorem cd_X6_snapshots : Cond.code yX6_snapshots cX6_snapshots 1 (some .int) ∈ gW := gWm 358 (by decide +kernel) rfl
theorem im_X6_snapshots : Cond.instanceMethod yX6_snapshots ∈ gW := gWm 356 (by decide +kernel) rfl
theorem sl_X6_snapshots : Cond.selects RX6 yX6_snapshots yX6_snapshots ∈ gW := gWm 357 (by decide +kernel) rfl
theorem cd_X6_isBusy : Cond.code yX6_isBusy cX6_isBusy 1 (some .boolean) ∈ gW := gWm 362 (by decide +kernel) rfl
theorem im_X6_isBusy : Cond.instanceMethod yX6_isBusy ∈ gW := gWm 360 (by decide +kernel) rfl
theorem sl_X6_isBusy : Cond.selects RX6 yX6_isBusy yX6_isBusy ∈ gW := gWm 361 (by decide +kernel) rfl
theorem cd_X6_hasSnapshot : Cond.code yX6_hasSnapshot cX6_hasSnapshot 2 (some .boolean) ∈ gW := gWm 275 (by decide +kernel) rfl
theorem im_X6_hasSnapshot : Cond.instanceMethod yX6_hasSnapshot ∈ gW := gWm 273 (by decide +kernel) rfl
theorem sl_X6_hasSnapshot : Cond.selects RX6 yX6_hasSnapshot yX6_hasSnapshot ∈ gW := gWm 274 (by decide +kernel) rfl
theorem cd_X6_markOf : Cond.code yX6_markOf cX6_markOf 2 (some .long) ∈ gW := gWm 280 (by decide +kernel) rfl
theorem im_X6_markOf : Cond.instanceMethod yX6_markOf ∈ gW := gWm 278 (by decide +kernel) rfl
theorem sl_X6_markOf : Cond.selects RX6 yX6_markOf yX6_markOf ∈ gW := gWm 279 (by decide +kernel) rfl
theorem cd_X6_generationOf : Cond.code yX6_generationOf cX6_generationOf 2 (some .int) ∈ gW := gWm 288 (by decide +kernel) rfl
theorem im_X6_generationOf : Cond.instanceMethod yX6_generationOf ∈ gW := gWm 286 (by decide +kernel) rfl
theorem sl_X6_generationOf : Cond.selects RX6 yX6_generationOf yX6_generationOf ∈ gW := gWm 287 (by decide +kernel) rfl
theorem cd_X6_settle : Cond.code yX6_settle cX6_settle 1 none ∈ gW := gWm 524 (by decide +kernel) rfl
theorem im_X6_settle : Cond.instanceMethod yX6_settle ∈ gW := gWm 522 (by decide +kernel) rfl
theorem sl_X6_settle : Cond.selects RX6 yX6_settle yX6_settle ∈ gW := gWm 523 (by decide +kernel) rfl
theorem cd_X6_readPlace : Cond.code yX6_readPlace cX6_readPlace 4 (some .long) ∈ gW := gWm 579 (by decide +kernel) rfl
theorem im_X6_readPlace : Cond.instanceMethod yX6_readPlace ∈ gW := gWm 577 (by decide +kernel) rfl
theorem sl_X6_readPlace : Cond.selects RX6 yX6_readPlace yX6_readPlace ∈ gW := gWm 578 (by decide +kernel) rfl
theorem cd_X6_writePlace : Cond.code yX6_writePlace cX6_writePlace 7 (some .boolean) ∈ gW := gWm 481 (by decide +kernel) rfl
theorem im_X6_writePlace : Cond.instanceMethod yX6_writePlace ∈ gW := gWm 479 (by decide +kernel) rfl
theorem sl_X6_writePlace : Cond.selects RX6 yX6_writePlace yX6_writePlace ∈ gW := gWm 480 (by decide +kernel) rfl
theorem cd_X6_clearPlace : Cond.code yX6_clearPlace cX6_clearPlace 5 (some .boolean) ∈ gW := gWm 539 (by decide +kernel) rfl
theorem im_X6_clearPlace : Cond.instanceMethod yX6_clearPlace ∈ gW := gWm 537 (by decide +kernel) rfl
theorem sl_X6_clearPlace : Cond.selects RX6 yX6_clearPlace yX6_clearPlace ∈ gW := gWm 538 (by decide +kernel) rfl
theorem cd_X6_makeHoleIfEmpty : Cond.code yX6_makeHoleIfEmpty cX6_makeHoleIfEmpty 2 none ∈ gW := gWm 548 (by decide +kernel) rfl
theorem im_X6_makeHoleIfEmpty : Cond.instanceMethod yX6_makeHoleIfEmpty ∈ gW := gWm 547 (by decide +kernel) rfl
theorem sl_X6_makeHoleIfEmpty : Cond.selects RX6 yX6_makeHoleIfEmpty yX6_makeHoleIfEmpty ∈ gW := gWm 6 (by decide +kernel) rfl
theorem cd_X6_slotToLevel : Cond.code yX6_slotToLevel cX6_slotToLevel 6 (some .int) ∈ gW := gWm 543 (by decide +kernel) rfl
theorem im_X6_slotToLevel : Cond.instanceMethod yX6_slotToLevel ∈ gW := gWm 542 (by decide +kernel) rfl
theorem sl_X6_slotToLevel : Cond.selects RX6 yX6_slotToLevel yX6_slotToLevel ∈ gW := gWm 5 (by decide +kernel) rfl
theorem cd_X6_newBlocksWanted : Cond.code yX6_newBlocksWanted cX6_newBlocksWanted 7 (some .int) ∈ gW := gWm 485 (by decide +kernel) rfl
theorem im_X6_newBlocksWanted : Cond.instanceMethod yX6_newBlocksWanted ∈ gW := gWm 484 (by decide +kernel) rfl
theorem sl_X6_newBlocksWanted : Cond.selects RX6 yX6_newBlocksWanted yX6_newBlocksWanted ∈ gW := gWm 3 (by decide +kernel) rfl
theorem cd_X6_keepLive : Cond.code yX6_keepLive cX6_keepLive 4 (some .int) ∈ gW := gWm 623 (by decide +kernel) rfl
theorem im_X6_keepLive : Cond.instanceMethod yX6_keepLive ∈ gW := gWm 621 (by decide +kernel) rfl
theorem sl_X6_keepLive : Cond.selects RX6 yX6_keepLive yX6_keepLive ∈ gW := gWm 622 (by decide +kernel) rfl
theorem cd_X6_dropSnapshot : Cond.code yX6_dropSnapshot cX6_dropSnapshot 4 (some .int) ∈ gW := gWm 637 (by decide +kernel) rfl
theorem im_X6_dropSnapshot : Cond.instanceMethod yX6_dropSnapshot ∈ gW := gWm 635 (by decide +kernel) rfl
theorem sl_X6_dropSnapshot : Cond.selects RX6 yX6_dropSnapshot yX6_dropSnapshot ∈ gW := gWm 636 (by decide +kernel) rfl
theorem cd_X6_returnToLatest : Cond.code yX6_returnToLatest cX6_returnToLatest 2 (some .int) ∈ gW := gWm 648 (by decide +kernel) rfl
theorem im_X6_returnToLatest : Cond.instanceMethod yX6_returnToLatest ∈ gW := gWm 646 (by decide +kernel) rfl
theorem sl_X6_returnToLatest : Cond.selects RX6 yX6_returnToLatest yX6_returnToLatest ∈ gW := gWm 647 (by decide +kernel) rfl
theorem cd_X6_isLatest : Cond.code yX6_isLatest cX6_isLatest 3 (some .boolean) ∈ gW := gWm 732 (by decide +kernel) rfl
theorem im_X6_isLatest : Cond.instanceMethod yX6_isLatest ∈ gW := gWm 730 (by decide +kernel) rfl
theorem sl_X6_isLatest : Cond.selects RX6 yX6_isLatest yX6_isLatest ∈ gW := gWm 731 (by decide +kernel) rfl
theorem cd_X6_hasMark : Cond.code yX6_hasMark cX6_hasMark 4 (some .boolean) ∈ gW := gWm 740 (by decide +kernel) rfl
theorem im_X6_hasMark : Cond.instanceMethod yX6_hasMark ∈ gW := gWm 738 (by decide +kernel) rfl
theorem sl_X6_hasMark : Cond.selects RX6 yX6_hasMark yX6_hasMark ∈ gW := gWm 739 (by decide +kernel) rfl
theorem cd_X6_isDirty : Cond.code yX6_isDirty cX6_isDirty 2 (some .boolean) ∈ gW := gWm 736 (by decide +kernel) rfl
theorem im_X6_isDirty : Cond.instanceMethod yX6_isDirty ∈ gW := gWm 734 (by decide +kernel) rfl
theorem sl_X6_isDirty : Cond.selects RX6 yX6_isDirty yX6_isDirty ∈ gW := gWm 735 (by decide +kernel) rfl
theorem cd_X6_makeHidden : Cond.code yX6_makeHidden cX6_makeHidden 1 none ∈ gW := gWm 744 (by decide +kernel) rfl
theorem im_X6_makeHidden : Cond.instanceMethod yX6_makeHidden ∈ gW := gWm 742 (by decide +kernel) rfl
theorem sl_X6_makeHidden : Cond.selects RX6 yX6_makeHidden yX6_makeHidden ∈ gW := gWm 743 (by decide +kernel) rfl
theorem cd_X6_dropHidden : Cond.code yX6_dropHidden cX6_dropHidden 1 none ∈ gW := gWm 788 (by decide +kernel) rfl
theorem im_X6_dropHidden : Cond.instanceMethod yX6_dropHidden ∈ gW := gWm 786 (by decide +kernel) rfl
theorem sl_X6_dropHidden : Cond.selects RX6 yX6_dropHidden yX6_dropHidden ∈ gW := gWm 787 (by decide +kernel) rfl
theorem cd_X6_keepHidden : Cond.code yX6_keepHidden cX6_keepHidden 3 none ∈ gW := gWm 782 (by decide +kernel) rfl
theorem im_X6_keepHidden : Cond.instanceMethod yX6_keepHidden ∈ gW := gWm 780 (by decide +kernel) rfl
theorem sl_X6_keepHidden : Cond.selects RX6 yX6_keepHidden yX6_keepHidden ∈ gW := gWm 781 (by decide +kernel) rfl
theorem cd_X7_init : Cond.code yX7_init cX7_init 1 none ∈ gW := gWm 65 (by decide +kernel) rfl
theorem im_X7_init : Cond.instanceMethod yX7_init ∈ gW := gWm 64 (by decide +kernel) rfl
theorem cd_X7_format : Cond.code yX7_format cX7_format 4 none ∈ gW := gWm 398 (by decide +kernel) rfl
theorem im_X7_format : Cond.instanceMethod yX7_format ∈ gW := gWm 396 (by decide +kernel) rfl
theorem sl_X7_format : Cond.selects RX7 yX7_format yX7_format ∈ gW := gWm 397 (by decide +kernel) rfl
theorem cd_X7_write : Cond.code yX7_write cX7_write 7 (some .int) ∈ gW := gWm 474 (by decide +kernel) rfl
theorem im_X7_write : Cond.instanceMethod yX7_write ∈ gW := gWm 472 (by decide +kernel) rfl
theorem sl_X7_write : Cond.selects RX7 yX7_write yX7_write ∈ gW := gWm 473 (by decide +kernel) rfl
theorem cd_X7_clear : Cond.code yX7_clear cX7_clear 5 (some .int) ∈ gW := gWm 535 (by decide +kernel) rfl
theorem im_X7_clear : Cond.instanceMethod yX7_clear ∈ gW := gWm 533 (by decide +kernel) rfl
theorem sl_X7_clear : Cond.selects RX7 yX7_clear yX7_clear ∈ gW := gWm 534 (by decide +kernel) rfl
theorem cd_X7_read : Cond.code yX7_read cX7_read 5 (some .long) ∈ gW := gWm 560 (by decide +kernel) rfl
theorem im_X7_read : Cond.instanceMethod yX7_read ∈ gW := gWm 558 (by decide +kernel) rfl
theorem sl_X7_read : Cond.selects RX7 yX7_read yX7_read ∈ gW := gWm 559 (by decide +kernel) rfl
theorem cd_X7_snapshot : Cond.code yX7_snapshot cX7_snapshot 4 (some .int) ∈ gW := gWm 589 (by decide +kernel) rfl
theorem im_X7_snapshot : Cond.instanceMethod yX7_snapshot ∈ gW := gWm 587 (by decide +kernel) rfl
theorem sl_X7_snapshot : Cond.selects RX7 yX7_snapshot yX7_snapshot ∈ gW := gWm 588 (by decide +kernel) rfl
theorem cd_X7_destroy : Cond.code yX7_destroy cX7_destroy 4 (some .int) ∈ gW := gWm 633 (by decide +kernel) rfl
theorem im_X7_destroy : Cond.instanceMethod yX7_destroy ∈ gW := gWm 631 (by decide +kernel) rfl
theorem sl_X7_destroy : Cond.selects RX7 yX7_destroy yX7_destroy ∈ gW := gWm 632 (by decide +kernel) rfl
theorem cd_X7_rollback : Cond.code yX7_rollback cX7_rollback 3 (some .int) ∈ gW := gWm 644 (by decide +kernel) rfl
theorem im_X7_rollback : Cond.instanceMethod yX7_rollback ∈ gW := gWm 642 (by decide +kernel) rfl
theorem sl_X7_rollback : Cond.selects RX7 yX7_rollback yX7_rollback ∈ gW := gWm 643 (by decide +kernel) rfl
theorem cd_X7_send : Cond.code yX7_send cX7_send 5 (some .int) ∈ gW := gWm 655 (by decide +kernel) rfl
theorem im_X7_send : Cond.instanceMethod yX7_send ∈ gW := gWm 653 (by decide +kernel) rfl
theorem sl_X7_send : Cond.selects RX7 yX7_send yX7_send ∈ gW := gWm 654 (by decide +kernel) rfl
theorem cd_X7_receive : Cond.code yX7_receive cX7_receive 2 (some .int) ∈ gW := gWm 712 (by decide +kernel) rfl
theorem im_X7_receive : Cond.instanceMethod yX7_receive ∈ gW := gWm 710 (by decide +kernel) rfl
theorem sl_X7_receive : Cond.selects RX7 yX7_receive yX7_receive ∈ gW := gWm 711 (by decide +kernel) rfl
theorem cd_X7_step : Cond.code yX7_step cX7_step 4 (some .int) ∈ gW := gWm 751 (by decide +kernel) rfl
theorem im_X7_step : Cond.instanceMethod yX7_step ∈ gW := gWm 749 (by decide +kernel) rfl
theorem sl_X7_step : Cond.selects RX7 yX7_step yX7_step ∈ gW := gWm 750 (by decide +kernel) rfl
theorem cd_X7_crash : Cond.code yX7_crash cX7_crash 4 (some .boolean) ∈ gW := gWm 795 (by decide +kernel) rfl
theorem im_X7_crash : Cond.instanceMethod yX7_crash ∈ gW := gWm 793 (by decide +kernel) rfl
theorem sl_X7_crash : Cond.selects RX7 yX7_crash yX7_crash ∈ gW := gWm 794 (by decide +kernel) rfl
theorem cd_X7_stream : Cond.code yX7_stream cX7_stream 2 (some .int) ∈ gW := gWm 259 (by decide +kernel) rfl
theorem im_X7_stream : Cond.instanceMethod yX7_stream ∈ gW := gWm 257 (by decide +kernel) rfl
theorem sl_X7_stream : Cond.selects RX7 yX7_stream yX7_stream ∈ gW := gWm 258 (by decide +kernel) rfl
theorem cd_X7_patch : Cond.code yX7_patch cX7_patch 4 (some .int) ∈ gW := gWm 803 (by decide +kernel) rfl
theorem im_X7_patch : Cond.instanceMethod yX7_patch ∈ gW := gWm 801 (by decide +kernel) rfl
theorem sl_X7_patch : Cond.selects RX7 yX7_patch yX7_patch ∈ gW := gWm 802 (by decide +kernel) rfl
theorem cd_X7_cut : Cond.code yX7_cut cX7_cut 2 none ∈ gW := gWm 811 (by decide +kernel) rfl
theorem im_X7_cut : Cond.instanceMethod yX7_cut ∈ gW := gWm 809 (by decide +kernel) rfl
theorem sl_X7_cut : Cond.selects RX7 yX7_cut yX7_cut ∈ gW := gWm 810 (by decide +kernel) rfl
theorem cd_X7_snap : Cond.code yX7_snap cX7_snap 5 (some .long) ∈ gW := gWm 267 (by decide +kernel) rfl
theorem im_X7_snap : Cond.instanceMethod yX7_snap ∈ gW := gWm 265 (by decide +kernel) rfl
theorem sl_X7_snap : Cond.selects RX7 yX7_snap yX7_snap ∈ gW := gWm 266 (by decide +kernel) rfl
theorem cd_X7_block : Cond.code yX7_block cX7_block 5 (some .int) ∈ gW := gWm 309 (by decide +kernel) rfl
theorem im_X7_block : Cond.instanceMethod yX7_block ∈ gW := gWm 307 (by decide +kernel) rfl
theorem sl_X7_block : Cond.selects RX7 yX7_block yX7_block ∈ gW := gWm 308 (by decide +kernel) rfl
theorem cd_X7_pointer : Cond.code yX7_pointer cX7_pointer 6 (some .int) ∈ gW := gWm 329 (by decide +kernel) rfl
theorem im_X7_pointer : Cond.instanceMethod yX7_pointer ∈ gW := gWm 327 (by decide +kernel) rfl
theorem sl_X7_pointer : Cond.selects RX7 yX7_pointer yX7_pointer ∈ gW := gWm 328 (by decide +kernel) rfl
theorem cd_X7_data : Cond.code yX7_data cX7_data 4 (some .long) ∈ gW := gWm 333 (by decide +kernel) rfl
theorem im_X7_data : Cond.instanceMethod yX7_data ∈ gW := gWm 331 (by decide +kernel) rfl
theorem sl_X7_data : Cond.selects RX7 yX7_data yX7_data ∈ gW := gWm 332 (by decide +kernel) rfl
theorem cd_X7_look : Cond.code yX7_look cX7_look 4 (some .int) ∈ gW := gWm 342 (by decide +kernel) rfl
theorem im_X7_look : Cond.instanceMethod yX7_look ∈ gW := gWm 340 (by decide +kernel) rfl
theorem sl_X7_look : Cond.selects RX7 yX7_look yX7_look ∈ gW := gWm 341 (by decide +kernel) rfl
theorem cd_X7_sent : Cond.code yX7_sent cX7_sent 2 (some .int) ∈ gW := gWm 374 (by decide +kernel) rfl
theorem im_X7_sent : Cond.instanceMethod yX7_sent ∈ gW := gWm 372 (by decide +kernel) rfl
theorem sl_X7_sent : Cond.selects RX7 yX7_sent yX7_sent ∈ gW := gWm 373 (by decide +kernel) rfl
theorem cd_X7_find : Cond.code yX7_find cX7_find 2 (some (.object "TwinVolumes$Volume")) ∈ gW := gWm 271 (by decide +kernel) rfl
theorem im_X7_find : Cond.instanceMethod yX7_find ∈ gW := gWm 270 (by decide +kernel) rfl
theorem sl_X7_find : Cond.selects RX7 yX7_find yX7_find ∈ gW := gWm 0 (by decide +kernel) rfl
theorem cd_X7_receivingOf : Cond.code yX7_receivingOf cX7_receivingOf 2 (some (.object "TwinVolumes$Receiving")) ∈ gW := gWm 366 (by decide +kernel) rfl
theorem im_X7_receivingOf : Cond.instanceMethod yX7_receivingOf ∈ gW := gWm 365 (by decide +kernel) rfl
theorem sl_X7_receivingOf : Cond.selects RX7 yX7_receivingOf yX7_receivingOf ∈ gW := gWm 1 (by decide +kernel) rfl
theorem cd_X7_isPlace : Cond.code yX7_isPlace cX7_isPlace 1 (some .boolean) ∈ gW := gWm 477 (by decide +kernel) rfl
theorem st_X7_isPlace : Cond.static yX7_isPlace ∈ gW := gWm 476 (by decide +kernel) rfl
theorem cd_X8_init : Cond.code yX8_init cX8_init 1 none ∈ gW := gWm 817 (by decide +kernel) rfl
theorem im_X8_init : Cond.instanceMethod yX8_init ∈ gW := gWm 816 (by decide +kernel) rfl
theorem cd_X8_thrown : Cond.code yX8_thrown cX8_thrown 1 (some .int) ∈ gW := gWm 909 (by decide +kernel) rfl
theorem im_X8_thrown : Cond.instanceMethod yX8_thrown ∈ gW := gWm 907 (by decide +kernel) rfl
theorem sl_X8_thrown : Cond.selects RX8 yX8_thrown yX8_thrown ∈ gW := gWm 908 (by decide +kernel) rfl
theorem cd_X8_isVolume : Cond.code yX8_isVolume cX8_isVolume 1 (some .boolean) ∈ gW := gWm 916 (by decide +kernel) rfl
theorem st_X8_isVolume : Cond.static yX8_isVolume ∈ gW := gWm 915 (by decide +kernel) rfl
theorem cd_X8_fresh : Cond.code yX8_fresh cX8_fresh 4 none ∈ gW := gWm 822 (by decide +kernel) rfl
theorem im_X8_fresh : Cond.instanceMethod yX8_fresh ∈ gW := gWm 821 (by decide +kernel) rfl
theorem sl_X8_fresh : Cond.selects RX8 yX8_fresh yX8_fresh ∈ gW := gWm 13 (by decide +kernel) rfl
theorem cd_X8_format : Cond.code yX8_format cX8_format 3 none ∈ gW := gWm 913 (by decide +kernel) rfl
theorem im_X8_format : Cond.instanceMethod yX8_format ∈ gW := gWm 911 (by decide +kernel) rfl
theorem sl_X8_format : Cond.selects RX8 yX8_format yX8_format ∈ gW := gWm 912 (by decide +kernel) rfl
theorem cd_X8_told : Cond.code yX8_told cX8_told 3 (some .int) ∈ gW := gWm 939 (by decide +kernel) rfl
theorem im_X8_told : Cond.instanceMethod yX8_told ∈ gW := gWm 938 (by decide +kernel) rfl
theorem sl_X8_told : Cond.selects RX8 yX8_told yX8_told ∈ gW := gWm 17 (by decide +kernel) rfl
theorem cd_X8_born : Cond.code yX8_born cX8_born 3 (some .int) ∈ gW := gWm 950 (by decide +kernel) rfl
theorem im_X8_born : Cond.instanceMethod yX8_born ∈ gW := gWm 949 (by decide +kernel) rfl
theorem sl_X8_born : Cond.selects RX8 yX8_born yX8_born ∈ gW := gWm 19 (by decide +kernel) rfl
theorem cd_X8_point : Cond.code yX8_point cX8_point 5 none ∈ gW := gWm 966 (by decide +kernel) rfl
theorem im_X8_point : Cond.instanceMethod yX8_point ∈ gW := gWm 965 (by decide +kernel) rfl
theorem sl_X8_point : Cond.selects RX8 yX8_point yX8_point ∈ gW := gWm 23 (by decide +kernel) rfl
theorem cd_X8_turn : Cond.code yX8_turn cX8_turn 2 (some .int) ∈ gW := gWm 942 (by decide +kernel) rfl
theorem st_X8_turn : Cond.static yX8_turn ∈ gW := gWm 941 (by decide +kernel) rfl
theorem cd_X8_isTree : Cond.code yX8_isTree cX8_isTree 3 (some .boolean) ∈ gW := gWm 974 (by decide +kernel) rfl
theorem im_X8_isTree : Cond.instanceMethod yX8_isTree ∈ gW := gWm 973 (by decide +kernel) rfl
theorem sl_X8_isTree : Cond.selects RX8 yX8_isTree yX8_isTree ∈ gW := gWm 25 (by decide +kernel) rfl
theorem cd_X8_sweeps : Cond.code yX8_sweeps cX8_sweeps 5 none ∈ gW := gWm 970 (by decide +kernel) rfl
theorem im_X8_sweeps : Cond.instanceMethod yX8_sweeps ∈ gW := gWm 969 (by decide +kernel) rfl
theorem sl_X8_sweeps : Cond.selects RX8 yX8_sweeps yX8_sweeps ∈ gW := gWm 24 (by decide +kernel) rfl
theorem cd_X8_begins : Cond.code yX8_begins cX8_begins 3 none ∈ gW := gWm 927 (by decide +kernel) rfl
theorem im_X8_begins : Cond.instanceMethod yX8_begins ∈ gW := gWm 926 (by decide +kernel) rfl
theorem sl_X8_begins : Cond.selects RX8 yX8_begins yX8_begins ∈ gW := gWm 14 (by decide +kernel) rfl
theorem cd_X8_freeMany : Cond.code yX8_freeMany cX8_freeMany 4 (some .int) ∈ gW := gWm 954 (by decide +kernel) rfl
theorem im_X8_freeMany : Cond.instanceMethod yX8_freeMany ∈ gW := gWm 953 (by decide +kernel) rfl
theorem sl_X8_freeMany : Cond.selects RX8 yX8_freeMany yX8_freeMany ∈ gW := gWm 20 (by decide +kernel) rfl
theorem cd_X8_take : Cond.code yX8_take cX8_take 4 (some .int) ∈ gW := gWm 962 (by decide +kernel) rfl
theorem im_X8_take : Cond.instanceMethod yX8_take ∈ gW := gWm 961 (by decide +kernel) rfl
theorem sl_X8_take : Cond.selects RX8 yX8_take yX8_take ∈ gW := gWm 22 (by decide +kernel) rfl
theorem cd_X8_ways : Cond.code yX8_ways cX8_ways 5 (some .int) ∈ gW := gWm 935 (by decide +kernel) rfl
theorem im_X8_ways : Cond.instanceMethod yX8_ways ∈ gW := gWm 934 (by decide +kernel) rfl
theorem sl_X8_ways : Cond.selects RX8 yX8_ways yX8_ways ∈ gW := gWm 16 (by decide +kernel) rfl
theorem cd_X8_wanted : Cond.code yX8_wanted cX8_wanted 6 (some .int) ∈ gW := gWm 946 (by decide +kernel) rfl
theorem im_X8_wanted : Cond.instanceMethod yX8_wanted ∈ gW := gWm 945 (by decide +kernel) rfl
theorem sl_X8_wanted : Cond.selects RX8 yX8_wanted yX8_wanted ∈ gW := gWm 18 (by decide +kernel) rfl
theorem cd_X8_renews : Cond.code yX8_renews cX8_renews 11 none ∈ gW := gWm 958 (by decide +kernel) rfl
theorem im_X8_renews : Cond.instanceMethod yX8_renews ∈ gW := gWm 957 (by decide +kernel) rfl
theorem sl_X8_renews : Cond.selects RX8 yX8_renews yX8_renews ∈ gW := gWm 21 (by decide +kernel) rfl
theorem cd_X8_writes : Cond.code yX8_writes cX8_writes 7 (some .int) ∈ gW := gWm 931 (by decide +kernel) rfl
theorem im_X8_writes : Cond.instanceMethod yX8_writes ∈ gW := gWm 930 (by decide +kernel) rfl
theorem sl_X8_writes : Cond.selects RX8 yX8_writes yX8_writes ∈ gW := gWm 15 (by decide +kernel) rfl
theorem cd_X8_hasNothing : Cond.code yX8_hasNothing cX8_hasNothing 4 (some .boolean) ∈ gW := gWm 986 (by decide +kernel) rfl
theorem im_X8_hasNothing : Cond.instanceMethod yX8_hasNothing ∈ gW := gWm 985 (by decide +kernel) rfl
theorem sl_X8_hasNothing : Cond.selects RX8 yX8_hasNothing yX8_hasNothing ∈ gW := gWm 27 (by decide +kernel) rfl
theorem cd_X8_clears : Cond.code yX8_clears cX8_clears 6 (some .int) ∈ gW := gWm 982 (by decide +kernel) rfl
theorem im_X8_clears : Cond.instanceMethod yX8_clears ∈ gW := gWm 981 (by decide +kernel) rfl
theorem sl_X8_clears : Cond.selects RX8 yX8_clears yX8_clears ∈ gW := gWm 26 (by decide +kernel) rfl
theorem cd_X8_isPlace : Cond.code yX8_isPlace cX8_isPlace 1 (some .boolean) ∈ gW := gWm 923 (by decide +kernel) rfl
theorem st_X8_isPlace : Cond.static yX8_isPlace ∈ gW := gWm 922 (by decide +kernel) rfl
theorem cd_X8_write : Cond.code yX8_write cX8_write 6 (some .int) ∈ gW := gWm 920 (by decide +kernel) rfl
theorem im_X8_write : Cond.instanceMethod yX8_write ∈ gW := gWm 918 (by decide +kernel) rfl
theorem sl_X8_write : Cond.selects RX8 yX8_write yX8_write ∈ gW := gWm 919 (by decide +kernel) rfl
theorem cd_X8_clear : Cond.code yX8_clear cX8_clear 4 (some .int) ∈ gW := gWm 978 (by decide +kernel) rfl
theorem im_X8_clear : Cond.instanceMethod yX8_clear ∈ gW := gWm 976 (by decide +kernel) rfl
theorem sl_X8_clear : Cond.selects RX8 yX8_clear yX8_clear ∈ gW := gWm 977 (by decide +kernel) rfl
theorem cd_X8_isSnap : Cond.code yX8_isSnap cX8_isSnap 3 (some .boolean) ∈ gW := gWm 994 (by decide +kernel) rfl
theorem im_X8_isSnap : Cond.instanceMethod yX8_isSnap ∈ gW := gWm 993 (by decide +kernel) rfl
theorem sl_X8_isSnap : Cond.selects RX8 yX8_isSnap yX8_isSnap ∈ gW := gWm 28 (by decide +kernel) rfl
theorem cd_X8_read : Cond.code yX8_read cX8_read 5 (some .long) ∈ gW := gWm 990 (by decide +kernel) rfl
theorem im_X8_read : Cond.instanceMethod yX8_read ∈ gW := gWm 988 (by decide +kernel) rfl
theorem sl_X8_read : Cond.selects RX8 yX8_read yX8_read ∈ gW := gWm 989 (by decide +kernel) rfl
theorem cd_X8_snaps : Cond.code yX8_snaps cX8_snaps 6 none ∈ gW := gWm 1002 (by decide +kernel) rfl
theorem im_X8_snaps : Cond.instanceMethod yX8_snaps ∈ gW := gWm 1001 (by decide +kernel) rfl
theorem sl_X8_snaps : Cond.selects RX8 yX8_snaps yX8_snaps ∈ gW := gWm 29 (by decide +kernel) rfl
theorem cd_X8_snapshot : Cond.code yX8_snapshot cX8_snapshot 2 (some .int) ∈ gW := gWm 998 (by decide +kernel) rfl
theorem im_X8_snapshot : Cond.instanceMethod yX8_snapshot ∈ gW := gWm 996 (by decide +kernel) rfl
theorem sl_X8_snapshot : Cond.selects RX8 yX8_snapshot yX8_snapshot ∈ gW := gWm 997 (by decide +kernel) rfl
theorem cd_X8_destroy : Cond.code yX8_destroy cX8_destroy 4 (some .int) ∈ gW := gWm 1006 (by decide +kernel) rfl
theorem im_X8_destroy : Cond.instanceMethod yX8_destroy ∈ gW := gWm 1004 (by decide +kernel) rfl
theorem sl_X8_destroy : Cond.selects RX8 yX8_destroy yX8_destroy ∈ gW := gWm 1005 (by decide +kernel) rfl
theorem cd_X8_rollback : Cond.code yX8_rollback cX8_rollback 3 (some .int) ∈ gW := gWm 1010 (by decide +kernel) rfl
theorem im_X8_rollback : Cond.instanceMethod yX8_rollback ∈ gW := gWm 1008 (by decide +kernel) rfl
theorem sl_X8_rollback : Cond.selects RX8 yX8_rollback yX8_rollback ∈ gW := gWm 1009 (by decide +kernel) rfl
theorem cd_X8_put : Cond.code yX8_put cX8_put 5 none ∈ gW := gWm 1018 (by decide +kernel) rfl
theorem im_X8_put : Cond.instanceMethod yX8_put ∈ gW := gWm 1017 (by decide +kernel) rfl
theorem sl_X8_put : Cond.selects RX8 yX8_put yX8_put ∈ gW := gWm 30 (by decide +kernel) rfl
theorem cd_X8_sumOf : Cond.code yX8_sumOf cX8_sumOf 6 (some .long) ∈ gW := gWm 1026 (by decide +kernel) rfl
theorem im_X8_sumOf : Cond.instanceMethod yX8_sumOf ∈ gW := gWm 1025 (by decide +kernel) rfl
theorem sl_X8_sumOf : Cond.selects RX8 yX8_sumOf yX8_sumOf ∈ gW := gWm 32 (by decide +kernel) rfl
theorem cd_X8_ends : Cond.code yX8_ends cX8_ends 1 none ∈ gW := gWm 1022 (by decide +kernel) rfl
theorem im_X8_ends : Cond.instanceMethod yX8_ends ∈ gW := gWm 1021 (by decide +kernel) rfl
theorem sl_X8_ends : Cond.selects RX8 yX8_ends yX8_ends ∈ gW := gWm 31 (by decide +kernel) rfl
theorem cd_X8_brings : Cond.code yX8_brings cX8_brings 7 (some .boolean) ∈ gW := gWm 1031 (by decide +kernel) rfl
theorem im_X8_brings : Cond.instanceMethod yX8_brings ∈ gW := gWm 1030 (by decide +kernel) rfl
theorem sl_X8_brings : Cond.selects RX8 yX8_brings yX8_brings ∈ gW := gWm 33 (by decide +kernel) rfl
theorem cd_X8_send : Cond.code yX8_send cX8_send 12 (some .int) ∈ gW := gWm 1014 (by decide +kernel) rfl
theorem im_X8_send : Cond.instanceMethod yX8_send ∈ gW := gWm 1012 (by decide +kernel) rfl
theorem sl_X8_send : Cond.selects RX8 yX8_send yX8_send ∈ gW := gWm 1013 (by decide +kernel) rfl
theorem cd_X8_number : Cond.code yX8_number cX8_number 6 (some .long) ∈ gW := gWm 1046 (by decide +kernel) rfl
theorem im_X8_number : Cond.instanceMethod yX8_number ∈ gW := gWm 1045 (by decide +kernel) rfl
theorem sl_X8_number : Cond.selects RX8 yX8_number yX8_number ∈ gW := gWm 35 (by decide +kernel) rfl
theorem cd_X8_isWhole : Cond.code yX8_isWhole cX8_isWhole 3 (some .boolean) ∈ gW := gWm 1042 (by decide +kernel) rfl
theorem im_X8_isWhole : Cond.instanceMethod yX8_isWhole ∈ gW := gWm 1041 (by decide +kernel) rfl
theorem sl_X8_isWhole : Cond.selects RX8 yX8_isWhole yX8_isWhole ∈ gW := gWm 34 (by decide +kernel) rfl
theorem cd_X8_receive : Cond.code yX8_receive cX8_receive 9 (some .int) ∈ gW := gWm 1038 (by decide +kernel) rfl
theorem im_X8_receive : Cond.instanceMethod yX8_receive ∈ gW := gWm 1036 (by decide +kernel) rfl
theorem sl_X8_receive : Cond.selects RX8 yX8_receive yX8_receive ∈ gW := gWm 1037 (by decide +kernel) rfl
theorem cd_X8_stops : Cond.code yX8_stops cX8_stops 2 none ∈ gW := gWm 1071 (by decide +kernel) rfl
theorem im_X8_stops : Cond.instanceMethod yX8_stops ∈ gW := gWm 1070 (by decide +kernel) rfl
theorem sl_X8_stops : Cond.selects RX8 yX8_stops yX8_stops ∈ gW := gWm 40 (by decide +kernel) rfl
theorem cd_X8_endsHere : Cond.code yX8_endsHere cX8_endsHere 2 (some .int) ∈ gW := gWm 1067 (by decide +kernel) rfl
theorem im_X8_endsHere : Cond.instanceMethod yX8_endsHere ∈ gW := gWm 1066 (by decide +kernel) rfl
theorem sl_X8_endsHere : Cond.selects RX8 yX8_endsHere yX8_endsHere ∈ gW := gWm 39 (by decide +kernel) rfl
theorem cd_X8_clearsHere : Cond.code yX8_clearsHere cX8_clearsHere 7 (some .int) ∈ gW := gWm 1063 (by decide +kernel) rfl
theorem im_X8_clearsHere : Cond.instanceMethod yX8_clearsHere ∈ gW := gWm 1062 (by decide +kernel) rfl
theorem sl_X8_clearsHere : Cond.selects RX8 yX8_clearsHere yX8_clearsHere ∈ gW := gWm 38 (by decide +kernel) rfl
theorem cd_X8_writesHere : Cond.code yX8_writesHere cX8_writesHere 3 (some .int) ∈ gW := gWm 1058 (by decide +kernel) rfl
theorem im_X8_writesHere : Cond.instanceMethod yX8_writesHere ∈ gW := gWm 1057 (by decide +kernel) rfl
theorem sl_X8_writesHere : Cond.selects RX8 yX8_writesHere yX8_writesHere ∈ gW := gWm 37 (by decide +kernel) rfl
theorem cd_X8_record : Cond.code yX8_record cX8_record 4 (some .int) ∈ gW := gWm 1054 (by decide +kernel) rfl
theorem im_X8_record : Cond.instanceMethod yX8_record ∈ gW := gWm 1053 (by decide +kernel) rfl
theorem sl_X8_record : Cond.selects RX8 yX8_record yX8_record ∈ gW := gWm 36 (by decide +kernel) rfl
theorem cd_X8_step : Cond.code yX8_step cX8_step 5 (some .int) ∈ gW := gWm 1050 (by decide +kernel) rfl
theorem im_X8_step : Cond.instanceMethod yX8_step ∈ gW := gWm 1048 (by decide +kernel) rfl
theorem sl_X8_step : Cond.selects RX8 yX8_step yX8_step ∈ gW := gWm 1049 (by decide +kernel) rfl
theorem cd_X8_crash : Cond.code yX8_crash cX8_crash 2 (some .boolean) ∈ gW := gWm 1075 (by decide +kernel) rfl
theorem im_X8_crash : Cond.instanceMethod yX8_crash ∈ gW := gWm 1073 (by decide +kernel) rfl
theorem sl_X8_crash : Cond.selects RX8 yX8_crash yX8_crash ∈ gW := gWm 1074 (by decide +kernel) rfl
theorem cd_X8_stream : Cond.code yX8_stream cX8_stream 2 (some .int) ∈ gW := gWm 1079 (by decide +kernel) rfl
theorem im_X8_stream : Cond.instanceMethod yX8_stream ∈ gW := gWm 1077 (by decide +kernel) rfl
theorem sl_X8_stream : Cond.selects RX8 yX8_stream yX8_stream ∈ gW := gWm 1078 (by decide +kernel) rfl
theorem cd_X8_patch : Cond.code yX8_patch cX8_patch 4 (some .int) ∈ gW := gWm 1083 (by decide +kernel) rfl
theorem im_X8_patch : Cond.instanceMethod yX8_patch ∈ gW := gWm 1081 (by decide +kernel) rfl
theorem sl_X8_patch : Cond.selects RX8 yX8_patch yX8_patch ∈ gW := gWm 1082 (by decide +kernel) rfl
theorem cd_X8_cut : Cond.code yX8_cut cX8_cut 2 none ∈ gW := gWm 1087 (by decide +kernel) rfl
theorem im_X8_cut : Cond.instanceMethod yX8_cut ∈ gW := gWm 1085 (by decide +kernel) rfl
theorem sl_X8_cut : Cond.selects RX8 yX8_cut yX8_cut ∈ gW := gWm 1086 (by decide +kernel) rfl
theorem cd_X8_snap : Cond.code yX8_snap cX8_snap 4 (some .long) ∈ gW := gWm 1091 (by decide +kernel) rfl
theorem im_X8_snap : Cond.instanceMethod yX8_snap ∈ gW := gWm 1089 (by decide +kernel) rfl
theorem sl_X8_snap : Cond.selects RX8 yX8_snap yX8_snap ∈ gW := gWm 1090 (by decide +kernel) rfl
theorem cd_X8_isBlock : Cond.code yX8_isBlock cX8_isBlock 3 (some .boolean) ∈ gW := gWm 1100 (by decide +kernel) rfl
theorem im_X8_isBlock : Cond.instanceMethod yX8_isBlock ∈ gW := gWm 1099 (by decide +kernel) rfl
theorem sl_X8_isBlock : Cond.selects RX8 yX8_isBlock yX8_isBlock ∈ gW := gWm 41 (by decide +kernel) rfl
theorem cd_X8_block : Cond.code yX8_block cX8_block 8 (some .int) ∈ gW := gWm 1096 (by decide +kernel) rfl
theorem im_X8_block : Cond.instanceMethod yX8_block ∈ gW := gWm 1094 (by decide +kernel) rfl
theorem sl_X8_block : Cond.selects RX8 yX8_block yX8_block ∈ gW := gWm 1095 (by decide +kernel) rfl
theorem cd_X8_pointer : Cond.code yX8_pointer cX8_pointer 5 (some .int) ∈ gW := gWm 1104 (by decide +kernel) rfl
theorem im_X8_pointer : Cond.instanceMethod yX8_pointer ∈ gW := gWm 1102 (by decide +kernel) rfl
theorem sl_X8_pointer : Cond.selects RX8 yX8_pointer yX8_pointer ∈ gW := gWm 1103 (by decide +kernel) rfl
theorem cd_X8_data : Cond.code yX8_data cX8_data 3 (some .long) ∈ gW := gWm 1108 (by decide +kernel) rfl
theorem im_X8_data : Cond.instanceMethod yX8_data ∈ gW := gWm 1106 (by decide +kernel) rfl
theorem sl_X8_data : Cond.selects RX8 yX8_data yX8_data ∈ gW := gWm 1107 (by decide +kernel) rfl
theorem cd_X8_look : Cond.code yX8_look cX8_look 4 (some .int) ∈ gW := gWm 1112 (by decide +kernel) rfl
theorem im_X8_look : Cond.instanceMethod yX8_look ∈ gW := gWm 1110 (by decide +kernel) rfl
theorem sl_X8_look : Cond.selects RX8 yX8_look yX8_look ∈ gW := gWm 1111 (by decide +kernel) rfl
theorem cd_X8_sent : Cond.code yX8_sent cX8_sent 2 (some .int) ∈ gW := gWm 1116 (by decide +kernel) rfl
theorem im_X8_sent : Cond.instanceMethod yX8_sent ∈ gW := gWm 1114 (by decide +kernel) rfl
theorem sl_X8_sent : Cond.selects RX8 yX8_sent yX8_sent ∈ gW := gWm 1115 (by decide +kernel) rfl
theorem cd_J9_max_7cf53 : Cond.code yJ9_max_7cf53 cJ9_max_7cf53 2 (some .int) ∈ gW := gWm 125 (by decide +kernel) rfl
theorem st_J9_max_7cf53 : Cond.static yJ9_max_7cf53 ∈ gW := gWm 124 (by decide +kernel) rfl
theorem cd_J7_fill_53178 : Cond.code yJ7_fill_53178 cJ7_fill_53178 4 none ∈ gW := gWm 192 (by decide +kernel) rfl
theorem st_J7_fill_53178 : Cond.static yJ7_fill_53178 ∈ gW := gWm 191 (by decide +kernel) rfl
theorem st_L_format : Cond.static yL_format ∈ gW := gWm 392 (by decide +kernel) rfl
theorem st_L_write : Cond.static yL_write ∈ gW := gWm 469 (by decide +kernel) rfl
theorem st_L_clear : Cond.static yL_clear ∈ gW := gWm 530 (by decide +kernel) rfl
theorem st_L_read : Cond.static yL_read ∈ gW := gWm 554 (by decide +kernel) rfl
theorem st_L_snapshot : Cond.static yL_snapshot ∈ gW := gWm 582 (by decide +kernel) rfl
theorem st_L_destroy : Cond.static yL_destroy ∈ gW := gWm 628 (by decide +kernel) rfl
theorem st_L_rollback : Cond.static yL_rollback ∈ gW := gWm 639 (by decide +kernel) rfl
theorem st_L_send : Cond.static yL_send ∈ gW := gWm 650 (by decide +kernel) rfl
theorem st_L_receive : Cond.static yL_receive ∈ gW := gWm 707 (by decide +kernel) rfl
theorem st_L_step : Cond.static yL_step ∈ gW := gWm 746 (by decide +kernel) rfl
theorem st_L_crash : Cond.static yL_crash ∈ gW := gWm 790 (by decide +kernel) rfl
theorem st_L_patch : Cond.static yL_patch ∈ gW := gWm 798 (by decide +kernel) rfl
theorem st_L_cut : Cond.static yL_cut ∈ gW := gWm 806 (by decide +kernel) rfl
theorem in_X0 : Cond.initialized RX0 ∈ gW := gWm 47 (by decide +kernel) rfl
theorem iw_X0 : ∀ w ∈ u_ws RX0 TX0 10, w ∈ gW := by
  have h : u_ws RX0 TX0 10 = ([153, 155, 157, 159, 161, 163, 165, 167, 169, 171] : List Nat).filterMap (fun i => lw_tbl[i]?) := by decide +kernel
  have h2 : (u_ws RX0 TX0 10).all goodWord = true := by decide +kernel
  intro w hw
  refine List.mem_filter.mpr ⟨?_, List.all_eq_true.mp h2 w hw⟩
  rw [h] at hw
  obtain ⟨i, -, hi⟩ := List.mem_filterMap.mp hw
  exact List.mem_of_getElem? hi
theorem in_X1 : Cond.initialized RX1 ∈ gW := gWm 48 (by decide +kernel) rfl
theorem iw_X1 : ∀ w ∈ u_ws RX1 TX1 1, w ∈ gW := by
  have h : u_ws RX1 TX1 1 = ([127] : List Nat).filterMap (fun i => lw_tbl[i]?) := by decide +kernel
  have h2 : (u_ws RX1 TX1 1).all goodWord = true := by decide +kernel
  intro w hw
  refine List.mem_filter.mpr ⟨?_, List.all_eq_true.mp h2 w hw⟩
  rw [h] at hw
  obtain ⟨i, -, hi⟩ := List.mem_filterMap.mp hw
  exact List.mem_of_getElem? hi
theorem in_X2 : Cond.initialized RX2 ∈ gW := gWm 50 (by decide +kernel) rfl
theorem iw_X2 : ∀ w ∈ u_ws RX2 TX2 1, w ∈ gW := by
  have h : u_ws RX2 TX2 1 = ([139] : List Nat).filterMap (fun i => lw_tbl[i]?) := by decide +kernel
  have h2 : (u_ws RX2 TX2 1).all goodWord = true := by decide +kernel
  intro w hw
  refine List.mem_filter.mpr ⟨?_, List.all_eq_true.mp h2 w hw⟩
  rw [h] at hw
  obtain ⟨i, -, hi⟩ := List.mem_filterMap.mp hw
  exact List.mem_of_getElem? hi
theorem in_X3 : Cond.initialized RX3 ∈ gW := gWm 52 (by decide +kernel) rfl
theorem iw_X3 : ∀ w ∈ u_ws RX3 TX3 5, w ∈ gW := by
  have h : u_ws RX3 TX3 5 = ([223, 225, 227, 229, 231] : List Nat).filterMap (fun i => lw_tbl[i]?) := by decide +kernel
  have h2 : (u_ws RX3 TX3 5).all goodWord = true := by decide +kernel
  intro w hw
  refine List.mem_filter.mpr ⟨?_, List.all_eq_true.mp h2 w hw⟩
  rw [h] at hw
  obtain ⟨i, -, hi⟩ := List.mem_filterMap.mp hw
  exact List.mem_of_getElem? hi
theorem in_X4 : Cond.initialized RX4 ∈ gW := gWm 45 (by decide +kernel) rfl
theorem iw_X4 : ∀ w ∈ u_ws RX4 TX4 5, w ∈ gW := by
  have h : u_ws RX4 TX4 5 = ([94, 96, 98, 100, 102] : List Nat).filterMap (fun i => lw_tbl[i]?) := by decide +kernel
  have h2 : (u_ws RX4 TX4 5).all goodWord = true := by decide +kernel
  intro w hw
  refine List.mem_filter.mpr ⟨?_, List.all_eq_true.mp h2 w hw⟩
  rw [h] at hw
  obtain ⟨i, -, hi⟩ := List.mem_filterMap.mp hw
  exact List.mem_of_getElem? hi
theorem in_X5 : Cond.initialized RX5 ∈ gW := gWm 44 (by decide +kernel) rfl
theorem iw_X5 : ∀ w ∈ u_ws RX5 TX5 2, w ∈ gW := by
  have h : u_ws RX5 TX5 2 = ([77, 79] : List Nat).filterMap (fun i => lw_tbl[i]?) := by decide +kernel
  have h2 : (u_ws RX5 TX5 2).all goodWord = true := by decide +kernel
  intro w hw
  refine List.mem_filter.mpr ⟨?_, List.all_eq_true.mp h2 w hw⟩
  rw [h] at hw
  obtain ⟨i, -, hi⟩ := List.mem_filterMap.mp hw
  exact List.mem_of_getElem? hi
theorem in_X6 : Cond.initialized RX6 ∈ gW := gWm 46 (by decide +kernel) rfl
theorem iw_X6 : ∀ w ∈ u_ws RX6 TX6 6, w ∈ gW := by
  have h : u_ws RX6 TX6 6 = ([199, 201, 203, 205, 207, 209] : List Nat).filterMap (fun i => lw_tbl[i]?) := by decide +kernel
  have h2 : (u_ws RX6 TX6 6).all goodWord = true := by decide +kernel
  intro w hw
  refine List.mem_filter.mpr ⟨?_, List.all_eq_true.mp h2 w hw⟩
  rw [h] at hw
  obtain ⟨i, -, hi⟩ := List.mem_filterMap.mp hw
  exact List.mem_of_getElem? hi
theorem in_X7 : Cond.initialized RX7 ∈ gW := gWm 43 (by decide +kernel) rfl
theorem iw_X7 : ∀ w ∈ u_ws RX7 TX7 7, w ∈ gW := by
  have h : u_ws RX7 TX7 7 = ([241, 243, 245, 247, 249, 251, 253] : List Nat).filterMap (fun i => lw_tbl[i]?) := by decide +kernel
  have h2 : (u_ws RX7 TX7 7).all goodWord = true := by decide +kernel
  intro w hw
  refine List.mem_filter.mpr ⟨?_, List.all_eq_true.mp h2 w hw⟩
  rw [h] at hw
  obtain ⟨i, -, hi⟩ := List.mem_filterMap.mp hw
  exact List.mem_of_getElem? hi
theorem in_X8 : Cond.initialized RX8 ∈ gW := gWm 53 (by decide +kernel) rfl
theorem iw_X8 : ∀ w ∈ u_ws RX8 TX8 27, w ∈ gW := by
  have h : u_ws RX8 TX8 27 = ([850, 852, 854, 856, 858, 860, 862, 864, 866, 868, 870, 872, 874, 876, 878, 880, 882, 884, 886, 888, 890, 892, 894, 896, 898, 900, 902] : List Nat).filterMap (fun i => lw_tbl[i]?) := by decide +kernel
  have h2 : (u_ws RX8 TX8 27).all goodWord = true := by decide +kernel
  intro w hw
  refine List.mem_filter.mpr ⟨?_, List.all_eq_true.mp h2 w hw⟩
  rw [h] at hw
  obtain ⟨i, -, hi⟩ := List.mem_filterMap.mp hw
  exact List.mem_of_getElem? hi
theorem in_J9 : Cond.initialized RJ9 ∈ gW := gWm 49 (by decide +kernel) rfl
theorem in_J7 : Cond.initialized RJ7 ∈ gW := gWm 51 (by decide +kernel) rfl
end
section
/-! decode tables -/
abbrev wsX0_init : List Cond := Cond.code yX0_init cX0_init 1 none :: gW
theorem eX0_init : yX0_init.cls ≠ "java/lang/invoke/MethodHandle" ∧ yX0_init.cls ≠ "java/lang/invoke/VarHandle" ∧ (parseMethodDescriptor yX0_init.desc).map (fun d => d.parameters.length) = some 0 := by decide +kernel
def tX0_init : List (Nat × Instr × Nat) := [(0, .aload_n 0, 1), (1, .invokespecial 3, 3), (4, .aload_n 0, 1), (5, .new 9, 3), (8, .dup, 1), (9, .sipush 600, 3), (12, .invokespecial 11, 3), (15, .putfield 14, 3), (18, .aload_n 0, 1), (19, .new 9, 3), (22, .dup, 1), (23, .sipush 600, 3), (26, .invokespecial 11, 3), (29, .putfield 20, 3), (32, .aload_n 0, 1), (33, .new 9, 3), (36, .dup, 1), (37, .sipush 600, 3), (40, .invokespecial 11, 3), (43, .putfield 23, 3), (46, .aload_n 0, 1), (47, .new 26, 3), (50, .dup, 1), (51, .sipush 600, 3), (54, .invokespecial 28, 3), (57, .putfield 29, 3), (60, .aload_n 0, 1), (61, .new 9, 3), (64, .dup, 1), (65, .sipush 4822, 3), (68, .invokespecial 11, 3), (71, .putfield 33, 3), (74, .aload_n 0, 1), (75, .new 9, 3), (78, .dup, 1), (79, .sipush 4822, 3), (82, .invokespecial 11, 3), (85, .putfield 36, 3), (88, .aload_n 0, 1), (89, .new 9, 3), (92, .dup, 1), (93, .sipush 600, 3), (96, .invokespecial 11, 3), (99, .putfield 39, 3), (102, .return_, 1)]
theorem DX0_init : ∀ q ∈ tX0_init, decode cX0_init q.1 = .ok (q.2.1, q.2.2) := by decide +kernel
abbrev wsX0_startAnew : List Cond := Cond.code yX0_startAnew cX0_startAnew 2 none :: gW
theorem eX0_startAnew : yX0_startAnew.cls ≠ "java/lang/invoke/MethodHandle" ∧ yX0_startAnew.cls ≠ "java/lang/invoke/VarHandle" ∧ (parseMethodDescriptor yX0_startAnew.desc).map (fun d => d.parameters.length) = some 1 := by decide +kernel
def tX0_startAnew : List (Nat × Instr × Nat) := [(0, .aload_n 0, 1), (1, .getfield 14, 3), (4, .iconst (-1), 1), (5, .invokevirtual 42, 3), (8, .aload_n 0, 1), (9, .getfield 23, 3), (12, .iconst 0, 1), (13, .invokevirtual 42, 3), (16, .aload_n 0, 1), (17, .getfield 33, 3), (20, .iconst (-1), 1), (21, .invokevirtual 42, 3), (24, .aload_n 0, 1), (25, .getfield 36, 3), (28, .iconst 0, 1), (29, .invokevirtual 42, 3), (32, .aload_n 0, 1), (33, .iconst 0, 1), (34, .putfield 45, 3), (37, .aload_n 0, 1), (38, .iload_n 1, 1), (39, .putfield 49, 3), (42, .aload_n 0, 1), (43, .iload_n 1, 1), (44, .putfield 52, 3), (47, .return_, 1)]
theorem DX0_startAnew : ∀ q ∈ tX0_startAnew, decode cX0_startAnew q.1 = .ok (q.2.1, q.2.2) := by decide +kernel
abbrev wsX0_count : List Cond := Cond.code yX0_count cX0_count 1 (some .int) :: gW
theorem eX0_count : yX0_count.cls ≠ "java/lang/invoke/MethodHandle" ∧ yX0_count.cls ≠ "java/lang/invoke/VarHandle" ∧ (parseMethodDescriptor yX0_count.desc).map (fun d => d.parameters.length) = some 0 := by decide +kernel
def tX0_count : List (Nat × Instr × Nat) := [(0, .aload_n 0, 1), (1, .getfield 49, 3), (4, .ireturn, 1)]
theorem DX0_count : ∀ q ∈ tX0_count, decode cX0_count q.1 = .ok (q.2.1, q.2.2) := by decide +kernel
abbrev wsX0_free : List Cond := Cond.code yX0_free cX0_free 1 (some .int) :: gW
theorem eX0_free : yX0_free.cls ≠ "java/lang/invoke/MethodHandle" ∧ yX0_free.cls ≠ "java/lang/invoke/VarHandle" ∧ (parseMethodDescriptor yX0_free.desc).map (fun d => d.parameters.length) = some 0 := by decide +kernel
def tX0_free : List (Nat × Instr × Nat) := [(0, .aload_n 0, 1), (1, .getfield 52, 3), (4, .ireturn, 1)]
theorem DX0_free : ∀ q ∈ tX0_free, decode cX0_free q.1 = .ok (q.2.1, q.2.2) := by decide +kernel
abbrev wsX0_has : List Cond := Cond.code yX0_has cX0_has 2 (some .boolean) :: gW
theorem eX0_has : yX0_has.cls ≠ "java/lang/invoke/MethodHandle" ∧ yX0_has.cls ≠ "java/lang/invoke/VarHandle" ∧ (parseMethodDescriptor yX0_has.desc).map (fun d => d.parameters.length) = some 1 := by decide +kernel
def tX0_has : List (Nat × Instr × Nat) := [(0, .iload_n 1, 1), (1, .ifCond .lt 15, 3), (4, .iload_n 1, 1), (5, .aload_n 0, 1), (6, .getfield 49, 3), (9, .if_icmp .ge 7, 3), (12, .iconst 1, 1), (13, .goto 4, 3), (16, .iconst 0, 1), (17, .ireturn, 1)]
theorem DX0_has : ∀ q ∈ tX0_has, decode cX0_has q.1 = .ok (q.2.1, q.2.2) := by decide +kernel
abbrev wsX0_level : List Cond := Cond.code yX0_level cX0_level 2 (some .int) :: gW
theorem eX0_level : yX0_level.cls ≠ "java/lang/invoke/MethodHandle" ∧ yX0_level.cls ≠ "java/lang/invoke/VarHandle" ∧ (parseMethodDescriptor yX0_level.desc).map (fun d => d.parameters.length) = some 1 := by decide +kernel
def tX0_level : List (Nat × Instr × Nat) := [(0, .aload_n 0, 1), (1, .getfield 14, 3), (4, .iload_n 1, 1), (5, .invokevirtual 55, 3), (8, .ireturn, 1)]
theorem DX0_level : ∀ q ∈ tX0_level, decode cX0_level q.1 = .ok (q.2.1, q.2.2) := by decide +kernel
abbrev wsX0_birthOfBlock : List Cond := Cond.code yX0_birthOfBlock cX0_birthOfBlock 2 (some .int) :: gW
theorem eX0_birthOfBlock : yX0_birthOfBlock.cls ≠ "java/lang/invoke/MethodHandle" ∧ yX0_birthOfBlock.cls ≠ "java/lang/invoke/VarHandle" ∧ (parseMethodDescriptor yX0_birthOfBlock.desc).map (fun d => d.parameters.length) = some 1 := by decide +kernel
def tX0_birthOfBlock : List (Nat × Instr × Nat) := [(0, .aload_n 0, 1), (1, .getfield 14, 3), (4, .iload_n 1, 1), (5, .invokevirtual 55, 3), (8, .iconst (-1), 1), (9, .if_icmp .ne 7, 3), (12, .iconst (-1), 1), (13, .goto 11, 3), (16, .aload_n 0, 1), (17, .getfield 20, 3), (20, .iload_n 1, 1), (21, .invokevirtual 55, 3), (24, .ireturn, 1)]
theorem DX0_birthOfBlock : ∀ q ∈ tX0_birthOfBlock, decode cX0_birthOfBlock q.1 = .ok (q.2.1, q.2.2) := by decide +kernel
abbrev wsX0_tellers : List Cond := Cond.code yX0_tellers cX0_tellers 2 (some .int) :: gW
theorem eX0_tellers : yX0_tellers.cls ≠ "java/lang/invoke/MethodHandle" ∧ yX0_tellers.cls ≠ "java/lang/invoke/VarHandle" ∧ (parseMethodDescriptor yX0_tellers.desc).map (fun d => d.parameters.length) = some 1 := by decide +kernel
def tX0_tellers : List (Nat × Instr × Nat) := [(0, .aload_n 0, 1), (1, .getfield 23, 3), (4, .iload_n 1, 1), (5, .invokevirtual 55, 3), (8, .ireturn, 1)]
theorem DX0_tellers : ∀ q ∈ tX0_tellers, decode cX0_tellers q.1 = .ok (q.2.1, q.2.2) := by decide +kernel
abbrev wsX0_number : List Cond := Cond.code yX0_number cX0_number 2 (some .long) :: gW
theorem eX0_number : yX0_number.cls ≠ "java/lang/invoke/MethodHandle" ∧ yX0_number.cls ≠ "java/lang/invoke/VarHandle" ∧ (parseMethodDescriptor yX0_number.desc).map (fun d => d.parameters.length) = some 1 := by decide +kernel
def tX0_number : List (Nat × Instr × Nat) := [(0, .aload_n 0, 1), (1, .getfield 29, 3), (4, .iload_n 1, 1), (5, .invokevirtual 59, 3), (8, .lreturn, 1)]
theorem DX0_number : ∀ q ∈ tX0_number, decode cX0_number q.1 = .ok (q.2.1, q.2.2) := by decide +kernel
abbrev wsX0_putNumber : List Cond := Cond.code yX0_putNumber cX0_putNumber 4 none :: gW
theorem eX0_putNumber : yX0_putNumber.cls ≠ "java/lang/invoke/MethodHandle" ∧ yX0_putNumber.cls ≠ "java/lang/invoke/VarHandle" ∧ (parseMethodDescriptor yX0_putNumber.desc).map (fun d => d.parameters.length) = some 2 := by decide +kernel
def tX0_putNumber : List (Nat × Instr × Nat) := [(0, .aload_n 0, 1), (1, .getfield 29, 3), (4, .iload_n 1, 1), (5, .lload_n 2, 1), (6, .invokevirtual 62, 3), (9, .return_, 1)]
theorem DX0_putNumber : ∀ q ∈ tX0_putNumber, decode cX0_putNumber q.1 = .ok (q.2.1, q.2.2) := by decide +kernel
abbrev wsX0_told : List Cond := Cond.code yX0_told cX0_told 2 (some .int) :: gW
theorem eX0_told : yX0_told.cls ≠ "java/lang/invoke/MethodHandle" ∧ yX0_told.cls ≠ "java/lang/invoke/VarHandle" ∧ (parseMethodDescriptor yX0_told.desc).map (fun d => d.parameters.length) = some 1 := by decide +kernel
def tX0_told : List (Nat × Instr × Nat) := [(0, .aload_n 0, 1), (1, .getfield 33, 3), (4, .iload_n 1, 1), (5, .invokevirtual 55, 3), (8, .ireturn, 1)]
theorem DX0_told : ∀ q ∈ tX0_told, decode cX0_told q.1 = .ok (q.2.1, q.2.2) := by decide +kernel
abbrev wsX0_birth : List Cond := Cond.code yX0_birth cX0_birth 2 (some .int) :: gW
theorem eX0_birth : yX0_birth.cls ≠ "java/lang/invoke/MethodHandle" ∧ yX0_birth.cls ≠ "java/lang/invoke/VarHandle" ∧ (parseMethodDescriptor yX0_birth.desc).map (fun d => d.parameters.length) = some 1 := by decide +kernel
def tX0_birth : List (Nat × Instr × Nat) := [(0, .aload_n 0, 1), (1, .getfield 36, 3), (4, .iload_n 1, 1), (5, .invokevirtual 55, 3), (8, .ireturn, 1)]
theorem DX0_birth : ∀ q ∈ tX0_birth, decode cX0_birth q.1 = .ok (q.2.1, q.2.2) := by decide +kernel
abbrev wsX0_slotIn : List Cond := Cond.code yX0_slotIn cX0_slotIn 4 (some .int) :: gW
theorem eX0_slotIn : yX0_slotIn.cls ≠ "java/lang/invoke/MethodHandle" ∧ yX0_slotIn.cls ≠ "java/lang/invoke/VarHandle" ∧ (parseMethodDescriptor yX0_slotIn.desc).map (fun d => d.parameters.length) = some 2 := by decide +kernel
def tX0_slotIn : List (Nat × Instr × Nat) := [(0, .aload_n 0, 1), (1, .getfield 14, 3), (4, .iload_n 1, 1), (5, .invokevirtual 55, 3), (8, .istore_n 3, 1), (9, .iload_n 3, 1), (10, .iconst 1, 1), (11, .if_icmp .ge 5, 3), (14, .iconst (-1), 1), (15, .ireturn, 1), (16, .iload_n 1, 1), (17, .bipush 8, 2), (19, .imul, 1), (20, .iload_n 2, 1), (21, .iconst 3, 1), (22, .iload_n 3, 1), (23, .iconst 1, 1), (24, .isub, 1), (25, .imul, 1), (26, .ishr, 1), (27, .bipush 7, 2), (29, .iand, 1), (30, .iadd, 1), (31, .ireturn, 1)]
theorem DX0_slotIn : ∀ q ∈ tX0_slotIn, decode cX0_slotIn q.1 = .ok (q.2.1, q.2.2) := by decide +kernel
abbrev wsX0_point : List Cond := Cond.code yX0_point cX0_point 5 none :: gW
theorem eX0_point : yX0_point.cls ≠ "java/lang/invoke/MethodHandle" ∧ yX0_point.cls ≠ "java/lang/invoke/VarHandle" ∧ (parseMethodDescriptor yX0_point.desc).map (fun d => d.parameters.length) = some 3 := by decide +kernel
def tX0_point : List (Nat × Instr × Nat) := [(0, .aload_n 0, 1), (1, .getfield 33, 3), (4, .iload_n 1, 1), (5, .invokevirtual 55, 3), (8, .istore 4, 2), (10, .iload_n 2, 1), (11, .iconst (-1), 1), (12, .if_icmp .eq 21, 3), (15, .aload_n 0, 1), (16, .getfield 23, 3), (19, .iload_n 2, 1), (20, .aload_n 0, 1), (21, .getfield 23, 3), (24, .iload_n 2, 1), (25, .invokevirtual 55, 3), (28, .iconst 1, 1), (29, .iadd, 1), (30, .invokevirtual 66, 3), (33, .aload_n 0, 1), (34, .getfield 33, 3), (37, .iload_n 1, 1), (38, .iload_n 2, 1), (39, .invokevirtual 66, 3), (42, .aload_n 0, 1), (43, .getfield 36, 3), (46, .iload_n 1, 1), (47, .iload_n 3, 1), (48, .invokevirtual 66, 3), (51, .iload 4, 2), (53, .iconst (-1), 1), (54, .if_icmp .eq 58, 3), (57, .aload_n 0, 1), (58, .getfield 23, 3), (61, .iload 4, 2), (63, .aload_n 0, 1), (64, .getfield 23, 3), (67, .iload 4, 2), (69, .invokevirtual 55, 3), (72, .iconst 1, 1), (73, .isub, 1), (74, .invokevirtual 66, 3), (77, .aload_n 0, 1), (78, .getfield 23, 3), (81, .iload 4, 2), (83, .invokevirtual 55, 3), (86, .ifCond .ne 26, 3), (89, .aload_n 0, 1), (90, .getfield 39, 3), (93, .aload_n 0, 1), (94, .getfield 45, 3), (97, .iload 4, 2), (99, .invokevirtual 66, 3), (102, .aload_n 0, 1), (103, .dup, 1), (104, .getfield 45, 3), (107, .iconst 1, 1), (108, .iadd, 1), (109, .putfield 45, 3), (112, .return_, 1)]
theorem DX0_point : ∀ q ∈ tX0_point, decode cX0_point q.1 = .ok (q.2.1, q.2.2) := by decide +kernel
abbrev wsX0_hasOnlyHoles : List Cond := Cond.code yX0_hasOnlyHoles cX0_hasOnlyHoles 3 (some .boolean) :: gW
theorem eX0_hasOnlyHoles : yX0_hasOnlyHoles.cls ≠ "java/lang/invoke/MethodHandle" ∧ yX0_hasOnlyHoles.cls ≠ "java/lang/invoke/VarHandle" ∧ (parseMethodDescriptor yX0_hasOnlyHoles.desc).map (fun d => d.parameters.length) = some 1 := by decide +kernel
def tX0_hasOnlyHoles : List (Nat × Instr × Nat) := [(0, .iconst 0, 1), (1, .istore_n 2, 1), (2, .iload_n 2, 1), (3, .bipush 8, 2), (5, .if_icmp .ge 28, 3), (8, .aload_n 0, 1), (9, .getfield 33, 3), (12, .iload_n 1, 1), (13, .bipush 8, 2), (15, .imul, 1), (16, .iload_n 2, 1), (17, .iadd, 1), (18, .invokevirtual 55, 3), (21, .iconst (-1), 1), (22, .if_icmp .eq 5, 3), (25, .iconst 0, 1), (26, .ireturn, 1), (27, .iinc 2 1, 3), (30, .goto (-28), 3), (33, .iconst 1, 1), (34, .ireturn, 1)]
theorem DX0_hasOnlyHoles : ∀ q ∈ tX0_hasOnlyHoles, decode cX0_hasOnlyHoles q.1 = .ok (q.2.1, q.2.2) := by decide +kernel
abbrev wsX0_wantsNewBlock : List Cond := Cond.code yX0_wantsNewBlock cX0_wantsNewBlock 3 (some .boolean) :: gW
theorem eX0_wantsNewBlock : yX0_wantsNewBlock.cls ≠ "java/lang/invoke/MethodHandle" ∧ yX0_wantsNewBlock.cls ≠ "java/lang/invoke/VarHandle" ∧ (parseMethodDescriptor yX0_wantsNewBlock.desc).map (fun d => d.parameters.length) = some 2 := by decide +kernel
def tX0_wantsNewBlock : List (Nat × Instr × Nat) := [(0, .aload_n 0, 1), (1, .getfield 33, 3), (4, .iload_n 1, 1), (5, .invokevirtual 55, 3), (8, .iconst (-1), 1), (9, .if_icmp .eq 15, 3), (12, .aload_n 0, 1), (13, .getfield 36, 3), (16, .iload_n 1, 1), (17, .invokevirtual 55, 3), (20, .iload_n 2, 1), (21, .if_icmp .eq 7, 3), (24, .iconst 1, 1), (25, .goto 4, 3), (28, .iconst 0, 1), (29, .ireturn, 1)]
theorem DX0_wantsNewBlock : ∀ q ∈ tX0_wantsNewBlock, decode cX0_wantsNewBlock q.1 = .ok (q.2.1, q.2.2) := by decide +kernel
abbrev wsX0_renew : List Cond := Cond.code yX0_renew cX0_renew 7 none :: gW
theorem eX0_renew : yX0_renew.cls ≠ "java/lang/invoke/MethodHandle" ∧ yX0_renew.cls ≠ "java/lang/invoke/VarHandle" ∧ (parseMethodDescriptor yX0_renew.desc).map (fun d => d.parameters.length) = some 3 := by decide +kernel
def tX0_renew : List (Nat × Instr × Nat) := [(0, .aload_n 0, 1), (1, .iload_n 1, 1), (2, .iload_n 3, 1), (3, .invokevirtual 69, 3), (6, .ifCond .ne 4, 3), (9, .return_, 1), (10, .aload_n 0, 1), (11, .invokevirtual 73, 3), (14, .istore 4, 2), (16, .aload_n 0, 1), (17, .getfield 14, 3), (20, .iload 4, 2), (22, .iload_n 2, 1), (23, .invokevirtual 66, 3), (26, .aload_n 0, 1), (27, .getfield 20, 3), (30, .iload 4, 2), (32, .iload_n 3, 1), (33, .invokevirtual 66, 3), (36, .aload_n 0, 1), (37, .getfield 33, 3), (40, .iload_n 1, 1), (41, .invokevirtual 55, 3), (44, .istore 5, 2), (46, .iconst 0, 1), (47, .istore 6, 2), (49, .iload 6, 2), (51, .bipush 8, 2), (53, .if_icmp .ge 85, 3), (56, .iload_n 2, 1), (57, .ifCond .le 81, 3), (60, .iload 5, 2), (62, .iconst (-1), 1), (63, .if_icmp .ne 27, 3), (66, .aload_n 0, 1), (67, .iload 4, 2), (69, .bipush 8, 2), (71, .imul, 1), (72, .iload 6, 2), (74, .iadd, 1), (75, .iconst (-1), 1), (76, .aload_n 0, 1), (77, .getfield 36, 3), (80, .iload_n 1, 1), (81, .invokevirtual 55, 3), (84, .invokevirtual 77, 3), (87, .goto 45, 3), (90, .aload_n 0, 1), (91, .iload 4, 2), (93, .bipush 8, 2), (95, .imul, 1), (96, .iload 6, 2), (98, .iadd, 1), (99, .aload_n 0, 1), (100, .getfield 33, 3), (103, .iload 5, 2), (105, .bipush 8, 2), (107, .imul, 1), (108, .iload 6, 2), (110, .iadd, 1), (111, .invokevirtual 55, 3), (114, .aload_n 0, 1), (115, .getfield 36, 3), (118, .iload 5, 2), (120, .bipush 8, 2), (122, .imul, 1), (123, .iload 6, 2), (125, .iadd, 1), (126, .invokevirtual 55, 3), (129, .invokevirtual 77, 3), (132, .iinc 6 1, 3), (135, .goto (-86), 3), (138, .aload_n 0, 1), (139, .iload_n 1, 1), (140, .iload 4, 2), (142, .iload_n 3, 1), (143, .invokevirtual 77, 3), (146, .return_, 1)]
theorem DX0_renew : ∀ q ∈ tX0_renew, decode cX0_renew q.1 = .ok (q.2.1, q.2.2) := by decide +kernel
abbrev wsX0_takeLeastFree : List Cond := Cond.code yX0_takeLeastFree cX0_takeLeastFree 2 (some .int) :: gW
theorem eX0_takeLeastFree : yX0_takeLeastFree.cls ≠ "java/lang/invoke/MethodHandle" ∧ yX0_takeLeastFree.cls ≠ "java/lang/invoke/VarHandle" ∧ (parseMethodDescriptor yX0_takeLeastFree.desc).map (fun d => d.parameters.length) = some 0 := by decide +kernel
def tX0_takeLeastFree : List (Nat × Instr × Nat) := [(0, .iconst 0, 1), (1, .istore_n 1, 1), (2, .iload_n 1, 1), (3, .aload_n 0, 1), (4, .getfield 49, 3), (7, .if_icmp .ge 33, 3), (10, .aload_n 0, 1), (11, .getfield 14, 3), (14, .iload_n 1, 1), (15, .invokevirtual 55, 3), (18, .iconst (-1), 1), (19, .if_icmp .ne 15, 3), (22, .aload_n 0, 1), (23, .dup, 1), (24, .getfield 52, 3), (27, .iconst 1, 1), (28, .isub, 1), (29, .putfield 52, 3), (32, .iload_n 1, 1), (33, .ireturn, 1), (34, .iinc 1 1, 3), (37, .goto (-35), 3), (40, .iconst (-1), 1), (41, .ireturn, 1)]
theorem DX0_takeLeastFree : ∀ q ∈ tX0_takeLeastFree, decode cX0_takeLeastFree q.1 = .ok (q.2.1, q.2.2) := by decide +kernel
abbrev wsX0_settle : List Cond := Cond.code yX0_settle cX0_settle 4 none :: gW
theorem eX0_settle : yX0_settle.cls ≠ "java/lang/invoke/MethodHandle" ∧ yX0_settle.cls ≠ "java/lang/invoke/VarHandle" ∧ (parseMethodDescriptor yX0_settle.desc).map (fun d => d.parameters.length) = some 0 := by decide +kernel
def tX0_settle : List (Nat × Instr × Nat) := [(0, .iconst 0, 1), (1, .istore_n 1, 1), (2, .iload_n 1, 1), (3, .sipush 600, 3), (6, .if_icmp .ge 94, 3), (9, .aload_n 0, 1), (10, .getfield 45, 3), (13, .ifCond .le 87, 3), (16, .aload_n 0, 1), (17, .dup, 1), (18, .getfield 45, 3), (21, .iconst 1, 1), (22, .isub, 1), (23, .putfield 45, 3), (26, .aload_n 0, 1), (27, .getfield 39, 3), (30, .aload_n 0, 1), (31, .getfield 45, 3), (34, .invokevirtual 55, 3), (37, .istore_n 2, 1), (38, .iconst 0, 1), (39, .istore_n 3, 1), (40, .iload_n 3, 1), (41, .bipush 8, 2), (43, .if_icmp .ge 32, 3), (46, .aload_n 0, 1), (47, .getfield 14, 3), (50, .iload_n 2, 1), (51, .invokevirtual 55, 3), (54, .ifCond .le 21, 3), (57, .aload_n 0, 1), (58, .iload_n 2, 1), (59, .bipush 8, 2), (61, .imul, 1), (62, .iload_n 3, 1), (63, .iadd, 1), (64, .iconst (-1), 1), (65, .iconst 0, 1), (66, .invokevirtual 77, 3), (69, .iinc 3 1, 3), (72, .goto (-32), 3), (75, .aload_n 0, 1), (76, .getfield 14, 3), (79, .iload_n 2, 1), (80, .iconst (-1), 1), (81, .invokevirtual 66, 3), (84, .aload_n 0, 1), (85, .dup, 1), (86, .getfield 52, 3), (89, .iconst 1, 1), (90, .iadd, 1), (91, .putfield 52, 3), (94, .iinc 1 1, 3), (97, .goto (-95), 3), (100, .return_, 1)]
theorem DX0_settle : ∀ q ∈ tX0_settle, decode cX0_settle q.1 = .ok (q.2.1, q.2.2) := by decide +kernel
abbrev wsX1_init : List Cond := Cond.code yX1_init cX1_init 2 none :: gW
theorem eX1_init : yX1_init.cls ≠ "java/lang/invoke/MethodHandle" ∧ yX1_init.cls ≠ "java/lang/invoke/VarHandle" ∧ (parseMethodDescriptor yX1_init.desc).map (fun d => d.parameters.length) = some 1 := by decide +kernel
def tX1_init : List (Nat × Instr × Nat) := [(0, .aload_n 0, 1), (1, .invokespecial 3, 3), (4, .aload_n 0, 1), (5, .iload_n 1, 1), (6, .iconst 0, 1), (7, .invokestatic 9, 3), (10, .newarray .int, 2), (12, .putfield 15, 3), (15, .return_, 1)]
theorem DX1_init : ∀ q ∈ tX1_init, decode cX1_init q.1 = .ok (q.2.1, q.2.2) := by decide +kernel
abbrev wsX1_at : List Cond := Cond.code yX1_at cX1_at 2 (some .int) :: gW
theorem eX1_at : yX1_at.cls ≠ "java/lang/invoke/MethodHandle" ∧ yX1_at.cls ≠ "java/lang/invoke/VarHandle" ∧ (parseMethodDescriptor yX1_at.desc).map (fun d => d.parameters.length) = some 1 := by decide +kernel
def tX1_at : List (Nat × Instr × Nat) := [(0, .iload_n 1, 1), (1, .ifCond .lt 21, 3), (4, .iload_n 1, 1), (5, .aload_n 0, 1), (6, .getfield 15, 3), (9, .arraylength, 1), (10, .if_icmp .ge 12, 3), (13, .aload_n 0, 1), (14, .getfield 15, 3), (17, .iload_n 1, 1), (18, .iaload, 1), (19, .goto 4, 3), (22, .iconst (-1), 1), (23, .ireturn, 1)]
theorem DX1_at : ∀ q ∈ tX1_at, decode cX1_at q.1 = .ok (q.2.1, q.2.2) := by decide +kernel
abbrev wsX1_put : List Cond := Cond.code yX1_put cX1_put 3 none :: gW
theorem eX1_put : yX1_put.cls ≠ "java/lang/invoke/MethodHandle" ∧ yX1_put.cls ≠ "java/lang/invoke/VarHandle" ∧ (parseMethodDescriptor yX1_put.desc).map (fun d => d.parameters.length) = some 2 := by decide +kernel
def tX1_put : List (Nat × Instr × Nat) := [(0, .iload_n 1, 1), (1, .ifCond .lt 19, 3), (4, .iload_n 1, 1), (5, .aload_n 0, 1), (6, .getfield 15, 3), (9, .arraylength, 1), (10, .if_icmp .ge 10, 3), (13, .aload_n 0, 1), (14, .getfield 15, 3), (17, .iload_n 1, 1), (18, .iload_n 2, 1), (19, .iastore, 1), (20, .return_, 1)]
theorem DX1_put : ∀ q ∈ tX1_put, decode cX1_put q.1 = .ok (q.2.1, q.2.2) := by decide +kernel
abbrev wsX1_fill : List Cond := Cond.code yX1_fill cX1_fill 2 none :: gW
theorem eX1_fill : yX1_fill.cls ≠ "java/lang/invoke/MethodHandle" ∧ yX1_fill.cls ≠ "java/lang/invoke/VarHandle" ∧ (parseMethodDescriptor yX1_fill.desc).map (fun d => d.parameters.length) = some 1 := by decide +kernel
def tX1_fill : List (Nat × Instr × Nat) := [(0, .aload_n 0, 1), (1, .getfield 15, 3), (4, .iload_n 1, 1), (5, .invokestatic 21, 3), (8, .return_, 1)]
theorem DX1_fill : ∀ q ∈ tX1_fill, decode cX1_fill q.1 = .ok (q.2.1, q.2.2) := by decide +kernel
abbrev wsX2_init : List Cond := Cond.code yX2_init cX2_init 2 none :: gW
theorem eX2_init : yX2_init.cls ≠ "java/lang/invoke/MethodHandle" ∧ yX2_init.cls ≠ "java/lang/invoke/VarHandle" ∧ (parseMethodDescriptor yX2_init.desc).map (fun d => d.parameters.length) = some 1 := by decide +kernel
def tX2_init : List (Nat × Instr × Nat) := [(0, .aload_n 0, 1), (1, .invokespecial 1, 3), (4, .aload_n 0, 1), (5, .iload_n 1, 1), (6, .iconst 0, 1), (7, .invokestatic 7, 3), (10, .newarray .long, 2), (12, .putfield 13, 3), (15, .return_, 1)]
theorem DX2_init : ∀ q ∈ tX2_init, decode cX2_init q.1 = .ok (q.2.1, q.2.2) := by decide +kernel
abbrev wsX2_at : List Cond := Cond.code yX2_at cX2_at 2 (some .long) :: gW
theorem eX2_at : yX2_at.cls ≠ "java/lang/invoke/MethodHandle" ∧ yX2_at.cls ≠ "java/lang/invoke/VarHandle" ∧ (parseMethodDescriptor yX2_at.desc).map (fun d => d.parameters.length) = some 1 := by decide +kernel
def tX2_at : List (Nat × Instr × Nat) := [(0, .iload_n 1, 1), (1, .ifCond .lt 21, 3), (4, .iload_n 1, 1), (5, .aload_n 0, 1), (6, .getfield 13, 3), (9, .arraylength, 1), (10, .if_icmp .ge 12, 3), (13, .aload_n 0, 1), (14, .getfield 13, 3), (17, .iload_n 1, 1), (18, .laload, 1), (19, .goto 4, 3), (22, .lconst 0, 1), (23, .lreturn, 1)]
theorem DX2_at : ∀ q ∈ tX2_at, decode cX2_at q.1 = .ok (q.2.1, q.2.2) := by decide +kernel
abbrev wsX2_put : List Cond := Cond.code yX2_put cX2_put 4 none :: gW
theorem eX2_put : yX2_put.cls ≠ "java/lang/invoke/MethodHandle" ∧ yX2_put.cls ≠ "java/lang/invoke/VarHandle" ∧ (parseMethodDescriptor yX2_put.desc).map (fun d => d.parameters.length) = some 2 := by decide +kernel
def tX2_put : List (Nat × Instr × Nat) := [(0, .iload_n 1, 1), (1, .ifCond .lt 19, 3), (4, .iload_n 1, 1), (5, .aload_n 0, 1), (6, .getfield 13, 3), (9, .arraylength, 1), (10, .if_icmp .ge 10, 3), (13, .aload_n 0, 1), (14, .getfield 13, 3), (17, .iload_n 1, 1), (18, .lload_n 2, 1), (19, .lastore, 1), (20, .return_, 1)]
theorem DX2_put : ∀ q ∈ tX2_put, decode cX2_put q.1 = .ok (q.2.1, q.2.2) := by decide +kernel
abbrev wsX3_init : List Cond := Cond.code yX3_init cX3_init 3 none :: gW
theorem eX3_init : yX3_init.cls ≠ "java/lang/invoke/MethodHandle" ∧ yX3_init.cls ≠ "java/lang/invoke/VarHandle" ∧ (parseMethodDescriptor yX3_init.desc).map (fun d => d.parameters.length) = some 2 := by decide +kernel
def tX3_init : List (Nat × Instr × Nat) := [(0, .aload_n 0, 1), (1, .invokespecial 3, 3), (4, .aload_n 0, 1), (5, .aload_n 1, 1), (6, .putfield 9, 3), (9, .aload_n 0, 1), (10, .aload_n 2, 1), (11, .putfield 15, 3), (14, .return_, 1)]
theorem DX3_init : ∀ q ∈ tX3_init, decode cX3_init q.1 = .ok (q.2.1, q.2.2) := by decide +kernel
abbrev wsX3_received : List Cond := Cond.code yX3_received cX3_received 1 (some .int) :: gW
theorem eX3_received : yX3_received.cls ≠ "java/lang/invoke/MethodHandle" ∧ yX3_received.cls ≠ "java/lang/invoke/VarHandle" ∧ (parseMethodDescriptor yX3_received.desc).map (fun d => d.parameters.length) = some 0 := by decide +kernel
def tX3_received : List (Nat × Instr × Nat) := [(0, .aload_n 0, 1), (1, .getfield 19, 3), (4, .ireturn, 1)]
theorem DX3_received : ∀ q ∈ tX3_received, decode cX3_received q.1 = .ok (q.2.1, q.2.2) := by decide +kernel
abbrev wsX3_forget : List Cond := Cond.code yX3_forget cX3_forget 1 none :: gW
theorem eX3_forget : yX3_forget.cls ≠ "java/lang/invoke/MethodHandle" ∧ yX3_forget.cls ≠ "java/lang/invoke/VarHandle" ∧ (parseMethodDescriptor yX3_forget.desc).map (fun d => d.parameters.length) = some 0 := by decide +kernel
def tX3_forget : List (Nat × Instr × Nat) := [(0, .aload_n 0, 1), (1, .iconst 0, 1), (2, .putfield 19, 3), (5, .return_, 1)]
theorem DX3_forget : ∀ q ∈ tX3_forget, decode cX3_forget q.1 = .ok (q.2.1, q.2.2) := by decide +kernel
abbrev wsX3_takeBegin : List Cond := Cond.code yX3_takeBegin cX3_takeBegin 5 (some .int) :: gW
theorem eX3_takeBegin : yX3_takeBegin.cls ≠ "java/lang/invoke/MethodHandle" ∧ yX3_takeBegin.cls ≠ "java/lang/invoke/VarHandle" ∧ (parseMethodDescriptor yX3_takeBegin.desc).map (fun d => d.parameters.length) = some 0 := by decide +kernel
def tX3_takeBegin : List (Nat × Instr × Nat) := [(0, .aload_n 0, 1), (1, .getfield 9, 3), (4, .invokevirtual 23, 3), (7, .ifCond .eq 6, 3), (10, .bipush 6, 2), (12, .ireturn, 1), (13, .aload_n 0, 1), (14, .getfield 15, 3), (17, .iconst 0, 1), (18, .invokevirtual 29, 3), (21, .iconst 1, 1), (22, .if_icmp .ne 16, 3), (25, .aload_n 0, 1), (26, .getfield 15, 3), (29, .iconst 0, 1), (30, .bipush 25, 2), (32, .invokevirtual 35, 3), (35, .ifCond .ne 5, 3), (38, .iconst 1, 1), (39, .ireturn, 1), (40, .aload_n 0, 1), (41, .getfield 15, 3), (44, .iconst 1, 1), (45, .bipush 8, 2), (47, .invokevirtual 39, 3), (50, .lstore_n 1, 1), (51, .aload_n 0, 1), (52, .getfield 15, 3), (55, .bipush 9, 2), (57, .bipush 8, 2), (59, .invokevirtual 39, 3), (62, .lstore_n 3, 1), (63, .lload_n 1, 1), (64, .lconst 0, 1), (65, .lcmp, 1), (66, .ifCond .ne 16, 3), (69, .aload_n 0, 1), (70, .getfield 9, 3), (73, .invokevirtual 43, 3), (76, .ifCond .le 19, 3), (79, .goto 14, 3), (82, .aload_n 0, 1), (83, .getfield 9, 3), (86, .lload_n 1, 1), (87, .invokevirtual 47, 3), (90, .ifCond .ne 5, 3), (93, .iconst 2, 1), (94, .ireturn, 1), (95, .aload_n 0, 1), (96, .getfield 9, 3), (99, .invokevirtual 51, 3), (102, .ifCond .eq 5, 3), (105, .iconst 3, 1), (106, .ireturn, 1), (107, .aload_n 0, 1), (108, .getfield 9, 3), (111, .lload_n 3, 1), (112, .invokevirtual 54, 3), (115, .ifCond .eq 5, 3), (118, .iconst 4, 1), (119, .ireturn, 1), (120, .aload_n 0, 1), (121, .getfield 9, 3), (124, .invokevirtual 57, 3), (127, .aload_n 0, 1), (128, .bipush 25, 2), (130, .putfield 60, 3), (133, .aload_n 0, 1), (134, .iconst 0, 1), (135, .putfield 19, 3), (138, .aload_n 0, 1), (139, .lload_n 3, 1), (140, .putfield 63, 3), (143, .iconst 0, 1), (144, .ireturn, 1)]
theorem DX3_takeBegin : ∀ q ∈ tX3_takeBegin, decode cX3_takeBegin q.1 = .ok (q.2.1, q.2.2) := by decide +kernel
abbrev wsX3_takeRecords : List Cond := Cond.code yX3_takeRecords cX3_takeRecords 4 (some .int) :: gW
theorem eX3_takeRecords : yX3_takeRecords.cls ≠ "java/lang/invoke/MethodHandle" ∧ yX3_takeRecords.cls ≠ "java/lang/invoke/VarHandle" ∧ (parseMethodDescriptor yX3_takeRecords.desc).map (fun d => d.parameters.length) = some 1 := by decide +kernel
def tX3_takeRecords : List (Nat × Instr × Nat) := [(0, .bipush 7, 2), (2, .istore_n 2, 1), (3, .iconst 0, 1), (4, .istore_n 3, 1), (5, .iload_n 3, 1), (6, .iload_n 1, 1), (7, .if_icmp .ge 27, 3), (10, .iload_n 2, 1), (11, .bipush 7, 2), (13, .if_icmp .ne 21, 3), (16, .aload_n 0, 1), (17, .invokevirtual 67, 3), (20, .istore_n 2, 1), (21, .aload_n 0, 1), (22, .getfield 9, 3), (25, .invokevirtual 70, 3), (28, .iinc 3 1, 3), (31, .goto (-26), 3), (34, .iload_n 2, 1), (35, .iconst 1, 1), (36, .if_icmp .eq 8, 3), (39, .iload_n 2, 1), (40, .iconst 5, 1), (41, .if_icmp .ne 10, 3), (44, .aload_n 0, 1), (45, .getfield 9, 3), (48, .invokevirtual 73, 3), (51, .iload_n 2, 1), (52, .ireturn, 1)]
theorem DX3_takeRecords : ∀ q ∈ tX3_takeRecords, decode cX3_takeRecords q.1 = .ok (q.2.1, q.2.2) := by decide +kernel
abbrev wsX3_takeRecord : List Cond := Cond.code yX3_takeRecord cX3_takeRecord 4 (some .int) :: gW
theorem eX3_takeRecord : yX3_takeRecord.cls ≠ "java/lang/invoke/MethodHandle" ∧ yX3_takeRecord.cls ≠ "java/lang/invoke/VarHandle" ∧ (parseMethodDescriptor yX3_takeRecord.desc).map (fun d => d.parameters.length) = some 0 := by decide +kernel
def tX3_takeRecord : List (Nat × Instr × Nat) := [(0, .aload_n 0, 1), (1, .getfield 15, 3), (4, .aload_n 0, 1), (5, .getfield 60, 3), (8, .invokevirtual 29, 3), (11, .istore_n 1, 1), (12, .iload_n 1, 1), (13, .invokestatic 76, 3), (16, .istore_n 2, 1), (17, .aload_n 0, 1), (18, .getfield 15, 3), (21, .aload_n 0, 1), (22, .getfield 60, 3), (25, .iload_n 2, 1), (26, .invokevirtual 35, 3), (29, .ifCond .ne 5, 3), (32, .iconst 1, 1), (33, .ireturn, 1), (34, .iload_n 1, 1), (35, .iconst 2, 1), (36, .if_icmp .ne 10, 3), (39, .aload_n 0, 1), (40, .invokevirtual 79, 3), (43, .goto 19, 3), (46, .iload_n 1, 1), (47, .iconst 3, 1), (48, .if_icmp .ne 10, 3), (51, .aload_n 0, 1), (52, .invokevirtual 82, 3), (55, .goto 7, 3), (58, .aload_n 0, 1), (59, .invokevirtual 85, 3), (62, .istore_n 3, 1), (63, .iload_n 3, 1), (64, .bipush 7, 2), (66, .if_icmp .eq 7, 3), (69, .iload_n 3, 1), (70, .ifCond .ne 23, 3), (73, .aload_n 0, 1), (74, .dup, 1), (75, .getfield 60, 3), (78, .iload_n 2, 1), (79, .iadd, 1), (80, .putfield 60, 3), (83, .aload_n 0, 1), (84, .dup, 1), (85, .getfield 19, 3), (88, .iconst 1, 1), (89, .iadd, 1), (90, .putfield 19, 3), (93, .iload_n 3, 1), (94, .ireturn, 1)]
theorem DX3_takeRecord : ∀ q ∈ tX3_takeRecord, decode cX3_takeRecord q.1 = .ok (q.2.1, q.2.2) := by decide +kernel
abbrev wsX3_sizeOf : List Cond := Cond.code yX3_sizeOf cX3_sizeOf 1 (some .int) :: gW
theorem eX3_sizeOf : yX3_sizeOf.cls ≠ "java/lang/invoke/MethodHandle" ∧ yX3_sizeOf.cls ≠ "java/lang/invoke/VarHandle" ∧ (parseMethodDescriptor yX3_sizeOf.desc).map (fun d => d.parameters.length) = some 1 := by decide +kernel
def tX3_sizeOf : List (Nat × Instr × Nat) := [(0, .iload_n 0, 1), (1, .tableswitch 36 2 4 #[27, 30, 33], 27), (28, .bipush 19, 2), (30, .ireturn, 1), (31, .bipush 13, 2), (33, .ireturn, 1), (34, .bipush 13, 2), (36, .ireturn, 1), (37, .iconst 0, 1), (38, .ireturn, 1)]
theorem DX3_sizeOf : ∀ q ∈ tX3_sizeOf, decode cX3_sizeOf q.1 = .ok (q.2.1, q.2.2) := by decide +kernel
abbrev wsX3_takeWrite : List Cond := Cond.code yX3_takeWrite cX3_takeWrite 2 (some .int) :: gW
theorem eX3_takeWrite : yX3_takeWrite.cls ≠ "java/lang/invoke/MethodHandle" ∧ yX3_takeWrite.cls ≠ "java/lang/invoke/VarHandle" ∧ (parseMethodDescriptor yX3_takeWrite.desc).map (fun d => d.parameters.length) = some 0 := by decide +kernel
def tX3_takeWrite : List (Nat × Instr × Nat) := [(0, .aload_n 0, 1), (1, .getfield 15, 3), (4, .aload_n 0, 1), (5, .getfield 60, 3), (8, .iconst 1, 1), (9, .iadd, 1), (10, .iconst 2, 1), (11, .invokevirtual 39, 3), (14, .l2i, 1), (15, .istore_n 1, 1), (16, .iload_n 1, 1), (17, .invokestatic 88, 3), (20, .ifCond .ne 5, 3), (23, .iconst 1, 1), (24, .ireturn, 1), (25, .aload_n 0, 1), (26, .getfield 9, 3), (29, .sipush 4801, 3), (32, .iload_n 1, 1), (33, .aload_n 0, 1), (34, .getfield 15, 3), (37, .aload_n 0, 1), (38, .getfield 60, 3), (41, .iconst 3, 1), (42, .iadd, 1), (43, .bipush 8, 2), (45, .invokevirtual 39, 3), (48, .invokevirtual 92, 3), (51, .ifCond .eq 8, 3), (54, .bipush 7, 2), (56, .goto 4, 3), (59, .iconst 5, 1), (60, .ireturn, 1)]
theorem DX3_takeWrite : ∀ q ∈ tX3_takeWrite, decode cX3_takeWrite q.1 = .ok (q.2.1, q.2.2) := by decide +kernel
abbrev wsX3_takeClear : List Cond := Cond.code yX3_takeClear cX3_takeClear 4 (some .int) :: gW
theorem eX3_takeClear : yX3_takeClear.cls ≠ "java/lang/invoke/MethodHandle" ∧ yX3_takeClear.cls ≠ "java/lang/invoke/VarHandle" ∧ (parseMethodDescriptor yX3_takeClear.desc).map (fun d => d.parameters.length) = some 0 := by decide +kernel
def tX3_takeClear : List (Nat × Instr × Nat) := [(0, .aload_n 0, 1), (1, .getfield 15, 3), (4, .aload_n 0, 1), (5, .getfield 60, 3), (8, .iconst 1, 1), (9, .iadd, 1), (10, .iconst 2, 1), (11, .invokevirtual 39, 3), (14, .l2i, 1), (15, .istore_n 1, 1), (16, .aload_n 0, 1), (17, .getfield 15, 3), (20, .aload_n 0, 1), (21, .getfield 60, 3), (24, .iconst 3, 1), (25, .iadd, 1), (26, .iconst 2, 1), (27, .invokevirtual 39, 3), (30, .l2i, 1), (31, .istore_n 2, 1), (32, .iload_n 1, 1), (33, .invokestatic 88, 3), (36, .ifCond .eq 17, 3), (39, .iload_n 2, 1), (40, .iconst 1, 1), (41, .if_icmp .lt 12, 3), (44, .iload_n 1, 1), (45, .iload_n 2, 1), (46, .iadd, 1), (47, .sipush 512, 3), (50, .if_icmp .le 5, 3), (53, .iconst 1, 1), (54, .ireturn, 1), (55, .iconst 0, 1), (56, .istore_n 3, 1), (57, .iload_n 3, 1), (58, .iload_n 2, 1), (59, .if_icmp .ge 27, 3), (62, .aload_n 0, 1), (63, .getfield 9, 3), (66, .sipush 4801, 3), (69, .iload_n 1, 1), (70, .iload_n 3, 1), (71, .iadd, 1), (72, .invokevirtual 96, 3), (75, .ifCond .ne 5, 3), (78, .iconst 5, 1), (79, .ireturn, 1), (80, .iinc 3 1, 3), (83, .goto (-26), 3), (86, .bipush 7, 2), (88, .ireturn, 1)]
theorem DX3_takeClear : ∀ q ∈ tX3_takeClear, decode cX3_takeClear q.1 = .ok (q.2.1, q.2.2) := by decide +kernel
abbrev wsX3_takeEnd : List Cond := Cond.code yX3_takeEnd cX3_takeEnd 1 (some .int) :: gW
theorem eX3_takeEnd : yX3_takeEnd.cls ≠ "java/lang/invoke/MethodHandle" ∧ yX3_takeEnd.cls ≠ "java/lang/invoke/VarHandle" ∧ (parseMethodDescriptor yX3_takeEnd.desc).map (fun d => d.parameters.length) = some 0 := by decide +kernel
def tX3_takeEnd : List (Nat × Instr × Nat) := [(0, .aload_n 0, 1), (1, .getfield 15, 3), (4, .aload_n 0, 1), (5, .getfield 60, 3), (8, .iconst 1, 1), (9, .iadd, 1), (10, .iconst 4, 1), (11, .invokevirtual 39, 3), (14, .lconst 1, 1), (15, .aload_n 0, 1), (16, .getfield 19, 3), (19, .i2l, 1), (20, .ladd, 1), (21, .lcmp, 1), (22, .ifCond .ne 20, 3), (25, .aload_n 0, 1), (26, .getfield 60, 3), (29, .bipush 13, 2), (31, .iadd, 1), (32, .aload_n 0, 1), (33, .getfield 15, 3), (36, .invokevirtual 99, 3), (39, .if_icmp .eq 5, 3), (42, .iconst 1, 1), (43, .ireturn, 1), (44, .aload_n 0, 1), (45, .getfield 9, 3), (48, .invokevirtual 43, 3), (51, .bipush 20, 2), (53, .if_icmp .lt 5, 3), (56, .iconst 5, 1), (57, .ireturn, 1), (58, .aload_n 0, 1), (59, .getfield 9, 3), (62, .aload_n 0, 1), (63, .getfield 63, 3), (66, .invokevirtual 102, 3), (69, .iconst 0, 1), (70, .ireturn, 1)]
theorem DX3_takeEnd : ∀ q ∈ tX3_takeEnd, decode cX3_takeEnd q.1 = .ok (q.2.1, q.2.2) := by decide +kernel
abbrev wsX4_init : List Cond := Cond.code yX4_init cX4_init 2 none :: gW
theorem eX4_init : yX4_init.cls ≠ "java/lang/invoke/MethodHandle" ∧ yX4_init.cls ≠ "java/lang/invoke/VarHandle" ∧ (parseMethodDescriptor yX4_init.desc).map (fun d => d.parameters.length) = some 1 := by decide +kernel
def tX4_init : List (Nat × Instr × Nat) := [(0, .aload_n 0, 1), (1, .invokespecial 3, 3), (4, .aload_n 0, 1), (5, .aload_n 1, 1), (6, .putfield 9, 3), (9, .return_, 1)]
theorem DX4_init : ∀ q ∈ tX4_init, decode cX4_init q.1 = .ok (q.2.1, q.2.2) := by decide +kernel
abbrev wsX4_writes : List Cond := Cond.code yX4_writes cX4_writes 1 (some .int) :: gW
theorem eX4_writes : yX4_writes.cls ≠ "java/lang/invoke/MethodHandle" ∧ yX4_writes.cls ≠ "java/lang/invoke/VarHandle" ∧ (parseMethodDescriptor yX4_writes.desc).map (fun d => d.parameters.length) = some 0 := by decide +kernel
def tX4_writes : List (Nat × Instr × Nat) := [(0, .aload_n 0, 1), (1, .getfield 15, 3), (4, .ireturn, 1)]
theorem DX4_writes : ∀ q ∈ tX4_writes, decode cX4_writes q.1 = .ok (q.2.1, q.2.2) := by decide +kernel
abbrev wsX4_clears : List Cond := Cond.code yX4_clears cX4_clears 1 (some .int) :: gW
theorem eX4_clears : yX4_clears.cls ≠ "java/lang/invoke/MethodHandle" ∧ yX4_clears.cls ≠ "java/lang/invoke/VarHandle" ∧ (parseMethodDescriptor yX4_clears.desc).map (fun d => d.parameters.length) = some 0 := by decide +kernel
def tX4_clears : List (Nat × Instr × Nat) := [(0, .aload_n 0, 1), (1, .getfield 19, 3), (4, .ireturn, 1)]
theorem DX4_clears : ∀ q ∈ tX4_clears, decode cX4_clears q.1 = .ok (q.2.1, q.2.2) := by decide +kernel
abbrev wsX4_seen : List Cond := Cond.code yX4_seen cX4_seen 1 (some .int) :: gW
theorem eX4_seen : yX4_seen.cls ≠ "java/lang/invoke/MethodHandle" ∧ yX4_seen.cls ≠ "java/lang/invoke/VarHandle" ∧ (parseMethodDescriptor yX4_seen.desc).map (fun d => d.parameters.length) = some 0 := by decide +kernel
def tX4_seen : List (Nat × Instr × Nat) := [(0, .aload_n 0, 1), (1, .getfield 22, 3), (4, .ireturn, 1)]
theorem DX4_seen : ∀ q ∈ tX4_seen, decode cX4_seen q.1 = .ok (q.2.1, q.2.2) := by decide +kernel
abbrev wsX4_fillStream : List Cond := Cond.code yX4_fillStream cX4_fillStream 4 none :: gW
theorem eX4_fillStream : yX4_fillStream.cls ≠ "java/lang/invoke/MethodHandle" ∧ yX4_fillStream.cls ≠ "java/lang/invoke/VarHandle" ∧ (parseMethodDescriptor yX4_fillStream.desc).map (fun d => d.parameters.length) = some 3 := by decide +kernel
def tX4_fillStream : List (Nat × Instr × Nat) := [(0, .aload_n 0, 1), (1, .iconst 0, 1), (2, .putfield 15, 3), (5, .aload_n 0, 1), (6, .iconst 0, 1), (7, .putfield 19, 3), (10, .aload_n 0, 1), (11, .iconst 0, 1), (12, .putfield 22, 3), (15, .aload_n 0, 1), (16, .iload_n 2, 1), (17, .iconst (-1), 1), (18, .if_icmp .ne 7, 3), (21, .iconst 0, 1), (22, .goto 8, 3), (25, .aload_n 1, 1), (26, .iload_n 2, 1), (27, .invokevirtual 25, 3), (30, .putfield 31, 3), (33, .aload_n 0, 1), (34, .getfield 9, 3), (37, .iconst 0, 1), (38, .invokevirtual 34, 3), (41, .aload_n 0, 1), (42, .getfield 9, 3), (45, .iload_n 2, 1), (46, .iconst (-1), 1), (47, .if_icmp .ne 7, 3), (50, .lconst 0, 1), (51, .goto 8, 3), (54, .aload_n 1, 1), (55, .iload_n 2, 1), (56, .invokevirtual 40, 3), (59, .aload_n 1, 1), (60, .iload_n 3, 1), (61, .invokevirtual 40, 3), (64, .invokevirtual 44, 3), (67, .aload_n 0, 1), (68, .aload_n 1, 1), (69, .invokevirtual 48, 3), (72, .sipush 4802, 3), (75, .iload_n 3, 1), (76, .iadd, 1), (77, .iconst 3, 1), (78, .iconst 0, 1), (79, .invokestatic 52, 3), (82, .aload_n 0, 1), (83, .getfield 9, 3), (86, .iconst 1, 1), (87, .aload_n 0, 1), (88, .getfield 15, 3), (91, .iadd, 1), (92, .aload_n 0, 1), (93, .getfield 19, 3), (96, .iadd, 1), (97, .invokevirtual 56, 3), (100, .return_, 1)]
theorem DX4_fillStream : ∀ q ∈ tX4_fillStream, decode cX4_fillStream q.1 = .ok (q.2.1, q.2.2) := by decide +kernel
abbrev wsX4_goOver : List Cond := Cond.code yX4_goOver cX4_goOver 7 none :: gW
theorem eX4_goOver : yX4_goOver.cls ≠ "java/lang/invoke/MethodHandle" ∧ yX4_goOver.cls ≠ "java/lang/invoke/VarHandle" ∧ (parseMethodDescriptor yX4_goOver.desc).map (fun d => d.parameters.length) = some 5 := by decide +kernel
def tX4_goOver : List (Nat × Instr × Nat) := [(0, .iload_n 3, 1), (1, .ifCond .lt 15, 3), (4, .aload_n 1, 1), (5, .iload_n 2, 1), (6, .invokevirtual 59, 3), (9, .aload_n 0, 1), (10, .getfield 31, 3), (13, .if_icmp .gt 4, 3), (16, .return_, 1), (17, .aload_n 1, 1), (18, .iload_n 2, 1), (19, .invokevirtual 64, 3), (22, .istore 5, 2), (24, .iload 5, 2), (26, .iconst (-1), 1), (27, .if_icmp .ne 28, 3), (30, .aload_n 0, 1), (31, .dup, 1), (32, .getfield 19, 3), (35, .iconst 1, 1), (36, .iadd, 1), (37, .putfield 19, 3), (40, .aload_n 0, 1), (41, .getfield 9, 3), (44, .iload 4, 2), (46, .iconst 1, 1), (47, .iconst 3, 1), (48, .iload_n 3, 1), (49, .imul, 1), (50, .ishl, 1), (51, .invokevirtual 67, 3), (54, .return_, 1), (55, .aload_n 0, 1), (56, .dup, 1), (57, .getfield 22, 3), (60, .iconst 1, 1), (61, .iadd, 1), (62, .putfield 22, 3), (65, .iload_n 3, 1), (66, .ifCond .ne 29, 3), (69, .aload_n 0, 1), (70, .dup, 1), (71, .getfield 15, 3), (74, .iconst 1, 1), (75, .iadd, 1), (76, .putfield 15, 3), (79, .aload_n 0, 1), (80, .getfield 9, 3), (83, .iload 4, 2), (85, .aload_n 1, 1), (86, .iload 5, 2), (88, .invokevirtual 71, 3), (91, .invokevirtual 74, 3), (94, .return_, 1), (95, .iconst 0, 1), (96, .istore 6, 2), (98, .iload 6, 2), (100, .bipush 8, 2), (102, .if_icmp .ge 36, 3), (105, .aload_n 0, 1), (106, .aload_n 1, 1), (107, .iload 5, 2), (109, .bipush 8, 2), (111, .imul, 1), (112, .iload 6, 2), (114, .iadd, 1), (115, .iload_n 3, 1), (116, .iconst 1, 1), (117, .isub, 1), (118, .iload 4, 2), (120, .iload 6, 2), (122, .iconst 3, 1), (123, .iload_n 3, 1), (124, .iconst 1, 1), (125, .isub, 1), (126, .imul, 1), (127, .ishl, 1), (128, .iadd, 1), (129, .invokestatic 52, 3), (132, .iinc 6 1, 3), (135, .goto (-37), 3), (138, .return_, 1)]
theorem DX4_goOver : ∀ q ∈ tX4_goOver, decode cX4_goOver q.1 = .ok (q.2.1, q.2.2) := by decide +kernel
abbrev wsX5_init : List Cond := Cond.code yX5_init cX5_init 1 none :: gW
theorem eX5_init : yX5_init.cls ≠ "java/lang/invoke/MethodHandle" ∧ yX5_init.cls ≠ "java/lang/invoke/VarHandle" ∧ (parseMethodDescriptor yX5_init.desc).map (fun d => d.parameters.length) = some 0 := by decide +kernel
def tX5_init : List (Nat × Instr × Nat) := [(0, .aload_n 0, 1), (1, .invokespecial 3, 3), (4, .aload_n 0, 1), (5, .sipush 9766, 3), (8, .newarray .byte, 2), (10, .putfield 9, 3), (13, .return_, 1)]
theorem DX5_init : ∀ q ∈ tX5_init, decode cX5_init q.1 = .ok (q.2.1, q.2.2) := by decide +kernel
abbrev wsX5_length : List Cond := Cond.code yX5_length cX5_length 1 (some .int) :: gW
theorem eX5_length : yX5_length.cls ≠ "java/lang/invoke/MethodHandle" ∧ yX5_length.cls ≠ "java/lang/invoke/VarHandle" ∧ (parseMethodDescriptor yX5_length.desc).map (fun d => d.parameters.length) = some 0 := by decide +kernel
def tX5_length : List (Nat × Instr × Nat) := [(0, .aload_n 0, 1), (1, .getfield 15, 3), (4, .ireturn, 1)]
theorem DX5_length : ∀ q ∈ tX5_length, decode cX5_length q.1 = .ok (q.2.1, q.2.2) := by decide +kernel
abbrev wsX5_at : List Cond := Cond.code yX5_at cX5_at 2 (some .int) :: gW
theorem eX5_at : yX5_at.cls ≠ "java/lang/invoke/MethodHandle" ∧ yX5_at.cls ≠ "java/lang/invoke/VarHandle" ∧ (parseMethodDescriptor yX5_at.desc).map (fun d => d.parameters.length) = some 1 := by decide +kernel
def tX5_at : List (Nat × Instr × Nat) := [(0, .iload_n 1, 1), (1, .ifCond .lt 33, 3), (4, .iload_n 1, 1), (5, .aload_n 0, 1), (6, .getfield 15, 3), (9, .if_icmp .ge 25, 3), (12, .iload_n 1, 1), (13, .aload_n 0, 1), (14, .getfield 9, 3), (17, .arraylength, 1), (18, .if_icmp .ge 16, 3), (21, .aload_n 0, 1), (22, .getfield 9, 3), (25, .iload_n 1, 1), (26, .baload, 1), (27, .sipush 255, 3), (30, .iand, 1), (31, .goto 4, 3), (34, .iconst (-1), 1), (35, .ireturn, 1)]
theorem DX5_at : ∀ q ∈ tX5_at, decode cX5_at q.1 = .ok (q.2.1, q.2.2) := by decide +kernel
abbrev wsX5_put : List Cond := Cond.code yX5_put cX5_put 3 none :: gW
theorem eX5_put : yX5_put.cls ≠ "java/lang/invoke/MethodHandle" ∧ yX5_put.cls ≠ "java/lang/invoke/VarHandle" ∧ (parseMethodDescriptor yX5_put.desc).map (fun d => d.parameters.length) = some 2 := by decide +kernel
def tX5_put : List (Nat × Instr × Nat) := [(0, .iload_n 1, 1), (1, .ifCond .lt 20, 3), (4, .iload_n 1, 1), (5, .aload_n 0, 1), (6, .getfield 9, 3), (9, .arraylength, 1), (10, .if_icmp .ge 11, 3), (13, .aload_n 0, 1), (14, .getfield 9, 3), (17, .iload_n 1, 1), (18, .iload_n 2, 1), (19, .i2b, 1), (20, .bastore, 1), (21, .return_, 1)]
theorem DX5_put : ∀ q ∈ tX5_put, decode cX5_put q.1 = .ok (q.2.1, q.2.2) := by decide +kernel
abbrev wsX5_shorten : List Cond := Cond.code yX5_shorten cX5_shorten 2 none :: gW
theorem eX5_shorten : yX5_shorten.cls ≠ "java/lang/invoke/MethodHandle" ∧ yX5_shorten.cls ≠ "java/lang/invoke/VarHandle" ∧ (parseMethodDescriptor yX5_shorten.desc).map (fun d => d.parameters.length) = some 1 := by decide +kernel
def tX5_shorten : List (Nat × Instr × Nat) := [(0, .aload_n 0, 1), (1, .iload_n 1, 1), (2, .putfield 15, 3), (5, .return_, 1)]
theorem DX5_shorten : ∀ q ∈ tX5_shorten, decode cX5_shorten q.1 = .ok (q.2.1, q.2.2) := by decide +kernel
abbrev wsX5_addBegin : List Cond := Cond.code yX5_addBegin cX5_addBegin 6 none :: gW
theorem eX5_addBegin : yX5_addBegin.cls ≠ "java/lang/invoke/MethodHandle" ∧ yX5_addBegin.cls ≠ "java/lang/invoke/VarHandle" ∧ (parseMethodDescriptor yX5_addBegin.desc).map (fun d => d.parameters.length) = some 2 := by decide +kernel
def tX5_addBegin : List (Nat × Instr × Nat) := [(0, .aload_n 0, 1), (1, .getfield 15, 3), (4, .istore 5, 2), (6, .aload_n 0, 1), (7, .lconst 1, 1), (8, .iconst 1, 1), (9, .invokevirtual 19, 3), (12, .aload_n 0, 1), (13, .lload_n 1, 1), (14, .bipush 8, 2), (16, .invokevirtual 19, 3), (19, .aload_n 0, 1), (20, .lload_n 3, 1), (21, .bipush 8, 2), (23, .invokevirtual 19, 3), (26, .aload_n 0, 1), (27, .aload_n 0, 1), (28, .iload 5, 2), (30, .aload_n 0, 1), (31, .getfield 15, 3), (34, .invokevirtual 23, 3), (37, .bipush 8, 2), (39, .invokevirtual 19, 3), (42, .return_, 1)]
theorem DX5_addBegin : ∀ q ∈ tX5_addBegin, decode cX5_addBegin q.1 = .ok (q.2.1, q.2.2) := by decide +kernel
abbrev wsX5_addWrite : List Cond := Cond.code yX5_addWrite cX5_addWrite 5 none :: gW
theorem eX5_addWrite : yX5_addWrite.cls ≠ "java/lang/invoke/MethodHandle" ∧ yX5_addWrite.cls ≠ "java/lang/invoke/VarHandle" ∧ (parseMethodDescriptor yX5_addWrite.desc).map (fun d => d.parameters.length) = some 2 := by decide +kernel
def tX5_addWrite : List (Nat × Instr × Nat) := [(0, .aload_n 0, 1), (1, .getfield 15, 3), (4, .istore 4, 2), (6, .aload_n 0, 1), (7, .ldc2_w 27, 3), (10, .iconst 1, 1), (11, .invokevirtual 19, 3), (14, .aload_n 0, 1), (15, .iload_n 1, 1), (16, .i2l, 1), (17, .iconst 2, 1), (18, .invokevirtual 19, 3), (21, .aload_n 0, 1), (22, .lload_n 2, 1), (23, .bipush 8, 2), (25, .invokevirtual 19, 3), (28, .aload_n 0, 1), (29, .aload_n 0, 1), (30, .iload 4, 2), (32, .aload_n 0, 1), (33, .getfield 15, 3), (36, .invokevirtual 23, 3), (39, .bipush 8, 2), (41, .invokevirtual 19, 3), (44, .return_, 1)]
theorem DX5_addWrite : ∀ q ∈ tX5_addWrite, decode cX5_addWrite q.1 = .ok (q.2.1, q.2.2) := by decide +kernel
abbrev wsX5_addClear : List Cond := Cond.code yX5_addClear cX5_addClear 4 none :: gW
theorem eX5_addClear : yX5_addClear.cls ≠ "java/lang/invoke/MethodHandle" ∧ yX5_addClear.cls ≠ "java/lang/invoke/VarHandle" ∧ (parseMethodDescriptor yX5_addClear.desc).map (fun d => d.parameters.length) = some 2 := by decide +kernel
def tX5_addClear : List (Nat × Instr × Nat) := [(0, .aload_n 0, 1), (1, .getfield 15, 3), (4, .istore_n 3, 1), (5, .aload_n 0, 1), (6, .ldc2_w 29, 3), (9, .iconst 1, 1), (10, .invokevirtual 19, 3), (13, .aload_n 0, 1), (14, .iload_n 1, 1), (15, .i2l, 1), (16, .iconst 2, 1), (17, .invokevirtual 19, 3), (20, .aload_n 0, 1), (21, .iload_n 2, 1), (22, .i2l, 1), (23, .iconst 2, 1), (24, .invokevirtual 19, 3), (27, .aload_n 0, 1), (28, .aload_n 0, 1), (29, .iload_n 3, 1), (30, .aload_n 0, 1), (31, .getfield 15, 3), (34, .invokevirtual 23, 3), (37, .bipush 8, 2), (39, .invokevirtual 19, 3), (42, .return_, 1)]
theorem DX5_addClear : ∀ q ∈ tX5_addClear, decode cX5_addClear q.1 = .ok (q.2.1, q.2.2) := by decide +kernel
abbrev wsX5_addEnd : List Cond := Cond.code yX5_addEnd cX5_addEnd 3 none :: gW
theorem eX5_addEnd : yX5_addEnd.cls ≠ "java/lang/invoke/MethodHandle" ∧ yX5_addEnd.cls ≠ "java/lang/invoke/VarHandle" ∧ (parseMethodDescriptor yX5_addEnd.desc).map (fun d => d.parameters.length) = some 1 := by decide +kernel
def tX5_addEnd : List (Nat × Instr × Nat) := [(0, .aload_n 0, 1), (1, .getfield 15, 3), (4, .istore_n 2, 1), (5, .aload_n 0, 1), (6, .ldc2_w 31, 3), (9, .iconst 1, 1), (10, .invokevirtual 19, 3), (13, .aload_n 0, 1), (14, .iload_n 1, 1), (15, .i2l, 1), (16, .iconst 4, 1), (17, .invokevirtual 19, 3), (20, .aload_n 0, 1), (21, .aload_n 0, 1), (22, .iload_n 2, 1), (23, .aload_n 0, 1), (24, .getfield 15, 3), (27, .invokevirtual 23, 3), (30, .bipush 8, 2), (32, .invokevirtual 19, 3), (35, .return_, 1)]
theorem DX5_addEnd : ∀ q ∈ tX5_addEnd, decode cX5_addEnd q.1 = .ok (q.2.1, q.2.2) := by decide +kernel
abbrev wsX5_addNumber : List Cond := Cond.code yX5_addNumber cX5_addNumber 5 none :: gW
theorem eX5_addNumber : yX5_addNumber.cls ≠ "java/lang/invoke/MethodHandle" ∧ yX5_addNumber.cls ≠ "java/lang/invoke/VarHandle" ∧ (parseMethodDescriptor yX5_addNumber.desc).map (fun d => d.parameters.length) = some 2 := by decide +kernel
def tX5_addNumber : List (Nat × Instr × Nat) := [(0, .iload_n 3, 1), (1, .iconst 1, 1), (2, .isub, 1), (3, .istore 4, 2), (5, .iload 4, 2), (7, .ifCond .lt 47, 3), (10, .aload_n 0, 1), (11, .getfield 15, 3), (14, .aload_n 0, 1), (15, .getfield 9, 3), (18, .arraylength, 1), (19, .if_icmp .ge 29, 3), (22, .aload_n 0, 1), (23, .aload_n 0, 1), (24, .getfield 15, 3), (27, .lload_n 1, 1), (28, .bipush 8, 2), (30, .iload 4, 2), (32, .imul, 1), (33, .lushr, 1), (34, .l2i, 1), (35, .invokevirtual 33, 3), (38, .aload_n 0, 1), (39, .dup, 1), (40, .getfield 15, 3), (43, .iconst 1, 1), (44, .iadd, 1), (45, .putfield 15, 3), (48, .iinc 4 (-1), 3), (51, .goto (-46), 3), (54, .return_, 1)]
theorem DX5_addNumber : ∀ q ∈ tX5_addNumber, decode cX5_addNumber q.1 = .ok (q.2.1, q.2.2) := by decide +kernel
abbrev wsX5_numberAt : List Cond := Cond.code yX5_numberAt cX5_numberAt 6 (some .long) :: gW
theorem eX5_numberAt : yX5_numberAt.cls ≠ "java/lang/invoke/MethodHandle" ∧ yX5_numberAt.cls ≠ "java/lang/invoke/VarHandle" ∧ (parseMethodDescriptor yX5_numberAt.desc).map (fun d => d.parameters.length) = some 2 := by decide +kernel
def tX5_numberAt : List (Nat × Instr × Nat) := [(0, .lconst 0, 1), (1, .lstore_n 3, 1), (2, .iconst 0, 1), (3, .istore 5, 2), (5, .iload 5, 2), (7, .iload_n 2, 1), (8, .if_icmp .ge 28, 3), (11, .lload_n 3, 1), (12, .bipush 8, 2), (14, .lshl, 1), (15, .aload_n 0, 1), (16, .iload_n 1, 1), (17, .iload 5, 2), (19, .iadd, 1), (20, .invokevirtual 37, 3), (23, .sipush 255, 3), (26, .iand, 1), (27, .i2l, 1), (28, .lor, 1), (29, .lstore_n 3, 1), (30, .iinc 5 1, 3), (33, .goto (-28), 3), (36, .lload_n 3, 1), (37, .lreturn, 1)]
theorem DX5_numberAt : ∀ q ∈ tX5_numberAt, decode cX5_numberAt q.1 = .ok (q.2.1, q.2.2) := by decide +kernel
abbrev wsX5_isWhole : List Cond := Cond.code yX5_isWhole cX5_isWhole 4 (some .boolean) :: gW
theorem eX5_isWhole : yX5_isWhole.cls ≠ "java/lang/invoke/MethodHandle" ∧ yX5_isWhole.cls ≠ "java/lang/invoke/VarHandle" ∧ (parseMethodDescriptor yX5_isWhole.desc).map (fun d => d.parameters.length) = some 2 := by decide +kernel
def tX5_isWhole : List (Nat × Instr × Nat) := [(0, .iload_n 2, 1), (1, .bipush 8, 2), (3, .if_icmp .lt 13, 3), (6, .iload_n 1, 1), (7, .iload_n 2, 1), (8, .iadd, 1), (9, .aload_n 0, 1), (10, .getfield 15, 3), (13, .if_icmp .le 5, 3), (16, .iconst 0, 1), (17, .ireturn, 1), (18, .iload_n 1, 1), (19, .iload_n 2, 1), (20, .iadd, 1), (21, .bipush 8, 2), (23, .isub, 1), (24, .istore_n 3, 1), (25, .aload_n 0, 1), (26, .iload_n 1, 1), (27, .iload_n 3, 1), (28, .invokevirtual 23, 3), (31, .aload_n 0, 1), (32, .iload_n 3, 1), (33, .bipush 8, 2), (35, .invokevirtual 41, 3), (38, .lcmp, 1), (39, .ifCond .ne 7, 3), (42, .iconst 1, 1), (43, .goto 4, 3), (46, .iconst 0, 1), (47, .ireturn, 1)]
theorem DX5_isWhole : ∀ q ∈ tX5_isWhole, decode cX5_isWhole q.1 = .ok (q.2.1, q.2.2) := by decide +kernel
abbrev wsX5_sumOf : List Cond := Cond.code yX5_sumOf cX5_sumOf 6 (some .long) :: gW
theorem eX5_sumOf : yX5_sumOf.cls ≠ "java/lang/invoke/MethodHandle" ∧ yX5_sumOf.cls ≠ "java/lang/invoke/VarHandle" ∧ (parseMethodDescriptor yX5_sumOf.desc).map (fun d => d.parameters.length) = some 2 := by decide +kernel
def tX5_sumOf : List (Nat × Instr × Nat) := [(0, .iconst 1, 1), (1, .istore_n 3, 1), (2, .iconst 0, 1), (3, .istore 4, 2), (5, .iload_n 1, 1), (6, .istore 5, 2), (8, .iload 5, 2), (10, .iload_n 2, 1), (11, .if_icmp .ge 24, 3), (14, .iload_n 3, 1), (15, .aload_n 0, 1), (16, .iload 5, 2), (18, .invokevirtual 37, 3), (21, .iadd, 1), (22, .istore_n 3, 1), (23, .iload 4, 2), (25, .iload_n 3, 1), (26, .iadd, 1), (27, .istore 4, 2), (29, .iinc 5 1, 3), (32, .goto (-24), 3), (35, .iload 4, 2), (37, .i2l, 1), (38, .bipush 32, 2), (40, .lshl, 1), (41, .iload_n 3, 1), (42, .i2l, 1), (43, .ldc2_w 44, 3), (46, .land, 1), (47, .lor, 1), (48, .lreturn, 1)]
theorem DX5_sumOf : ∀ q ∈ tX5_sumOf, decode cX5_sumOf q.1 = .ok (q.2.1, q.2.2) := by decide +kernel
abbrev wsX6_init : List Cond := Cond.code yX6_init cX6_init 1 none :: gW
theorem eX6_init : yX6_init.cls ≠ "java/lang/invoke/MethodHandle" ∧ yX6_init.cls ≠ "java/lang/invoke/VarHandle" ∧ (parseMethodDescriptor yX6_init.desc).map (fun d => d.parameters.length) = some 0 := by decide +kernel
def tX6_init : List (Nat × Instr × Nat) := [(0, .aload_n 0, 1), (1, .invokespecial 3, 3), (4, .aload_n 0, 1), (5, .new 9, 3), (8, .dup, 1), (9, .invokespecial 11, 3), (12, .putfield 12, 3), (15, .aload_n 0, 1), (16, .new 18, 3), (19, .dup, 1), (20, .bipush 20, 2), (22, .invokespecial 20, 3), (25, .putfield 23, 3), (28, .aload_n 0, 1), (29, .new 27, 3), (32, .dup, 1), (33, .bipush 20, 2), (35, .invokespecial 29, 3), (38, .putfield 30, 3), (41, .aload_n 0, 1), (42, .bipush 100, 2), (44, .invokevirtual 34, 3), (47, .return_, 1)]
theorem DX6_init : ∀ q ∈ tX6_init, decode cX6_init q.1 = .ok (q.2.1, q.2.2) := by decide +kernel
abbrev wsX6_startAnew : List Cond := Cond.code yX6_startAnew cX6_startAnew 2 none :: gW
theorem eX6_startAnew : yX6_startAnew.cls ≠ "java/lang/invoke/MethodHandle" ∧ yX6_startAnew.cls ≠ "java/lang/invoke/VarHandle" ∧ (parseMethodDescriptor yX6_startAnew.desc).map (fun d => d.parameters.length) = some 1 := by decide +kernel
def tX6_startAnew : List (Nat × Instr × Nat) := [(0, .aload_n 0, 1), (1, .getfield 12, 3), (4, .iload_n 1, 1), (5, .invokevirtual 37, 3), (8, .aload_n 0, 1), (9, .iconst 1, 1), (10, .putfield 38, 3), (13, .aload_n 0, 1), (14, .iconst 0, 1), (15, .putfield 42, 3), (18, .aload_n 0, 1), (19, .iconst 0, 1), (20, .putfield 45, 3), (23, .return_, 1)]
theorem DX6_startAnew : ∀ q ∈ tX6_startAnew, decode cX6_startAnew q.1 = .ok (q.2.1, q.2.2) := by decide +kernel
abbrev wsX6_blocks : List Cond := Cond.code yX6_blocks cX6_blocks 1 (some (.object "TwinVolumes$Blocks")) :: gW
theorem eX6_blocks : yX6_blocks.cls ≠ "java/lang/invoke/MethodHandle" ∧ yX6_blocks.cls ≠ "java/lang/invoke/VarHandle" ∧ (parseMethodDescriptor yX6_blocks.desc).map (fun d => d.parameters.length) = some 0 := by decide +kernel
def tX6_blocks : List (Nat × Instr × Nat) := [(0, .aload_n 0, 1), (1, .getfield 12, 3), (4, .areturn, 1)]
theorem DX6_blocks : ∀ q ∈ tX6_blocks, decode cX6_blocks q.1 = .ok (q.2.1, q.2.2) := by decide +kernel
abbrev wsX6_generation : List Cond := Cond.code yX6_generation cX6_generation 1 (some .int) :: gW
theorem eX6_generation : yX6_generation.cls ≠ "java/lang/invoke/MethodHandle" ∧ yX6_generation.cls ≠ "java/lang/invoke/VarHandle" ∧ (parseMethodDescriptor yX6_generation.desc).map (fun d => d.parameters.length) = some 0 := by decide +kernel
def tX6_generation : List (Nat × Instr × Nat) := [(0, .aload_n 0, 1), (1, .getfield 38, 3), (4, .ireturn, 1)]
theorem DX6_generation : ∀ q ∈ tX6_generation, decode cX6_generation q.1 = .ok (q.2.1, q.2.2) := by decide +kernel
abbrev wsX6_snapshots : List Cond := Cond.code yX6_snapshots cX6_snapshots 1 (some .int) :: gW
theorem eX6_snapshots : yX6_snapshots.cls ≠ "java/lang/invoke/MethodHandle" ∧ yX6_snapshots.cls ≠ "java/lang/invoke/VarHandle" ∧ (parseMethodDescriptor yX6_snapshots.desc).map (fun d => d.parameters.length) = some 0 := by decide +kernel
def tX6_snapshots : List (Nat × Instr × Nat) := [(0, .aload_n 0, 1), (1, .getfield 42, 3), (4, .ireturn, 1)]
theorem DX6_snapshots : ∀ q ∈ tX6_snapshots, decode cX6_snapshots q.1 = .ok (q.2.1, q.2.2) := by decide +kernel
abbrev wsX6_isBusy : List Cond := Cond.code yX6_isBusy cX6_isBusy 1 (some .boolean) :: gW
theorem eX6_isBusy : yX6_isBusy.cls ≠ "java/lang/invoke/MethodHandle" ∧ yX6_isBusy.cls ≠ "java/lang/invoke/VarHandle" ∧ (parseMethodDescriptor yX6_isBusy.desc).map (fun d => d.parameters.length) = some 0 := by decide +kernel
def tX6_isBusy : List (Nat × Instr × Nat) := [(0, .aload_n 0, 1), (1, .getfield 45, 3), (4, .ireturn, 1)]
theorem DX6_isBusy : ∀ q ∈ tX6_isBusy, decode cX6_isBusy q.1 = .ok (q.2.1, q.2.2) := by decide +kernel
abbrev wsX6_hasSnapshot : List Cond := Cond.code yX6_hasSnapshot cX6_hasSnapshot 2 (some .boolean) :: gW
theorem eX6_hasSnapshot : yX6_hasSnapshot.cls ≠ "java/lang/invoke/MethodHandle" ∧ yX6_hasSnapshot.cls ≠ "java/lang/invoke/VarHandle" ∧ (parseMethodDescriptor yX6_hasSnapshot.desc).map (fun d => d.parameters.length) = some 1 := by decide +kernel
def tX6_hasSnapshot : List (Nat × Instr × Nat) := [(0, .iload_n 1, 1), (1, .ifCond .lt 15, 3), (4, .iload_n 1, 1), (5, .aload_n 0, 1), (6, .getfield 42, 3), (9, .if_icmp .ge 7, 3), (12, .iconst 1, 1), (13, .goto 4, 3), (16, .iconst 0, 1), (17, .ireturn, 1)]
theorem DX6_hasSnapshot : ∀ q ∈ tX6_hasSnapshot, decode cX6_hasSnapshot q.1 = .ok (q.2.1, q.2.2) := by decide +kernel
abbrev wsX6_markOf : List Cond := Cond.code yX6_markOf cX6_markOf 2 (some .long) :: gW
theorem eX6_markOf : yX6_markOf.cls ≠ "java/lang/invoke/MethodHandle" ∧ yX6_markOf.cls ≠ "java/lang/invoke/VarHandle" ∧ (parseMethodDescriptor yX6_markOf.desc).map (fun d => d.parameters.length) = some 1 := by decide +kernel
def tX6_markOf : List (Nat × Instr × Nat) := [(0, .aload_n 0, 1), (1, .getfield 23, 3), (4, .iload_n 1, 1), (5, .invokevirtual 49, 3), (8, .lreturn, 1)]
theorem DX6_markOf : ∀ q ∈ tX6_markOf, decode cX6_markOf q.1 = .ok (q.2.1, q.2.2) := by decide +kernel
abbrev wsX6_generationOf : List Cond := Cond.code yX6_generationOf cX6_generationOf 2 (some .int) :: gW
theorem eX6_generationOf : yX6_generationOf.cls ≠ "java/lang/invoke/MethodHandle" ∧ yX6_generationOf.cls ≠ "java/lang/invoke/VarHandle" ∧ (parseMethodDescriptor yX6_generationOf.desc).map (fun d => d.parameters.length) = some 1 := by decide +kernel
def tX6_generationOf : List (Nat × Instr × Nat) := [(0, .aload_n 0, 1), (1, .getfield 30, 3), (4, .iload_n 1, 1), (5, .invokevirtual 53, 3), (8, .ireturn, 1)]
theorem DX6_generationOf : ∀ q ∈ tX6_generationOf, decode cX6_generationOf q.1 = .ok (q.2.1, q.2.2) := by decide +kernel
abbrev wsX6_settle : List Cond := Cond.code yX6_settle cX6_settle 1 none :: gW
theorem eX6_settle : yX6_settle.cls ≠ "java/lang/invoke/MethodHandle" ∧ yX6_settle.cls ≠ "java/lang/invoke/VarHandle" ∧ (parseMethodDescriptor yX6_settle.desc).map (fun d => d.parameters.length) = some 0 := by decide +kernel
def tX6_settle : List (Nat × Instr × Nat) := [(0, .aload_n 0, 1), (1, .getfield 12, 3), (4, .invokevirtual 56, 3), (7, .return_, 1)]
theorem DX6_settle : ∀ q ∈ tX6_settle, decode cX6_settle q.1 = .ok (q.2.1, q.2.2) := by decide +kernel
abbrev wsX6_readPlace : List Cond := Cond.code yX6_readPlace cX6_readPlace 4 (some .long) :: gW
theorem eX6_readPlace : yX6_readPlace.cls ≠ "java/lang/invoke/MethodHandle" ∧ yX6_readPlace.cls ≠ "java/lang/invoke/VarHandle" ∧ (parseMethodDescriptor yX6_readPlace.desc).map (fun d => d.parameters.length) = some 2 := by decide +kernel
def tX6_readPlace : List (Nat × Instr × Nat) := [(0, .aload_n 0, 1), (1, .getfield 12, 3), (4, .aload_n 0, 1), (5, .iload_n 1, 1), (6, .iload_n 2, 1), (7, .iconst 0, 1), (8, .invokevirtual 59, 3), (11, .invokevirtual 63, 3), (14, .istore_n 3, 1), (15, .iload_n 3, 1), (16, .iconst (-1), 1), (17, .if_icmp .ne 7, 3), (20, .lconst 0, 1), (21, .goto 11, 3), (24, .aload_n 0, 1), (25, .getfield 12, 3), (28, .iload_n 3, 1), (29, .invokevirtual 66, 3), (32, .lreturn, 1)]
theorem DX6_readPlace : ∀ q ∈ tX6_readPlace, decode cX6_readPlace q.1 = .ok (q.2.1, q.2.2) := by decide +kernel
abbrev wsX6_writePlace : List Cond := Cond.code yX6_writePlace cX6_writePlace 7 (some .boolean) :: gW
theorem eX6_writePlace : yX6_writePlace.cls ≠ "java/lang/invoke/MethodHandle" ∧ yX6_writePlace.cls ≠ "java/lang/invoke/VarHandle" ∧ (parseMethodDescriptor yX6_writePlace.desc).map (fun d => d.parameters.length) = some 3 := by decide +kernel
def tX6_writePlace : List (Nat × Instr × Nat) := [(0, .aload_n 0, 1), (1, .iload_n 1, 1), (2, .iload_n 2, 1), (3, .iconst 0, 1), (4, .invokevirtual 69, 3), (7, .aload_n 0, 1), (8, .getfield 12, 3), (11, .invokevirtual 72, 3), (14, .if_icmp .le 5, 3), (17, .iconst 0, 1), (18, .ireturn, 1), (19, .iload_n 1, 1), (20, .istore 5, 2), (22, .iconst 3, 1), (23, .istore 6, 2), (25, .iload 6, 2), (27, .ifCond .le 43, 3), (30, .aload_n 0, 1), (31, .getfield 12, 3), (34, .iload 5, 2), (36, .iload 6, 2), (38, .aload_n 0, 1), (39, .getfield 38, 3), (42, .invokevirtual 76, 3), (45, .aload_n 0, 1), (46, .getfield 12, 3), (49, .aload_n 0, 1), (50, .getfield 12, 3), (53, .iload 5, 2), (55, .invokevirtual 63, 3), (58, .iload_n 2, 1), (59, .invokevirtual 80, 3), (62, .istore 5, 2), (64, .iinc 6 (-1), 3), (67, .goto (-42), 3), (70, .aload_n 0, 1), (71, .getfield 12, 3), (74, .iload 5, 2), (76, .iconst 0, 1), (77, .aload_n 0, 1), (78, .getfield 38, 3), (81, .invokevirtual 76, 3), (84, .aload_n 0, 1), (85, .getfield 12, 3), (88, .aload_n 0, 1), (89, .getfield 12, 3), (92, .iload 5, 2), (94, .invokevirtual 63, 3), (97, .lload_n 3, 1), (98, .invokevirtual 84, 3), (101, .iconst 1, 1), (102, .ireturn, 1)]
theorem DX6_writePlace : ∀ q ∈ tX6_writePlace, decode cX6_writePlace q.1 = .ok (q.2.1, q.2.2) := by decide +kernel
abbrev wsX6_clearPlace : List Cond := Cond.code yX6_clearPlace cX6_clearPlace 5 (some .boolean) :: gW
theorem eX6_clearPlace : yX6_clearPlace.cls ≠ "java/lang/invoke/MethodHandle" ∧ yX6_clearPlace.cls ≠ "java/lang/invoke/VarHandle" ∧ (parseMethodDescriptor yX6_clearPlace.desc).map (fun d => d.parameters.length) = some 2 := by decide +kernel
def tX6_clearPlace : List (Nat × Instr × Nat) := [(0, .aload_n 0, 1), (1, .getfield 12, 3), (4, .aload_n 0, 1), (5, .iload_n 1, 1), (6, .iload_n 2, 1), (7, .iconst 0, 1), (8, .invokevirtual 59, 3), (11, .invokevirtual 63, 3), (14, .iconst (-1), 1), (15, .if_icmp .ne 5, 3), (18, .iconst 1, 1), (19, .ireturn, 1), (20, .aload_n 0, 1), (21, .iload_n 1, 1), (22, .iload_n 2, 1), (23, .iconst 1, 1), (24, .invokevirtual 69, 3), (27, .aload_n 0, 1), (28, .getfield 12, 3), (31, .invokevirtual 72, 3), (34, .if_icmp .le 5, 3), (37, .iconst 0, 1), (38, .ireturn, 1), (39, .iload_n 1, 1), (40, .istore_n 3, 1), (41, .iconst 3, 1), (42, .istore 4, 2), (44, .iload 4, 2), (46, .ifCond .le 40, 3), (49, .aload_n 0, 1), (50, .getfield 12, 3), (53, .iload_n 3, 1), (54, .iload 4, 2), (56, .aload_n 0, 1), (57, .getfield 38, 3), (60, .invokevirtual 76, 3), (63, .aload_n 0, 1), (64, .getfield 12, 3), (67, .aload_n 0, 1), (68, .getfield 12, 3), (71, .iload_n 3, 1), (72, .invokevirtual 63, 3), (75, .iload_n 2, 1), (76, .invokevirtual 80, 3), (79, .istore_n 3, 1), (80, .iinc 4 (-1), 3), (83, .goto (-39), 3), (86, .aload_n 0, 1), (87, .getfield 12, 3), (90, .iload_n 3, 1), (91, .iconst (-1), 1), (92, .aload_n 0, 1), (93, .getfield 38, 3), (96, .invokevirtual 88, 3), (99, .iconst 1, 1), (100, .istore 4, 2), (102, .iload 4, 2), (104, .iconst 3, 1), (105, .if_icmp .gt 21, 3), (108, .aload_n 0, 1), (109, .aload_n 0, 1), (110, .iload_n 1, 1), (111, .iload_n 2, 1), (112, .iload 4, 2), (114, .invokevirtual 59, 3), (117, .invokevirtual 91, 3), (120, .iinc 4 1, 3), (123, .goto (-21), 3), (126, .iconst 1, 1), (127, .ireturn, 1)]
theorem DX6_clearPlace : ∀ q ∈ tX6_clearPlace, decode cX6_clearPlace q.1 = .ok (q.2.1, q.2.2) := by decide +kernel
abbrev wsX6_makeHoleIfEmpty : List Cond := Cond.code yX6_makeHoleIfEmpty cX6_makeHoleIfEmpty 2 none :: gW
theorem eX6_makeHoleIfEmpty : yX6_makeHoleIfEmpty.cls ≠ "java/lang/invoke/MethodHandle" ∧ yX6_makeHoleIfEmpty.cls ≠ "java/lang/invoke/VarHandle" ∧ (parseMethodDescriptor yX6_makeHoleIfEmpty.desc).map (fun d => d.parameters.length) = some 1 := by decide +kernel
def tX6_makeHoleIfEmpty : List (Nat × Instr × Nat) := [(0, .aload_n 0, 1), (1, .getfield 12, 3), (4, .aload_n 0, 1), (5, .getfield 12, 3), (8, .iload_n 1, 1), (9, .invokevirtual 63, 3), (12, .invokevirtual 94, 3), (15, .ifCond .eq 16, 3), (18, .aload_n 0, 1), (19, .getfield 12, 3), (22, .iload_n 1, 1), (23, .iconst (-1), 1), (24, .aload_n 0, 1), (25, .getfield 38, 3), (28, .invokevirtual 88, 3), (31, .return_, 1)]
theorem DX6_makeHoleIfEmpty : ∀ q ∈ tX6_makeHoleIfEmpty, decode cX6_makeHoleIfEmpty q.1 = .ok (q.2.1, q.2.2) := by decide +kernel
abbrev wsX6_slotToLevel : List Cond := Cond.code yX6_slotToLevel cX6_slotToLevel 6 (some .int) :: gW
theorem eX6_slotToLevel : yX6_slotToLevel.cls ≠ "java/lang/invoke/MethodHandle" ∧ yX6_slotToLevel.cls ≠ "java/lang/invoke/VarHandle" ∧ (parseMethodDescriptor yX6_slotToLevel.desc).map (fun d => d.parameters.length) = some 3 := by decide +kernel
def tX6_slotToLevel : List (Nat × Instr × Nat) := [(0, .iload_n 1, 1), (1, .istore 4, 2), (3, .iconst 3, 1), (4, .istore 5, 2), (6, .iload 5, 2), (8, .iload_n 3, 1), (9, .if_icmp .le 28, 3), (12, .aload_n 0, 1), (13, .getfield 12, 3), (16, .aload_n 0, 1), (17, .getfield 12, 3), (20, .iload 4, 2), (22, .invokevirtual 63, 3), (25, .iload_n 2, 1), (26, .invokevirtual 80, 3), (29, .istore 4, 2), (31, .iinc 5 (-1), 3), (34, .goto (-28), 3), (37, .iload 4, 2), (39, .ireturn, 1)]
theorem DX6_slotToLevel : ∀ q ∈ tX6_slotToLevel, decode cX6_slotToLevel q.1 = .ok (q.2.1, q.2.2) := by decide +kernel
abbrev wsX6_newBlocksWanted : List Cond := Cond.code yX6_newBlocksWanted cX6_newBlocksWanted 7 (some .int) :: gW
theorem eX6_newBlocksWanted : yX6_newBlocksWanted.cls ≠ "java/lang/invoke/MethodHandle" ∧ yX6_newBlocksWanted.cls ≠ "java/lang/invoke/VarHandle" ∧ (parseMethodDescriptor yX6_newBlocksWanted.desc).map (fun d => d.parameters.length) = some 3 := by decide +kernel
def tX6_newBlocksWanted : List (Nat × Instr × Nat) := [(0, .iconst 0, 1), (1, .istore 4, 2), (3, .iload_n 1, 1), (4, .istore 5, 2), (6, .iconst 3, 1), (7, .istore 6, 2), (9, .iload 6, 2), (11, .iload_n 3, 1), (12, .if_icmp .lt 47, 3), (15, .aload_n 0, 1), (16, .getfield 12, 3), (19, .iload 5, 2), (21, .aload_n 0, 1), (22, .getfield 38, 3), (25, .invokevirtual 98, 3), (28, .ifCond .eq 6, 3), (31, .iinc 4 1, 3), (34, .aload_n 0, 1), (35, .getfield 12, 3), (38, .aload_n 0, 1), (39, .getfield 12, 3), (42, .iload 5, 2), (44, .invokevirtual 63, 3), (47, .iload_n 2, 1), (48, .invokevirtual 80, 3), (51, .istore 5, 2), (53, .iinc 6 (-1), 3), (56, .goto (-47), 3), (59, .iload 4, 2), (61, .ireturn, 1)]
theorem DX6_newBlocksWanted : ∀ q ∈ tX6_newBlocksWanted, decode cX6_newBlocksWanted q.1 = .ok (q.2.1, q.2.2) := by decide +kernel
abbrev wsX6_keepLive : List Cond := Cond.code yX6_keepLive cX6_keepLive 4 (some .int) :: gW
theorem eX6_keepLive : yX6_keepLive.cls ≠ "java/lang/invoke/MethodHandle" ∧ yX6_keepLive.cls ≠ "java/lang/invoke/VarHandle" ∧ (parseMethodDescriptor yX6_keepLive.desc).map (fun d => d.parameters.length) = some 1 := by decide +kernel
def tX6_keepLive : List (Nat × Instr × Nat) := [(0, .aload_n 0, 1), (1, .getfield 42, 3), (4, .istore_n 3, 1), (5, .aload_n 0, 1), (6, .getfield 12, 3), (9, .sipush 4802, 3), (12, .iload_n 3, 1), (13, .iadd, 1), (14, .aload_n 0, 1), (15, .getfield 12, 3), (18, .sipush 4800, 3), (21, .invokevirtual 63, 3), (24, .aload_n 0, 1), (25, .getfield 12, 3), (28, .sipush 4800, 3), (31, .invokevirtual 102, 3), (34, .invokevirtual 88, 3), (37, .aload_n 0, 1), (38, .getfield 23, 3), (41, .iload_n 3, 1), (42, .lload_n 1, 1), (43, .invokevirtual 105, 3), (46, .aload_n 0, 1), (47, .getfield 30, 3), (50, .iload_n 3, 1), (51, .aload_n 0, 1), (52, .getfield 38, 3), (55, .invokevirtual 108, 3), (58, .aload_n 0, 1), (59, .dup, 1), (60, .getfield 42, 3), (63, .iconst 1, 1), (64, .iadd, 1), (65, .putfield 42, 3), (68, .aload_n 0, 1), (69, .dup, 1), (70, .getfield 38, 3), (73, .iconst 1, 1), (74, .iadd, 1), (75, .putfield 38, 3), (78, .iload_n 3, 1), (79, .ireturn, 1)]
theorem DX6_keepLive : ∀ q ∈ tX6_keepLive, decode cX6_keepLive q.1 = .ok (q.2.1, q.2.2) := by decide +kernel
abbrev wsX6_dropSnapshot : List Cond := Cond.code yX6_dropSnapshot cX6_dropSnapshot 4 (some .int) :: gW
theorem eX6_dropSnapshot : yX6_dropSnapshot.cls ≠ "java/lang/invoke/MethodHandle" ∧ yX6_dropSnapshot.cls ≠ "java/lang/invoke/VarHandle" ∧ (parseMethodDescriptor yX6_dropSnapshot.desc).map (fun d => d.parameters.length) = some 1 := by decide +kernel
def tX6_dropSnapshot : List (Nat × Instr × Nat) := [(0, .aload_n 0, 1), (1, .dup, 1), (2, .getfield 42, 3), (5, .iconst 1, 1), (6, .isub, 1), (7, .putfield 42, 3), (10, .iload_n 1, 1), (11, .istore_n 2, 1), (12, .iload_n 2, 1), (13, .aload_n 0, 1), (14, .getfield 42, 3), (17, .if_icmp .ge 79, 3), (20, .sipush 4802, 3), (23, .iload_n 2, 1), (24, .iadd, 1), (25, .iconst 1, 1), (26, .iadd, 1), (27, .istore_n 3, 1), (28, .aload_n 0, 1), (29, .getfield 12, 3), (32, .iload_n 3, 1), (33, .iconst 1, 1), (34, .isub, 1), (35, .aload_n 0, 1), (36, .getfield 12, 3), (39, .iload_n 3, 1), (40, .invokevirtual 63, 3), (43, .aload_n 0, 1), (44, .getfield 12, 3), (47, .iload_n 3, 1), (48, .invokevirtual 102, 3), (51, .invokevirtual 88, 3), (54, .aload_n 0, 1), (55, .getfield 23, 3), (58, .iload_n 2, 1), (59, .aload_n 0, 1), (60, .getfield 23, 3), (63, .iload_n 2, 1), (64, .iconst 1, 1), (65, .iadd, 1), (66, .invokevirtual 49, 3), (69, .invokevirtual 105, 3), (72, .aload_n 0, 1), (73, .getfield 30, 3), (76, .iload_n 2, 1), (77, .aload_n 0, 1), (78, .getfield 30, 3), (81, .iload_n 2, 1), (82, .iconst 1, 1), (83, .iadd, 1), (84, .invokevirtual 53, 3), (87, .invokevirtual 108, 3), (90, .iinc 2 1, 3), (93, .goto (-81), 3), (96, .aload_n 0, 1), (97, .getfield 12, 3), (100, .sipush 4802, 3), (103, .aload_n 0, 1), (104, .getfield 42, 3), (107, .iadd, 1), (108, .iconst (-1), 1), (109, .iconst 0, 1), (110, .invokevirtual 88, 3), (113, .aload_n 0, 1), (114, .getfield 12, 3), (117, .invokevirtual 56, 3), (120, .aload_n 0, 1), (121, .getfield 42, 3), (124, .ireturn, 1)]
theorem DX6_dropSnapshot : ∀ q ∈ tX6_dropSnapshot, decode cX6_dropSnapshot q.1 = .ok (q.2.1, q.2.2) := by decide +kernel
abbrev wsX6_returnToLatest : List Cond := Cond.code yX6_returnToLatest cX6_returnToLatest 2 (some .int) :: gW
theorem eX6_returnToLatest : yX6_returnToLatest.cls ≠ "java/lang/invoke/MethodHandle" ∧ yX6_returnToLatest.cls ≠ "java/lang/invoke/VarHandle" ∧ (parseMethodDescriptor yX6_returnToLatest.desc).map (fun d => d.parameters.length) = some 0 := by decide +kernel
def tX6_returnToLatest : List (Nat × Instr × Nat) := [(0, .sipush 4802, 3), (3, .aload_n 0, 1), (4, .getfield 42, 3), (7, .iadd, 1), (8, .iconst 1, 1), (9, .isub, 1), (10, .istore_n 1, 1), (11, .aload_n 0, 1), (12, .getfield 12, 3), (15, .sipush 4800, 3), (18, .aload_n 0, 1), (19, .getfield 12, 3), (22, .iload_n 1, 1), (23, .invokevirtual 63, 3), (26, .aload_n 0, 1), (27, .getfield 12, 3), (30, .iload_n 1, 1), (31, .invokevirtual 102, 3), (34, .invokevirtual 88, 3), (37, .aload_n 0, 1), (38, .getfield 12, 3), (41, .invokevirtual 56, 3), (44, .aload_n 0, 1), (45, .getfield 42, 3), (48, .iconst 1, 1), (49, .isub, 1), (50, .ireturn, 1)]
theorem DX6_returnToLatest : ∀ q ∈ tX6_returnToLatest, decode cX6_returnToLatest q.1 = .ok (q.2.1, q.2.2) := by decide +kernel
abbrev wsX6_isLatest : List Cond := Cond.code yX6_isLatest cX6_isLatest 3 (some .boolean) :: gW
theorem eX6_isLatest : yX6_isLatest.cls ≠ "java/lang/invoke/MethodHandle" ∧ yX6_isLatest.cls ≠ "java/lang/invoke/VarHandle" ∧ (parseMethodDescriptor yX6_isLatest.desc).map (fun d => d.parameters.length) = some 1 := by decide +kernel
def tX6_isLatest : List (Nat × Instr × Nat) := [(0, .aload_n 0, 1), (1, .getfield 42, 3), (4, .ifCond .le 25, 3), (7, .aload_n 0, 1), (8, .getfield 23, 3), (11, .aload_n 0, 1), (12, .getfield 42, 3), (15, .iconst 1, 1), (16, .isub, 1), (17, .invokevirtual 49, 3), (20, .lload_n 1, 1), (21, .lcmp, 1), (22, .ifCond .ne 7, 3), (25, .iconst 1, 1), (26, .goto 4, 3), (29, .iconst 0, 1), (30, .ireturn, 1)]
theorem DX6_isLatest : ∀ q ∈ tX6_isLatest, decode cX6_isLatest q.1 = .ok (q.2.1, q.2.2) := by decide +kernel
abbrev wsX6_hasMark : List Cond := Cond.code yX6_hasMark cX6_hasMark 4 (some .boolean) :: gW
theorem eX6_hasMark : yX6_hasMark.cls ≠ "java/lang/invoke/MethodHandle" ∧ yX6_hasMark.cls ≠ "java/lang/invoke/VarHandle" ∧ (parseMethodDescriptor yX6_hasMark.desc).map (fun d => d.parameters.length) = some 1 := by decide +kernel
def tX6_hasMark : List (Nat × Instr × Nat) := [(0, .iconst 0, 1), (1, .istore_n 3, 1), (2, .iload_n 3, 1), (3, .aload_n 0, 1), (4, .getfield 42, 3), (7, .if_icmp .ge 24, 3), (10, .aload_n 0, 1), (11, .getfield 23, 3), (14, .iload_n 3, 1), (15, .invokevirtual 49, 3), (18, .lload_n 1, 1), (19, .lcmp, 1), (20, .ifCond .ne 5, 3), (23, .iconst 1, 1), (24, .ireturn, 1), (25, .iinc 3 1, 3), (28, .goto (-26), 3), (31, .iconst 0, 1), (32, .ireturn, 1)]
theorem DX6_hasMark : ∀ q ∈ tX6_hasMark, decode cX6_hasMark q.1 = .ok (q.2.1, q.2.2) := by decide +kernel
abbrev wsX6_isDirty : List Cond := Cond.code yX6_isDirty cX6_isDirty 2 (some .boolean) :: gW
theorem eX6_isDirty : yX6_isDirty.cls ≠ "java/lang/invoke/MethodHandle" ∧ yX6_isDirty.cls ≠ "java/lang/invoke/VarHandle" ∧ (parseMethodDescriptor yX6_isDirty.desc).map (fun d => d.parameters.length) = some 0 := by decide +kernel
def tX6_isDirty : List (Nat × Instr × Nat) := [(0, .aload_n 0, 1), (1, .getfield 42, 3), (4, .ifCond .ne 23, 3), (7, .aload_n 0, 1), (8, .getfield 12, 3), (11, .sipush 4800, 3), (14, .invokevirtual 63, 3), (17, .iconst (-1), 1), (18, .if_icmp .eq 7, 3), (21, .iconst 1, 1), (22, .goto 4, 3), (25, .iconst 0, 1), (26, .ireturn, 1), (27, .sipush 4802, 3), (30, .aload_n 0, 1), (31, .getfield 42, 3), (34, .iadd, 1), (35, .iconst 1, 1), (36, .isub, 1), (37, .istore_n 1, 1), (38, .aload_n 0, 1), (39, .getfield 12, 3), (42, .sipush 4800, 3), (45, .invokevirtual 63, 3), (48, .aload_n 0, 1), (49, .getfield 12, 3), (52, .iload_n 1, 1), (53, .invokevirtual 63, 3), (56, .if_icmp .ne 24, 3), (59, .aload_n 0, 1), (60, .getfield 12, 3), (63, .sipush 4800, 3), (66, .invokevirtual 102, 3), (69, .aload_n 0, 1), (70, .getfield 12, 3), (73, .iload_n 1, 1), (74, .invokevirtual 102, 3), (77, .if_icmp .eq 7, 3), (80, .iconst 1, 1), (81, .goto 4, 3), (84, .iconst 0, 1), (85, .ireturn, 1)]
theorem DX6_isDirty : ∀ q ∈ tX6_isDirty, decode cX6_isDirty q.1 = .ok (q.2.1, q.2.2) := by decide +kernel
abbrev wsX6_makeHidden : List Cond := Cond.code yX6_makeHidden cX6_makeHidden 1 none :: gW
theorem eX6_makeHidden : yX6_makeHidden.cls ≠ "java/lang/invoke/MethodHandle" ∧ yX6_makeHidden.cls ≠ "java/lang/invoke/VarHandle" ∧ (parseMethodDescriptor yX6_makeHidden.desc).map (fun d => d.parameters.length) = some 0 := by decide +kernel
def tX6_makeHidden : List (Nat × Instr × Nat) := [(0, .aload_n 0, 1), (1, .getfield 12, 3), (4, .sipush 4801, 3), (7, .aload_n 0, 1), (8, .getfield 12, 3), (11, .sipush 4800, 3), (14, .invokevirtual 63, 3), (17, .aload_n 0, 1), (18, .getfield 12, 3), (21, .sipush 4800, 3), (24, .invokevirtual 102, 3), (27, .invokevirtual 88, 3), (30, .aload_n 0, 1), (31, .iconst 1, 1), (32, .putfield 45, 3), (35, .return_, 1)]
theorem DX6_makeHidden : ∀ q ∈ tX6_makeHidden, decode cX6_makeHidden q.1 = .ok (q.2.1, q.2.2) := by decide +kernel
abbrev wsX6_dropHidden : List Cond := Cond.code yX6_dropHidden cX6_dropHidden 1 none :: gW
theorem eX6_dropHidden : yX6_dropHidden.cls ≠ "java/lang/invoke/MethodHandle" ∧ yX6_dropHidden.cls ≠ "java/lang/invoke/VarHandle" ∧ (parseMethodDescriptor yX6_dropHidden.desc).map (fun d => d.parameters.length) = some 0 := by decide +kernel
def tX6_dropHidden : List (Nat × Instr × Nat) := [(0, .aload_n 0, 1), (1, .getfield 12, 3), (4, .sipush 4801, 3), (7, .iconst (-1), 1), (8, .iconst 0, 1), (9, .invokevirtual 88, 3), (12, .aload_n 0, 1), (13, .getfield 12, 3), (16, .invokevirtual 56, 3), (19, .aload_n 0, 1), (20, .iconst 0, 1), (21, .putfield 45, 3), (24, .return_, 1)]
theorem DX6_dropHidden : ∀ q ∈ tX6_dropHidden, decode cX6_dropHidden q.1 = .ok (q.2.1, q.2.2) := by decide +kernel
abbrev wsX6_keepHidden : List Cond := Cond.code yX6_keepHidden cX6_keepHidden 3 none :: gW
theorem eX6_keepHidden : yX6_keepHidden.cls ≠ "java/lang/invoke/MethodHandle" ∧ yX6_keepHidden.cls ≠ "java/lang/invoke/VarHandle" ∧ (parseMethodDescriptor yX6_keepHidden.desc).map (fun d => d.parameters.length) = some 1 := by decide +kernel
def tX6_keepHidden : List (Nat × Instr × Nat) := [(0, .aload_n 0, 1), (1, .getfield 12, 3), (4, .sipush 4800, 3), (7, .aload_n 0, 1), (8, .getfield 12, 3), (11, .sipush 4801, 3), (14, .invokevirtual 63, 3), (17, .aload_n 0, 1), (18, .getfield 12, 3), (21, .sipush 4801, 3), (24, .invokevirtual 102, 3), (27, .invokevirtual 88, 3), (30, .aload_n 0, 1), (31, .lload_n 1, 1), (32, .invokevirtual 111, 3), (35, .pop, 1), (36, .aload_n 0, 1), (37, .getfield 12, 3), (40, .sipush 4801, 3), (43, .iconst (-1), 1), (44, .iconst 0, 1), (45, .invokevirtual 88, 3), (48, .aload_n 0, 1), (49, .iconst 0, 1), (50, .putfield 45, 3), (53, .return_, 1)]
theorem DX6_keepHidden : ∀ q ∈ tX6_keepHidden, decode cX6_keepHidden q.1 = .ok (q.2.1, q.2.2) := by decide +kernel
abbrev wsX7_init : List Cond := Cond.code yX7_init cX7_init 1 none :: gW
theorem eX7_init : yX7_init.cls ≠ "java/lang/invoke/MethodHandle" ∧ yX7_init.cls ≠ "java/lang/invoke/VarHandle" ∧ (parseMethodDescriptor yX7_init.desc).map (fun d => d.parameters.length) = some 0 := by decide +kernel
def tX7_init : List (Nat × Instr × Nat) := [(0, .aload_n 0, 1), (1, .invokespecial 3, 3), (4, .aload_n 0, 1), (5, .new 9, 3), (8, .dup, 1), (9, .invokespecial 11, 3), (12, .putfield 12, 3), (15, .aload_n 0, 1), (16, .new 16, 3), (19, .dup, 1), (20, .aload_n 0, 1), (21, .getfield 12, 3), (24, .invokespecial 18, 3), (27, .putfield 21, 3), (30, .aload_n 0, 1), (31, .new 25, 3), (34, .dup, 1), (35, .invokespecial 27, 3), (38, .putfield 28, 3), (41, .aload_n 0, 1), (42, .new 25, 3), (45, .dup, 1), (46, .invokespecial 27, 3), (49, .putfield 32, 3), (52, .aload_n 0, 1), (53, .new 35, 3), (56, .dup, 1), (57, .aload_n 0, 1), (58, .getfield 28, 3), (61, .aload_n 0, 1), (62, .getfield 12, 3), (65, .invokespecial 37, 3), (68, .putfield 40, 3), (71, .aload_n 0, 1), (72, .new 35, 3), (75, .dup, 1), (76, .aload_n 0, 1), (77, .getfield 32, 3), (80, .aload_n 0, 1), (81, .getfield 12, 3), (84, .invokespecial 37, 3), (87, .putfield 44, 3), (90, .aload_n 0, 1), (91, .lconst 1, 1), (92, .putfield 47, 3), (95, .return_, 1)]
theorem DX7_init : ∀ q ∈ tX7_init, decode cX7_init q.1 = .ok (q.2.1, q.2.2) := by decide +kernel
abbrev wsX7_format : List Cond := Cond.code yX7_format cX7_format 4 none :: gW
theorem eX7_format : yX7_format.cls ≠ "java/lang/invoke/MethodHandle" ∧ yX7_format.cls ≠ "java/lang/invoke/VarHandle" ∧ (parseMethodDescriptor yX7_format.desc).map (fun d => d.parameters.length) = some 2 := by decide +kernel
def tX7_format : List (Nat × Instr × Nat) := [(0, .aload_n 0, 1), (1, .iload_n 1, 1), (2, .invokevirtual 51, 3), (5, .astore_n 3, 1), (6, .aload_n 3, 1), (7, .ifnull 15, 3), (10, .iload_n 2, 1), (11, .iconst 4, 1), (12, .if_icmp .lt 10, 3), (15, .iload_n 2, 1), (16, .sipush 600, 3), (19, .if_icmp .le 11, 3), (22, .new 55, 3), (25, .dup, 1), (26, .invokespecial 57, 3), (29, .athrow, 1), (30, .aload_n 3, 1), (31, .iload_n 2, 1), (32, .invokevirtual 58, 3), (35, .aload_n 0, 1), (36, .iload_n 1, 1), (37, .invokevirtual 62, 3), (40, .invokevirtual 66, 3), (43, .return_, 1)]
theorem DX7_format : ∀ q ∈ tX7_format, decode cX7_format q.1 = .ok (q.2.1, q.2.2) := by decide +kernel
abbrev wsX7_write : List Cond := Cond.code yX7_write cX7_write 7 (some .int) :: gW
theorem eX7_write : yX7_write.cls ≠ "java/lang/invoke/MethodHandle" ∧ yX7_write.cls ≠ "java/lang/invoke/VarHandle" ∧ (parseMethodDescriptor yX7_write.desc).map (fun d => d.parameters.length) = some 3 := by decide +kernel
def tX7_write : List (Nat × Instr × Nat) := [(0, .aload_n 0, 1), (1, .iload_n 1, 1), (2, .invokevirtual 51, 3), (5, .astore 5, 2), (7, .aload 5, 2), (9, .ifnull 10, 3), (12, .iload_n 2, 1), (13, .invokestatic 69, 3), (16, .ifCond .ne 11, 3), (19, .new 55, 3), (22, .dup, 1), (23, .invokespecial 57, 3), (26, .athrow, 1), (27, .aload 5, 2), (29, .invokevirtual 73, 3), (32, .ifCond .eq 6, 3), (35, .bipush 6, 2), (37, .ireturn, 1), (38, .aload 5, 2), (40, .sipush 4800, 3), (43, .iload_n 2, 1), (44, .lload_n 3, 1), (45, .invokevirtual 77, 3), (48, .istore 6, 2), (50, .aload 5, 2), (52, .invokevirtual 81, 3), (55, .iload 6, 2), (57, .ifCond .eq 7, 3), (60, .iconst 0, 1), (61, .goto 4, 3), (64, .iconst 5, 1), (65, .ireturn, 1)]
theorem DX7_write : ∀ q ∈ tX7_write, decode cX7_write q.1 = .ok (q.2.1, q.2.2) := by decide +kernel
abbrev wsX7_clear : List Cond := Cond.code yX7_clear cX7_clear 5 (some .int) :: gW
theorem eX7_clear : yX7_clear.cls ≠ "java/lang/invoke/MethodHandle" ∧ yX7_clear.cls ≠ "java/lang/invoke/VarHandle" ∧ (parseMethodDescriptor yX7_clear.desc).map (fun d => d.parameters.length) = some 2 := by decide +kernel
def tX7_clear : List (Nat × Instr × Nat) := [(0, .aload_n 0, 1), (1, .iload_n 1, 1), (2, .invokevirtual 51, 3), (5, .astore_n 3, 1), (6, .aload_n 3, 1), (7, .ifnull 10, 3), (10, .iload_n 2, 1), (11, .invokestatic 69, 3), (14, .ifCond .ne 11, 3), (17, .new 55, 3), (20, .dup, 1), (21, .invokespecial 57, 3), (24, .athrow, 1), (25, .aload_n 3, 1), (26, .invokevirtual 73, 3), (29, .ifCond .eq 6, 3), (32, .bipush 6, 2), (34, .ireturn, 1), (35, .aload_n 3, 1), (36, .sipush 4800, 3), (39, .iload_n 2, 1), (40, .invokevirtual 84, 3), (43, .istore 4, 2), (45, .aload_n 3, 1), (46, .invokevirtual 81, 3), (49, .iload 4, 2), (51, .ifCond .eq 7, 3), (54, .iconst 0, 1), (55, .goto 4, 3), (58, .iconst 5, 1), (59, .ireturn, 1)]
theorem DX7_clear : ∀ q ∈ tX7_clear, decode cX7_clear q.1 = .ok (q.2.1, q.2.2) := by decide +kernel
abbrev wsX7_read : List Cond := Cond.code yX7_read cX7_read 5 (some .long) :: gW
theorem eX7_read : yX7_read.cls ≠ "java/lang/invoke/MethodHandle" ∧ yX7_read.cls ≠ "java/lang/invoke/VarHandle" ∧ (parseMethodDescriptor yX7_read.desc).map (fun d => d.parameters.length) = some 3 := by decide +kernel
def tX7_read : List (Nat × Instr × Nat) := [(0, .aload_n 0, 1), (1, .iload_n 1, 1), (2, .invokevirtual 51, 3), (5, .astore 4, 2), (7, .aload 4, 2), (9, .ifnull 10, 3), (12, .iload_n 3, 1), (13, .invokestatic 69, 3), (16, .ifCond .ne 11, 3), (19, .new 55, 3), (22, .dup, 1), (23, .invokespecial 57, 3), (26, .athrow, 1), (27, .iload_n 2, 1), (28, .iconst (-1), 1), (29, .if_icmp .eq 20, 3), (32, .aload 4, 2), (34, .iload_n 2, 1), (35, .invokevirtual 88, 3), (38, .ifCond .ne 11, 3), (41, .new 91, 3), (44, .dup, 1), (45, .invokespecial 93, 3), (48, .athrow, 1), (49, .aload 4, 2), (51, .iload_n 2, 1), (52, .iconst (-1), 1), (53, .if_icmp .ne 9, 3), (56, .sipush 4800, 3), (59, .goto 8, 3), (62, .sipush 4802, 3), (65, .iload_n 2, 1), (66, .iadd, 1), (67, .iload_n 3, 1), (68, .invokevirtual 94, 3), (71, .lreturn, 1)]
theorem DX7_read : ∀ q ∈ tX7_read, decode cX7_read q.1 = .ok (q.2.1, q.2.2) := by decide +kernel
abbrev wsX7_snapshot : List Cond := Cond.code yX7_snapshot cX7_snapshot 4 (some .int) :: gW
theorem eX7_snapshot : yX7_snapshot.cls ≠ "java/lang/invoke/MethodHandle" ∧ yX7_snapshot.cls ≠ "java/lang/invoke/VarHandle" ∧ (parseMethodDescriptor yX7_snapshot.desc).map (fun d => d.parameters.length) = some 1 := by decide +kernel
def tX7_snapshot : List (Nat × Instr × Nat) := [(0, .aload_n 0, 1), (1, .iload_n 1, 1), (2, .invokevirtual 51, 3), (5, .astore_n 2, 1), (6, .aload_n 2, 1), (7, .ifnonnull 11, 3), (10, .new 55, 3), (13, .dup, 1), (14, .invokespecial 57, 3), (17, .athrow, 1), (18, .aload_n 2, 1), (19, .invokevirtual 73, 3), (22, .ifCond .eq 11, 3), (25, .new 98, 3), (28, .dup, 1), (29, .invokespecial 100, 3), (32, .athrow, 1), (33, .aload_n 2, 1), (34, .invokevirtual 101, 3), (37, .bipush 20, 2), (39, .if_icmp .lt 11, 3), (42, .new 105, 3), (45, .dup, 1), (46, .invokespecial 107, 3), (49, .athrow, 1), (50, .aload_n 2, 1), (51, .aload_n 0, 1), (52, .getfield 47, 3), (55, .invokevirtual 108, 3), (58, .istore_n 3, 1), (59, .aload_n 0, 1), (60, .dup, 1), (61, .getfield 47, 3), (64, .lconst 1, 1), (65, .ladd, 1), (66, .putfield 47, 3), (69, .iload_n 3, 1), (70, .ireturn, 1)]
theorem DX7_snapshot : ∀ q ∈ tX7_snapshot, decode cX7_snapshot q.1 = .ok (q.2.1, q.2.2) := by decide +kernel
abbrev wsX7_destroy : List Cond := Cond.code yX7_destroy cX7_destroy 4 (some .int) :: gW
theorem eX7_destroy : yX7_destroy.cls ≠ "java/lang/invoke/MethodHandle" ∧ yX7_destroy.cls ≠ "java/lang/invoke/VarHandle" ∧ (parseMethodDescriptor yX7_destroy.desc).map (fun d => d.parameters.length) = some 2 := by decide +kernel
def tX7_destroy : List (Nat × Instr × Nat) := [(0, .aload_n 0, 1), (1, .iload_n 1, 1), (2, .invokevirtual 51, 3), (5, .astore_n 3, 1), (6, .aload_n 3, 1), (7, .ifnonnull 11, 3), (10, .new 55, 3), (13, .dup, 1), (14, .invokespecial 57, 3), (17, .athrow, 1), (18, .aload_n 3, 1), (19, .invokevirtual 73, 3), (22, .ifCond .eq 11, 3), (25, .new 98, 3), (28, .dup, 1), (29, .invokespecial 100, 3), (32, .athrow, 1), (33, .aload_n 3, 1), (34, .iload_n 2, 1), (35, .invokevirtual 88, 3), (38, .ifCond .ne 11, 3), (41, .new 91, 3), (44, .dup, 1), (45, .invokespecial 93, 3), (48, .athrow, 1), (49, .aload_n 3, 1), (50, .iload_n 2, 1), (51, .invokevirtual 112, 3), (54, .ireturn, 1)]
theorem DX7_destroy : ∀ q ∈ tX7_destroy, decode cX7_destroy q.1 = .ok (q.2.1, q.2.2) := by decide +kernel
abbrev wsX7_rollback : List Cond := Cond.code yX7_rollback cX7_rollback 3 (some .int) :: gW
theorem eX7_rollback : yX7_rollback.cls ≠ "java/lang/invoke/MethodHandle" ∧ yX7_rollback.cls ≠ "java/lang/invoke/VarHandle" ∧ (parseMethodDescriptor yX7_rollback.desc).map (fun d => d.parameters.length) = some 1 := by decide +kernel
def tX7_rollback : List (Nat × Instr × Nat) := [(0, .aload_n 0, 1), (1, .iload_n 1, 1), (2, .invokevirtual 51, 3), (5, .astore_n 2, 1), (6, .aload_n 2, 1), (7, .ifnonnull 11, 3), (10, .new 55, 3), (13, .dup, 1), (14, .invokespecial 57, 3), (17, .athrow, 1), (18, .aload_n 2, 1), (19, .invokevirtual 73, 3), (22, .ifCond .eq 11, 3), (25, .new 98, 3), (28, .dup, 1), (29, .invokespecial 100, 3), (32, .athrow, 1), (33, .aload_n 2, 1), (34, .invokevirtual 101, 3), (37, .ifCond .ne 11, 3), (40, .new 91, 3), (43, .dup, 1), (44, .invokespecial 93, 3), (47, .athrow, 1), (48, .aload_n 2, 1), (49, .invokevirtual 116, 3), (52, .ireturn, 1)]
theorem DX7_rollback : ∀ q ∈ tX7_rollback, decode cX7_rollback q.1 = .ok (q.2.1, q.2.2) := by decide +kernel
abbrev wsX7_send : List Cond := Cond.code yX7_send cX7_send 5 (some .int) :: gW
theorem eX7_send : yX7_send.cls ≠ "java/lang/invoke/MethodHandle" ∧ yX7_send.cls ≠ "java/lang/invoke/VarHandle" ∧ (parseMethodDescriptor yX7_send.desc).map (fun d => d.parameters.length) = some 3 := by decide +kernel
def tX7_send : List (Nat × Instr × Nat) := [(0, .aload_n 0, 1), (1, .iload_n 1, 1), (2, .invokevirtual 51, 3), (5, .astore 4, 2), (7, .aload 4, 2), (9, .ifnonnull 11, 3), (12, .new 55, 3), (15, .dup, 1), (16, .invokespecial 57, 3), (19, .athrow, 1), (20, .aload 4, 2), (22, .iload_n 3, 1), (23, .invokevirtual 88, 3), (26, .ifCond .ne 11, 3), (29, .new 91, 3), (32, .dup, 1), (33, .invokespecial 93, 3), (36, .athrow, 1), (37, .iload_n 2, 1), (38, .iconst (-1), 1), (39, .if_icmp .eq 20, 3), (42, .iload_n 2, 1), (43, .ifCond .lt 8, 3), (46, .iload_n 2, 1), (47, .iload_n 3, 1), (48, .if_icmp .lt 11, 3), (51, .new 98, 3), (54, .dup, 1), (55, .invokespecial 100, 3), (58, .athrow, 1), (59, .aload_n 0, 1), (60, .getfield 21, 3), (63, .aload 4, 2), (65, .iload_n 2, 1), (66, .iload_n 3, 1), (67, .invokevirtual 119, 3), (70, .aload_n 0, 1), (71, .getfield 12, 3), (74, .invokevirtual 123, 3), (77, .ireturn, 1)]
theorem DX7_send : ∀ q ∈ tX7_send, decode cX7_send q.1 = .ok (q.2.1, q.2.2) := by decide +kernel
abbrev wsX7_receive : List Cond := Cond.code yX7_receive cX7_receive 2 (some .int) :: gW
theorem eX7_receive : yX7_receive.cls ≠ "java/lang/invoke/MethodHandle" ∧ yX7_receive.cls ≠ "java/lang/invoke/VarHandle" ∧ (parseMethodDescriptor yX7_receive.desc).map (fun d => d.parameters.length) = some 1 := by decide +kernel
def tX7_receive : List (Nat × Instr × Nat) := [(0, .aload_n 0, 1), (1, .iload_n 1, 1), (2, .invokevirtual 51, 3), (5, .ifnonnull 11, 3), (8, .new 55, 3), (11, .dup, 1), (12, .invokespecial 57, 3), (15, .athrow, 1), (16, .aload_n 0, 1), (17, .iload_n 1, 1), (18, .invokevirtual 62, 3), (21, .invokevirtual 126, 3), (24, .ireturn, 1)]
theorem DX7_receive : ∀ q ∈ tX7_receive, decode cX7_receive q.1 = .ok (q.2.1, q.2.2) := by decide +kernel
abbrev wsX7_step : List Cond := Cond.code yX7_step cX7_step 4 (some .int) :: gW
theorem eX7_step : yX7_step.cls ≠ "java/lang/invoke/MethodHandle" ∧ yX7_step.cls ≠ "java/lang/invoke/VarHandle" ∧ (parseMethodDescriptor yX7_step.desc).map (fun d => d.parameters.length) = some 2 := by decide +kernel
def tX7_step : List (Nat × Instr × Nat) := [(0, .aload_n 0, 1), (1, .iload_n 1, 1), (2, .invokevirtual 51, 3), (5, .astore_n 3, 1), (6, .aload_n 3, 1), (7, .ifnull 8, 3), (10, .iload_n 2, 1), (11, .iconst 1, 1), (12, .if_icmp .ge 11, 3), (15, .new 55, 3), (18, .dup, 1), (19, .invokespecial 57, 3), (22, .athrow, 1), (23, .aload_n 3, 1), (24, .invokevirtual 73, 3), (27, .ifCond .ne 11, 3), (30, .new 98, 3), (33, .dup, 1), (34, .invokespecial 100, 3), (37, .athrow, 1), (38, .aload_n 0, 1), (39, .iload_n 1, 1), (40, .invokevirtual 62, 3), (43, .iload_n 2, 1), (44, .invokevirtual 129, 3), (47, .ireturn, 1)]
theorem DX7_step : ∀ q ∈ tX7_step, decode cX7_step q.1 = .ok (q.2.1, q.2.2) := by decide +kernel
abbrev wsX7_crash : List Cond := Cond.code yX7_crash cX7_crash 4 (some .boolean) :: gW
theorem eX7_crash : yX7_crash.cls ≠ "java/lang/invoke/MethodHandle" ∧ yX7_crash.cls ≠ "java/lang/invoke/VarHandle" ∧ (parseMethodDescriptor yX7_crash.desc).map (fun d => d.parameters.length) = some 1 := by decide +kernel
def tX7_crash : List (Nat × Instr × Nat) := [(0, .aload_n 0, 1), (1, .iload_n 1, 1), (2, .invokevirtual 51, 3), (5, .astore_n 2, 1), (6, .aload_n 2, 1), (7, .ifnonnull 11, 3), (10, .new 55, 3), (13, .dup, 1), (14, .invokespecial 57, 3), (17, .athrow, 1), (18, .aload_n 2, 1), (19, .invokevirtual 73, 3), (22, .istore_n 3, 1), (23, .aload_n 2, 1), (24, .invokevirtual 132, 3), (27, .iload_n 3, 1), (28, .ireturn, 1)]
theorem DX7_crash : ∀ q ∈ tX7_crash, decode cX7_crash q.1 = .ok (q.2.1, q.2.2) := by decide +kernel
abbrev wsX7_stream : List Cond := Cond.code yX7_stream cX7_stream 2 (some .int) :: gW
theorem eX7_stream : yX7_stream.cls ≠ "java/lang/invoke/MethodHandle" ∧ yX7_stream.cls ≠ "java/lang/invoke/VarHandle" ∧ (parseMethodDescriptor yX7_stream.desc).map (fun d => d.parameters.length) = some 1 := by decide +kernel
def tX7_stream : List (Nat × Instr × Nat) := [(0, .aload_n 0, 1), (1, .getfield 12, 3), (4, .iload_n 1, 1), (5, .invokevirtual 135, 3), (8, .ireturn, 1)]
theorem DX7_stream : ∀ q ∈ tX7_stream, decode cX7_stream q.1 = .ok (q.2.1, q.2.2) := by decide +kernel
abbrev wsX7_patch : List Cond := Cond.code yX7_patch cX7_patch 4 (some .int) :: gW
theorem eX7_patch : yX7_patch.cls ≠ "java/lang/invoke/MethodHandle" ∧ yX7_patch.cls ≠ "java/lang/invoke/VarHandle" ∧ (parseMethodDescriptor yX7_patch.desc).map (fun d => d.parameters.length) = some 2 := by decide +kernel
def tX7_patch : List (Nat × Instr × Nat) := [(0, .iload_n 1, 1), (1, .ifCond .lt 14, 3), (4, .iload_n 1, 1), (5, .aload_n 0, 1), (6, .getfield 12, 3), (9, .invokevirtual 123, 3), (12, .if_icmp .lt 11, 3), (15, .new 91, 3), (18, .dup, 1), (19, .invokespecial 93, 3), (22, .athrow, 1), (23, .aload_n 0, 1), (24, .getfield 12, 3), (27, .iload_n 1, 1), (28, .invokevirtual 135, 3), (31, .istore_n 3, 1), (32, .aload_n 0, 1), (33, .getfield 12, 3), (36, .iload_n 1, 1), (37, .iload_n 2, 1), (38, .invokevirtual 138, 3), (41, .iload_n 3, 1), (42, .ireturn, 1)]
theorem DX7_patch : ∀ q ∈ tX7_patch, decode cX7_patch q.1 = .ok (q.2.1, q.2.2) := by decide +kernel
abbrev wsX7_cut : List Cond := Cond.code yX7_cut cX7_cut 2 none :: gW
theorem eX7_cut : yX7_cut.cls ≠ "java/lang/invoke/MethodHandle" ∧ yX7_cut.cls ≠ "java/lang/invoke/VarHandle" ∧ (parseMethodDescriptor yX7_cut.desc).map (fun d => d.parameters.length) = some 1 := by decide +kernel
def tX7_cut : List (Nat × Instr × Nat) := [(0, .iload_n 1, 1), (1, .ifCond .lt 14, 3), (4, .iload_n 1, 1), (5, .aload_n 0, 1), (6, .getfield 12, 3), (9, .invokevirtual 123, 3), (12, .if_icmp .le 11, 3), (15, .new 55, 3), (18, .dup, 1), (19, .invokespecial 57, 3), (22, .athrow, 1), (23, .aload_n 0, 1), (24, .getfield 12, 3), (27, .iload_n 1, 1), (28, .invokevirtual 142, 3), (31, .return_, 1)]
theorem DX7_cut : ∀ q ∈ tX7_cut, decode cX7_cut q.1 = .ok (q.2.1, q.2.2) := by decide +kernel
abbrev wsX7_snap : List Cond := Cond.code yX7_snap cX7_snap 5 (some .long) :: gW
theorem eX7_snap : yX7_snap.cls ≠ "java/lang/invoke/MethodHandle" ∧ yX7_snap.cls ≠ "java/lang/invoke/VarHandle" ∧ (parseMethodDescriptor yX7_snap.desc).map (fun d => d.parameters.length) = some 3 := by decide +kernel
def tX7_snap : List (Nat × Instr × Nat) := [(0, .aload_n 0, 1), (1, .iload_n 1, 1), (2, .invokevirtual 51, 3), (5, .astore 4, 2), (7, .aload 4, 2), (9, .ifnull 12, 3), (12, .aload 4, 2), (14, .iload_n 2, 1), (15, .invokevirtual 88, 3), (18, .ifCond .ne 7, 3), (21, .ldc2_w 145, 3), (24, .lreturn, 1), (25, .iload_n 3, 1), (26, .tableswitch 75 0 3 #[30, 37, 45, 60], 30), (56, .aload 4, 2), (58, .iload_n 2, 1), (59, .invokevirtual 147, 3), (62, .lreturn, 1), (63, .aload 4, 2), (65, .iload_n 2, 1), (66, .invokevirtual 151, 3), (69, .i2l, 1), (70, .lreturn, 1), (71, .aload 4, 2), (73, .invokevirtual 154, 3), (76, .sipush 4802, 3), (79, .iload_n 2, 1), (80, .iadd, 1), (81, .invokevirtual 158, 3), (84, .i2l, 1), (85, .lreturn, 1), (86, .aload 4, 2), (88, .invokevirtual 154, 3), (91, .sipush 4802, 3), (94, .iload_n 2, 1), (95, .iadd, 1), (96, .invokevirtual 163, 3), (99, .i2l, 1), (100, .lreturn, 1), (101, .ldc2_w 145, 3), (104, .lreturn, 1)]
theorem DX7_snap : ∀ q ∈ tX7_snap, decode cX7_snap q.1 = .ok (q.2.1, q.2.2) := by decide +kernel
abbrev wsX7_block : List Cond := Cond.code yX7_block cX7_block 5 (some .int) :: gW
theorem eX7_block : yX7_block.cls ≠ "java/lang/invoke/MethodHandle" ∧ yX7_block.cls ≠ "java/lang/invoke/VarHandle" ∧ (parseMethodDescriptor yX7_block.desc).map (fun d => d.parameters.length) = some 3 := by decide +kernel
def tX7_block : List (Nat × Instr × Nat) := [(0, .aload_n 0, 1), (1, .iload_n 1, 1), (2, .invokevirtual 51, 3), (5, .astore 4, 2), (7, .aload 4, 2), (9, .ifnull 15, 3), (12, .aload 4, 2), (14, .invokevirtual 154, 3), (17, .iload_n 2, 1), (18, .invokevirtual 166, 3), (21, .ifCond .ne 5, 3), (24, .iconst (-1), 1), (25, .ireturn, 1), (26, .iload_n 3, 1), (27, .tableswitch 55 0 2 #[25, 35, 45], 25), (52, .aload 4, 2), (54, .invokevirtual 154, 3), (57, .iload_n 2, 1), (58, .invokevirtual 169, 3), (61, .ireturn, 1), (62, .aload 4, 2), (64, .invokevirtual 154, 3), (67, .iload_n 2, 1), (68, .invokevirtual 172, 3), (71, .ireturn, 1), (72, .aload 4, 2), (74, .invokevirtual 154, 3), (77, .iload_n 2, 1), (78, .invokevirtual 175, 3), (81, .ireturn, 1), (82, .iconst (-1), 1), (83, .ireturn, 1)]
theorem DX7_block : ∀ q ∈ tX7_block, decode cX7_block q.1 = .ok (q.2.1, q.2.2) := by decide +kernel
abbrev wsX7_pointer : List Cond := Cond.code yX7_pointer cX7_pointer 6 (some .int) :: gW
theorem eX7_pointer : yX7_pointer.cls ≠ "java/lang/invoke/MethodHandle" ∧ yX7_pointer.cls ≠ "java/lang/invoke/VarHandle" ∧ (parseMethodDescriptor yX7_pointer.desc).map (fun d => d.parameters.length) = some 4 := by decide +kernel
def tX7_pointer : List (Nat × Instr × Nat) := [(0, .aload_n 0, 1), (1, .iload_n 1, 1), (2, .invokevirtual 51, 3), (5, .astore 5, 2), (7, .aload 5, 2), (9, .ifnull 25, 3), (12, .aload 5, 2), (14, .invokevirtual 154, 3), (17, .iload_n 2, 1), (18, .invokevirtual 166, 3), (21, .ifCond .eq 13, 3), (24, .iload_n 3, 1), (25, .ifCond .lt 9, 3), (28, .iload_n 3, 1), (29, .bipush 8, 2), (31, .if_icmp .lt 5, 3), (34, .iconst (-1), 1), (35, .ireturn, 1), (36, .aload 5, 2), (38, .invokevirtual 154, 3), (41, .iload_n 2, 1), (42, .invokevirtual 169, 3), (45, .iconst 1, 1), (46, .if_icmp .ge 5, 3), (49, .iconst (-1), 1), (50, .ireturn, 1), (51, .iload 4, 2), (53, .lookupswitch 57 #[(0, 27), (1, 42)], 27), (80, .aload 5, 2), (82, .invokevirtual 154, 3), (85, .iload_n 2, 1), (86, .bipush 8, 2), (88, .imul, 1), (89, .iload_n 3, 1), (90, .iadd, 1), (91, .invokevirtual 158, 3), (94, .ireturn, 1), (95, .aload 5, 2), (97, .invokevirtual 154, 3), (100, .iload_n 2, 1), (101, .bipush 8, 2), (103, .imul, 1), (104, .iload_n 3, 1), (105, .iadd, 1), (106, .invokevirtual 163, 3), (109, .ireturn, 1), (110, .iconst (-1), 1), (111, .ireturn, 1)]
theorem DX7_pointer : ∀ q ∈ tX7_pointer, decode cX7_pointer q.1 = .ok (q.2.1, q.2.2) := by decide +kernel
abbrev wsX7_data : List Cond := Cond.code yX7_data cX7_data 4 (some .long) :: gW
theorem eX7_data : yX7_data.cls ≠ "java/lang/invoke/MethodHandle" ∧ yX7_data.cls ≠ "java/lang/invoke/VarHandle" ∧ (parseMethodDescriptor yX7_data.desc).map (fun d => d.parameters.length) = some 2 := by decide +kernel
def tX7_data : List (Nat × Instr × Nat) := [(0, .aload_n 0, 1), (1, .iload_n 1, 1), (2, .invokevirtual 51, 3), (5, .astore_n 3, 1), (6, .aload_n 3, 1), (7, .ifnull 25, 3), (10, .aload_n 3, 1), (11, .invokevirtual 154, 3), (14, .iload_n 2, 1), (15, .invokevirtual 166, 3), (18, .ifCond .eq 14, 3), (21, .aload_n 3, 1), (22, .invokevirtual 154, 3), (25, .iload_n 2, 1), (26, .invokevirtual 169, 3), (29, .ifCond .eq 5, 3), (32, .lconst 0, 1), (33, .lreturn, 1), (34, .aload_n 3, 1), (35, .invokevirtual 154, 3), (38, .iload_n 2, 1), (39, .invokevirtual 178, 3), (42, .lreturn, 1)]
theorem DX7_data : ∀ q ∈ tX7_data, decode cX7_data q.1 = .ok (q.2.1, q.2.2) := by decide +kernel
abbrev wsX7_look : List Cond := Cond.code yX7_look cX7_look 4 (some .int) :: gW
theorem eX7_look : yX7_look.cls ≠ "java/lang/invoke/MethodHandle" ∧ yX7_look.cls ≠ "java/lang/invoke/VarHandle" ∧ (parseMethodDescriptor yX7_look.desc).map (fun d => d.parameters.length) = some 2 := by decide +kernel
def tX7_look : List (Nat × Instr × Nat) := [(0, .aload_n 0, 1), (1, .iload_n 1, 1), (2, .invokevirtual 51, 3), (5, .astore_n 3, 1), (6, .aload_n 3, 1), (7, .ifnonnull 5, 3), (10, .iconst (-1), 1), (11, .ireturn, 1), (12, .iload_n 2, 1), (13, .tableswitch 132 0 8 #[51, 59, 67, 72, 77, 90, 101, 112, 123], 51), (64, .aload_n 3, 1), (65, .invokevirtual 154, 3), (68, .invokevirtual 181, 3), (71, .ireturn, 1), (72, .aload_n 3, 1), (73, .invokevirtual 154, 3), (76, .invokevirtual 184, 3), (79, .ireturn, 1), (80, .aload_n 3, 1), (81, .invokevirtual 187, 3), (84, .ireturn, 1), (85, .aload_n 3, 1), (86, .invokevirtual 101, 3), (89, .ireturn, 1), (90, .aload_n 3, 1), (91, .invokevirtual 73, 3), (94, .ifCond .eq 7, 3), (97, .iconst 1, 1), (98, .goto 4, 3), (101, .iconst 0, 1), (102, .ireturn, 1), (103, .aload_n 3, 1), (104, .invokevirtual 154, 3), (107, .sipush 4800, 3), (110, .invokevirtual 158, 3), (113, .ireturn, 1), (114, .aload_n 3, 1), (115, .invokevirtual 154, 3), (118, .sipush 4800, 3), (121, .invokevirtual 163, 3), (124, .ireturn, 1), (125, .aload_n 3, 1), (126, .invokevirtual 154, 3), (129, .sipush 4801, 3), (132, .invokevirtual 158, 3), (135, .ireturn, 1), (136, .aload_n 0, 1), (137, .iload_n 1, 1), (138, .invokevirtual 62, 3), (141, .invokevirtual 190, 3), (144, .ireturn, 1), (145, .iconst (-1), 1), (146, .ireturn, 1)]
theorem DX7_look : ∀ q ∈ tX7_look, decode cX7_look q.1 = .ok (q.2.1, q.2.2) := by decide +kernel
abbrev wsX7_sent : List Cond := Cond.code yX7_sent cX7_sent 2 (some .int) :: gW
theorem eX7_sent : yX7_sent.cls ≠ "java/lang/invoke/MethodHandle" ∧ yX7_sent.cls ≠ "java/lang/invoke/VarHandle" ∧ (parseMethodDescriptor yX7_sent.desc).map (fun d => d.parameters.length) = some 1 := by decide +kernel
def tX7_sent : List (Nat × Instr × Nat) := [(0, .iload_n 1, 1), (1, .tableswitch 73 0 4 #[35, 43, 51, 59, 67], 35), (36, .aload_n 0, 1), (37, .getfield 21, 3), (40, .invokevirtual 193, 3), (43, .ireturn, 1), (44, .aload_n 0, 1), (45, .getfield 21, 3), (48, .invokevirtual 196, 3), (51, .ireturn, 1), (52, .aload_n 0, 1), (53, .getfield 21, 3), (56, .invokevirtual 199, 3), (59, .ireturn, 1), (60, .aload_n 0, 1), (61, .getfield 12, 3), (64, .invokevirtual 123, 3), (67, .ireturn, 1), (68, .aload_n 0, 1), (69, .getfield 47, 3), (72, .l2i, 1), (73, .ireturn, 1), (74, .iconst (-1), 1), (75, .ireturn, 1)]
theorem DX7_sent : ∀ q ∈ tX7_sent, decode cX7_sent q.1 = .ok (q.2.1, q.2.2) := by decide +kernel
abbrev wsX7_find : List Cond := Cond.code yX7_find cX7_find 2 (some (.object "TwinVolumes$Volume")) :: gW
theorem eX7_find : yX7_find.cls ≠ "java/lang/invoke/MethodHandle" ∧ yX7_find.cls ≠ "java/lang/invoke/VarHandle" ∧ (parseMethodDescriptor yX7_find.desc).map (fun d => d.parameters.length) = some 1 := by decide +kernel
def tX7_find : List (Nat × Instr × Nat) := [(0, .iload_n 1, 1), (1, .ifCond .ne 10, 3), (4, .aload_n 0, 1), (5, .getfield 28, 3), (8, .goto 16, 3), (11, .iload_n 1, 1), (12, .iconst 1, 1), (13, .if_icmp .ne 10, 3), (16, .aload_n 0, 1), (17, .getfield 32, 3), (20, .goto 4, 3), (23, .aconst_null, 1), (24, .areturn, 1)]
theorem DX7_find : ∀ q ∈ tX7_find, decode cX7_find q.1 = .ok (q.2.1, q.2.2) := by decide +kernel
abbrev wsX7_receivingOf : List Cond := Cond.code yX7_receivingOf cX7_receivingOf 2 (some (.object "TwinVolumes$Receiving")) :: gW
theorem eX7_receivingOf : yX7_receivingOf.cls ≠ "java/lang/invoke/MethodHandle" ∧ yX7_receivingOf.cls ≠ "java/lang/invoke/VarHandle" ∧ (parseMethodDescriptor yX7_receivingOf.desc).map (fun d => d.parameters.length) = some 1 := by decide +kernel
def tX7_receivingOf : List (Nat × Instr × Nat) := [(0, .iload_n 1, 1), (1, .ifCond .ne 10, 3), (4, .aload_n 0, 1), (5, .getfield 40, 3), (8, .goto 7, 3), (11, .aload_n 0, 1), (12, .getfield 44, 3), (15, .areturn, 1)]
theorem DX7_receivingOf : ∀ q ∈ tX7_receivingOf, decode cX7_receivingOf q.1 = .ok (q.2.1, q.2.2) := by decide +kernel
abbrev wsX7_isPlace : List Cond := Cond.code yX7_isPlace cX7_isPlace 1 (some .boolean) :: gW
theorem eX7_isPlace : yX7_isPlace.cls ≠ "java/lang/invoke/MethodHandle" ∧ yX7_isPlace.cls ≠ "java/lang/invoke/VarHandle" ∧ (parseMethodDescriptor yX7_isPlace.desc).map (fun d => d.parameters.length) = some 1 := by decide +kernel
def tX7_isPlace : List (Nat × Instr × Nat) := [(0, .iload_n 0, 1), (1, .ifCond .lt 14, 3), (4, .iload_n 0, 1), (5, .sipush 512, 3), (8, .if_icmp .ge 7, 3), (11, .iconst 1, 1), (12, .goto 4, 3), (15, .iconst 0, 1), (16, .ireturn, 1)]
theorem DX7_isPlace : ∀ q ∈ tX7_isPlace, decode cX7_isPlace q.1 = .ok (q.2.1, q.2.2) := by decide +kernel
abbrev wsX8_init : List Cond := Cond.code yX8_init cX8_init 1 none :: gW
theorem eX8_init : yX8_init.cls ≠ "java/lang/invoke/MethodHandle" ∧ yX8_init.cls ≠ "java/lang/invoke/VarHandle" ∧ (parseMethodDescriptor yX8_init.desc).map (fun d => d.parameters.length) = some 0 := by decide +kernel
def tX8_init : List (Nat × Instr × Nat) := [(0, .aload_n 0, 1), (1, .invokespecial 3, 3), (4, .aload_n 0, 1), (5, .iconst 2, 1), (6, .newarray .int, 2), (8, .putfield 9, 3), (11, .aload_n 0, 1), (12, .sipush 1200, 3), (15, .newarray .int, 2), (17, .putfield 13, 3), (20, .aload_n 0, 1), (21, .sipush 9600, 3), (24, .newarray .int, 2), (26, .putfield 16, 3), (29, .aload_n 0, 1), (30, .sipush 9600, 3), (33, .newarray .int, 2), (35, .putfield 19, 3), (38, .aload_n 0, 1), (39, .sipush 1200, 3), (42, .newarray .long, 2), (44, .putfield 22, 3), (47, .aload_n 0, 1), (48, .sipush 1200, 3), (51, .newarray .boolean, 2), (53, .putfield 26, 3), (56, .aload_n 0, 1), (57, .bipush 44, 2), (59, .newarray .int, 2), (61, .putfield 30, 3), (64, .aload_n 0, 1), (65, .bipush 44, 2), (67, .newarray .int, 2), (69, .putfield 33, 3), (72, .aload_n 0, 1), (73, .iconst 2, 1), (74, .newarray .int, 2), (76, .putfield 36, 3), (79, .aload_n 0, 1), (80, .iconst 2, 1), (81, .newarray .int, 2), (83, .putfield 39, 3), (86, .aload_n 0, 1), (87, .bipush 40, 2), (89, .newarray .int, 2), (91, .putfield 42, 3), (94, .aload_n 0, 1), (95, .bipush 40, 2), (97, .newarray .long, 2), (99, .putfield 45, 3), (102, .aload_n 0, 1), (103, .iconst 2, 1), (104, .newarray .boolean, 2), (106, .putfield 48, 3), (109, .aload_n 0, 1), (110, .iconst 2, 1), (111, .newarray .int, 2), (113, .putfield 51, 3), (116, .aload_n 0, 1), (117, .iconst 2, 1), (118, .newarray .int, 2), (120, .putfield 54, 3), (123, .aload_n 0, 1), (124, .iconst 2, 1), (125, .newarray .long, 2), (127, .putfield 57, 3), (130, .aload_n 0, 1), (131, .lconst 1, 1), (132, .putfield 60, 3), (135, .aload_n 0, 1), (136, .sipush 16000, 3), (139, .newarray .byte, 2), (141, .putfield 64, 3), (144, .aload_n 0, 1), (145, .sipush 600, 3), (148, .newarray .boolean, 2), (150, .putfield 68, 3), (153, .aload_n 0, 1), (154, .iconst 4, 1), (155, .newarray .int, 2), (157, .putfield 71, 3), (160, .aload_n 0, 1), (161, .iconst 0, 1), (162, .bipush 100, 2), (164, .invokevirtual 74, 3), (167, .aload_n 0, 1), (168, .iconst 1, 1), (169, .bipush 100, 2), (171, .invokevirtual 74, 3), (174, .return_, 1)]
theorem DX8_init : ∀ q ∈ tX8_init, decode cX8_init q.1 = .ok (q.2.1, q.2.2) := by decide +kernel
abbrev wsX8_thrown : List Cond := Cond.code yX8_thrown cX8_thrown 1 (some .int) :: gW
theorem eX8_thrown : yX8_thrown.cls ≠ "java/lang/invoke/MethodHandle" ∧ yX8_thrown.cls ≠ "java/lang/invoke/VarHandle" ∧ (parseMethodDescriptor yX8_thrown.desc).map (fun d => d.parameters.length) = some 0 := by decide +kernel
def tX8_thrown : List (Nat × Instr × Nat) := [(0, .aload_n 0, 1), (1, .getfield 78, 3), (4, .ireturn, 1)]
theorem DX8_thrown : ∀ q ∈ tX8_thrown, decode cX8_thrown q.1 = .ok (q.2.1, q.2.2) := by decide +kernel
abbrev wsX8_isVolume : List Cond := Cond.code yX8_isVolume cX8_isVolume 1 (some .boolean) :: gW
theorem eX8_isVolume : yX8_isVolume.cls ≠ "java/lang/invoke/MethodHandle" ∧ yX8_isVolume.cls ≠ "java/lang/invoke/VarHandle" ∧ (parseMethodDescriptor yX8_isVolume.desc).map (fun d => d.parameters.length) = some 1 := by decide +kernel
def tX8_isVolume : List (Nat × Instr × Nat) := [(0, .iload_n 0, 1), (1, .ifCond .eq 8, 3), (4, .iload_n 0, 1), (5, .iconst 1, 1), (6, .if_icmp .ne 7, 3), (9, .iconst 1, 1), (10, .goto 4, 3), (13, .iconst 0, 1), (14, .ireturn, 1)]
theorem DX8_isVolume : ∀ q ∈ tX8_isVolume, decode cX8_isVolume q.1 = .ok (q.2.1, q.2.2) := by decide +kernel
abbrev wsX8_fresh : List Cond := Cond.code yX8_fresh cX8_fresh 4 none :: gW
theorem eX8_fresh : yX8_fresh.cls ≠ "java/lang/invoke/MethodHandle" ∧ yX8_fresh.cls ≠ "java/lang/invoke/VarHandle" ∧ (parseMethodDescriptor yX8_fresh.desc).map (fun d => d.parameters.length) = some 2 := by decide +kernel
def tX8_fresh : List (Nat × Instr × Nat) := [(0, .aload_n 0, 1), (1, .getfield 9, 3), (4, .iload_n 1, 1), (5, .iload_n 2, 1), (6, .iastore, 1), (7, .iconst 0, 1), (8, .istore_n 3, 1), (9, .iload_n 3, 1), (10, .sipush 600, 3), (13, .if_icmp .ge 22, 3), (16, .aload_n 0, 1), (17, .getfield 13, 3), (20, .sipush 600, 3), (23, .iload_n 1, 1), (24, .imul, 1), (25, .iload_n 3, 1), (26, .iadd, 1), (27, .iconst (-1), 1), (28, .iastore, 1), (29, .iinc 3 1, 3), (32, .goto (-23), 3), (35, .aload_n 0, 1), (36, .getfield 30, 3), (39, .bipush 22, 2), (41, .iload_n 1, 1), (42, .imul, 1), (43, .iconst 0, 1), (44, .iadd, 1), (45, .iconst (-1), 1), (46, .iastore, 1), (47, .aload_n 0, 1), (48, .getfield 33, 3), (51, .bipush 22, 2), (53, .iload_n 1, 1), (54, .imul, 1), (55, .iconst 0, 1), (56, .iadd, 1), (57, .iconst 0, 1), (58, .iastore, 1), (59, .aload_n 0, 1), (60, .getfield 36, 3), (63, .iload_n 1, 1), (64, .iconst 1, 1), (65, .iastore, 1), (66, .aload_n 0, 1), (67, .getfield 39, 3), (70, .iload_n 1, 1), (71, .iconst 0, 1), (72, .iastore, 1), (73, .aload_n 0, 1), (74, .getfield 48, 3), (77, .iload_n 1, 1), (78, .iconst 0, 1), (79, .bastore, 1), (80, .aload_n 0, 1), (81, .getfield 54, 3), (84, .iload_n 1, 1), (85, .iconst 0, 1), (86, .iastore, 1), (87, .return_, 1)]
theorem DX8_fresh : ∀ q ∈ tX8_fresh, decode cX8_fresh q.1 = .ok (q.2.1, q.2.2) := by decide +kernel
abbrev wsX8_format : List Cond := Cond.code yX8_format cX8_format 3 none :: gW
theorem eX8_format : yX8_format.cls ≠ "java/lang/invoke/MethodHandle" ∧ yX8_format.cls ≠ "java/lang/invoke/VarHandle" ∧ (parseMethodDescriptor yX8_format.desc).map (fun d => d.parameters.length) = some 2 := by decide +kernel
def tX8_format : List (Nat × Instr × Nat) := [(0, .aload_n 0, 1), (1, .iload_n 1, 1), (2, .invokestatic 82, 3), (5, .ifCond .eq 15, 3), (8, .iload_n 2, 1), (9, .iconst 4, 1), (10, .if_icmp .lt 10, 3), (13, .iload_n 2, 1), (14, .sipush 600, 3), (17, .if_icmp .le 7, 3), (20, .iconst 1, 1), (21, .goto 4, 3), (24, .iconst 0, 1), (25, .putfield 78, 3), (28, .aload_n 0, 1), (29, .getfield 78, 3), (32, .ifCond .ne 9, 3), (35, .aload_n 0, 1), (36, .iload_n 1, 1), (37, .iload_n 2, 1), (38, .invokevirtual 74, 3), (41, .return_, 1)]
theorem DX8_format : ∀ q ∈ tX8_format, decode cX8_format q.1 = .ok (q.2.1, q.2.2) := by decide +kernel
abbrev wsX8_told : List Cond := Cond.code yX8_told cX8_told 3 (some .int) :: gW
theorem eX8_told : yX8_told.cls ≠ "java/lang/invoke/MethodHandle" ∧ yX8_told.cls ≠ "java/lang/invoke/VarHandle" ∧ (parseMethodDescriptor yX8_told.desc).map (fun d => d.parameters.length) = some 2 := by decide +kernel
def tX8_told : List (Nat × Instr × Nat) := [(0, .iload_n 2, 1), (1, .ifCond .ge 19, 3), (4, .aload_n 0, 1), (5, .getfield 30, 3), (8, .bipush 22, 2), (10, .iload_n 1, 1), (11, .imul, 1), (12, .iconst 1, 1), (13, .isub, 1), (14, .iload_n 2, 1), (15, .isub, 1), (16, .iaload, 1), (17, .goto 15, 3), (20, .aload_n 0, 1), (21, .getfield 16, 3), (24, .sipush 4800, 3), (27, .iload_n 1, 1), (28, .imul, 1), (29, .iload_n 2, 1), (30, .iadd, 1), (31, .iaload, 1), (32, .ireturn, 1)]
theorem DX8_told : ∀ q ∈ tX8_told, decode cX8_told q.1 = .ok (q.2.1, q.2.2) := by decide +kernel
abbrev wsX8_born : List Cond := Cond.code yX8_born cX8_born 3 (some .int) :: gW
theorem eX8_born : yX8_born.cls ≠ "java/lang/invoke/MethodHandle" ∧ yX8_born.cls ≠ "java/lang/invoke/VarHandle" ∧ (parseMethodDescriptor yX8_born.desc).map (fun d => d.parameters.length) = some 2 := by decide +kernel
def tX8_born : List (Nat × Instr × Nat) := [(0, .iload_n 2, 1), (1, .ifCond .ge 19, 3), (4, .aload_n 0, 1), (5, .getfield 33, 3), (8, .bipush 22, 2), (10, .iload_n 1, 1), (11, .imul, 1), (12, .iconst 1, 1), (13, .isub, 1), (14, .iload_n 2, 1), (15, .isub, 1), (16, .iaload, 1), (17, .goto 15, 3), (20, .aload_n 0, 1), (21, .getfield 19, 3), (24, .sipush 4800, 3), (27, .iload_n 1, 1), (28, .imul, 1), (29, .iload_n 2, 1), (30, .iadd, 1), (31, .iaload, 1), (32, .ireturn, 1)]
theorem DX8_born : ∀ q ∈ tX8_born, decode cX8_born q.1 = .ok (q.2.1, q.2.2) := by decide +kernel
abbrev wsX8_point : List Cond := Cond.code yX8_point cX8_point 5 none :: gW
theorem eX8_point : yX8_point.cls ≠ "java/lang/invoke/MethodHandle" ∧ yX8_point.cls ≠ "java/lang/invoke/VarHandle" ∧ (parseMethodDescriptor yX8_point.desc).map (fun d => d.parameters.length) = some 4 := by decide +kernel
def tX8_point : List (Nat × Instr × Nat) := [(0, .iload_n 2, 1), (1, .ifCond .ge 35, 3), (4, .aload_n 0, 1), (5, .getfield 30, 3), (8, .bipush 22, 2), (10, .iload_n 1, 1), (11, .imul, 1), (12, .iconst 1, 1), (13, .isub, 1), (14, .iload_n 2, 1), (15, .isub, 1), (16, .iload_n 3, 1), (17, .iastore, 1), (18, .aload_n 0, 1), (19, .getfield 33, 3), (22, .bipush 22, 2), (24, .iload_n 1, 1), (25, .imul, 1), (26, .iconst 1, 1), (27, .isub, 1), (28, .iload_n 2, 1), (29, .isub, 1), (30, .iload 4, 2), (32, .iastore, 1), (33, .goto 30, 3), (36, .aload_n 0, 1), (37, .getfield 16, 3), (40, .sipush 4800, 3), (43, .iload_n 1, 1), (44, .imul, 1), (45, .iload_n 2, 1), (46, .iadd, 1), (47, .iload_n 3, 1), (48, .iastore, 1), (49, .aload_n 0, 1), (50, .getfield 19, 3), (53, .sipush 4800, 3), (56, .iload_n 1, 1), (57, .imul, 1), (58, .iload_n 2, 1), (59, .iadd, 1), (60, .iload 4, 2), (62, .iastore, 1), (63, .return_, 1)]
theorem DX8_point : ∀ q ∈ tX8_point, decode cX8_point q.1 = .ok (q.2.1, q.2.2) := by decide +kernel
abbrev wsX8_turn : List Cond := Cond.code yX8_turn cX8_turn 2 (some .int) :: gW
theorem eX8_turn : yX8_turn.cls ≠ "java/lang/invoke/MethodHandle" ∧ yX8_turn.cls ≠ "java/lang/invoke/VarHandle" ∧ (parseMethodDescriptor yX8_turn.desc).map (fun d => d.parameters.length) = some 2 := by decide +kernel
def tX8_turn : List (Nat × Instr × Nat) := [(0, .iload_n 1, 1), (1, .iconst 1, 1), (2, .if_icmp .ne 10, 3), (5, .iload_n 0, 1), (6, .bipush 64, 2), (8, .idiv, 1), (9, .goto 22, 3), (12, .iload_n 1, 1), (13, .iconst 2, 1), (14, .if_icmp .ne 13, 3), (17, .iload_n 0, 1), (18, .bipush 8, 2), (20, .idiv, 1), (21, .bipush 8, 2), (23, .irem, 1), (24, .goto 7, 3), (27, .iload_n 0, 1), (28, .bipush 8, 2), (30, .irem, 1), (31, .ireturn, 1)]
theorem DX8_turn : ∀ q ∈ tX8_turn, decode cX8_turn q.1 = .ok (q.2.1, q.2.2) := by decide +kernel
abbrev wsX8_isTree : List Cond := Cond.code yX8_isTree cX8_isTree 3 (some .boolean) :: gW
theorem eX8_isTree : yX8_isTree.cls ≠ "java/lang/invoke/MethodHandle" ∧ yX8_isTree.cls ≠ "java/lang/invoke/VarHandle" ∧ (parseMethodDescriptor yX8_isTree.desc).map (fun d => d.parameters.length) = some 2 := by decide +kernel
def tX8_isTree : List (Nat × Instr × Nat) := [(0, .iload_n 2, 1), (1, .ifCond .eq 34, 3), (4, .iload_n 2, 1), (5, .iconst 1, 1), (6, .if_icmp .ne 12, 3), (9, .aload_n 0, 1), (10, .getfield 48, 3), (13, .iload_n 1, 1), (14, .baload, 1), (15, .ifCond .ne 20, 3), (18, .iload_n 2, 1), (19, .iconst 2, 1), (20, .if_icmp .lt 19, 3), (23, .iload_n 2, 1), (24, .iconst 2, 1), (25, .aload_n 0, 1), (26, .getfield 39, 3), (29, .iload_n 1, 1), (30, .iaload, 1), (31, .iadd, 1), (32, .if_icmp .ge 7, 3), (35, .iconst 1, 1), (36, .goto 4, 3), (39, .iconst 0, 1), (40, .ireturn, 1)]
theorem DX8_isTree : ∀ q ∈ tX8_isTree, decode cX8_isTree q.1 = .ok (q.2.1, q.2.2) := by decide +kernel
abbrev wsX8_sweeps : List Cond := Cond.code yX8_sweeps cX8_sweeps 5 none :: gW
theorem eX8_sweeps : yX8_sweeps.cls ≠ "java/lang/invoke/MethodHandle" ∧ yX8_sweeps.cls ≠ "java/lang/invoke/VarHandle" ∧ (parseMethodDescriptor yX8_sweeps.desc).map (fun d => d.parameters.length) = some 1 := by decide +kernel
def tX8_sweeps_0 : List (Nat × Instr × Nat) := [(0, .iconst 0, 1), (1, .istore_n 2, 1), (2, .iload_n 2, 1), (3, .aload_n 0, 1), (4, .getfield 9, 3), (7, .iload_n 1, 1), (8, .iaload, 1), (9, .if_icmp .ge 16, 3), (12, .aload_n 0, 1), (13, .getfield 68, 3), (16, .iload_n 2, 1), (17, .iconst 0, 1), (18, .bastore, 1), (19, .iinc 2 1, 3), (22, .goto (-20), 3), (25, .iconst 0, 1), (26, .istore_n 2, 1), (27, .iload_n 2, 1), (28, .bipush 22, 2), (30, .if_icmp .ge 50, 3), (33, .aload_n 0, 1), (34, .iload_n 1, 1), (35, .iload_n 2, 1), (36, .invokevirtual 86, 3), (39, .ifCond .eq 35, 3), (42, .aload_n 0, 1), (43, .getfield 30, 3), (46, .bipush 22, 2), (48, .iload_n 1, 1), (49, .imul, 1), (50, .iload_n 2, 1), (51, .iadd, 1), (52, .iaload, 1), (53, .iconst (-1), 1), (54, .if_icmp .eq 20, 3), (57, .aload_n 0, 1), (58, .getfield 68, 3), (61, .aload_n 0, 1), (62, .getfield 30, 3), (65, .bipush 22, 2), (67, .iload_n 1, 1), (68, .imul, 1), (69, .iload_n 2, 1), (70, .iadd, 1), (71, .iaload, 1), (72, .iconst 1, 1), (73, .bastore, 1), (74, .iinc 2 1, 3), (77, .goto (-50), 3), (80, .iconst 3, 1), (81, .istore_n 2, 1), (82, .iload_n 2, 1), (83, .ifCond .le 117, 3), (86, .iconst 0, 1), (87, .istore_n 3, 1), (88, .iload_n 3, 1), (89, .aload_n 0, 1), (90, .getfield 9, 3), (93, .iload_n 1, 1), (94, .iaload, 1)]
theorem DX8_sweeps_0 : ∀ q ∈ tX8_sweeps_0, decode cX8_sweeps q.1 = .ok (q.2.1, q.2.2) := by decide +kernel
def tX8_sweeps_1 : List (Nat × Instr × Nat) := [(95, .if_icmp .ge 99, 3), (98, .aload_n 0, 1), (99, .getfield 68, 3), (102, .iload_n 3, 1), (103, .baload, 1), (104, .ifCond .eq 84, 3), (107, .aload_n 0, 1), (108, .getfield 13, 3), (111, .sipush 600, 3), (114, .iload_n 1, 1), (115, .imul, 1), (116, .iload_n 3, 1), (117, .iadd, 1), (118, .iaload, 1), (119, .iload_n 2, 1), (120, .if_icmp .eq 6, 3), (123, .goto 65, 3), (126, .iconst 0, 1), (127, .istore 4, 2), (129, .iload 4, 2), (131, .bipush 8, 2), (133, .if_icmp .ge 55, 3), (136, .aload_n 0, 1), (137, .getfield 16, 3), (140, .sipush 4800, 3), (143, .iload_n 1, 1), (144, .imul, 1), (145, .bipush 8, 2), (147, .iload_n 3, 1), (148, .imul, 1), (149, .iadd, 1), (150, .iload 4, 2), (152, .iadd, 1), (153, .iaload, 1), (154, .iconst (-1), 1), (155, .if_icmp .eq 27, 3), (158, .aload_n 0, 1), (159, .getfield 68, 3), (162, .aload_n 0, 1), (163, .getfield 16, 3), (166, .sipush 4800, 3), (169, .iload_n 1, 1), (170, .imul, 1), (171, .bipush 8, 2), (173, .iload_n 3, 1), (174, .imul, 1), (175, .iadd, 1), (176, .iload 4, 2), (178, .iadd, 1), (179, .iaload, 1), (180, .iconst 1, 1), (181, .bastore, 1), (182, .iinc 4 1, 3), (185, .goto (-56), 3), (188, .iinc 3 1, 3), (191, .goto (-103), 3), (194, .iinc 2 (-1), 3), (197, .goto (-115), 3), (200, .iconst 0, 1), (201, .istore_n 2, 1)]
theorem DX8_sweeps_1 : ∀ q ∈ tX8_sweeps_1, decode cX8_sweeps q.1 = .ok (q.2.1, q.2.2) := by decide +kernel
def tX8_sweeps_2 : List (Nat × Instr × Nat) := [(202, .iload_n 2, 1), (203, .aload_n 0, 1), (204, .getfield 9, 3), (207, .iload_n 1, 1), (208, .iaload, 1), (209, .if_icmp .ge 31, 3), (212, .aload_n 0, 1), (213, .getfield 68, 3), (216, .iload_n 2, 1), (217, .baload, 1), (218, .ifCond .ne 16, 3), (221, .aload_n 0, 1), (222, .getfield 13, 3), (225, .sipush 600, 3), (228, .iload_n 1, 1), (229, .imul, 1), (230, .iload_n 2, 1), (231, .iadd, 1), (232, .iconst (-1), 1), (233, .iastore, 1), (234, .iinc 2 1, 3), (237, .goto (-35), 3), (240, .return_, 1)]
theorem DX8_sweeps_2 : ∀ q ∈ tX8_sweeps_2, decode cX8_sweeps q.1 = .ok (q.2.1, q.2.2) := by decide +kernel
def tX8_sweeps : List (Nat × Instr × Nat) := tX8_sweeps_0 ++ (tX8_sweeps_1 ++ (tX8_sweeps_2))
theorem DX8_sweeps : ∀ q ∈ tX8_sweeps, decode cX8_sweeps q.1 = .ok (q.2.1, q.2.2) := (fun q h => (List.mem_append.mp h).elim (DX8_sweeps_0 q) ((fun q h => (List.mem_append.mp h).elim (DX8_sweeps_1 q) (DX8_sweeps_2 q)) q))
abbrev wsX8_begins : List Cond := Cond.code yX8_begins cX8_begins 3 none :: gW
theorem eX8_begins : yX8_begins.cls ≠ "java/lang/invoke/MethodHandle" ∧ yX8_begins.cls ≠ "java/lang/invoke/VarHandle" ∧ (parseMethodDescriptor yX8_begins.desc).map (fun d => d.parameters.length) = some 1 := by decide +kernel
def tX8_begins : List (Nat × Instr × Nat) := [(0, .iconst 0, 1), (1, .istore_n 2, 1), (2, .iload_n 2, 1), (3, .aload_n 0, 1), (4, .getfield 9, 3), (7, .iload_n 1, 1), (8, .iaload, 1), (9, .if_icmp .ge 42, 3), (12, .aload_n 0, 1), (13, .getfield 26, 3), (16, .sipush 600, 3), (19, .iload_n 1, 1), (20, .imul, 1), (21, .iload_n 2, 1), (22, .iadd, 1), (23, .aload_n 0, 1), (24, .getfield 13, 3), (27, .sipush 600, 3), (30, .iload_n 1, 1), (31, .imul, 1), (32, .iload_n 2, 1), (33, .iadd, 1), (34, .iaload, 1), (35, .iconst (-1), 1), (36, .if_icmp .ne 7, 3), (39, .iconst 1, 1), (40, .goto 4, 3), (43, .iconst 0, 1), (44, .bastore, 1), (45, .iinc 2 1, 3), (48, .goto (-46), 3), (51, .return_, 1)]
theorem DX8_begins : ∀ q ∈ tX8_begins, decode cX8_begins q.1 = .ok (q.2.1, q.2.2) := by decide +kernel
abbrev wsX8_freeMany : List Cond := Cond.code yX8_freeMany cX8_freeMany 4 (some .int) :: gW
theorem eX8_freeMany : yX8_freeMany.cls ≠ "java/lang/invoke/MethodHandle" ∧ yX8_freeMany.cls ≠ "java/lang/invoke/VarHandle" ∧ (parseMethodDescriptor yX8_freeMany.desc).map (fun d => d.parameters.length) = some 1 := by decide +kernel
def tX8_freeMany : List (Nat × Instr × Nat) := [(0, .iconst 0, 1), (1, .istore_n 2, 1), (2, .iconst 0, 1), (3, .istore_n 3, 1), (4, .iload_n 3, 1), (5, .aload_n 0, 1), (6, .getfield 9, 3), (9, .iload_n 1, 1), (10, .iaload, 1), (11, .if_icmp .ge 32, 3), (14, .iload_n 2, 1), (15, .aload_n 0, 1), (16, .getfield 26, 3), (19, .sipush 600, 3), (22, .iload_n 1, 1), (23, .imul, 1), (24, .iload_n 3, 1), (25, .iadd, 1), (26, .baload, 1), (27, .ifCond .eq 7, 3), (30, .iconst 1, 1), (31, .goto 4, 3), (34, .iconst 0, 1), (35, .iadd, 1), (36, .istore_n 2, 1), (37, .iinc 3 1, 3), (40, .goto (-36), 3), (43, .iload_n 2, 1), (44, .ireturn, 1)]
theorem DX8_freeMany : ∀ q ∈ tX8_freeMany, decode cX8_freeMany q.1 = .ok (q.2.1, q.2.2) := by decide +kernel
abbrev wsX8_take : List Cond := Cond.code yX8_take cX8_take 4 (some .int) :: gW
theorem eX8_take : yX8_take.cls ≠ "java/lang/invoke/MethodHandle" ∧ yX8_take.cls ≠ "java/lang/invoke/VarHandle" ∧ (parseMethodDescriptor yX8_take.desc).map (fun d => d.parameters.length) = some 2 := by decide +kernel
def tX8_take : List (Nat × Instr × Nat) := [(0, .iconst 0, 1), (1, .istore_n 3, 1), (2, .aload_n 0, 1), (3, .getfield 26, 3), (6, .sipush 600, 3), (9, .iload_n 1, 1), (10, .imul, 1), (11, .iload_n 3, 1), (12, .iadd, 1), (13, .baload, 1), (14, .ifCond .ne 9, 3), (17, .iinc 3 1, 3), (20, .goto (-18), 3), (23, .aload_n 0, 1), (24, .getfield 26, 3), (27, .sipush 600, 3), (30, .iload_n 1, 1), (31, .imul, 1), (32, .iload_n 3, 1), (33, .iadd, 1), (34, .iconst 0, 1), (35, .bastore, 1), (36, .aload_n 0, 1), (37, .getfield 13, 3), (40, .sipush 600, 3), (43, .iload_n 1, 1), (44, .imul, 1), (45, .iload_n 3, 1), (46, .iadd, 1), (47, .iload_n 2, 1), (48, .iastore, 1), (49, .iload_n 3, 1), (50, .ireturn, 1)]
theorem DX8_take : ∀ q ∈ tX8_take, decode cX8_take q.1 = .ok (q.2.1, q.2.2) := by decide +kernel
abbrev wsX8_ways : List Cond := Cond.code yX8_ways cX8_ways 5 (some .int) :: gW
theorem eX8_ways : yX8_ways.cls ≠ "java/lang/invoke/MethodHandle" ∧ yX8_ways.cls ≠ "java/lang/invoke/VarHandle" ∧ (parseMethodDescriptor yX8_ways.desc).map (fun d => d.parameters.length) = some 3 := by decide +kernel
def tX8_ways : List (Nat × Instr × Nat) := [(0, .aload_n 0, 1), (1, .getfield 71, 3), (4, .iconst 0, 1), (5, .iconst (-1), 1), (6, .iload_n 2, 1), (7, .isub, 1), (8, .iastore, 1), (9, .iconst 1, 1), (10, .istore 4, 2), (12, .iload 4, 2), (14, .iconst 4, 1), (15, .if_icmp .ge 58, 3), (18, .aload_n 0, 1), (19, .iload_n 1, 1), (20, .aload_n 0, 1), (21, .getfield 71, 3), (24, .iload 4, 2), (26, .iconst 1, 1), (27, .isub, 1), (28, .iaload, 1), (29, .invokevirtual 90, 3), (32, .iconst (-1), 1), (33, .if_icmp .eq 40, 3), (36, .aload_n 0, 1), (37, .getfield 71, 3), (40, .iload 4, 2), (42, .bipush 8, 2), (44, .aload_n 0, 1), (45, .iload_n 1, 1), (46, .aload_n 0, 1), (47, .getfield 71, 3), (50, .iload 4, 2), (52, .iconst 1, 1), (53, .isub, 1), (54, .iaload, 1), (55, .invokevirtual 90, 3), (58, .imul, 1), (59, .iload_n 3, 1), (60, .iload 4, 2), (62, .invokestatic 94, 3), (65, .iadd, 1), (66, .iastore, 1), (67, .iinc 4 1, 3), (70, .goto (-58), 3), (73, .iload 4, 2), (75, .ireturn, 1)]
theorem DX8_ways : ∀ q ∈ tX8_ways, decode cX8_ways q.1 = .ok (q.2.1, q.2.2) := by decide +kernel
abbrev wsX8_wanted : List Cond := Cond.code yX8_wanted cX8_wanted 6 (some .int) :: gW
theorem eX8_wanted : yX8_wanted.cls ≠ "java/lang/invoke/MethodHandle" ∧ yX8_wanted.cls ≠ "java/lang/invoke/VarHandle" ∧ (parseMethodDescriptor yX8_wanted.desc).map (fun d => d.parameters.length) = some 3 := by decide +kernel
def tX8_wanted : List (Nat × Instr × Nat) := [(0, .iconst 0, 1), (1, .istore 4, 2), (3, .iconst 0, 1), (4, .istore 5, 2), (6, .iload 5, 2), (8, .iload_n 3, 1), (9, .if_icmp .ge 62, 3), (12, .iload 4, 2), (14, .iload 5, 2), (16, .iload_n 2, 1), (17, .if_icmp .ge 40, 3), (20, .aload_n 0, 1), (21, .iload_n 1, 1), (22, .aload_n 0, 1), (23, .getfield 71, 3), (26, .iload 5, 2), (28, .iaload, 1), (29, .invokevirtual 90, 3), (32, .iconst (-1), 1), (33, .if_icmp .eq 24, 3), (36, .aload_n 0, 1), (37, .iload_n 1, 1), (38, .aload_n 0, 1), (39, .getfield 71, 3), (42, .iload 5, 2), (44, .iaload, 1), (45, .invokevirtual 97, 3), (48, .aload_n 0, 1), (49, .getfield 36, 3), (52, .iload_n 1, 1), (53, .iaload, 1), (54, .if_icmp .eq 7, 3), (57, .iconst 1, 1), (58, .goto 4, 3), (61, .iconst 0, 1), (62, .iadd, 1), (63, .istore 4, 2), (65, .iinc 5 1, 3), (68, .goto (-62), 3), (71, .iload 4, 2), (73, .ireturn, 1)]
theorem DX8_wanted : ∀ q ∈ tX8_wanted, decode cX8_wanted q.1 = .ok (q.2.1, q.2.2) := by decide +kernel
abbrev wsX8_renews : List Cond := Cond.code yX8_renews cX8_renews 11 none :: gW
theorem eX8_renews : yX8_renews.cls ≠ "java/lang/invoke/MethodHandle" ∧ yX8_renews.cls ≠ "java/lang/invoke/VarHandle" ∧ (parseMethodDescriptor yX8_renews.desc).map (fun d => d.parameters.length) = some 4 := by decide +kernel
def tX8_renews : List (Nat × Instr × Nat) := [(0, .iconst (-1), 1), (1, .iload_n 2, 1), (2, .isub, 1), (3, .istore 5, 2), (5, .iconst 0, 1), (6, .istore 6, 2), (8, .iload 6, 2), (10, .iload 4, 2), (12, .if_icmp .ge 179, 3), (15, .aload_n 0, 1), (16, .iload_n 1, 1), (17, .iload 5, 2), (19, .invokevirtual 90, 3), (22, .istore 7, 2), (24, .aload_n 0, 1), (25, .iload_n 1, 1), (26, .iload 5, 2), (28, .invokevirtual 97, 3), (31, .istore 8, 2), (33, .iload 7, 2), (35, .iconst (-1), 1), (36, .if_icmp .eq 14, 3), (39, .iload 8, 2), (41, .aload_n 0, 1), (42, .getfield 36, 3), (45, .iload_n 1, 1), (46, .iaload, 1), (47, .if_icmp .eq 111, 3), (50, .aload_n 0, 1), (51, .iload_n 1, 1), (52, .iconst 3, 1), (53, .iload 6, 2), (55, .isub, 1), (56, .invokevirtual 100, 3), (59, .istore 9, 2), (61, .iconst 0, 1), (62, .istore 10, 2), (64, .iload 10, 2), (66, .bipush 8, 2), (68, .if_icmp .ge 75, 3), (71, .iload 6, 2), (73, .iconst 3, 1), (74, .if_icmp .ge 69, 3), (77, .aload_n 0, 1), (78, .iload_n 1, 1), (79, .bipush 8, 2), (81, .iload 9, 2), (83, .imul, 1), (84, .iload 10, 2), (86, .iadd, 1), (87, .iload 7, 2), (89, .iconst (-1), 1), (90, .if_icmp .ne 7, 3), (93, .iconst (-1), 1), (94, .goto 16, 3), (97, .aload_n 0, 1), (98, .iload_n 1, 1), (99, .bipush 8, 2), (101, .iload 7, 2), (103, .imul, 1), (104, .iload 10, 2), (106, .iadd, 1), (107, .invokevirtual 90, 3), (110, .iload 7, 2), (112, .iconst (-1), 1), (113, .if_icmp .ne 8, 3), (116, .iload 8, 2), (118, .goto 16, 3), (121, .aload_n 0, 1), (122, .iload_n 1, 1), (123, .bipush 8, 2), (125, .iload 7, 2), (127, .imul, 1), (128, .iload 10, 2), (130, .iadd, 1), (131, .invokevirtual 97, 3), (134, .invokevirtual 103, 3), (137, .iinc 10 1, 3), (140, .goto (-76), 3), (143, .aload_n 0, 1), (144, .iload_n 1, 1), (145, .iload 5, 2), (147, .iload 9, 2), (149, .aload_n 0, 1), (150, .getfield 36, 3), (153, .iload_n 1, 1), (154, .iaload, 1), (155, .invokevirtual 103, 3), (158, .iload 6, 2), (160, .iconst 3, 1), (161, .if_icmp .ge 24, 3), (164, .bipush 8, 2), (166, .aload_n 0, 1), (167, .iload_n 1, 1), (168, .iload 5, 2), (170, .invokevirtual 90, 3), (173, .imul, 1), (174, .iload_n 3, 1), (175, .iload 6, 2), (177, .iconst 1, 1), (178, .iadd, 1), (179, .invokestatic 94, 3), (182, .iadd, 1), (183, .istore 5, 2), (185, .iinc 6 1, 3), (188, .goto (-180), 3), (191, .return_, 1)]
theorem DX8_renews : ∀ q ∈ tX8_renews, decode cX8_renews q.1 = .ok (q.2.1, q.2.2) := by decide +kernel
abbrev wsX8_writes : List Cond := Cond.code yX8_writes cX8_writes 7 (some .int) :: gW
theorem eX8_writes : yX8_writes.cls ≠ "java/lang/invoke/MethodHandle" ∧ yX8_writes.cls ≠ "java/lang/invoke/VarHandle" ∧ (parseMethodDescriptor yX8_writes.desc).map (fun d => d.parameters.length) = some 4 := by decide +kernel
def tX8_writes : List (Nat × Instr × Nat) := [(0, .aload_n 0, 1), (1, .iload_n 1, 1), (2, .iload_n 2, 1), (3, .iload_n 3, 1), (4, .invokevirtual 107, 3), (7, .istore 6, 2), (9, .aload_n 0, 1), (10, .iload_n 1, 1), (11, .iload 6, 2), (13, .iconst 4, 1), (14, .invokevirtual 111, 3), (17, .aload_n 0, 1), (18, .iload_n 1, 1), (19, .invokevirtual 114, 3), (22, .if_icmp .le 5, 3), (25, .iconst 5, 1), (26, .ireturn, 1), (27, .aload_n 0, 1), (28, .iload_n 1, 1), (29, .iload_n 2, 1), (30, .iload_n 3, 1), (31, .iconst 4, 1), (32, .invokevirtual 118, 3), (35, .aload_n 0, 1), (36, .iload_n 1, 1), (37, .iload_n 2, 1), (38, .iload_n 3, 1), (39, .invokevirtual 107, 3), (42, .pop, 1), (43, .aload_n 0, 1), (44, .getfield 22, 3), (47, .sipush 600, 3), (50, .iload_n 1, 1), (51, .imul, 1), (52, .aload_n 0, 1), (53, .iload_n 1, 1), (54, .aload_n 0, 1), (55, .getfield 71, 3), (58, .iconst 3, 1), (59, .iaload, 1), (60, .invokevirtual 90, 3), (63, .iadd, 1), (64, .lload 4, 2), (66, .lastore, 1), (67, .iconst 0, 1), (68, .ireturn, 1)]
theorem DX8_writes : ∀ q ∈ tX8_writes, decode cX8_writes q.1 = .ok (q.2.1, q.2.2) := by decide +kernel
abbrev wsX8_hasNothing : List Cond := Cond.code yX8_hasNothing cX8_hasNothing 4 (some .boolean) :: gW
theorem eX8_hasNothing : yX8_hasNothing.cls ≠ "java/lang/invoke/MethodHandle" ∧ yX8_hasNothing.cls ≠ "java/lang/invoke/VarHandle" ∧ (parseMethodDescriptor yX8_hasNothing.desc).map (fun d => d.parameters.length) = some 2 := by decide +kernel
def tX8_hasNothing : List (Nat × Instr × Nat) := [(0, .iconst 0, 1), (1, .istore_n 3, 1), (2, .iload_n 3, 1), (3, .bipush 8, 2), (5, .if_icmp .ge 26, 3), (8, .aload_n 0, 1), (9, .iload_n 1, 1), (10, .bipush 8, 2), (12, .iload_n 2, 1), (13, .imul, 1), (14, .iload_n 3, 1), (15, .iadd, 1), (16, .invokevirtual 90, 3), (19, .iconst (-1), 1), (20, .if_icmp .eq 5, 3), (23, .iconst 0, 1), (24, .ireturn, 1), (25, .iinc 3 1, 3), (28, .goto (-26), 3), (31, .iconst 1, 1), (32, .ireturn, 1)]
theorem DX8_hasNothing : ∀ q ∈ tX8_hasNothing, decode cX8_hasNothing q.1 = .ok (q.2.1, q.2.2) := by decide +kernel
abbrev wsX8_clears : List Cond := Cond.code yX8_clears cX8_clears 6 (some .int) :: gW
theorem eX8_clears : yX8_clears.cls ≠ "java/lang/invoke/MethodHandle" ∧ yX8_clears.cls ≠ "java/lang/invoke/VarHandle" ∧ (parseMethodDescriptor yX8_clears.desc).map (fun d => d.parameters.length) = some 3 := by decide +kernel
def tX8_clears : List (Nat × Instr × Nat) := [(0, .aload_n 0, 1), (1, .iload_n 1, 1), (2, .iload_n 2, 1), (3, .iload_n 3, 1), (4, .invokevirtual 107, 3), (7, .istore 4, 2), (9, .iload 4, 2), (11, .iconst 4, 1), (12, .if_icmp .lt 18, 3), (15, .aload_n 0, 1), (16, .iload_n 1, 1), (17, .aload_n 0, 1), (18, .getfield 71, 3), (21, .iconst 3, 1), (22, .iaload, 1), (23, .invokevirtual 90, 3), (26, .iconst (-1), 1), (27, .if_icmp .ne 5, 3), (30, .iconst 0, 1), (31, .ireturn, 1), (32, .aload_n 0, 1), (33, .iload_n 1, 1), (34, .iconst 4, 1), (35, .iconst 3, 1), (36, .invokevirtual 111, 3), (39, .aload_n 0, 1), (40, .iload_n 1, 1), (41, .invokevirtual 114, 3), (44, .if_icmp .le 5, 3), (47, .iconst 5, 1), (48, .ireturn, 1), (49, .aload_n 0, 1), (50, .iload_n 1, 1), (51, .iload_n 2, 1), (52, .iload_n 3, 1), (53, .iconst 3, 1), (54, .invokevirtual 118, 3), (57, .aload_n 0, 1), (58, .iload_n 1, 1), (59, .iload_n 2, 1), (60, .iload_n 3, 1), (61, .invokevirtual 107, 3), (64, .pop, 1), (65, .aload_n 0, 1), (66, .iload_n 1, 1), (67, .aload_n 0, 1), (68, .getfield 71, 3), (71, .iconst 3, 1), (72, .iaload, 1), (73, .iconst (-1), 1), (74, .aload_n 0, 1), (75, .getfield 36, 3), (78, .iload_n 1, 1), (79, .iaload, 1), (80, .invokevirtual 103, 3), (83, .iconst 2, 1), (84, .istore 5, 2), (86, .iload 5, 2), (88, .ifCond .lt 48, 3), (91, .aload_n 0, 1), (92, .iload_n 1, 1), (93, .aload_n 0, 1), (94, .iload_n 1, 1), (95, .aload_n 0, 1), (96, .getfield 71, 3), (99, .iload 5, 2), (101, .iaload, 1), (102, .invokevirtual 90, 3), (105, .invokevirtual 121, 3), (108, .ifCond .eq 28, 3), (111, .aload_n 0, 1), (112, .iload_n 1, 1), (113, .aload_n 0, 1), (114, .getfield 71, 3), (117, .iload 5, 2), (119, .iaload, 1), (120, .iconst (-1), 1), (121, .aload_n 0, 1), (122, .getfield 36, 3), (125, .iload_n 1, 1), (126, .iaload, 1), (127, .invokevirtual 103, 3), (130, .iinc 5 (-1), 3), (133, .goto (-47), 3), (136, .iconst 0, 1), (137, .ireturn, 1)]
theorem DX8_clears : ∀ q ∈ tX8_clears, decode cX8_clears q.1 = .ok (q.2.1, q.2.2) := by decide +kernel
abbrev wsX8_isPlace : List Cond := Cond.code yX8_isPlace cX8_isPlace 1 (some .boolean) :: gW
theorem eX8_isPlace : yX8_isPlace.cls ≠ "java/lang/invoke/MethodHandle" ∧ yX8_isPlace.cls ≠ "java/lang/invoke/VarHandle" ∧ (parseMethodDescriptor yX8_isPlace.desc).map (fun d => d.parameters.length) = some 1 := by decide +kernel
def tX8_isPlace : List (Nat × Instr × Nat) := [(0, .iload_n 0, 1), (1, .ifCond .lt 14, 3), (4, .iload_n 0, 1), (5, .sipush 512, 3), (8, .if_icmp .ge 7, 3), (11, .iconst 1, 1), (12, .goto 4, 3), (15, .iconst 0, 1), (16, .ireturn, 1)]
theorem DX8_isPlace : ∀ q ∈ tX8_isPlace, decode cX8_isPlace q.1 = .ok (q.2.1, q.2.2) := by decide +kernel
abbrev wsX8_write : List Cond := Cond.code yX8_write cX8_write 6 (some .int) :: gW
theorem eX8_write : yX8_write.cls ≠ "java/lang/invoke/MethodHandle" ∧ yX8_write.cls ≠ "java/lang/invoke/VarHandle" ∧ (parseMethodDescriptor yX8_write.desc).map (fun d => d.parameters.length) = some 3 := by decide +kernel
def tX8_write : List (Nat × Instr × Nat) := [(0, .aload_n 0, 1), (1, .iload_n 1, 1), (2, .invokestatic 82, 3), (5, .ifCond .eq 10, 3), (8, .iload_n 2, 1), (9, .invokestatic 124, 3), (12, .ifCond .ne 7, 3), (15, .iconst 1, 1), (16, .goto 4, 3), (19, .iconst 0, 1), (20, .putfield 78, 3), (23, .aload_n 0, 1), (24, .getfield 78, 3), (27, .ifCond .le 5, 3), (30, .iconst 0, 1), (31, .ireturn, 1), (32, .aload_n 0, 1), (33, .getfield 48, 3), (36, .iload_n 1, 1), (37, .baload, 1), (38, .ifCond .eq 6, 3), (41, .bipush 6, 2), (43, .ireturn, 1), (44, .aload_n 0, 1), (45, .iload_n 1, 1), (46, .invokevirtual 127, 3), (49, .aload_n 0, 1), (50, .iload_n 1, 1), (51, .iconst 0, 1), (52, .iload_n 2, 1), (53, .lload_n 3, 1), (54, .invokevirtual 131, 3), (57, .istore 5, 2), (59, .aload_n 0, 1), (60, .iload_n 1, 1), (61, .invokevirtual 135, 3), (64, .iload 5, 2), (66, .ireturn, 1)]
theorem DX8_write : ∀ q ∈ tX8_write, decode cX8_write q.1 = .ok (q.2.1, q.2.2) := by decide +kernel
abbrev wsX8_clear : List Cond := Cond.code yX8_clear cX8_clear 4 (some .int) :: gW
theorem eX8_clear : yX8_clear.cls ≠ "java/lang/invoke/MethodHandle" ∧ yX8_clear.cls ≠ "java/lang/invoke/VarHandle" ∧ (parseMethodDescriptor yX8_clear.desc).map (fun d => d.parameters.length) = some 2 := by decide +kernel
def tX8_clear : List (Nat × Instr × Nat) := [(0, .aload_n 0, 1), (1, .iload_n 1, 1), (2, .invokestatic 82, 3), (5, .ifCond .eq 10, 3), (8, .iload_n 2, 1), (9, .invokestatic 124, 3), (12, .ifCond .ne 7, 3), (15, .iconst 1, 1), (16, .goto 4, 3), (19, .iconst 0, 1), (20, .putfield 78, 3), (23, .aload_n 0, 1), (24, .getfield 78, 3), (27, .ifCond .le 5, 3), (30, .iconst 0, 1), (31, .ireturn, 1), (32, .aload_n 0, 1), (33, .getfield 48, 3), (36, .iload_n 1, 1), (37, .baload, 1), (38, .ifCond .eq 6, 3), (41, .bipush 6, 2), (43, .ireturn, 1), (44, .aload_n 0, 1), (45, .iload_n 1, 1), (46, .invokevirtual 127, 3), (49, .aload_n 0, 1), (50, .iload_n 1, 1), (51, .iconst 0, 1), (52, .iload_n 2, 1), (53, .invokevirtual 138, 3), (56, .istore_n 3, 1), (57, .aload_n 0, 1), (58, .iload_n 1, 1), (59, .invokevirtual 135, 3), (62, .iload_n 3, 1), (63, .ireturn, 1)]
theorem DX8_clear : ∀ q ∈ tX8_clear, decode cX8_clear q.1 = .ok (q.2.1, q.2.2) := by decide +kernel
abbrev wsX8_isSnap : List Cond := Cond.code yX8_isSnap cX8_isSnap 3 (some .boolean) :: gW
theorem eX8_isSnap : yX8_isSnap.cls ≠ "java/lang/invoke/MethodHandle" ∧ yX8_isSnap.cls ≠ "java/lang/invoke/VarHandle" ∧ (parseMethodDescriptor yX8_isSnap.desc).map (fun d => d.parameters.length) = some 2 := by decide +kernel
def tX8_isSnap : List (Nat × Instr × Nat) := [(0, .iload_n 2, 1), (1, .ifCond .lt 17, 3), (4, .iload_n 2, 1), (5, .aload_n 0, 1), (6, .getfield 39, 3), (9, .iload_n 1, 1), (10, .iaload, 1), (11, .if_icmp .ge 7, 3), (14, .iconst 1, 1), (15, .goto 4, 3), (18, .iconst 0, 1), (19, .ireturn, 1)]
theorem DX8_isSnap : ∀ q ∈ tX8_isSnap, decode cX8_isSnap q.1 = .ok (q.2.1, q.2.2) := by decide +kernel
abbrev wsX8_read : List Cond := Cond.code yX8_read cX8_read 5 (some .long) :: gW
theorem eX8_read : yX8_read.cls ≠ "java/lang/invoke/MethodHandle" ∧ yX8_read.cls ≠ "java/lang/invoke/VarHandle" ∧ (parseMethodDescriptor yX8_read.desc).map (fun d => d.parameters.length) = some 3 := by decide +kernel
def tX8_read : List (Nat × Instr × Nat) := [(0, .aload_n 0, 1), (1, .iload_n 1, 1), (2, .invokestatic 82, 3), (5, .ifCond .eq 10, 3), (8, .iload_n 3, 1), (9, .invokestatic 124, 3), (12, .ifCond .ne 7, 3), (15, .iconst 1, 1), (16, .goto 22, 3), (19, .iload_n 2, 1), (20, .iconst (-1), 1), (21, .if_icmp .eq 16, 3), (24, .aload_n 0, 1), (25, .iload_n 1, 1), (26, .iload_n 2, 1), (27, .invokevirtual 141, 3), (30, .ifCond .ne 7, 3), (33, .iconst 2, 1), (34, .goto 4, 3), (37, .iconst 0, 1), (38, .putfield 78, 3), (41, .aload_n 0, 1), (42, .getfield 78, 3), (45, .ifCond .le 5, 3), (48, .lconst 0, 1), (49, .lreturn, 1), (50, .aload_n 0, 1), (51, .iload_n 1, 1), (52, .iload_n 2, 1), (53, .iconst (-1), 1), (54, .if_icmp .ne 7, 3), (57, .iconst 0, 1), (58, .goto 6, 3), (61, .iconst 2, 1), (62, .iload_n 2, 1), (63, .iadd, 1), (64, .iload_n 3, 1), (65, .invokevirtual 107, 3), (68, .istore 4, 2), (70, .iload 4, 2), (72, .iconst 4, 1), (73, .if_icmp .lt 18, 3), (76, .aload_n 0, 1), (77, .iload_n 1, 1), (78, .aload_n 0, 1), (79, .getfield 71, 3), (82, .iconst 3, 1), (83, .iaload, 1), (84, .invokevirtual 90, 3), (87, .iconst (-1), 1), (88, .if_icmp .ne 7, 3), (91, .lconst 0, 1), (92, .goto 25, 3), (95, .aload_n 0, 1), (96, .getfield 22, 3), (99, .sipush 600, 3), (102, .iload_n 1, 1), (103, .imul, 1), (104, .aload_n 0, 1), (105, .iload_n 1, 1), (106, .aload_n 0, 1), (107, .getfield 71, 3), (110, .iconst 3, 1), (111, .iaload, 1), (112, .invokevirtual 90, 3), (115, .iadd, 1), (116, .laload, 1), (117, .lreturn, 1)]
theorem DX8_read : ∀ q ∈ tX8_read, decode cX8_read q.1 = .ok (q.2.1, q.2.2) := by decide +kernel
abbrev wsX8_snaps : List Cond := Cond.code yX8_snaps cX8_snaps 6 none :: gW
theorem eX8_snaps : yX8_snaps.cls ≠ "java/lang/invoke/MethodHandle" ∧ yX8_snaps.cls ≠ "java/lang/invoke/VarHandle" ∧ (parseMethodDescriptor yX8_snaps.desc).map (fun d => d.parameters.length) = some 3 := by decide +kernel
def tX8_snaps : List (Nat × Instr × Nat) := [(0, .aload_n 0, 1), (1, .getfield 39, 3), (4, .iload_n 1, 1), (5, .iaload, 1), (6, .istore 5, 2), (8, .aload_n 0, 1), (9, .getfield 30, 3), (12, .bipush 22, 2), (14, .iload_n 1, 1), (15, .imul, 1), (16, .iconst 2, 1), (17, .iadd, 1), (18, .iload 5, 2), (20, .iadd, 1), (21, .aload_n 0, 1), (22, .getfield 30, 3), (25, .bipush 22, 2), (27, .iload_n 1, 1), (28, .imul, 1), (29, .iload_n 2, 1), (30, .iadd, 1), (31, .iaload, 1), (32, .iastore, 1), (33, .aload_n 0, 1), (34, .getfield 33, 3), (37, .bipush 22, 2), (39, .iload_n 1, 1), (40, .imul, 1), (41, .iconst 2, 1), (42, .iadd, 1), (43, .iload 5, 2), (45, .iadd, 1), (46, .aload_n 0, 1), (47, .getfield 33, 3), (50, .bipush 22, 2), (52, .iload_n 1, 1), (53, .imul, 1), (54, .iload_n 2, 1), (55, .iadd, 1), (56, .iaload, 1), (57, .iastore, 1), (58, .aload_n 0, 1), (59, .getfield 42, 3), (62, .bipush 20, 2), (64, .iload_n 1, 1), (65, .imul, 1), (66, .iload 5, 2), (68, .iadd, 1), (69, .aload_n 0, 1), (70, .getfield 36, 3), (73, .iload_n 1, 1), (74, .iaload, 1), (75, .iastore, 1), (76, .aload_n 0, 1), (77, .getfield 45, 3), (80, .bipush 20, 2), (82, .iload_n 1, 1), (83, .imul, 1), (84, .iload 5, 2), (86, .iadd, 1), (87, .lload_n 3, 1), (88, .lastore, 1), (89, .aload_n 0, 1), (90, .getfield 39, 3), (93, .iload_n 1, 1), (94, .dup2, 1), (95, .iaload, 1), (96, .iconst 1, 1), (97, .iadd, 1), (98, .iastore, 1), (99, .aload_n 0, 1), (100, .getfield 36, 3), (103, .iload_n 1, 1), (104, .dup2, 1), (105, .iaload, 1), (106, .iconst 1, 1), (107, .iadd, 1), (108, .iastore, 1), (109, .return_, 1)]
theorem DX8_snaps : ∀ q ∈ tX8_snaps, decode cX8_snaps q.1 = .ok (q.2.1, q.2.2) := by decide +kernel
abbrev wsX8_snapshot : List Cond := Cond.code yX8_snapshot cX8_snapshot 2 (some .int) :: gW
theorem eX8_snapshot : yX8_snapshot.cls ≠ "java/lang/invoke/MethodHandle" ∧ yX8_snapshot.cls ≠ "java/lang/invoke/VarHandle" ∧ (parseMethodDescriptor yX8_snapshot.desc).map (fun d => d.parameters.length) = some 1 := by decide +kernel
def tX8_snapshot : List (Nat × Instr × Nat) := [(0, .aload_n 0, 1), (1, .iload_n 1, 1), (2, .invokestatic 82, 3), (5, .ifCond .ne 7, 3), (8, .iconst 1, 1), (9, .goto 32, 3), (12, .aload_n 0, 1), (13, .getfield 48, 3), (16, .iload_n 1, 1), (17, .baload, 1), (18, .ifCond .eq 7, 3), (21, .iconst 2, 1), (22, .goto 19, 3), (25, .aload_n 0, 1), (26, .getfield 39, 3), (29, .iload_n 1, 1), (30, .iaload, 1), (31, .bipush 20, 2), (33, .if_icmp .ne 7, 3), (36, .iconst 3, 1), (37, .goto 4, 3), (40, .iconst 0, 1), (41, .putfield 78, 3), (44, .aload_n 0, 1), (45, .getfield 78, 3), (48, .ifCond .le 5, 3), (51, .iconst 0, 1), (52, .ireturn, 1), (53, .aload_n 0, 1), (54, .iload_n 1, 1), (55, .iconst 0, 1), (56, .aload_n 0, 1), (57, .getfield 60, 3), (60, .invokevirtual 144, 3), (63, .aload_n 0, 1), (64, .dup, 1), (65, .getfield 60, 3), (68, .lconst 1, 1), (69, .ladd, 1), (70, .putfield 60, 3), (73, .aload_n 0, 1), (74, .getfield 39, 3), (77, .iload_n 1, 1), (78, .iaload, 1), (79, .iconst 1, 1), (80, .isub, 1), (81, .ireturn, 1)]
theorem DX8_snapshot : ∀ q ∈ tX8_snapshot, decode cX8_snapshot q.1 = .ok (q.2.1, q.2.2) := by decide +kernel
abbrev wsX8_destroy : List Cond := Cond.code yX8_destroy cX8_destroy 4 (some .int) :: gW
theorem eX8_destroy : yX8_destroy.cls ≠ "java/lang/invoke/MethodHandle" ∧ yX8_destroy.cls ≠ "java/lang/invoke/VarHandle" ∧ (parseMethodDescriptor yX8_destroy.desc).map (fun d => d.parameters.length) = some 2 := by decide +kernel
def tX8_destroy_0 : List (Nat × Instr × Nat) := [(0, .aload_n 0, 1), (1, .iload_n 1, 1), (2, .invokestatic 82, 3), (5, .ifCond .ne 7, 3), (8, .iconst 1, 1), (9, .goto 30, 3), (12, .aload_n 0, 1), (13, .getfield 48, 3), (16, .iload_n 1, 1), (17, .baload, 1), (18, .ifCond .eq 7, 3), (21, .iconst 2, 1), (22, .goto 17, 3), (25, .aload_n 0, 1), (26, .iload_n 1, 1), (27, .iload_n 2, 1), (28, .invokevirtual 141, 3), (31, .ifCond .ne 7, 3), (34, .iconst 3, 1), (35, .goto 4, 3), (38, .iconst 0, 1), (39, .putfield 78, 3), (42, .aload_n 0, 1), (43, .getfield 78, 3), (46, .ifCond .le 5, 3), (49, .iconst 0, 1), (50, .ireturn, 1), (51, .aload_n 0, 1), (52, .getfield 39, 3), (55, .iload_n 1, 1), (56, .dup2, 1), (57, .iaload, 1), (58, .iconst 1, 1), (59, .isub, 1), (60, .iastore, 1), (61, .iload_n 2, 1), (62, .istore_n 3, 1), (63, .iload_n 3, 1), (64, .aload_n 0, 1), (65, .getfield 39, 3), (68, .iload_n 1, 1), (69, .iaload, 1), (70, .if_icmp .ge 113, 3), (73, .aload_n 0, 1), (74, .getfield 30, 3), (77, .bipush 22, 2), (79, .iload_n 1, 1), (80, .imul, 1), (81, .iconst 2, 1), (82, .iadd, 1), (83, .iload_n 3, 1), (84, .iadd, 1), (85, .aload_n 0, 1), (86, .getfield 30, 3), (89, .bipush 22, 2), (91, .iload_n 1, 1), (92, .imul, 1), (93, .iconst 2, 1), (94, .iadd, 1), (95, .iload_n 3, 1)]
theorem DX8_destroy_0 : ∀ q ∈ tX8_destroy_0, decode cX8_destroy q.1 = .ok (q.2.1, q.2.2) := by decide +kernel
def tX8_destroy_1 : List (Nat × Instr × Nat) := [(96, .iadd, 1), (97, .iconst 1, 1), (98, .iadd, 1), (99, .iaload, 1), (100, .iastore, 1), (101, .aload_n 0, 1), (102, .getfield 33, 3), (105, .bipush 22, 2), (107, .iload_n 1, 1), (108, .imul, 1), (109, .iconst 2, 1), (110, .iadd, 1), (111, .iload_n 3, 1), (112, .iadd, 1), (113, .aload_n 0, 1), (114, .getfield 33, 3), (117, .bipush 22, 2), (119, .iload_n 1, 1), (120, .imul, 1), (121, .iconst 2, 1), (122, .iadd, 1), (123, .iload_n 3, 1), (124, .iadd, 1), (125, .iconst 1, 1), (126, .iadd, 1), (127, .iaload, 1), (128, .iastore, 1), (129, .aload_n 0, 1), (130, .getfield 42, 3), (133, .bipush 20, 2), (135, .iload_n 1, 1), (136, .imul, 1), (137, .iload_n 3, 1), (138, .iadd, 1), (139, .aload_n 0, 1), (140, .getfield 42, 3), (143, .bipush 20, 2), (145, .iload_n 1, 1), (146, .imul, 1), (147, .iload_n 3, 1), (148, .iadd, 1), (149, .iconst 1, 1), (150, .iadd, 1), (151, .iaload, 1), (152, .iastore, 1), (153, .aload_n 0, 1), (154, .getfield 45, 3), (157, .bipush 20, 2), (159, .iload_n 1, 1), (160, .imul, 1), (161, .iload_n 3, 1), (162, .iadd, 1), (163, .aload_n 0, 1), (164, .getfield 45, 3), (167, .bipush 20, 2), (169, .iload_n 1, 1), (170, .imul, 1), (171, .iload_n 3, 1), (172, .iadd, 1), (173, .iconst 1, 1)]
theorem DX8_destroy_1 : ∀ q ∈ tX8_destroy_1, decode cX8_destroy q.1 = .ok (q.2.1, q.2.2) := by decide +kernel
def tX8_destroy_2 : List (Nat × Instr × Nat) := [(174, .iadd, 1), (175, .laload, 1), (176, .lastore, 1), (177, .iinc 3 1, 3), (180, .goto (-117), 3), (183, .aload_n 0, 1), (184, .iload_n 1, 1), (185, .invokevirtual 135, 3), (188, .aload_n 0, 1), (189, .getfield 39, 3), (192, .iload_n 1, 1), (193, .iaload, 1), (194, .ireturn, 1)]
theorem DX8_destroy_2 : ∀ q ∈ tX8_destroy_2, decode cX8_destroy q.1 = .ok (q.2.1, q.2.2) := by decide +kernel
def tX8_destroy : List (Nat × Instr × Nat) := tX8_destroy_0 ++ (tX8_destroy_1 ++ (tX8_destroy_2))
theorem DX8_destroy : ∀ q ∈ tX8_destroy, decode cX8_destroy q.1 = .ok (q.2.1, q.2.2) := (fun q h => (List.mem_append.mp h).elim (DX8_destroy_0 q) ((fun q h => (List.mem_append.mp h).elim (DX8_destroy_1 q) (DX8_destroy_2 q)) q))
abbrev wsX8_rollback : List Cond := Cond.code yX8_rollback cX8_rollback 3 (some .int) :: gW
theorem eX8_rollback : yX8_rollback.cls ≠ "java/lang/invoke/MethodHandle" ∧ yX8_rollback.cls ≠ "java/lang/invoke/VarHandle" ∧ (parseMethodDescriptor yX8_rollback.desc).map (fun d => d.parameters.length) = some 1 := by decide +kernel
def tX8_rollback : List (Nat × Instr × Nat) := [(0, .aload_n 0, 1), (1, .iload_n 1, 1), (2, .invokestatic 82, 3), (5, .ifCond .ne 7, 3), (8, .iconst 1, 1), (9, .goto 30, 3), (12, .aload_n 0, 1), (13, .getfield 48, 3), (16, .iload_n 1, 1), (17, .baload, 1), (18, .ifCond .eq 7, 3), (21, .iconst 2, 1), (22, .goto 17, 3), (25, .aload_n 0, 1), (26, .getfield 39, 3), (29, .iload_n 1, 1), (30, .iaload, 1), (31, .ifCond .ne 7, 3), (34, .iconst 3, 1), (35, .goto 4, 3), (38, .iconst 0, 1), (39, .putfield 78, 3), (42, .aload_n 0, 1), (43, .getfield 78, 3), (46, .ifCond .le 5, 3), (49, .iconst 0, 1), (50, .ireturn, 1), (51, .aload_n 0, 1), (52, .getfield 39, 3), (55, .iload_n 1, 1), (56, .iaload, 1), (57, .iconst 1, 1), (58, .isub, 1), (59, .istore_n 2, 1), (60, .aload_n 0, 1), (61, .getfield 30, 3), (64, .bipush 22, 2), (66, .iload_n 1, 1), (67, .imul, 1), (68, .iconst 0, 1), (69, .iadd, 1), (70, .aload_n 0, 1), (71, .getfield 30, 3), (74, .bipush 22, 2), (76, .iload_n 1, 1), (77, .imul, 1), (78, .iconst 2, 1), (79, .iadd, 1), (80, .iload_n 2, 1), (81, .iadd, 1), (82, .iaload, 1), (83, .iastore, 1), (84, .aload_n 0, 1), (85, .getfield 33, 3), (88, .bipush 22, 2), (90, .iload_n 1, 1), (91, .imul, 1), (92, .iconst 0, 1), (93, .iadd, 1), (94, .aload_n 0, 1), (95, .getfield 33, 3), (98, .bipush 22, 2), (100, .iload_n 1, 1), (101, .imul, 1), (102, .iconst 2, 1), (103, .iadd, 1), (104, .iload_n 2, 1), (105, .iadd, 1), (106, .iaload, 1), (107, .iastore, 1), (108, .aload_n 0, 1), (109, .iload_n 1, 1), (110, .invokevirtual 135, 3), (113, .iload_n 2, 1), (114, .ireturn, 1)]
theorem DX8_rollback : ∀ q ∈ tX8_rollback, decode cX8_rollback q.1 = .ok (q.2.1, q.2.2) := by decide +kernel
abbrev wsX8_put : List Cond := Cond.code yX8_put cX8_put 5 none :: gW
theorem eX8_put : yX8_put.cls ≠ "java/lang/invoke/MethodHandle" ∧ yX8_put.cls ≠ "java/lang/invoke/VarHandle" ∧ (parseMethodDescriptor yX8_put.desc).map (fun d => d.parameters.length) = some 2 := by decide +kernel
def tX8_put : List (Nat × Instr × Nat) := [(0, .iload_n 3, 1), (1, .iconst 1, 1), (2, .isub, 1), (3, .istore 4, 2), (5, .iload 4, 2), (7, .ifCond .lt 37, 3), (10, .aload_n 0, 1), (11, .getfield 64, 3), (14, .aload_n 0, 1), (15, .getfield 147, 3), (18, .lload_n 1, 1), (19, .bipush 8, 2), (21, .iload 4, 2), (23, .imul, 1), (24, .lshr, 1), (25, .l2i, 1), (26, .i2b, 1), (27, .bastore, 1), (28, .aload_n 0, 1), (29, .dup, 1), (30, .getfield 147, 3), (33, .iconst 1, 1), (34, .iadd, 1), (35, .putfield 147, 3), (38, .iinc 4 (-1), 3), (41, .goto (-36), 3), (44, .return_, 1)]
theorem DX8_put : ∀ q ∈ tX8_put, decode cX8_put q.1 = .ok (q.2.1, q.2.2) := by decide +kernel
abbrev wsX8_sumOf : List Cond := Cond.code yX8_sumOf cX8_sumOf 6 (some .long) :: gW
theorem eX8_sumOf : yX8_sumOf.cls ≠ "java/lang/invoke/MethodHandle" ∧ yX8_sumOf.cls ≠ "java/lang/invoke/VarHandle" ∧ (parseMethodDescriptor yX8_sumOf.desc).map (fun d => d.parameters.length) = some 2 := by decide +kernel
def tX8_sumOf : List (Nat × Instr × Nat) := [(0, .iconst 1, 1), (1, .istore_n 3, 1), (2, .iconst 0, 1), (3, .istore 4, 2), (5, .iload_n 1, 1), (6, .istore 5, 2), (8, .iload 5, 2), (10, .iload_n 2, 1), (11, .if_icmp .ge 29, 3), (14, .iload_n 3, 1), (15, .aload_n 0, 1), (16, .getfield 64, 3), (19, .iload 5, 2), (21, .baload, 1), (22, .sipush 255, 3), (25, .iand, 1), (26, .iadd, 1), (27, .istore_n 3, 1), (28, .iload 4, 2), (30, .iload_n 3, 1), (31, .iadd, 1), (32, .istore 4, 2), (34, .iinc 5 1, 3), (37, .goto (-29), 3), (40, .iload 4, 2), (42, .i2l, 1), (43, .bipush 32, 2), (45, .lshl, 1), (46, .iload_n 3, 1), (47, .i2l, 1), (48, .ldc2_w 150, 3), (51, .land, 1), (52, .lor, 1), (53, .lreturn, 1)]
theorem DX8_sumOf : ∀ q ∈ tX8_sumOf, decode cX8_sumOf q.1 = .ok (q.2.1, q.2.2) := by decide +kernel
abbrev wsX8_ends : List Cond := Cond.code yX8_ends cX8_ends 1 none :: gW
theorem eX8_ends : yX8_ends.cls ≠ "java/lang/invoke/MethodHandle" ∧ yX8_ends.cls ≠ "java/lang/invoke/VarHandle" ∧ (parseMethodDescriptor yX8_ends.desc).map (fun d => d.parameters.length) = some 0 := by decide +kernel
def tX8_ends : List (Nat × Instr × Nat) := [(0, .aload_n 0, 1), (1, .aload_n 0, 1), (2, .aload_n 0, 1), (3, .getfield 152, 3), (6, .aload_n 0, 1), (7, .getfield 147, 3), (10, .invokevirtual 155, 3), (13, .bipush 8, 2), (15, .invokevirtual 159, 3), (18, .aload_n 0, 1), (19, .aload_n 0, 1), (20, .getfield 147, 3), (23, .putfield 152, 3), (26, .aload_n 0, 1), (27, .dup, 1), (28, .getfield 163, 3), (31, .iconst 1, 1), (32, .iadd, 1), (33, .putfield 163, 3), (36, .return_, 1)]
theorem DX8_ends : ∀ q ∈ tX8_ends, decode cX8_ends q.1 = .ok (q.2.1, q.2.2) := by decide +kernel
abbrev wsX8_brings : List Cond := Cond.code yX8_brings cX8_brings 7 (some .boolean) :: gW
theorem eX8_brings : yX8_brings.cls ≠ "java/lang/invoke/MethodHandle" ∧ yX8_brings.cls ≠ "java/lang/invoke/VarHandle" ∧ (parseMethodDescriptor yX8_brings.desc).map (fun d => d.parameters.length) = some 5 := by decide +kernel
def tX8_brings : List (Nat × Instr × Nat) := [(0, .aload_n 0, 1), (1, .iload_n 1, 1), (2, .iload_n 2, 1), (3, .invokevirtual 97, 3), (6, .iload 5, 2), (8, .if_icmp .gt 5, 3), (11, .iconst 0, 1), (12, .ireturn, 1), (13, .aload_n 0, 1), (14, .iload_n 1, 1), (15, .iload_n 2, 1), (16, .invokevirtual 90, 3), (19, .istore 6, 2), (21, .iload 6, 2), (23, .iconst (-1), 1), (24, .if_icmp .ne 42, 3), (27, .aload_n 0, 1), (28, .ldc2_w 166, 3), (31, .iconst 1, 1), (32, .invokevirtual 159, 3), (35, .aload_n 0, 1), (36, .iload_n 3, 1), (37, .i2l, 1), (38, .iconst 2, 1), (39, .invokevirtual 159, 3), (42, .aload_n 0, 1), (43, .iload 4, 2), (45, .i2l, 1), (46, .iconst 2, 1), (47, .invokevirtual 159, 3), (50, .aload_n 0, 1), (51, .invokevirtual 168, 3), (54, .aload_n 0, 1), (55, .dup, 1), (56, .getfield 171, 3), (59, .iconst 1, 1), (60, .iadd, 1), (61, .putfield 171, 3), (64, .iconst 0, 1), (65, .ireturn, 1), (66, .aload_n 0, 1), (67, .dup, 1), (68, .getfield 173, 3), (71, .iconst 1, 1), (72, .iadd, 1), (73, .putfield 173, 3), (76, .iload 4, 2), (78, .iconst 1, 1), (79, .if_icmp .le 5, 3), (82, .iconst 1, 1), (83, .ireturn, 1), (84, .aload_n 0, 1), (85, .ldc2_w 176, 3), (88, .iconst 1, 1), (89, .invokevirtual 159, 3), (92, .aload_n 0, 1), (93, .iload_n 3, 1), (94, .i2l, 1), (95, .iconst 2, 1), (96, .invokevirtual 159, 3), (99, .aload_n 0, 1), (100, .aload_n 0, 1), (101, .getfield 22, 3), (104, .sipush 600, 3), (107, .iload_n 1, 1), (108, .imul, 1), (109, .iload 6, 2), (111, .iadd, 1), (112, .laload, 1), (113, .bipush 8, 2), (115, .invokevirtual 159, 3), (118, .aload_n 0, 1), (119, .invokevirtual 168, 3), (122, .aload_n 0, 1), (123, .dup, 1), (124, .getfield 178, 3), (127, .iconst 1, 1), (128, .iadd, 1), (129, .putfield 178, 3), (132, .iconst 0, 1), (133, .ireturn, 1)]
theorem DX8_brings : ∀ q ∈ tX8_brings, decode cX8_brings q.1 = .ok (q.2.1, q.2.2) := by decide +kernel
abbrev wsX8_send : List Cond := Cond.code yX8_send cX8_send 12 (some .int) :: gW
theorem eX8_send : yX8_send.cls ≠ "java/lang/invoke/MethodHandle" ∧ yX8_send.cls ≠ "java/lang/invoke/VarHandle" ∧ (parseMethodDescriptor yX8_send.desc).map (fun d => d.parameters.length) = some 3 := by decide +kernel
def tX8_send_0 : List (Nat × Instr × Nat) := [(0, .aload_n 0, 1), (1, .iload_n 1, 1), (2, .invokestatic 82, 3), (5, .ifCond .ne 7, 3), (8, .iconst 1, 1), (9, .goto 31, 3), (12, .aload_n 0, 1), (13, .iload_n 1, 1), (14, .iload_n 3, 1), (15, .invokevirtual 141, 3), (18, .ifCond .ne 7, 3), (21, .iconst 2, 1), (22, .goto 18, 3), (25, .iload_n 2, 1), (26, .iconst (-1), 1), (27, .if_icmp .lt 8, 3), (30, .iload_n 2, 1), (31, .iload_n 3, 1), (32, .if_icmp .lt 7, 3), (35, .iconst 3, 1), (36, .goto 4, 3), (39, .iconst 0, 1), (40, .putfield 78, 3), (43, .aload_n 0, 1), (44, .getfield 78, 3), (47, .ifCond .le 5, 3), (50, .iconst 0, 1), (51, .ireturn, 1), (52, .aload_n 0, 1), (53, .iconst 0, 1), (54, .putfield 147, 3), (57, .aload_n 0, 1), (58, .iconst 0, 1), (59, .putfield 152, 3), (62, .aload_n 0, 1), (63, .iconst 0, 1), (64, .putfield 163, 3), (67, .aload_n 0, 1), (68, .iconst 0, 1), (69, .putfield 178, 3), (72, .aload_n 0, 1), (73, .iconst 0, 1), (74, .putfield 171, 3), (77, .aload_n 0, 1), (78, .iconst 0, 1), (79, .putfield 173, 3), (82, .iload_n 2, 1), (83, .iconst (-1), 1), (84, .if_icmp .ne 7, 3), (87, .iconst 0, 1), (88, .goto 14, 3), (91, .aload_n 0, 1), (92, .getfield 42, 3), (95, .bipush 20, 2), (97, .iload_n 1, 1), (98, .imul, 1), (99, .iload_n 2, 1), (100, .iadd, 1), (101, .iaload, 1), (102, .istore 4, 2)]
theorem DX8_send_0 : ∀ q ∈ tX8_send_0, decode cX8_send q.1 = .ok (q.2.1, q.2.2) := by decide +kernel
def tX8_send_1 : List (Nat × Instr × Nat) := [(104, .aload_n 0, 1), (105, .lconst 1, 1), (106, .iconst 1, 1), (107, .invokevirtual 159, 3), (110, .aload_n 0, 1), (111, .iload_n 2, 1), (112, .iconst (-1), 1), (113, .if_icmp .ne 7, 3), (116, .lconst 0, 1), (117, .goto 14, 3), (120, .aload_n 0, 1), (121, .getfield 45, 3), (124, .bipush 20, 2), (126, .iload_n 1, 1), (127, .imul, 1), (128, .iload_n 2, 1), (129, .iadd, 1), (130, .laload, 1), (131, .bipush 8, 2), (133, .invokevirtual 159, 3), (136, .aload_n 0, 1), (137, .aload_n 0, 1), (138, .getfield 45, 3), (141, .bipush 20, 2), (143, .iload_n 1, 1), (144, .imul, 1), (145, .iload_n 3, 1), (146, .iadd, 1), (147, .laload, 1), (148, .bipush 8, 2), (150, .invokevirtual 159, 3), (153, .aload_n 0, 1), (154, .invokevirtual 168, 3), (157, .bipush (-3), 2), (159, .iload_n 3, 1), (160, .isub, 1), (161, .istore 5, 2), (163, .aload_n 0, 1), (164, .iload_n 1, 1), (165, .iload 5, 2), (167, .iconst 0, 1), (168, .sipush 512, 3), (171, .iload 4, 2), (173, .invokevirtual 180, 3), (176, .istore 6, 2), (178, .iconst 0, 1), (179, .istore 7, 2), (181, .iload 7, 2), (183, .bipush 8, 2), (185, .if_icmp .ge 162, 3), (188, .iload 6, 2), (190, .ifCond .eq 157, 3), (193, .bipush 8, 2), (195, .aload_n 0, 1), (196, .iload_n 1, 1), (197, .iload 5, 2), (199, .invokevirtual 90, 3), (202, .imul, 1), (203, .iload 7, 2), (205, .iadd, 1)]
theorem DX8_send_1 : ∀ q ∈ tX8_send_1, decode cX8_send q.1 = .ok (q.2.1, q.2.2) := by decide +kernel
def tX8_send_2 : List (Nat × Instr × Nat) := [(206, .istore 8, 2), (208, .aload_n 0, 1), (209, .iload_n 1, 1), (210, .iload 8, 2), (212, .bipush 64, 2), (214, .iload 7, 2), (216, .imul, 1), (217, .bipush 64, 2), (219, .iload 4, 2), (221, .invokevirtual 180, 3), (224, .ifCond .ne 6, 3), (227, .goto 114, 3), (230, .iconst 0, 1), (231, .istore 9, 2), (233, .iload 9, 2), (235, .bipush 8, 2), (237, .if_icmp .ge 104, 3), (240, .bipush 8, 2), (242, .aload_n 0, 1), (243, .iload_n 1, 1), (244, .iload 8, 2), (246, .invokevirtual 90, 3), (249, .imul, 1), (250, .iload 9, 2), (252, .iadd, 1), (253, .istore 10, 2), (255, .aload_n 0, 1), (256, .iload_n 1, 1), (257, .iload 10, 2), (259, .bipush 64, 2), (261, .iload 7, 2), (263, .imul, 1), (264, .bipush 8, 2), (266, .iload 9, 2), (268, .imul, 1), (269, .iadd, 1), (270, .bipush 8, 2), (272, .iload 4, 2), (274, .invokevirtual 180, 3), (277, .ifCond .ne 6, 3), (280, .goto 55, 3), (283, .iconst 0, 1), (284, .istore 11, 2), (286, .iload 11, 2), (288, .bipush 8, 2), (290, .if_icmp .ge 45, 3), (293, .aload_n 0, 1), (294, .iload_n 1, 1), (295, .bipush 8, 2), (297, .aload_n 0, 1), (298, .iload_n 1, 1), (299, .iload 10, 2), (301, .invokevirtual 90, 3), (304, .imul, 1), (305, .iload 11, 2), (307, .iadd, 1), (308, .bipush 64, 2), (310, .iload 7, 2), (312, .imul, 1), (313, .bipush 8, 2)]
theorem DX8_send_2 : ∀ q ∈ tX8_send_2, decode cX8_send q.1 = .ok (q.2.1, q.2.2) := by decide +kernel
def tX8_send_3 : List (Nat × Instr × Nat) := [(315, .iload 9, 2), (317, .imul, 1), (318, .iadd, 1), (319, .iload 11, 2), (321, .iadd, 1), (322, .iconst 1, 1), (323, .iload 4, 2), (325, .invokevirtual 180, 3), (328, .pop, 1), (329, .iinc 11 1, 3), (332, .goto (-46), 3), (335, .iinc 9 1, 3), (338, .goto (-105), 3), (341, .iinc 7 1, 3), (344, .goto (-163), 3), (347, .aload_n 0, 1), (348, .ldc2_w 184, 3), (351, .iconst 1, 1), (352, .invokevirtual 159, 3), (355, .aload_n 0, 1), (356, .aload_n 0, 1), (357, .getfield 163, 3), (360, .i2l, 1), (361, .iconst 4, 1), (362, .invokevirtual 159, 3), (365, .aload_n 0, 1), (366, .invokevirtual 168, 3), (369, .aload_n 0, 1), (370, .getfield 147, 3), (373, .ireturn, 1)]
theorem DX8_send_3 : ∀ q ∈ tX8_send_3, decode cX8_send q.1 = .ok (q.2.1, q.2.2) := by decide +kernel
def tX8_send : List (Nat × Instr × Nat) := tX8_send_0 ++ (tX8_send_1 ++ (tX8_send_2 ++ (tX8_send_3)))
theorem DX8_send : ∀ q ∈ tX8_send, decode cX8_send q.1 = .ok (q.2.1, q.2.2) := (fun q h => (List.mem_append.mp h).elim (DX8_send_0 q) ((fun q h => (List.mem_append.mp h).elim (DX8_send_1 q) ((fun q h => (List.mem_append.mp h).elim (DX8_send_2 q) (DX8_send_3 q)) q)) q))
abbrev wsX8_number : List Cond := Cond.code yX8_number cX8_number 6 (some .long) :: gW
theorem eX8_number : yX8_number.cls ≠ "java/lang/invoke/MethodHandle" ∧ yX8_number.cls ≠ "java/lang/invoke/VarHandle" ∧ (parseMethodDescriptor yX8_number.desc).map (fun d => d.parameters.length) = some 2 := by decide +kernel
def tX8_number : List (Nat × Instr × Nat) := [(0, .lconst 0, 1), (1, .lstore_n 3, 1), (2, .iconst 0, 1), (3, .istore 5, 2), (5, .iload 5, 2), (7, .iload_n 2, 1), (8, .if_icmp .ge 29, 3), (11, .lload_n 3, 1), (12, .bipush 8, 2), (14, .lshl, 1), (15, .aload_n 0, 1), (16, .getfield 64, 3), (19, .iload_n 1, 1), (20, .iload 5, 2), (22, .iadd, 1), (23, .baload, 1), (24, .sipush 255, 3), (27, .iand, 1), (28, .i2l, 1), (29, .lor, 1), (30, .lstore_n 3, 1), (31, .iinc 5 1, 3), (34, .goto (-29), 3), (37, .lload_n 3, 1), (38, .lreturn, 1)]
theorem DX8_number : ∀ q ∈ tX8_number, decode cX8_number q.1 = .ok (q.2.1, q.2.2) := by decide +kernel
abbrev wsX8_isWhole : List Cond := Cond.code yX8_isWhole cX8_isWhole 3 (some .boolean) :: gW
theorem eX8_isWhole : yX8_isWhole.cls ≠ "java/lang/invoke/MethodHandle" ∧ yX8_isWhole.cls ≠ "java/lang/invoke/VarHandle" ∧ (parseMethodDescriptor yX8_isWhole.desc).map (fun d => d.parameters.length) = some 2 := by decide +kernel
def tX8_isWhole : List (Nat × Instr × Nat) := [(0, .aload_n 0, 1), (1, .getfield 147, 3), (4, .iload_n 1, 1), (5, .isub, 1), (6, .iload_n 2, 1), (7, .if_icmp .lt 34, 3), (10, .aload_n 0, 1), (11, .iload_n 1, 1), (12, .iload_n 2, 1), (13, .iadd, 1), (14, .bipush 8, 2), (16, .isub, 1), (17, .bipush 8, 2), (19, .invokevirtual 186, 3), (22, .aload_n 0, 1), (23, .iload_n 1, 1), (24, .iload_n 1, 1), (25, .iload_n 2, 1), (26, .iadd, 1), (27, .bipush 8, 2), (29, .isub, 1), (30, .invokevirtual 155, 3), (33, .lcmp, 1), (34, .ifCond .ne 7, 3), (37, .iconst 1, 1), (38, .goto 4, 3), (41, .iconst 0, 1), (42, .ireturn, 1)]
theorem DX8_isWhole : ∀ q ∈ tX8_isWhole, decode cX8_isWhole q.1 = .ok (q.2.1, q.2.2) := by decide +kernel
abbrev wsX8_receive : List Cond := Cond.code yX8_receive cX8_receive 9 (some .int) :: gW
theorem eX8_receive : yX8_receive.cls ≠ "java/lang/invoke/MethodHandle" ∧ yX8_receive.cls ≠ "java/lang/invoke/VarHandle" ∧ (parseMethodDescriptor yX8_receive.desc).map (fun d => d.parameters.length) = some 1 := by decide +kernel
def tX8_receive_0 : List (Nat × Instr × Nat) := [(0, .aload_n 0, 1), (1, .iload_n 1, 1), (2, .invokestatic 82, 3), (5, .ifCond .eq 7, 3), (8, .iconst 0, 1), (9, .goto 4, 3), (12, .iconst 1, 1), (13, .putfield 78, 3), (16, .aload_n 0, 1), (17, .getfield 78, 3), (20, .ifCond .le 5, 3), (23, .iconst 0, 1), (24, .ireturn, 1), (25, .iload_n 1, 1), (26, .istore_n 2, 1), (27, .aload_n 0, 1), (28, .getfield 48, 3), (31, .iload_n 2, 1), (32, .baload, 1), (33, .ifCond .eq 6, 3), (36, .bipush 6, 2), (38, .ireturn, 1), (39, .aload_n 0, 1), (40, .getfield 147, 3), (43, .iconst 1, 1), (44, .if_icmp .lt 23, 3), (47, .aload_n 0, 1), (48, .getfield 64, 3), (51, .iconst 0, 1), (52, .baload, 1), (53, .iconst 1, 1), (54, .if_icmp .ne 13, 3), (57, .aload_n 0, 1), (58, .iconst 0, 1), (59, .bipush 25, 2), (61, .invokevirtual 189, 3), (64, .ifCond .ne 5, 3), (67, .iconst 1, 1), (68, .ireturn, 1), (69, .aload_n 0, 1), (70, .iconst 1, 1), (71, .bipush 8, 2), (73, .invokevirtual 186, 3), (76, .lstore_n 3, 1), (77, .aload_n 0, 1), (78, .getfield 39, 3), (81, .iload_n 2, 1), (82, .iaload, 1), (83, .iconst 1, 1), (84, .isub, 1), (85, .istore 5, 2), (87, .lload_n 3, 1), (88, .lconst 0, 1), (89, .lcmp, 1), (90, .ifCond .eq 28, 3), (93, .iload 5, 2), (95, .ifCond .lt 28, 3), (98, .aload_n 0, 1), (99, .getfield 45, 3), (102, .bipush 20, 2)]
theorem DX8_receive_0 : ∀ q ∈ tX8_receive_0, decode cX8_receive q.1 = .ok (q.2.1, q.2.2) := by decide +kernel
def tX8_receive_1 : List (Nat × Instr × Nat) := [(104, .iload_n 2, 1), (105, .imul, 1), (106, .iload 5, 2), (108, .iadd, 1), (109, .laload, 1), (110, .lload_n 3, 1), (111, .lcmp, 1), (112, .ifCond .eq 13, 3), (115, .goto 8, 3), (118, .iload 5, 2), (120, .ifCond .lt 5, 3), (123, .iconst 2, 1), (124, .ireturn, 1), (125, .bipush 22, 2), (127, .iload_n 2, 1), (128, .imul, 1), (129, .iconst 0, 1), (130, .iadd, 1), (131, .istore 6, 2), (133, .iload 5, 2), (135, .ifCond .ge 22, 3), (138, .aload_n 0, 1), (139, .getfield 30, 3), (142, .iload 6, 2), (144, .iaload, 1), (145, .iconst (-1), 1), (146, .if_icmp .ne 7, 3), (149, .iconst 1, 1), (150, .goto 60, 3), (153, .iconst 0, 1), (154, .goto 56, 3), (157, .aload_n 0, 1), (158, .getfield 30, 3), (161, .iload 6, 2), (163, .iaload, 1), (164, .aload_n 0, 1), (165, .getfield 30, 3), (168, .bipush 22, 2), (170, .iload_n 2, 1), (171, .imul, 1), (172, .iconst 2, 1), (173, .iadd, 1), (174, .iload 5, 2), (176, .iadd, 1), (177, .iaload, 1), (178, .if_icmp .ne 31, 3), (181, .aload_n 0, 1), (182, .getfield 33, 3), (185, .iload 6, 2), (187, .iaload, 1), (188, .aload_n 0, 1), (189, .getfield 33, 3), (192, .bipush 22, 2), (194, .iload_n 2, 1), (195, .imul, 1), (196, .iconst 2, 1), (197, .iadd, 1), (198, .iload 5, 2), (200, .iadd, 1), (201, .iaload, 1)]
theorem DX8_receive_1 : ∀ q ∈ tX8_receive_1, decode cX8_receive q.1 = .ok (q.2.1, q.2.2) := by decide +kernel
def tX8_receive_2 : List (Nat × Instr × Nat) := [(202, .if_icmp .ne 7, 3), (205, .iconst 1, 1), (206, .goto 4, 3), (209, .iconst 0, 1), (210, .istore 7, 2), (212, .iload 7, 2), (214, .ifCond .ne 5, 3), (217, .iconst 3, 1), (218, .ireturn, 1), (219, .iconst 0, 1), (220, .istore 8, 2), (222, .iload 8, 2), (224, .aload_n 0, 1), (225, .getfield 39, 3), (228, .iload_n 2, 1), (229, .iaload, 1), (230, .if_icmp .ge 35, 3), (233, .aload_n 0, 1), (234, .getfield 45, 3), (237, .bipush 20, 2), (239, .iload_n 2, 1), (240, .imul, 1), (241, .iload 8, 2), (243, .iadd, 1), (244, .laload, 1), (245, .aload_n 0, 1), (246, .bipush 9, 2), (248, .bipush 8, 2), (250, .invokevirtual 186, 3), (253, .lcmp, 1), (254, .ifCond .ne 5, 3), (257, .iconst 4, 1), (258, .ireturn, 1), (259, .iinc 8 1, 3), (262, .goto (-40), 3), (265, .aload_n 0, 1), (266, .getfield 30, 3), (269, .bipush 22, 2), (271, .iload_n 2, 1), (272, .imul, 1), (273, .iconst 1, 1), (274, .iadd, 1), (275, .aload_n 0, 1), (276, .getfield 30, 3), (279, .iload 6, 2), (281, .iaload, 1), (282, .iastore, 1), (283, .aload_n 0, 1), (284, .getfield 33, 3), (287, .bipush 22, 2), (289, .iload_n 2, 1), (290, .imul, 1), (291, .iconst 1, 1), (292, .iadd, 1), (293, .aload_n 0, 1), (294, .getfield 33, 3), (297, .iload 6, 2), (299, .iaload, 1), (300, .iastore, 1), (301, .aload_n 0, 1)]
theorem DX8_receive_2 : ∀ q ∈ tX8_receive_2, decode cX8_receive q.1 = .ok (q.2.1, q.2.2) := by decide +kernel
def tX8_receive_3 : List (Nat × Instr × Nat) := [(302, .getfield 48, 3), (305, .iload_n 2, 1), (306, .iconst 1, 1), (307, .bastore, 1), (308, .aload_n 0, 1), (309, .getfield 51, 3), (312, .iload_n 2, 1), (313, .bipush 25, 2), (315, .iastore, 1), (316, .aload_n 0, 1), (317, .getfield 54, 3), (320, .iload_n 2, 1), (321, .iconst 0, 1), (322, .iastore, 1), (323, .aload_n 0, 1), (324, .getfield 57, 3), (327, .iload_n 2, 1), (328, .aload_n 0, 1), (329, .bipush 9, 2), (331, .bipush 8, 2), (333, .invokevirtual 186, 3), (336, .lastore, 1), (337, .iconst 0, 1), (338, .ireturn, 1)]
theorem DX8_receive_3 : ∀ q ∈ tX8_receive_3, decode cX8_receive q.1 = .ok (q.2.1, q.2.2) := by decide +kernel
def tX8_receive : List (Nat × Instr × Nat) := tX8_receive_0 ++ (tX8_receive_1 ++ (tX8_receive_2 ++ (tX8_receive_3)))
theorem DX8_receive : ∀ q ∈ tX8_receive, decode cX8_receive q.1 = .ok (q.2.1, q.2.2) := (fun q h => (List.mem_append.mp h).elim (DX8_receive_0 q) ((fun q h => (List.mem_append.mp h).elim (DX8_receive_1 q) ((fun q h => (List.mem_append.mp h).elim (DX8_receive_2 q) (DX8_receive_3 q)) q)) q))
abbrev wsX8_stops : List Cond := Cond.code yX8_stops cX8_stops 2 none :: gW
theorem eX8_stops : yX8_stops.cls ≠ "java/lang/invoke/MethodHandle" ∧ yX8_stops.cls ≠ "java/lang/invoke/VarHandle" ∧ (parseMethodDescriptor yX8_stops.desc).map (fun d => d.parameters.length) = some 1 := by decide +kernel
def tX8_stops : List (Nat × Instr × Nat) := [(0, .aload_n 0, 1), (1, .getfield 48, 3), (4, .iload_n 1, 1), (5, .iconst 0, 1), (6, .bastore, 1), (7, .aload_n 0, 1), (8, .iload_n 1, 1), (9, .invokevirtual 135, 3), (12, .return_, 1)]
theorem DX8_stops : ∀ q ∈ tX8_stops, decode cX8_stops q.1 = .ok (q.2.1, q.2.2) := by decide +kernel
abbrev wsX8_endsHere : List Cond := Cond.code yX8_endsHere cX8_endsHere 2 (some .int) :: gW
theorem eX8_endsHere : yX8_endsHere.cls ≠ "java/lang/invoke/MethodHandle" ∧ yX8_endsHere.cls ≠ "java/lang/invoke/VarHandle" ∧ (parseMethodDescriptor yX8_endsHere.desc).map (fun d => d.parameters.length) = some 1 := by decide +kernel
def tX8_endsHere : List (Nat × Instr × Nat) := [(0, .aload_n 0, 1), (1, .aload_n 0, 1), (2, .getfield 51, 3), (5, .iload_n 1, 1), (6, .iaload, 1), (7, .bipush 13, 2), (9, .invokevirtual 189, 3), (12, .ifCond .eq 45, 3), (15, .aload_n 0, 1), (16, .aload_n 0, 1), (17, .getfield 51, 3), (20, .iload_n 1, 1), (21, .iaload, 1), (22, .iconst 1, 1), (23, .iadd, 1), (24, .iconst 4, 1), (25, .invokevirtual 186, 3), (28, .aload_n 0, 1), (29, .getfield 54, 3), (32, .iload_n 1, 1), (33, .iaload, 1), (34, .iconst 1, 1), (35, .iadd, 1), (36, .i2l, 1), (37, .lcmp, 1), (38, .ifCond .ne 19, 3), (41, .aload_n 0, 1), (42, .getfield 147, 3), (45, .aload_n 0, 1), (46, .getfield 51, 3), (49, .iload_n 1, 1), (50, .iaload, 1), (51, .bipush 13, 2), (53, .iadd, 1), (54, .if_icmp .eq 5, 3), (57, .iconst 1, 1), (58, .ireturn, 1), (59, .aload_n 0, 1), (60, .getfield 39, 3), (63, .iload_n 1, 1), (64, .iaload, 1), (65, .bipush 20, 2), (67, .if_icmp .ne 5, 3), (70, .iconst 5, 1), (71, .ireturn, 1), (72, .aload_n 0, 1), (73, .getfield 30, 3), (76, .bipush 22, 2), (78, .iload_n 1, 1), (79, .imul, 1), (80, .iconst 0, 1), (81, .iadd, 1), (82, .aload_n 0, 1), (83, .getfield 30, 3), (86, .bipush 22, 2), (88, .iload_n 1, 1), (89, .imul, 1), (90, .iconst 1, 1), (91, .iadd, 1), (92, .iaload, 1), (93, .iastore, 1), (94, .aload_n 0, 1), (95, .getfield 33, 3), (98, .bipush 22, 2), (100, .iload_n 1, 1), (101, .imul, 1), (102, .iconst 0, 1), (103, .iadd, 1), (104, .aload_n 0, 1), (105, .getfield 33, 3), (108, .bipush 22, 2), (110, .iload_n 1, 1), (111, .imul, 1), (112, .iconst 1, 1), (113, .iadd, 1), (114, .iaload, 1), (115, .iastore, 1), (116, .aload_n 0, 1), (117, .iload_n 1, 1), (118, .iconst 0, 1), (119, .aload_n 0, 1), (120, .getfield 57, 3), (123, .iload_n 1, 1), (124, .laload, 1), (125, .invokevirtual 144, 3), (128, .iconst 0, 1), (129, .ireturn, 1)]
theorem DX8_endsHere : ∀ q ∈ tX8_endsHere, decode cX8_endsHere q.1 = .ok (q.2.1, q.2.2) := by decide +kernel
abbrev wsX8_clearsHere : List Cond := Cond.code yX8_clearsHere cX8_clearsHere 7 (some .int) :: gW
theorem eX8_clearsHere : yX8_clearsHere.cls ≠ "java/lang/invoke/MethodHandle" ∧ yX8_clearsHere.cls ≠ "java/lang/invoke/VarHandle" ∧ (parseMethodDescriptor yX8_clearsHere.desc).map (fun d => d.parameters.length) = some 1 := by decide +kernel
def tX8_clearsHere : List (Nat × Instr × Nat) := [(0, .aload_n 0, 1), (1, .getfield 51, 3), (4, .iload_n 1, 1), (5, .iaload, 1), (6, .istore_n 2, 1), (7, .aload_n 0, 1), (8, .iload_n 2, 1), (9, .bipush 13, 2), (11, .invokevirtual 189, 3), (14, .ifCond .ne 5, 3), (17, .iconst 1, 1), (18, .ireturn, 1), (19, .aload_n 0, 1), (20, .iload_n 2, 1), (21, .iconst 1, 1), (22, .iadd, 1), (23, .iconst 2, 1), (24, .invokevirtual 186, 3), (27, .l2i, 1), (28, .istore_n 3, 1), (29, .aload_n 0, 1), (30, .iload_n 2, 1), (31, .iconst 3, 1), (32, .iadd, 1), (33, .iconst 2, 1), (34, .invokevirtual 186, 3), (37, .l2i, 1), (38, .istore 4, 2), (40, .iload 4, 2), (42, .iconst 1, 1), (43, .if_icmp .lt 13, 3), (46, .iload_n 3, 1), (47, .iload 4, 2), (49, .iadd, 1), (50, .sipush 512, 3), (53, .if_icmp .le 5, 3), (56, .iconst 1, 1), (57, .ireturn, 1), (58, .iconst 0, 1), (59, .istore 5, 2), (61, .iload_n 3, 1), (62, .istore 6, 2), (64, .iload 6, 2), (66, .iload_n 3, 1), (67, .iload 4, 2), (69, .iadd, 1), (70, .if_icmp .ge 24, 3), (73, .iload 5, 2), (75, .ifCond .ne 19, 3), (78, .aload_n 0, 1), (79, .iload_n 1, 1), (80, .iconst 1, 1), (81, .iload 6, 2), (83, .invokevirtual 138, 3), (86, .istore 5, 2), (88, .iinc 6 1, 3), (91, .goto (-27), 3), (94, .aload_n 0, 1), (95, .getfield 51, 3), (98, .iload_n 1, 1), (99, .iload_n 2, 1), (100, .bipush 13, 2), (102, .iadd, 1), (103, .iastore, 1), (104, .iload 5, 2), (106, .ireturn, 1)]
theorem DX8_clearsHere : ∀ q ∈ tX8_clearsHere, decode cX8_clearsHere q.1 = .ok (q.2.1, q.2.2) := by decide +kernel
abbrev wsX8_writesHere : List Cond := Cond.code yX8_writesHere cX8_writesHere 3 (some .int) :: gW
theorem eX8_writesHere : yX8_writesHere.cls ≠ "java/lang/invoke/MethodHandle" ∧ yX8_writesHere.cls ≠ "java/lang/invoke/VarHandle" ∧ (parseMethodDescriptor yX8_writesHere.desc).map (fun d => d.parameters.length) = some 1 := by decide +kernel
def tX8_writesHere : List (Nat × Instr × Nat) := [(0, .aload_n 0, 1), (1, .getfield 51, 3), (4, .iload_n 1, 1), (5, .iaload, 1), (6, .istore_n 2, 1), (7, .aload_n 0, 1), (8, .iload_n 2, 1), (9, .bipush 19, 2), (11, .invokevirtual 189, 3), (14, .ifCond .eq 18, 3), (17, .aload_n 0, 1), (18, .iload_n 2, 1), (19, .iconst 1, 1), (20, .iadd, 1), (21, .iconst 2, 1), (22, .invokevirtual 186, 3), (25, .ldc2_w 192, 3), (28, .lcmp, 1), (29, .ifCond .lt 5, 3), (32, .iconst 1, 1), (33, .ireturn, 1), (34, .aload_n 0, 1), (35, .getfield 51, 3), (38, .iload_n 1, 1), (39, .iload_n 2, 1), (40, .bipush 19, 2), (42, .iadd, 1), (43, .iastore, 1), (44, .aload_n 0, 1), (45, .iload_n 1, 1), (46, .iconst 1, 1), (47, .aload_n 0, 1), (48, .iload_n 2, 1), (49, .iconst 1, 1), (50, .iadd, 1), (51, .iconst 2, 1), (52, .invokevirtual 186, 3), (55, .l2i, 1), (56, .aload_n 0, 1), (57, .iload_n 2, 1), (58, .iconst 3, 1), (59, .iadd, 1), (60, .bipush 8, 2), (62, .invokevirtual 186, 3), (65, .invokevirtual 131, 3), (68, .ireturn, 1)]
theorem DX8_writesHere : ∀ q ∈ tX8_writesHere, decode cX8_writesHere q.1 = .ok (q.2.1, q.2.2) := by decide +kernel
abbrev wsX8_record : List Cond := Cond.code yX8_record cX8_record 4 (some .int) :: gW
theorem eX8_record : yX8_record.cls ≠ "java/lang/invoke/MethodHandle" ∧ yX8_record.cls ≠ "java/lang/invoke/VarHandle" ∧ (parseMethodDescriptor yX8_record.desc).map (fun d => d.parameters.length) = some 1 := by decide +kernel
def tX8_record : List (Nat × Instr × Nat) := [(0, .aload_n 0, 1), (1, .getfield 51, 3), (4, .iload_n 1, 1), (5, .iaload, 1), (6, .aload_n 0, 1), (7, .getfield 147, 3), (10, .if_icmp .ge 17, 3), (13, .aload_n 0, 1), (14, .getfield 64, 3), (17, .aload_n 0, 1), (18, .getfield 51, 3), (21, .iload_n 1, 1), (22, .iaload, 1), (23, .baload, 1), (24, .goto 4, 3), (27, .iconst (-1), 1), (28, .istore_n 2, 1), (29, .aload_n 0, 1), (30, .iload_n 1, 1), (31, .invokevirtual 127, 3), (34, .iload_n 2, 1), (35, .iconst 2, 1), (36, .if_icmp .ne 11, 3), (39, .aload_n 0, 1), (40, .iload_n 1, 1), (41, .invokevirtual 194, 3), (44, .goto 30, 3), (47, .iload_n 2, 1), (48, .iconst 3, 1), (49, .if_icmp .ne 11, 3), (52, .aload_n 0, 1), (53, .iload_n 1, 1), (54, .invokevirtual 197, 3), (57, .goto 17, 3), (60, .iload_n 2, 1), (61, .iconst 4, 1), (62, .if_icmp .ne 11, 3), (65, .aload_n 0, 1), (66, .iload_n 1, 1), (67, .invokevirtual 200, 3), (70, .goto 4, 3), (73, .iconst 1, 1), (74, .istore_n 3, 1), (75, .iload_n 3, 1), (76, .ifCond .eq 10, 3), (79, .aload_n 0, 1), (80, .iload_n 1, 1), (81, .invokevirtual 203, 3), (84, .iload_n 3, 1), (85, .ireturn, 1), (86, .aload_n 0, 1), (87, .getfield 54, 3), (90, .iload_n 1, 1), (91, .dup2, 1), (92, .iaload, 1), (93, .iconst 1, 1), (94, .iadd, 1), (95, .iastore, 1), (96, .iload_n 2, 1), (97, .iconst 4, 1), (98, .if_icmp .ne 10, 3), (101, .aload_n 0, 1), (102, .iload_n 1, 1), (103, .invokevirtual 203, 3), (106, .iconst 0, 1), (107, .ireturn, 1), (108, .aload_n 0, 1), (109, .iload_n 1, 1), (110, .invokevirtual 135, 3), (113, .bipush 7, 2), (115, .ireturn, 1)]
theorem DX8_record : ∀ q ∈ tX8_record, decode cX8_record q.1 = .ok (q.2.1, q.2.2) := by decide +kernel
abbrev wsX8_step : List Cond := Cond.code yX8_step cX8_step 5 (some .int) :: gW
theorem eX8_step : yX8_step.cls ≠ "java/lang/invoke/MethodHandle" ∧ yX8_step.cls ≠ "java/lang/invoke/VarHandle" ∧ (parseMethodDescriptor yX8_step.desc).map (fun d => d.parameters.length) = some 2 := by decide +kernel
def tX8_step : List (Nat × Instr × Nat) := [(0, .aload_n 0, 1), (1, .iload_n 1, 1), (2, .invokestatic 82, 3), (5, .ifCond .eq 8, 3), (8, .iload_n 2, 1), (9, .iconst 1, 1), (10, .if_icmp .ge 7, 3), (13, .iconst 1, 1), (14, .goto 17, 3), (17, .aload_n 0, 1), (18, .getfield 48, 3), (21, .iload_n 1, 1), (22, .baload, 1), (23, .ifCond .ne 7, 3), (26, .iconst 2, 1), (27, .goto 4, 3), (30, .iconst 0, 1), (31, .putfield 78, 3), (34, .aload_n 0, 1), (35, .getfield 78, 3), (38, .ifCond .le 5, 3), (41, .iconst 0, 1), (42, .ireturn, 1), (43, .bipush 7, 2), (45, .istore_n 3, 1), (46, .iconst 0, 1), (47, .istore 4, 2), (49, .iload 4, 2), (51, .iload_n 2, 1), (52, .if_icmp .ge 21, 3), (55, .iload_n 3, 1), (56, .bipush 7, 2), (58, .if_icmp .ne 15, 3), (61, .aload_n 0, 1), (62, .iload_n 1, 1), (63, .invokevirtual 206, 3), (66, .istore_n 3, 1), (67, .iinc 4 1, 3), (70, .goto (-21), 3), (73, .iload_n 3, 1), (74, .ireturn, 1)]
theorem DX8_step : ∀ q ∈ tX8_step, decode cX8_step q.1 = .ok (q.2.1, q.2.2) := by decide +kernel
abbrev wsX8_crash : List Cond := Cond.code yX8_crash cX8_crash 2 (some .boolean) :: gW
theorem eX8_crash : yX8_crash.cls ≠ "java/lang/invoke/MethodHandle" ∧ yX8_crash.cls ≠ "java/lang/invoke/VarHandle" ∧ (parseMethodDescriptor yX8_crash.desc).map (fun d => d.parameters.length) = some 1 := by decide +kernel
def tX8_crash : List (Nat × Instr × Nat) := [(0, .aload_n 0, 1), (1, .iload_n 1, 1), (2, .invokestatic 82, 3), (5, .ifCond .eq 7, 3), (8, .iconst 0, 1), (9, .goto 4, 3), (12, .iconst 1, 1), (13, .putfield 78, 3), (16, .aload_n 0, 1), (17, .getfield 78, 3), (20, .ifCond .gt 12, 3), (23, .aload_n 0, 1), (24, .getfield 48, 3), (27, .iload_n 1, 1), (28, .baload, 1), (29, .ifCond .ne 5, 3), (32, .iconst 0, 1), (33, .ireturn, 1), (34, .aload_n 0, 1), (35, .iload_n 1, 1), (36, .invokevirtual 203, 3), (39, .iconst 1, 1), (40, .ireturn, 1)]
theorem DX8_crash : ∀ q ∈ tX8_crash, decode cX8_crash q.1 = .ok (q.2.1, q.2.2) := by decide +kernel
abbrev wsX8_stream : List Cond := Cond.code yX8_stream cX8_stream 2 (some .int) :: gW
theorem eX8_stream : yX8_stream.cls ≠ "java/lang/invoke/MethodHandle" ∧ yX8_stream.cls ≠ "java/lang/invoke/VarHandle" ∧ (parseMethodDescriptor yX8_stream.desc).map (fun d => d.parameters.length) = some 1 := by decide +kernel
def tX8_stream : List (Nat × Instr × Nat) := [(0, .aload_n 0, 1), (1, .iconst 0, 1), (2, .putfield 78, 3), (5, .iload_n 1, 1), (6, .ifCond .lt 11, 3), (9, .iload_n 1, 1), (10, .aload_n 0, 1), (11, .getfield 147, 3), (14, .if_icmp .lt 7, 3), (17, .iconst (-1), 1), (18, .goto 13, 3), (21, .aload_n 0, 1), (22, .getfield 64, 3), (25, .iload_n 1, 1), (26, .baload, 1), (27, .sipush 255, 3), (30, .iand, 1), (31, .ireturn, 1)]
theorem DX8_stream : ∀ q ∈ tX8_stream, decode cX8_stream q.1 = .ok (q.2.1, q.2.2) := by decide +kernel
abbrev wsX8_patch : List Cond := Cond.code yX8_patch cX8_patch 4 (some .int) :: gW
theorem eX8_patch : yX8_patch.cls ≠ "java/lang/invoke/MethodHandle" ∧ yX8_patch.cls ≠ "java/lang/invoke/VarHandle" ∧ (parseMethodDescriptor yX8_patch.desc).map (fun d => d.parameters.length) = some 2 := by decide +kernel
def tX8_patch : List (Nat × Instr × Nat) := [(0, .aload_n 0, 1), (1, .iload_n 1, 1), (2, .ifCond .lt 11, 3), (5, .iload_n 1, 1), (6, .aload_n 0, 1), (7, .getfield 147, 3), (10, .if_icmp .lt 7, 3), (13, .iconst 1, 1), (14, .goto 4, 3), (17, .iconst 0, 1), (18, .putfield 78, 3), (21, .aload_n 0, 1), (22, .getfield 78, 3), (25, .ifCond .le 5, 3), (28, .iconst 0, 1), (29, .ireturn, 1), (30, .aload_n 0, 1), (31, .getfield 64, 3), (34, .iload_n 1, 1), (35, .baload, 1), (36, .sipush 255, 3), (39, .iand, 1), (40, .istore_n 3, 1), (41, .aload_n 0, 1), (42, .getfield 64, 3), (45, .iload_n 1, 1), (46, .iload_n 2, 1), (47, .i2b, 1), (48, .bastore, 1), (49, .iload_n 3, 1), (50, .ireturn, 1)]
theorem DX8_patch : ∀ q ∈ tX8_patch, decode cX8_patch q.1 = .ok (q.2.1, q.2.2) := by decide +kernel
abbrev wsX8_cut : List Cond := Cond.code yX8_cut cX8_cut 2 none :: gW
theorem eX8_cut : yX8_cut.cls ≠ "java/lang/invoke/MethodHandle" ∧ yX8_cut.cls ≠ "java/lang/invoke/VarHandle" ∧ (parseMethodDescriptor yX8_cut.desc).map (fun d => d.parameters.length) = some 1 := by decide +kernel
def tX8_cut : List (Nat × Instr × Nat) := [(0, .aload_n 0, 1), (1, .iload_n 1, 1), (2, .ifCond .lt 11, 3), (5, .iload_n 1, 1), (6, .aload_n 0, 1), (7, .getfield 147, 3), (10, .if_icmp .le 7, 3), (13, .iconst 1, 1), (14, .goto 4, 3), (17, .iconst 0, 1), (18, .putfield 78, 3), (21, .aload_n 0, 1), (22, .getfield 78, 3), (25, .ifCond .ne 8, 3), (28, .aload_n 0, 1), (29, .iload_n 1, 1), (30, .putfield 147, 3), (33, .return_, 1)]
theorem DX8_cut : ∀ q ∈ tX8_cut, decode cX8_cut q.1 = .ok (q.2.1, q.2.2) := by decide +kernel
abbrev wsX8_snap : List Cond := Cond.code yX8_snap cX8_snap 4 (some .long) :: gW
theorem eX8_snap : yX8_snap.cls ≠ "java/lang/invoke/MethodHandle" ∧ yX8_snap.cls ≠ "java/lang/invoke/VarHandle" ∧ (parseMethodDescriptor yX8_snap.desc).map (fun d => d.parameters.length) = some 3 := by decide +kernel
def tX8_snap : List (Nat × Instr × Nat) := [(0, .aload_n 0, 1), (1, .iconst 0, 1), (2, .putfield 78, 3), (5, .iload_n 1, 1), (6, .invokestatic 82, 3), (9, .ifCond .eq 12, 3), (12, .aload_n 0, 1), (13, .iload_n 1, 1), (14, .iload_n 2, 1), (15, .invokevirtual 141, 3), (18, .ifCond .ne 7, 3), (21, .ldc2_w 209, 3), (24, .lreturn, 1), (25, .iload_n 3, 1), (26, .tableswitch 85 0 3 #[30, 42, 55, 70], 30), (56, .aload_n 0, 1), (57, .getfield 45, 3), (60, .bipush 20, 2), (62, .iload_n 1, 1), (63, .imul, 1), (64, .iload_n 2, 1), (65, .iadd, 1), (66, .laload, 1), (67, .lreturn, 1), (68, .aload_n 0, 1), (69, .getfield 42, 3), (72, .bipush 20, 2), (74, .iload_n 1, 1), (75, .imul, 1), (76, .iload_n 2, 1), (77, .iadd, 1), (78, .iaload, 1), (79, .i2l, 1), (80, .lreturn, 1), (81, .aload_n 0, 1), (82, .getfield 30, 3), (85, .bipush 22, 2), (87, .iload_n 1, 1), (88, .imul, 1), (89, .iconst 2, 1), (90, .iadd, 1), (91, .iload_n 2, 1), (92, .iadd, 1), (93, .iaload, 1), (94, .i2l, 1), (95, .lreturn, 1), (96, .aload_n 0, 1), (97, .getfield 33, 3), (100, .bipush 22, 2), (102, .iload_n 1, 1), (103, .imul, 1), (104, .iconst 2, 1), (105, .iadd, 1), (106, .iload_n 2, 1), (107, .iadd, 1), (108, .iaload, 1), (109, .i2l, 1), (110, .lreturn, 1), (111, .ldc2_w 209, 3), (114, .lreturn, 1)]
theorem DX8_snap : ∀ q ∈ tX8_snap, decode cX8_snap q.1 = .ok (q.2.1, q.2.2) := by decide +kernel
abbrev wsX8_isBlock : List Cond := Cond.code yX8_isBlock cX8_isBlock 3 (some .boolean) :: gW
theorem eX8_isBlock : yX8_isBlock.cls ≠ "java/lang/invoke/MethodHandle" ∧ yX8_isBlock.cls ≠ "java/lang/invoke/VarHandle" ∧ (parseMethodDescriptor yX8_isBlock.desc).map (fun d => d.parameters.length) = some 2 := by decide +kernel
def tX8_isBlock : List (Nat × Instr × Nat) := [(0, .iload_n 1, 1), (1, .invokestatic 82, 3), (4, .ifCond .eq 21, 3), (7, .iload_n 2, 1), (8, .ifCond .lt 17, 3), (11, .iload_n 2, 1), (12, .aload_n 0, 1), (13, .getfield 9, 3), (16, .iload_n 1, 1), (17, .iaload, 1), (18, .if_icmp .ge 7, 3), (21, .iconst 1, 1), (22, .goto 4, 3), (25, .iconst 0, 1), (26, .ireturn, 1)]
theorem DX8_isBlock : ∀ q ∈ tX8_isBlock, decode cX8_isBlock q.1 = .ok (q.2.1, q.2.2) := by decide +kernel
abbrev wsX8_block : List Cond := Cond.code yX8_block cX8_block 8 (some .int) :: gW
theorem eX8_block : yX8_block.cls ≠ "java/lang/invoke/MethodHandle" ∧ yX8_block.cls ≠ "java/lang/invoke/VarHandle" ∧ (parseMethodDescriptor yX8_block.desc).map (fun d => d.parameters.length) = some 3 := by decide +kernel
def tX8_block : List (Nat × Instr × Nat) := [(0, .aload_n 0, 1), (1, .iconst 0, 1), (2, .putfield 78, 3), (5, .aload_n 0, 1), (6, .iload_n 1, 1), (7, .iload_n 2, 1), (8, .invokevirtual 211, 3), (11, .ifCond .eq 12, 3), (14, .iload_n 3, 1), (15, .ifCond .lt 8, 3), (18, .iload_n 3, 1), (19, .iconst 2, 1), (20, .if_icmp .le 5, 3), (23, .iconst (-1), 1), (24, .ireturn, 1), (25, .aload_n 0, 1), (26, .getfield 13, 3), (29, .sipush 600, 3), (32, .iload_n 1, 1), (33, .imul, 1), (34, .iload_n 2, 1), (35, .iadd, 1), (36, .iaload, 1), (37, .istore 4, 2), (39, .iload_n 3, 1), (40, .ifCond .ne 6, 3), (43, .iload 4, 2), (45, .ireturn, 1), (46, .iconst 0, 1), (47, .istore 5, 2), (49, .iconst (-1), 1), (50, .istore 6, 2), (52, .iconst 0, 1), (53, .istore 7, 2), (55, .iload 7, 2), (57, .bipush 22, 2), (59, .if_icmp .ge 61, 3), (62, .iload 4, 2), (64, .iconst (-1), 1), (65, .if_icmp .eq 55, 3), (68, .aload_n 0, 1), (69, .iload_n 1, 1), (70, .iload 7, 2), (72, .invokevirtual 86, 3), (75, .ifCond .eq 39, 3), (78, .aload_n 0, 1), (79, .getfield 30, 3), (82, .bipush 22, 2), (84, .iload_n 1, 1), (85, .imul, 1), (86, .iload 7, 2), (88, .iadd, 1), (89, .iaload, 1), (90, .iload_n 2, 1), (91, .if_icmp .eq 6, 3), (94, .goto 20, 3), (97, .iinc 5 1, 3), (100, .aload_n 0, 1), (101, .getfield 33, 3), (104, .bipush 22, 2), (106, .iload_n 1, 1), (107, .imul, 1), (108, .iload 7, 2), (110, .iadd, 1), (111, .iaload, 1), (112, .istore 6, 2), (114, .iinc 7 1, 3), (117, .goto (-62), 3), (120, .iconst 0, 1), (121, .istore 7, 2), (123, .iload 7, 2), (125, .bipush 8, 2), (127, .aload_n 0, 1), (128, .getfield 9, 3), (131, .iload_n 1, 1), (132, .iaload, 1), (133, .imul, 1), (134, .if_icmp .ge 61, 3), (137, .iload 4, 2), (139, .iconst (-1), 1), (140, .if_icmp .eq 55, 3), (143, .aload_n 0, 1), (144, .getfield 13, 3), (147, .sipush 600, 3), (150, .iload_n 1, 1), (151, .imul, 1), (152, .iload 7, 2), (154, .bipush 8, 2), (156, .idiv, 1), (157, .iadd, 1), (158, .iaload, 1), (159, .iconst 1, 1), (160, .if_icmp .lt 29, 3), (163, .aload_n 0, 1), (164, .iload_n 1, 1), (165, .iload 7, 2), (167, .invokevirtual 90, 3), (170, .iload_n 2, 1), (171, .if_icmp .eq 6, 3), (174, .goto 15, 3), (177, .iinc 5 1, 3), (180, .aload_n 0, 1), (181, .iload_n 1, 1), (182, .iload 7, 2), (184, .invokevirtual 97, 3), (187, .istore 6, 2), (189, .iinc 7 1, 3), (192, .goto (-69), 3), (195, .iload_n 3, 1), (196, .iconst 1, 1), (197, .if_icmp .ne 8, 3), (200, .iload 6, 2), (202, .goto 5, 3), (205, .iload 5, 2), (207, .ireturn, 1)]
theorem DX8_block : ∀ q ∈ tX8_block, decode cX8_block q.1 = .ok (q.2.1, q.2.2) := by decide +kernel
abbrev wsX8_pointer : List Cond := Cond.code yX8_pointer cX8_pointer 5 (some .int) :: gW
theorem eX8_pointer : yX8_pointer.cls ≠ "java/lang/invoke/MethodHandle" ∧ yX8_pointer.cls ≠ "java/lang/invoke/VarHandle" ∧ (parseMethodDescriptor yX8_pointer.desc).map (fun d => d.parameters.length) = some 4 := by decide +kernel
def tX8_pointer : List (Nat × Instr × Nat) := [(0, .aload_n 0, 1), (1, .iconst 0, 1), (2, .putfield 78, 3), (5, .aload_n 0, 1), (6, .iload_n 1, 1), (7, .iload_n 2, 1), (8, .invokevirtual 211, 3), (11, .ifCond .eq 29, 3), (14, .aload_n 0, 1), (15, .getfield 13, 3), (18, .sipush 600, 3), (21, .iload_n 1, 1), (22, .imul, 1), (23, .iload_n 2, 1), (24, .iadd, 1), (25, .iaload, 1), (26, .iconst 1, 1), (27, .if_icmp .lt 13, 3), (30, .iload_n 3, 1), (31, .ifCond .lt 9, 3), (34, .iload_n 3, 1), (35, .bipush 7, 2), (37, .if_icmp .le 5, 3), (40, .iconst (-1), 1), (41, .ireturn, 1), (42, .iload 4, 2), (44, .ifCond .ne 17, 3), (47, .aload_n 0, 1), (48, .iload_n 1, 1), (49, .bipush 8, 2), (51, .iload_n 2, 1), (52, .imul, 1), (53, .iload_n 3, 1), (54, .iadd, 1), (55, .invokevirtual 90, 3), (58, .goto 24, 3), (61, .iload 4, 2), (63, .iconst 1, 1), (64, .if_icmp .ne 17, 3), (67, .aload_n 0, 1), (68, .iload_n 1, 1), (69, .bipush 8, 2), (71, .iload_n 2, 1), (72, .imul, 1), (73, .iload_n 3, 1), (74, .iadd, 1), (75, .invokevirtual 97, 3), (78, .goto 4, 3), (81, .iconst (-1), 1), (82, .ireturn, 1)]
theorem DX8_pointer : ∀ q ∈ tX8_pointer, decode cX8_pointer q.1 = .ok (q.2.1, q.2.2) := by decide +kernel
abbrev wsX8_data : List Cond := Cond.code yX8_data cX8_data 3 (some .long) :: gW
theorem eX8_data : yX8_data.cls ≠ "java/lang/invoke/MethodHandle" ∧ yX8_data.cls ≠ "java/lang/invoke/VarHandle" ∧ (parseMethodDescriptor yX8_data.desc).map (fun d => d.parameters.length) = some 2 := by decide +kernel
def tX8_data : List (Nat × Instr × Nat) := [(0, .aload_n 0, 1), (1, .iconst 0, 1), (2, .putfield 78, 3), (5, .aload_n 0, 1), (6, .iload_n 1, 1), (7, .iload_n 2, 1), (8, .invokevirtual 211, 3), (11, .ifCond .eq 33, 3), (14, .aload_n 0, 1), (15, .getfield 13, 3), (18, .sipush 600, 3), (21, .iload_n 1, 1), (22, .imul, 1), (23, .iload_n 2, 1), (24, .iadd, 1), (25, .iaload, 1), (26, .ifCond .ne 18, 3), (29, .aload_n 0, 1), (30, .getfield 22, 3), (33, .sipush 600, 3), (36, .iload_n 1, 1), (37, .imul, 1), (38, .iload_n 2, 1), (39, .iadd, 1), (40, .laload, 1), (41, .goto 4, 3), (44, .lconst 0, 1), (45, .lreturn, 1)]
theorem DX8_data : ∀ q ∈ tX8_data, decode cX8_data q.1 = .ok (q.2.1, q.2.2) := by decide +kernel
abbrev wsX8_look : List Cond := Cond.code yX8_look cX8_look 4 (some .int) :: gW
theorem eX8_look : yX8_look.cls ≠ "java/lang/invoke/MethodHandle" ∧ yX8_look.cls ≠ "java/lang/invoke/VarHandle" ∧ (parseMethodDescriptor yX8_look.desc).map (fun d => d.parameters.length) = some 2 := by decide +kernel
def tX8_look : List (Nat × Instr × Nat) := [(0, .aload_n 0, 1), (1, .iconst 0, 1), (2, .putfield 78, 3), (5, .iload_n 1, 1), (6, .invokestatic 82, 3), (9, .ifCond .ne 5, 3), (12, .iconst (-1), 1), (13, .ireturn, 1), (14, .iload_n 1, 1), (15, .istore_n 3, 1), (16, .aload_n 0, 1), (17, .iload_n 3, 1), (18, .invokevirtual 127, 3), (21, .iload_n 2, 1), (22, .tableswitch 148 0 8 #[50, 57, 63, 70, 77, 92, 104, 116, 141], 50), (72, .aload_n 0, 1), (73, .getfield 9, 3), (76, .iload_n 3, 1), (77, .iaload, 1), (78, .ireturn, 1), (79, .aload_n 0, 1), (80, .iload_n 3, 1), (81, .invokevirtual 114, 3), (84, .ireturn, 1), (85, .aload_n 0, 1), (86, .getfield 36, 3), (89, .iload_n 3, 1), (90, .iaload, 1), (91, .ireturn, 1), (92, .aload_n 0, 1), (93, .getfield 39, 3), (96, .iload_n 3, 1), (97, .iaload, 1), (98, .ireturn, 1), (99, .aload_n 0, 1), (100, .getfield 48, 3), (103, .iload_n 3, 1), (104, .baload, 1), (105, .ifCond .eq 7, 3), (108, .iconst 1, 1), (109, .goto 4, 3), (112, .iconst 0, 1), (113, .ireturn, 1), (114, .aload_n 0, 1), (115, .getfield 30, 3), (118, .bipush 22, 2), (120, .iload_n 3, 1), (121, .imul, 1), (122, .iconst 0, 1), (123, .iadd, 1), (124, .iaload, 1), (125, .ireturn, 1), (126, .aload_n 0, 1), (127, .getfield 33, 3), (130, .bipush 22, 2), (132, .iload_n 3, 1), (133, .imul, 1), (134, .iconst 0, 1), (135, .iadd, 1), (136, .iaload, 1), (137, .ireturn, 1), (138, .aload_n 0, 1), (139, .getfield 48, 3), (142, .iload_n 3, 1), (143, .baload, 1), (144, .ifCond .eq 17, 3), (147, .aload_n 0, 1), (148, .getfield 30, 3), (151, .bipush 22, 2), (153, .iload_n 3, 1), (154, .imul, 1), (155, .iconst 1, 1), (156, .iadd, 1), (157, .iaload, 1), (158, .goto 4, 3), (161, .iconst (-1), 1), (162, .ireturn, 1), (163, .aload_n 0, 1), (164, .getfield 54, 3), (167, .iload_n 3, 1), (168, .iaload, 1), (169, .ireturn, 1), (170, .iconst (-1), 1), (171, .ireturn, 1)]
theorem DX8_look : ∀ q ∈ tX8_look, decode cX8_look q.1 = .ok (q.2.1, q.2.2) := by decide +kernel
abbrev wsX8_sent : List Cond := Cond.code yX8_sent cX8_sent 2 (some .int) :: gW
theorem eX8_sent : yX8_sent.cls ≠ "java/lang/invoke/MethodHandle" ∧ yX8_sent.cls ≠ "java/lang/invoke/VarHandle" ∧ (parseMethodDescriptor yX8_sent.desc).map (fun d => d.parameters.length) = some 1 := by decide +kernel
def tX8_sent : List (Nat × Instr × Nat) := [(0, .aload_n 0, 1), (1, .iconst 0, 1), (2, .putfield 78, 3), (5, .iload_n 1, 1), (6, .tableswitch 60 0 4 #[34, 39, 44, 49, 54], 34), (40, .aload_n 0, 1), (41, .getfield 178, 3), (44, .ireturn, 1), (45, .aload_n 0, 1), (46, .getfield 171, 3), (49, .ireturn, 1), (50, .aload_n 0, 1), (51, .getfield 173, 3), (54, .ireturn, 1), (55, .aload_n 0, 1), (56, .getfield 147, 3), (59, .ireturn, 1), (60, .aload_n 0, 1), (61, .getfield 60, 3), (64, .l2i, 1), (65, .ireturn, 1), (66, .iconst (-1), 1), (67, .ireturn, 1)]
theorem DX8_sent : ∀ q ∈ tX8_sent, decode cX8_sent q.1 = .ok (q.2.1, q.2.2) := by decide +kernel
abbrev wsJ9_max_7cf53 : List Cond := Cond.code yJ9_max_7cf53 cJ9_max_7cf53 2 (some .int) :: gW
theorem eJ9_max_7cf53 : yJ9_max_7cf53.cls ≠ "java/lang/invoke/MethodHandle" ∧ yJ9_max_7cf53.cls ≠ "java/lang/invoke/VarHandle" ∧ (parseMethodDescriptor yJ9_max_7cf53.desc).map (fun d => d.parameters.length) = some 2 := by decide +kernel
def tJ9_max_7cf53 : List (Nat × Instr × Nat) := [(0, .iload_n 0, 1), (1, .iload_n 1, 1), (2, .if_icmp .lt 7, 3), (5, .iload_n 0, 1), (6, .goto 4, 3), (9, .iload_n 1, 1), (10, .ireturn, 1)]
theorem DJ9_max_7cf53 : ∀ q ∈ tJ9_max_7cf53, decode cJ9_max_7cf53 q.1 = .ok (q.2.1, q.2.2) := by decide +kernel
abbrev wsJ7_fill_53178 : List Cond := Cond.code yJ7_fill_53178 cJ7_fill_53178 4 none :: gW
theorem eJ7_fill_53178 : yJ7_fill_53178.cls ≠ "java/lang/invoke/MethodHandle" ∧ yJ7_fill_53178.cls ≠ "java/lang/invoke/VarHandle" ∧ (parseMethodDescriptor yJ7_fill_53178.desc).map (fun d => d.parameters.length) = some 2 := by decide +kernel
def tJ7_fill_53178 : List (Nat × Instr × Nat) := [(0, .iconst 0, 1), (1, .istore_n 2, 1), (2, .aload_n 0, 1), (3, .arraylength, 1), (4, .istore_n 3, 1), (5, .iload_n 2, 1), (6, .iload_n 3, 1), (7, .if_icmp .ge 13, 3), (10, .aload_n 0, 1), (11, .iload_n 2, 1), (12, .iload_n 1, 1), (13, .iastore, 1), (14, .iinc 2 1, 3), (17, .goto (-12), 3), (20, .return_, 1)]
theorem DJ7_fill_53178 : ∀ q ∈ tJ7_fill_53178, decode cJ7_fill_53178 q.1 = .ok (q.2.1, q.2.2) := by decide +kernel
abbrev wsL_format : List Cond := Cond.code yL_format cL_format 4 (some .int) :: gW
def tL_format : List (Nat × Instr × Nat) := [(0, .aload_n 0, 1), (1, .iload_n 1, 1), (2, .iload_n 2, 1), (3, .invokevirtual 7, 3), (6, .goto 6, 3), (9, .astore_n 3, 1), (10, .iconst 1, 1), (11, .ireturn, 1), (12, .iconst 0, 1), (13, .ireturn, 1)]
theorem DL_format : ∀ q ∈ tL_format, decode cL_format q.1 = .ok (q.2.1, q.2.2) := by decide +kernel
abbrev wsL_write : List Cond := Cond.code yL_write cL_write 7 (some .int) :: gW
def tL_write : List (Nat × Instr × Nat) := [(0, .aload 5, 2), (2, .iconst 0, 1), (3, .aload_n 0, 1), (4, .iload_n 1, 1), (5, .iload_n 2, 1), (6, .lload_n 3, 1), (7, .invokevirtual 15, 3), (10, .i2l, 1), (11, .lastore, 1), (12, .goto 7, 3), (15, .astore 6, 2), (17, .iconst 1, 1), (18, .ireturn, 1), (19, .iconst 0, 1), (20, .ireturn, 1)]
theorem DL_write : ∀ q ∈ tL_write, decode cL_write q.1 = .ok (q.2.1, q.2.2) := by decide +kernel
abbrev wsL_clear : List Cond := Cond.code yL_clear cL_clear 5 (some .int) :: gW
def tL_clear : List (Nat × Instr × Nat) := [(0, .aload_n 3, 1), (1, .iconst 0, 1), (2, .aload_n 0, 1), (3, .iload_n 1, 1), (4, .iload_n 2, 1), (5, .invokevirtual 19, 3), (8, .i2l, 1), (9, .lastore, 1), (10, .goto 7, 3), (13, .astore 4, 2), (15, .iconst 1, 1), (16, .ireturn, 1), (17, .iconst 0, 1), (18, .ireturn, 1)]
theorem DL_clear : ∀ q ∈ tL_clear, decode cL_clear q.1 = .ok (q.2.1, q.2.2) := by decide +kernel
abbrev wsL_read : List Cond := Cond.code yL_read cL_read 6 (some .int) :: gW
def tL_read : List (Nat × Instr × Nat) := [(0, .aload 4, 2), (2, .iconst 0, 1), (3, .aload_n 0, 1), (4, .iload_n 1, 1), (5, .iload_n 2, 1), (6, .iload_n 3, 1), (7, .invokevirtual 23, 3), (10, .lastore, 1), (11, .goto 11, 3), (14, .astore 5, 2), (16, .iconst 1, 1), (17, .ireturn, 1), (18, .astore 5, 2), (20, .iconst 2, 1), (21, .ireturn, 1), (22, .iconst 0, 1), (23, .ireturn, 1)]
theorem DL_read : ∀ q ∈ tL_read, decode cL_read q.1 = .ok (q.2.1, q.2.2) := by decide +kernel
abbrev wsL_snapshot : List Cond := Cond.code yL_snapshot cL_snapshot 4 (some .int) :: gW
def tL_snapshot : List (Nat × Instr × Nat) := [(0, .aload_n 2, 1), (1, .iconst 0, 1), (2, .aload_n 0, 1), (3, .iload_n 1, 1), (4, .invokevirtual 29, 3), (7, .i2l, 1), (8, .lastore, 1), (9, .goto 12, 3), (12, .astore_n 3, 1), (13, .iconst 1, 1), (14, .ireturn, 1), (15, .astore_n 3, 1), (16, .iconst 2, 1), (17, .ireturn, 1), (18, .astore_n 3, 1), (19, .iconst 3, 1), (20, .ireturn, 1), (21, .iconst 0, 1), (22, .ireturn, 1)]
theorem DL_snapshot : ∀ q ∈ tL_snapshot, decode cL_snapshot q.1 = .ok (q.2.1, q.2.2) := by decide +kernel
abbrev wsL_destroy : List Cond := Cond.code yL_destroy cL_destroy 5 (some .int) :: gW
def tL_destroy : List (Nat × Instr × Nat) := [(0, .aload_n 3, 1), (1, .iconst 0, 1), (2, .aload_n 0, 1), (3, .iload_n 1, 1), (4, .iload_n 2, 1), (5, .invokevirtual 37, 3), (8, .i2l, 1), (9, .lastore, 1), (10, .goto 15, 3), (13, .astore 4, 2), (15, .iconst 1, 1), (16, .ireturn, 1), (17, .astore 4, 2), (19, .iconst 2, 1), (20, .ireturn, 1), (21, .astore 4, 2), (23, .iconst 3, 1), (24, .ireturn, 1), (25, .iconst 0, 1), (26, .ireturn, 1)]
theorem DL_destroy : ∀ q ∈ tL_destroy, decode cL_destroy q.1 = .ok (q.2.1, q.2.2) := by decide +kernel
abbrev wsL_rollback : List Cond := Cond.code yL_rollback cL_rollback 4 (some .int) :: gW
def tL_rollback : List (Nat × Instr × Nat) := [(0, .aload_n 2, 1), (1, .iconst 0, 1), (2, .aload_n 0, 1), (3, .iload_n 1, 1), (4, .invokevirtual 40, 3), (7, .i2l, 1), (8, .lastore, 1), (9, .goto 12, 3), (12, .astore_n 3, 1), (13, .iconst 1, 1), (14, .ireturn, 1), (15, .astore_n 3, 1), (16, .iconst 2, 1), (17, .ireturn, 1), (18, .astore_n 3, 1), (19, .iconst 3, 1), (20, .ireturn, 1), (21, .iconst 0, 1), (22, .ireturn, 1)]
theorem DL_rollback : ∀ q ∈ tL_rollback, decode cL_rollback q.1 = .ok (q.2.1, q.2.2) := by decide +kernel
abbrev wsL_send : List Cond := Cond.code yL_send cL_send 6 (some .int) :: gW
def tL_send : List (Nat × Instr × Nat) := [(0, .aload 4, 2), (2, .iconst 0, 1), (3, .aload_n 0, 1), (4, .iload_n 1, 1), (5, .iload_n 2, 1), (6, .iload_n 3, 1), (7, .invokevirtual 43, 3), (10, .i2l, 1), (11, .lastore, 1), (12, .goto 15, 3), (15, .astore 5, 2), (17, .iconst 1, 1), (18, .ireturn, 1), (19, .astore 5, 2), (21, .iconst 2, 1), (22, .ireturn, 1), (23, .astore 5, 2), (25, .iconst 3, 1), (26, .ireturn, 1), (27, .iconst 0, 1), (28, .ireturn, 1)]
theorem DL_send : ∀ q ∈ tL_send, decode cL_send q.1 = .ok (q.2.1, q.2.2) := by decide +kernel
abbrev wsL_receive : List Cond := Cond.code yL_receive cL_receive 4 (some .int) :: gW
def tL_receive : List (Nat × Instr × Nat) := [(0, .aload_n 2, 1), (1, .iconst 0, 1), (2, .aload_n 0, 1), (3, .iload_n 1, 1), (4, .invokevirtual 47, 3), (7, .i2l, 1), (8, .lastore, 1), (9, .goto 6, 3), (12, .astore_n 3, 1), (13, .iconst 1, 1), (14, .ireturn, 1), (15, .iconst 0, 1), (16, .ireturn, 1)]
theorem DL_receive : ∀ q ∈ tL_receive, decode cL_receive q.1 = .ok (q.2.1, q.2.2) := by decide +kernel
abbrev wsL_step : List Cond := Cond.code yL_step cL_step 5 (some .int) :: gW
def tL_step : List (Nat × Instr × Nat) := [(0, .aload_n 3, 1), (1, .iconst 0, 1), (2, .aload_n 0, 1), (3, .iload_n 1, 1), (4, .iload_n 2, 1), (5, .invokevirtual 50, 3), (8, .i2l, 1), (9, .lastore, 1), (10, .goto 11, 3), (13, .astore 4, 2), (15, .iconst 1, 1), (16, .ireturn, 1), (17, .astore 4, 2), (19, .iconst 2, 1), (20, .ireturn, 1), (21, .iconst 0, 1), (22, .ireturn, 1)]
theorem DL_step : ∀ q ∈ tL_step, decode cL_step q.1 = .ok (q.2.1, q.2.2) := by decide +kernel
abbrev wsL_crash : List Cond := Cond.code yL_crash cL_crash 4 (some .int) :: gW
def tL_crash : List (Nat × Instr × Nat) := [(0, .aload_n 2, 1), (1, .iconst 0, 1), (2, .aload_n 0, 1), (3, .iload_n 1, 1), (4, .invokevirtual 53, 3), (7, .ifCond .eq 7, 3), (10, .lconst 1, 1), (11, .goto 4, 3), (14, .lconst 0, 1), (15, .lastore, 1), (16, .goto 6, 3), (19, .astore_n 3, 1), (20, .iconst 1, 1), (21, .ireturn, 1), (22, .iconst 0, 1), (23, .ireturn, 1)]
theorem DL_crash : ∀ q ∈ tL_crash, decode cL_crash q.1 = .ok (q.2.1, q.2.2) := by decide +kernel
abbrev wsL_patch : List Cond := Cond.code yL_patch cL_patch 5 (some .int) :: gW
def tL_patch : List (Nat × Instr × Nat) := [(0, .aload_n 3, 1), (1, .iconst 0, 1), (2, .aload_n 0, 1), (3, .iload_n 1, 1), (4, .iload_n 2, 1), (5, .invokevirtual 57, 3), (8, .i2l, 1), (9, .lastore, 1), (10, .goto 7, 3), (13, .astore 4, 2), (15, .iconst 1, 1), (16, .ireturn, 1), (17, .iconst 0, 1), (18, .ireturn, 1)]
theorem DL_patch : ∀ q ∈ tL_patch, decode cL_patch q.1 = .ok (q.2.1, q.2.2) := by decide +kernel
abbrev wsL_cut : List Cond := Cond.code yL_cut cL_cut 3 (some .int) :: gW
def tL_cut : List (Nat × Instr × Nat) := [(0, .aload_n 0, 1), (1, .iload_n 1, 1), (2, .invokevirtual 60, 3), (5, .goto 6, 3), (8, .astore_n 2, 1), (9, .iconst 1, 1), (10, .ireturn, 1), (11, .iconst 0, 1), (12, .ireturn, 1)]
theorem DL_cut : ∀ q ∈ tL_cut, decode cL_cut q.1 = .ok (q.2.1, q.2.2) := by decide +kernel
end
section
/-! PART 02: own infrastructure: option rows, bounded reads and writes, worlds with listed locals, calls -/
theorem o_bind {α β : Type} {a : Option α} {f : α → Option β} {r : β} (h : a.bind f = some r) : ∃ x, a = some x ∧ f x = some r := Option.bind_eq_some_iff.mp h
theorem o_ifp {α : Type} {P : Prop} {i : Decidable P} {a b : Option α} {r : α} (h : (@ite _ P i a b) = some r) (c : P) : a = some r := by rw [if_pos c] at h; exact h
theorem o_ifn {α : Type} {P : Prop} {i : Decidable P} {a b : Option α} {r : α} (h : (@ite _ P i a b) = some r) (c : ¬ P) : b = some r := by rw [if_neg c] at h; exact h
theorem o_some {α : Type} {a b : α} (h : some a = some b) : a = b := Option.some.inj h
/-- a read at an int index, a write at one: none where the machine would throw -/
def ald {α : Type} (n : Nat) (f : Nat → α) (i : Int32) : Option α := if i < 0 ∨ n ≤ i.toNatClampNeg then none else some (f i.toNatClampNeg)
def ast (n : Nat) (f : Nat → Int32) (i x : Int32) : Option (Nat → Int32) := if i < 0 ∨ n ≤ i.toNatClampNeg then none else some (upd f i.toNatClampNeg x)
def lst (n : Nat) (f : Nat → Int64) (i : Int32) (x : Int64) : Option (Nat → Int64) := if i < 0 ∨ n ≤ i.toNatClampNeg then none else some (vp_updL f i.toNatClampNeg x)
/-- a boolean that is returned, or kept -/
def zok (x : Int32) : Option Int32 := if x = 0 ∨ x = 1 then some x else none
theorem ald_in {α : Type} {n : Nat} {f : Nat → α} {i : Int32} {v : α} (h : ald n f i = some v) : vp_in i n ∧ v = f i.toNatClampNeg := by
  unfold ald at h
  split at h
  · cases h
  · rename_i h2
    cases h
    exact ⟨h2, rfl⟩
theorem ast_in {n : Nat} {f g : Nat → Int32} {i x : Int32} (h : ast n f i x = some g) : vp_in i n ∧ g = upd f i.toNatClampNeg x := by
  unfold ast at h
  split at h
  · cases h
  · rename_i h2
    cases h
    exact ⟨h2, rfl⟩
theorem lst_in {n : Nat} {f g : Nat → Int64} {i : Int32} {x : Int64} (h : lst n f i x = some g) : vp_in i n ∧ g = vp_updL f i.toNatClampNeg x := by
  unfold lst at h
  split at h
  · cases h
  · rename_i h2
    cases h
    exact ⟨h2, rfl⟩
theorem zok_in {x y : Int32} (h : zok x = some y) : y = x ∧ narrow .boolean (.int y) = .int y := by
  unfold zok at h
  split at h
  · rename_i h2
    cases h
    refine ⟨rfl, ?_⟩
    rcases h2 with rfl | rfl <;> rfl
  · cases h
abbrev gT (cB cI cJ cZ : ClassId) : List (ClassId × FieldType) := [(cB, .byte), (cI, .int), (cJ, .long), (cZ, .boolean)]
/-- a world with some cells replaced -/
def gJoin (W : va_W) (isC : List Nat) (W1 : va_W) : va_W := (isC.zip W1).foldl (fun w x => w.set x.1 x.2) W
theorem gJoin_get (W1 : va_W) : ∀ (isC : List Nat) (W : va_W) (k : Nat) (q : Nat × va_E), isC.length = W1.length → (gJoin W isC W1)[k]? = some q → (∃ j : Nat, W1[j]? = some q) ∨ (W[k]? = some q ∧ k ∉ isC) := by
  induction W1 with
  | nil =>
    intro isC W k q hl h
    have : isC = [] := List.length_eq_zero_iff.mp hl
    subst this
    exact Or.inr ⟨h, List.not_mem_nil⟩
  | cons x W1 ih =>
    intro isC W k q hl h
    cases isC with
    | nil => cases hl
    | cons i isC =>
      have hl' : isC.length = W1.length := by simpa using hl
      have h' : (gJoin (W.set i x) isC W1)[k]? = some q := h
      rcases ih isC (W.set i x) k q hl' h' with ⟨j, hj⟩ | ⟨h1, h2⟩
      · exact Or.inl ⟨j + 1, by simpa using hj⟩
      · by_cases hki : k = i
        · subst hki
          have hlt : k < W.length := by
            have := (List.getElem?_eq_some_iff.mp h1).1
            simpa using this
          rw [List.getElem?_set_self hlt] at h1
          cases h1
          exact Or.inl ⟨0, rfl⟩
        · rw [List.getElem?_set_ne (Ne.symm hki)] at h1
          exact Or.inr ⟨h1, fun hm => (List.mem_cons.mp hm).elim hki h2⟩
theorem gJoin_len (W1 : va_W) : ∀ (isC : List Nat) (W : va_W), (gJoin W isC W1).length = W.length := by
  induction W1 with
  | nil => intro isC W; cases isC <;> rfl
  | cons x W1 ih =>
    intro isC W
    cases isC with
    | nil => rfl
    | cons i isC =>
      have : gJoin W (i :: isC) (x :: W1) = gJoin (W.set i x) isC W1 := rfl
      rw [this, ih]
      simp
theorem va_D.addr {A : Nat → Prop} {W W' : va_W} (hD : va_D A W) (h : W'.map (fun q => q.1) = W.map (fun q => q.1)) : va_D A W' := by
  have key : ∀ (k : Nat) (q : Nat × va_E), W'[k]? = some q → ∃ q0, W[k]? = some q0 ∧ q0.1 = q.1 := by
    intro k q hk
    have h1 : (W'.map (fun q => q.1))[k]? = some q.1 := by simp [hk]
    rw [h] at h1
    rw [List.getElem?_map] at h1
    cases hw : W[k]? with
    | none => rw [hw] at h1; cases h1
    | some q0 => rw [hw] at h1; exact ⟨q0, rfl, by simpa using h1⟩
  refine ⟨fun i j x y hi hj hxy => ?_, fun k q hk => ?_⟩
  · obtain ⟨x0, h1, h2⟩ := key i x hi
    obtain ⟨y0, h3, h4⟩ := key j y hj
    exact hD.1 i j x0 y0 h1 h3 (h2.trans (hxy.trans h4.symm))
  · obtain ⟨q0, h1, h2⟩ := key k q hk
    rw [← h2]
    exact hD.2 k q0 h1
theorem g_join {A0 : Nat → Prop} {D : va_G} {cl : List vw_C} {W W0 W1 W' : va_W} {H H1 : Heap} (hP : va_P D cl W H) (hD : va_D A0 W) (isC : List Nat) (hC : isC.map (fun i => W[i]?) = W0.map some) (hl : W1.length = W0.length)
    (hk : ∀ q : Nat, q < H.size → ¬ va_A W0 H.size q → H1[q]? = H[q]?) (hP1 : va_P D cl W1 H1) (hJ : gJoin W isC W1 = W') : va_P D cl W' H1 := by
  subst hJ
  have hlen : isC.length = W1.length := by
    have := congrArg List.length hC
    simp at this
    omega
  intro k q hq
  rcases gJoin_get W1 isC W k q hlen hq with ⟨j, hj⟩ | ⟨h1, h2⟩
  · exact hP1 j q hj
  · refine (hP k q h1).kept (hk q.1 (hP k q h1).lt ?_)
    rintro (⟨j, e, hj⟩ | hs)
    · have hm : (W0.map some)[j]? = some (some (q.1, e)) := by simp [hj]
      rw [← hC] at hm
      rw [List.getElem?_map] at hm
      cases hi : isC[j]? with
      | none => rw [hi] at hm; cases hm
      | some i =>
        rw [hi] at hm
        have hw : W[i]? = some (q.1, e) := by simpa using hm
        have := hD.1 k i q (q.1, e) h1 hw rfl
        subst this
        exact h2 (List.mem_of_getElem? hi)
    · have := (hP k q h1).lt
      omega
end
section
/-! PART 03: the rules of gG, one an instruction; printed by wip/whole/gen_rules.py -/
/-- the nest mates' links, which no word list may hold -/
def gN (U : State) : Prop := va_Nw (.methodLinkNest RX3 88 yX7_isPlace "TwinVolumes") U ∧ va_Nw (.methodLinkNest RX6 11 yX0_init "TwinVolumes") U ∧ va_Nw (.methodLinkNest RX7 11 yX5_init "TwinVolumes") U
theorem gN_warm {s U : State} (hW : s.WarmedH U.vm) (h : gN s) : gN U := ⟨va_Nw.warmM hW h.1, va_Nw.warmM hW h.2.1, va_Nw.warmM hW h.2.2⟩
theorem gN_same {u U : State} (h : u.vm = U.vm) (hZ : gN u) : gN U := ⟨va_Nw.same rfl h hZ.1, va_Nw.same rfl h hZ.2.1, va_Nw.same rfl h hZ.2.2⟩
def gG (p : Program) (l : Launch) (e : Env) (R : Room) (s : State) (m : MethodId) (args : Array Value) (below : List Frame) (meth : Method) (c : Code) (cells slots : Nat) (D : va_G) (AD AS : Nat → Prop) (nL : Nat) (Q : State → Prop) (ws : va_W) (pc : Nat) (L : List (Nat × Value)) (st : List Value) : Prop :=
  ∀ (H : Heap) (locs : List Loc) (ls : Array Slot), va_P D vwCl ws H → va_D AD ws → va_S AS s.heap H locs → lv_has ls nL L → W p l e R s m args below meth c H locs cells slots Q (F0 m pc ls st)
def gC (p : Program) (s : State) (m : MethodId) (args : Array Value) (meth : Method) (c : Code) (cc : ByteArray) (nL : Nat) (own : String) (Ts : List Cond) (D : va_G) (tys : List (ClassId × FieldType)) (ret : Option FieldType) (AS : Nat → Prop) : Prop :=
  p.tables.exec = Jvm.exec ∧ c.code = cc ∧ c.maxLocals = nL ∧ s.vm.findClass own = some m.cls ∧ (∀ w ∈ Ts, w.before args s = true) ∧ va_K D vwCl tys s ∧ meth.sig.returnType = ret ∧ meth.locks = false ∧ gN s
section gRules
variable {p : Program} {l : Launch} {e : Env} {R : Room} {s : State} {m : MethodId} {args : Array Value} {below : List Frame} {meth : Method} {c : Code} {cells slots : Nat} {D : va_G} {AD AS : Nat → Prop} {nL : Nat} {Q : State → Prop} {ws : va_W} {L : List (Nat × Value)} {rest : List Value}
variable {cc : ByteArray} {own : String} {Ts : List Cond} {tys : List (ClassId × FieldType)} {ret : Option FieldType} {pc : Nat}
theorem g_iconst (C : gC p s m args meth c cc nL own Ts D tys ret AS) {n : Int} {v : Int32} {pc' : Nat} (hdg : decode cc pc = .ok (.iconst n, 1)) (hv : Int32.ofInt n = v) (hpc : pc + 1 = pc')
    (k : gG p l e R s m args below meth c cells slots D AD AS nL Q ws pc' L (.int v :: rest)) : gG p l e R s m args below meth c cells slots D AD AS nL Q ws pc L rest := by
  subst hpc
  exact fun H locs ls hP hD hS hl => lv_iconst C.1 C.2.1 hdg hv (k H locs ls hP hD hS hl)
theorem g_bipush (C : gC p s m args meth c cc nL own Ts D tys ret AS) {n : Int} {v : Int32} {pc' : Nat} (hdg : decode cc pc = .ok (.bipush n, 2)) (hv : (Int8.ofInt n).toInt32 = v) (hpc : pc + 2 = pc')
    (k : gG p l e R s m args below meth c cells slots D AD AS nL Q ws pc' L (.int v :: rest)) : gG p l e R s m args below meth c cells slots D AD AS nL Q ws pc L rest := by
  subst hpc
  exact fun H locs ls hP hD hS hl => lv_bipush C.1 C.2.1 hdg hv (k H locs ls hP hD hS hl)
theorem g_sipush (C : gC p s m args meth c cc nL own Ts D tys ret AS) {n : Int} {v : Int32} {pc' : Nat} (hdg : decode cc pc = .ok (.sipush n, 3)) (hv : (Int16.ofInt n).toInt32 = v) (hpc : pc + 3 = pc')
    (k : gG p l e R s m args below meth c cells slots D AD AS nL Q ws pc' L (.int v :: rest)) : gG p l e R s m args below meth c cells slots D AD AS nL Q ws pc L rest := by
  subst hpc
  exact fun H locs ls hP hD hS hl => lv_sipush C.1 C.2.1 hdg hv (k H locs ls hP hD hS hl)
theorem g_lconst (C : gC p s m args meth c cc nL own Ts D tys ret AS) {n : Fin 2} {v : Int64} {pc' : Nat} (hdg : decode cc pc = .ok (.lconst n, 1)) (hv : Int64.ofNat (n : Nat) = v) (hpc : pc + 1 = pc')
    (k : gG p l e R s m args below meth c cells slots D AD AS nL Q ws pc' L (.long v :: rest)) : gG p l e R s m args below meth c cells slots D AD AS nL Q ws pc L rest := by
  subst hpc
  exact fun H locs ls hP hD hS hl => lv_lconst C.1 C.2.1 hdg hv (k H locs ls hP hD hS hl)
theorem g_null (C : gC p s m args meth c cc nL own Ts D tys ret AS) {pc' : Nat} (hdg : decode cc pc = .ok (.aconst_null, 1)) (hpc : pc + 1 = pc')
    (k : gG p l e R s m args below meth c cells slots D AD AS nL Q ws pc' L (.null :: rest)) : gG p l e R s m args below meth c cells slots D AD AS nL Q ws pc L rest := by
  subst hpc
  exact fun H locs ls hP hD hS hl => lv_null C.1 C.2.1 hdg (k H locs ls hP hD hS hl)
theorem g_iload_n (C : gC p s m args meth c cc nL own Ts D tys ret AS) {k : Fin 4} {i z : Nat} {x : Int32} {pc' : Nat} (hdg : decode cc pc = .ok (.iload_n k, 1)) (hi : (k : Nat) = i) (hL : L[z]? = some (i, .int x)) (hpc : pc + 1 = pc')
    (k : gG p l e R s m args below meth c cells slots D AD AS nL Q ws pc' L (.int x :: rest)) : gG p l e R s m args below meth c cells slots D AD AS nL Q ws pc L rest := by
  subst hpc
  exact fun H locs ls hP hD hS hl => lv_iload_n C.1 C.2.1 hdg hi (lv_at hl z hL) (k H locs ls hP hD hS hl)
theorem g_iload (C : gC p s m args meth c cc nL own Ts D tys ret AS) {i z : Nat} {x : Int32} {pc' : Nat} (hdg : decode cc pc = .ok (.iload i, 2)) (hL : L[z]? = some (i, .int x)) (hpc : pc + 2 = pc')
    (k : gG p l e R s m args below meth c cells slots D AD AS nL Q ws pc' L (.int x :: rest)) : gG p l e R s m args below meth c cells slots D AD AS nL Q ws pc L rest := by
  subst hpc
  exact fun H locs ls hP hD hS hl => lv_iload C.1 C.2.1 hdg (lv_at hl z hL) (k H locs ls hP hD hS hl)
theorem g_lload_n (C : gC p s m args meth c cc nL own Ts D tys ret AS) {k : Fin 4} {i z : Nat} {x : Int64} {pc' : Nat} (hdg : decode cc pc = .ok (.lload_n k, 1)) (hi : (k : Nat) = i) (hL : L[z]? = some (i, .long x)) (hpc : pc + 1 = pc')
    (k : gG p l e R s m args below meth c cells slots D AD AS nL Q ws pc' L (.long x :: rest)) : gG p l e R s m args below meth c cells slots D AD AS nL Q ws pc L rest := by
  subst hpc
  exact fun H locs ls hP hD hS hl => lv_lload_n C.1 C.2.1 hdg hi (lv_at hl z hL) (k H locs ls hP hD hS hl)
theorem g_lload (C : gC p s m args meth c cc nL own Ts D tys ret AS) {i z : Nat} {x : Int64} {pc' : Nat} (hdg : decode cc pc = .ok (.lload i, 2)) (hL : L[z]? = some (i, .long x)) (hpc : pc + 2 = pc')
    (k : gG p l e R s m args below meth c cells slots D AD AS nL Q ws pc' L (.long x :: rest)) : gG p l e R s m args below meth c cells slots D AD AS nL Q ws pc L rest := by
  subst hpc
  exact fun H locs ls hP hD hS hl => lv_lload C.1 C.2.1 hdg (lv_at hl z hL) (k H locs ls hP hD hS hl)
theorem g_aload_n (C : gC p s m args meth c cc nL own Ts D tys ret AS) {k : Fin 4} {i z : Nat} {x : Nat} {pc' : Nat} (hdg : decode cc pc = .ok (.aload_n k, 1)) (hi : (k : Nat) = i) (hL : L[z]? = some (i, .ref x)) (hpc : pc + 1 = pc')
    (k : gG p l e R s m args below meth c cells slots D AD AS nL Q ws pc' L (.ref x :: rest)) : gG p l e R s m args below meth c cells slots D AD AS nL Q ws pc L rest := by
  subst hpc
  exact fun H locs ls hP hD hS hl => lv_aload_n C.1 C.2.1 hdg hi (lv_at hl z hL) (k H locs ls hP hD hS hl)
theorem g_aload (C : gC p s m args meth c cc nL own Ts D tys ret AS) {i z : Nat} {x : Nat} {pc' : Nat} (hdg : decode cc pc = .ok (.aload i, 2)) (hL : L[z]? = some (i, .ref x)) (hpc : pc + 2 = pc')
    (k : gG p l e R s m args below meth c cells slots D AD AS nL Q ws pc' L (.ref x :: rest)) : gG p l e R s m args below meth c cells slots D AD AS nL Q ws pc L rest := by
  subst hpc
  exact fun H locs ls hP hD hS hl => lv_aload C.1 C.2.1 hdg (lv_at hl z hL) (k H locs ls hP hD hS hl)
theorem g_istore_n (C : gC p s m args meth c cc nL own Ts D tys ret AS) {k : Fin 4} {i : Nat} {x : Int32} {L' : List (Nat × Value)} {pc' : Nat} (hdg : decode cc pc = .ok (.istore_n k, 1)) (hi : (k : Nat) = i) (hn : i < nL) (hL : (i, Value.int x) :: L.filter (fun q => !(q.1 == i) && !(q.1 + 1 == i && q.2.category == 2)) = L') (hpc : pc + 1 = pc')
    (k9 : gG p l e R s m args below meth c cells slots D AD AS nL Q ws pc' L' rest) : gG p l e R s m args below meth c cells slots D AD AS nL Q ws pc L (.int x :: rest) := by
  subst hpc
  exact fun H locs ls hP hD hS hl => lv_istore_n C.1 C.2.1 hdg hi hl hn hL (fun ls' hl' => k9 H locs ls' hP hD hS hl')
theorem g_istore (C : gC p s m args meth c cc nL own Ts D tys ret AS) {i : Nat} {x : Int32} {L' : List (Nat × Value)} {pc' : Nat} (hdg : decode cc pc = .ok (.istore i, 2)) (hn : i < nL) (hL : (i, Value.int x) :: L.filter (fun q => !(q.1 == i) && !(q.1 + 1 == i && q.2.category == 2)) = L') (hpc : pc + 2 = pc')
    (k9 : gG p l e R s m args below meth c cells slots D AD AS nL Q ws pc' L' rest) : gG p l e R s m args below meth c cells slots D AD AS nL Q ws pc L (.int x :: rest) := by
  subst hpc
  exact fun H locs ls hP hD hS hl => lv_istore C.1 C.2.1 hdg hl hn hL (fun ls' hl' => k9 H locs ls' hP hD hS hl')
theorem g_lstore_n (C : gC p s m args meth c cc nL own Ts D tys ret AS) {k : Fin 4} {i : Nat} {x : Int64} {L' : List (Nat × Value)} {pc' : Nat} (hdg : decode cc pc = .ok (.lstore_n k, 1)) (hi : (k : Nat) = i) (hn : i + 1 < nL) (hL : (i, Value.long x) :: L.filter (fun q => !(q.1 == i) && (!(q.1 == i + 1) && !(q.1 + 1 == i && q.2.category == 2))) = L') (hpc : pc + 1 = pc')
    (k9 : gG p l e R s m args below meth c cells slots D AD AS nL Q ws pc' L' rest) : gG p l e R s m args below meth c cells slots D AD AS nL Q ws pc L (.long x :: rest) := by
  subst hpc
  exact fun H locs ls hP hD hS hl => lv_lstore_n C.1 C.2.1 hdg hi hl hn hL (fun ls' hl' => k9 H locs ls' hP hD hS hl')
theorem g_lstore (C : gC p s m args meth c cc nL own Ts D tys ret AS) {i : Nat} {x : Int64} {L' : List (Nat × Value)} {pc' : Nat} (hdg : decode cc pc = .ok (.lstore i, 2)) (hn : i + 1 < nL) (hL : (i, Value.long x) :: L.filter (fun q => !(q.1 == i) && (!(q.1 == i + 1) && !(q.1 + 1 == i && q.2.category == 2))) = L') (hpc : pc + 2 = pc')
    (k9 : gG p l e R s m args below meth c cells slots D AD AS nL Q ws pc' L' rest) : gG p l e R s m args below meth c cells slots D AD AS nL Q ws pc L (.long x :: rest) := by
  subst hpc
  exact fun H locs ls hP hD hS hl => lv_lstore C.1 C.2.1 hdg hl hn hL (fun ls' hl' => k9 H locs ls' hP hD hS hl')
theorem g_astore_n (C : gC p s m args meth c cc nL own Ts D tys ret AS) {k : Fin 4} {i : Nat} {x : Nat} {L' : List (Nat × Value)} {pc' : Nat} (hdg : decode cc pc = .ok (.astore_n k, 1)) (hi : (k : Nat) = i) (hn : i < nL) (hL : (i, Value.ref x) :: L.filter (fun q => !(q.1 == i) && !(q.1 + 1 == i && q.2.category == 2)) = L') (hpc : pc + 1 = pc')
    (k9 : gG p l e R s m args below meth c cells slots D AD AS nL Q ws pc' L' rest) : gG p l e R s m args below meth c cells slots D AD AS nL Q ws pc L (.ref x :: rest) := by
  subst hpc
  exact fun H locs ls hP hD hS hl => lv_astore_n C.1 C.2.1 hdg hi hl hn hL (fun ls' hl' => k9 H locs ls' hP hD hS hl')
theorem g_astore (C : gC p s m args meth c cc nL own Ts D tys ret AS) {i : Nat} {x : Nat} {L' : List (Nat × Value)} {pc' : Nat} (hdg : decode cc pc = .ok (.astore i, 2)) (hn : i < nL) (hL : (i, Value.ref x) :: L.filter (fun q => !(q.1 == i) && !(q.1 + 1 == i && q.2.category == 2)) = L') (hpc : pc + 2 = pc')
    (k9 : gG p l e R s m args below meth c cells slots D AD AS nL Q ws pc' L' rest) : gG p l e R s m args below meth c cells slots D AD AS nL Q ws pc L (.ref x :: rest) := by
  subst hpc
  exact fun H locs ls hP hD hS hl => lv_astore C.1 C.2.1 hdg hl hn hL (fun ls' hl' => k9 H locs ls' hP hD hS hl')
theorem g_iinc (C : gC p s m args meth c cc nL own Ts D tys ret AS) {i z : Nat} {n : Int} {x v : Int32} {L' : List (Nat × Value)} {pc' : Nat} (hdg : decode cc pc = .ok (.iinc i n, 3)) (hz : L[z]? = some (i, .int x)) (hv : x + Int32.ofInt n = v) (hn : i < nL) (hL : (i, Value.int v) :: L.filter (fun q => !(q.1 == i) && !(q.1 + 1 == i && q.2.category == 2)) = L') (hpc : pc + 3 = pc')
    (k9 : gG p l e R s m args below meth c cells slots D AD AS nL Q ws pc' L' rest) : gG p l e R s m args below meth c cells slots D AD AS nL Q ws pc L rest := by
  subst hpc
  exact fun H locs ls hP hD hS hl => lv_iinc C.1 C.2.1 hdg hl hz hv hn hL (fun ls' hl' => k9 H locs ls' hP hD hS hl')
theorem g_astoreN_n (C : gC p s m args meth c cc nL own Ts D tys ret AS) {k : Fin 4} {i : Nat} {L' : List (Nat × Value)} {pc' : Nat} (hdg : decode cc pc = .ok (.astore_n k, 1)) (hi : (k : Nat) = i) (hn : i < nL) (hL : (i, Value.null) :: L.filter (fun q => !(q.1 == i) && !(q.1 + 1 == i && q.2.category == 2)) = L') (hpc : pc + 1 = pc')
    (k9 : gG p l e R s m args below meth c cells slots D AD AS nL Q ws pc' L' rest) : gG p l e R s m args below meth c cells slots D AD AS nL Q ws pc L (.null :: rest) := by
  subst hpc
  exact fun H locs ls hP hD hS hl => lv_astore_nN C.1 C.2.1 hdg hi hl hn hL (fun ls' hl' => k9 H locs ls' hP hD hS hl')
theorem g_astoreN (C : gC p s m args meth c cc nL own Ts D tys ret AS) {i : Nat} {L' : List (Nat × Value)} {pc' : Nat} (hdg : decode cc pc = .ok (.astore i, 2)) (hn : i < nL) (hL : (i, Value.null) :: L.filter (fun q => !(q.1 == i) && !(q.1 + 1 == i && q.2.category == 2)) = L') (hpc : pc + 2 = pc')
    (k9 : gG p l e R s m args below meth c cells slots D AD AS nL Q ws pc' L' rest) : gG p l e R s m args below meth c cells slots D AD AS nL Q ws pc L (.null :: rest) := by
  subst hpc
  exact fun H locs ls hP hD hS hl => lv_astoreN C.1 C.2.1 hdg hl hn hL (fun ls' hl' => k9 H locs ls' hP hD hS hl')
theorem g_aloadN_n (C : gC p s m args meth c cc nL own Ts D tys ret AS) {k : Fin 4} {i z : Nat} {pc' : Nat} (hdg : decode cc pc = .ok (.aload_n k, 1)) (hi : (k : Nat) = i) (hL : L[z]? = some (i, .null)) (hpc : pc + 1 = pc')
    (k : gG p l e R s m args below meth c cells slots D AD AS nL Q ws pc' L (.null :: rest)) : gG p l e R s m args below meth c cells slots D AD AS nL Q ws pc L rest := by
  subst hpc
  exact fun H locs ls hP hD hS hl => lv_aload_nN C.1 C.2.1 hdg hi (lv_at hl z hL) (k H locs ls hP hD hS hl)
theorem g_aloadN (C : gC p s m args meth c cc nL own Ts D tys ret AS) {i z : Nat} {pc' : Nat} (hdg : decode cc pc = .ok (.aload i, 2)) (hL : L[z]? = some (i, .null)) (hpc : pc + 2 = pc')
    (k : gG p l e R s m args below meth c cells slots D AD AS nL Q ws pc' L (.null :: rest)) : gG p l e R s m args below meth c cells slots D AD AS nL Q ws pc L rest := by
  subst hpc
  exact fun H locs ls hP hD hS hl => lv_aloadN C.1 C.2.1 hdg (lv_at hl z hL) (k H locs ls hP hD hS hl)
theorem g_iadd (C : gC p s m args meth c cc nL own Ts D tys ret AS) {x y : Int32} {pc' : Nat} (hdg : decode cc pc = .ok (.iadd, 1)) (hpc : pc + 1 = pc')
    (k : gG p l e R s m args below meth c cells slots D AD AS nL Q ws pc' L (.int (x + y) :: rest)) : gG p l e R s m args below meth c cells slots D AD AS nL Q ws pc L (.int y :: .int x :: rest) := by
  subst hpc
  exact fun H locs ls hP hD hS hl => lv_iadd C.1 C.2.1 hdg (k H locs ls hP hD hS hl)
theorem g_isub (C : gC p s m args meth c cc nL own Ts D tys ret AS) {x y : Int32} {pc' : Nat} (hdg : decode cc pc = .ok (.isub, 1)) (hpc : pc + 1 = pc')
    (k : gG p l e R s m args below meth c cells slots D AD AS nL Q ws pc' L (.int (x - y) :: rest)) : gG p l e R s m args below meth c cells slots D AD AS nL Q ws pc L (.int y :: .int x :: rest) := by
  subst hpc
  exact fun H locs ls hP hD hS hl => lv_isub C.1 C.2.1 hdg (k H locs ls hP hD hS hl)
theorem g_imul (C : gC p s m args meth c cc nL own Ts D tys ret AS) {x y : Int32} {pc' : Nat} (hdg : decode cc pc = .ok (.imul, 1)) (hpc : pc + 1 = pc')
    (k : gG p l e R s m args below meth c cells slots D AD AS nL Q ws pc' L (.int (x * y) :: rest)) : gG p l e R s m args below meth c cells slots D AD AS nL Q ws pc L (.int y :: .int x :: rest) := by
  subst hpc
  exact fun H locs ls hP hD hS hl => lv_imul C.1 C.2.1 hdg (k H locs ls hP hD hS hl)
theorem g_iand (C : gC p s m args meth c cc nL own Ts D tys ret AS) {x y : Int32} {pc' : Nat} (hdg : decode cc pc = .ok (.iand, 1)) (hpc : pc + 1 = pc')
    (k : gG p l e R s m args below meth c cells slots D AD AS nL Q ws pc' L (.int (x &&& y) :: rest)) : gG p l e R s m args below meth c cells slots D AD AS nL Q ws pc L (.int y :: .int x :: rest) := by
  subst hpc
  exact fun H locs ls hP hD hS hl => lv_iand C.1 C.2.1 hdg (k H locs ls hP hD hS hl)
theorem g_ior (C : gC p s m args meth c cc nL own Ts D tys ret AS) {x y : Int32} {pc' : Nat} (hdg : decode cc pc = .ok (.ior, 1)) (hpc : pc + 1 = pc')
    (k : gG p l e R s m args below meth c cells slots D AD AS nL Q ws pc' L (.int (x ||| y) :: rest)) : gG p l e R s m args below meth c cells slots D AD AS nL Q ws pc L (.int y :: .int x :: rest) := by
  subst hpc
  exact fun H locs ls hP hD hS hl => lv_ior C.1 C.2.1 hdg (k H locs ls hP hD hS hl)
theorem g_ishl (C : gC p s m args meth c cc nL own Ts D tys ret AS) {x y : Int32} {pc' : Nat} (hdg : decode cc pc = .ok (.ishl, 1)) (hpc : pc + 1 = pc')
    (k : gG p l e R s m args below meth c cells slots D AD AS nL Q ws pc' L (.int (x <<< (y &&& 31)) :: rest)) : gG p l e R s m args below meth c cells slots D AD AS nL Q ws pc L (.int y :: .int x :: rest) := by
  subst hpc
  exact fun H locs ls hP hD hS hl => lv_ishl C.1 C.2.1 hdg (k H locs ls hP hD hS hl)
theorem g_ishr (C : gC p s m args meth c cc nL own Ts D tys ret AS) {x y : Int32} {pc' : Nat} (hdg : decode cc pc = .ok (.ishr, 1)) (hpc : pc + 1 = pc')
    (k : gG p l e R s m args below meth c cells slots D AD AS nL Q ws pc' L (.int (x >>> (y &&& 31)) :: rest)) : gG p l e R s m args below meth c cells slots D AD AS nL Q ws pc L (.int y :: .int x :: rest) := by
  subst hpc
  exact fun H locs ls hP hD hS hl => lv_ishr C.1 C.2.1 hdg (k H locs ls hP hD hS hl)
theorem g_idiv (C : gC p s m args meth c cc nL own Ts D tys ret AS) {x y : Int32} {pc' : Nat} (hdg : decode cc pc = .ok (.idiv, 1)) (hne : ¬ y = 0) (hpc : pc + 1 = pc')
    (k : gG p l e R s m args below meth c cells slots D AD AS nL Q ws pc' L (.int (x / y) :: rest)) : gG p l e R s m args below meth c cells slots D AD AS nL Q ws pc L (.int y :: .int x :: rest) := by
  subst hpc
  exact fun H locs ls hP hD hS hl => lv_idiv C.1 C.2.1 hdg hne (k H locs ls hP hD hS hl)
theorem g_irem (C : gC p s m args meth c cc nL own Ts D tys ret AS) {x y : Int32} {pc' : Nat} (hdg : decode cc pc = .ok (.irem, 1)) (hne : ¬ y = 0) (hpc : pc + 1 = pc')
    (k : gG p l e R s m args below meth c cells slots D AD AS nL Q ws pc' L (.int (x - x / y * y) :: rest)) : gG p l e R s m args below meth c cells slots D AD AS nL Q ws pc L (.int y :: .int x :: rest) := by
  subst hpc
  exact fun H locs ls hP hD hS hl => lv_irem C.1 C.2.1 hdg hne (k H locs ls hP hD hS hl)
theorem g_ladd (C : gC p s m args meth c cc nL own Ts D tys ret AS) {x y : Int64} {pc' : Nat} (hdg : decode cc pc = .ok (.ladd, 1)) (hpc : pc + 1 = pc')
    (k : gG p l e R s m args below meth c cells slots D AD AS nL Q ws pc' L (.long (x + y) :: rest)) : gG p l e R s m args below meth c cells slots D AD AS nL Q ws pc L (.long y :: .long x :: rest) := by
  subst hpc
  exact fun H locs ls hP hD hS hl => lv_ladd C.1 C.2.1 hdg (k H locs ls hP hD hS hl)
theorem g_land (C : gC p s m args meth c cc nL own Ts D tys ret AS) {x y : Int64} {pc' : Nat} (hdg : decode cc pc = .ok (.land, 1)) (hpc : pc + 1 = pc')
    (k : gG p l e R s m args below meth c cells slots D AD AS nL Q ws pc' L (.long (x &&& y) :: rest)) : gG p l e R s m args below meth c cells slots D AD AS nL Q ws pc L (.long y :: .long x :: rest) := by
  subst hpc
  exact fun H locs ls hP hD hS hl => lv_land C.1 C.2.1 hdg (k H locs ls hP hD hS hl)
theorem g_lor (C : gC p s m args meth c cc nL own Ts D tys ret AS) {x y : Int64} {pc' : Nat} (hdg : decode cc pc = .ok (.lor, 1)) (hpc : pc + 1 = pc')
    (k : gG p l e R s m args below meth c cells slots D AD AS nL Q ws pc' L (.long (x ||| y) :: rest)) : gG p l e R s m args below meth c cells slots D AD AS nL Q ws pc L (.long y :: .long x :: rest) := by
  subst hpc
  exact fun H locs ls hP hD hS hl => lv_lor C.1 C.2.1 hdg (k H locs ls hP hD hS hl)
theorem g_lshl (C : gC p s m args meth c cc nL own Ts D tys ret AS) {x : Int64} {y : Int32} {pc' : Nat} (hdg : decode cc pc = .ok (.lshl, 1)) (hpc : pc + 1 = pc')
    (k : gG p l e R s m args below meth c cells slots D AD AS nL Q ws pc' L (.long (x <<< (y.toInt64 &&& 63)) :: rest)) : gG p l e R s m args below meth c cells slots D AD AS nL Q ws pc L (.int y :: .long x :: rest) := by
  subst hpc
  exact fun H locs ls hP hD hS hl => lv_lshl C.1 C.2.1 hdg rfl (k H locs ls hP hD hS hl)
theorem g_lshr (C : gC p s m args meth c cc nL own Ts D tys ret AS) {x : Int64} {y : Int32} {pc' : Nat} (hdg : decode cc pc = .ok (.lshr, 1)) (hpc : pc + 1 = pc')
    (k : gG p l e R s m args below meth c cells slots D AD AS nL Q ws pc' L (.long (x >>> (y.toInt64 &&& 63)) :: rest)) : gG p l e R s m args below meth c cells slots D AD AS nL Q ws pc L (.int y :: .long x :: rest) := by
  subst hpc
  exact fun H locs ls hP hD hS hl => lv_lshr C.1 C.2.1 hdg rfl (k H locs ls hP hD hS hl)
theorem g_lushr (C : gC p s m args meth c cc nL own Ts D tys ret AS) {x : Int64} {y : Int32} {pc' : Nat} (hdg : decode cc pc = .ok (.lushr, 1)) (hpc : pc + 1 = pc')
    (k : gG p l e R s m args below meth c cells slots D AD AS nL Q ws pc' L (.long ((x.toUInt64 >>> (y.toInt64.toUInt64 &&& Int64.toUInt64 63)).toInt64) :: rest)) : gG p l e R s m args below meth c cells slots D AD AS nL Q ws pc L (.int y :: .long x :: rest) := by
  subst hpc
  exact fun H locs ls hP hD hS hl => lv_lushr C.1 C.2.1 hdg rfl (k H locs ls hP hD hS hl)
theorem g_i2l (C : gC p s m args meth c cc nL own Ts D tys ret AS) {x : Int32} {pc' : Nat} (hdg : decode cc pc = .ok (.i2l, 1)) (hpc : pc + 1 = pc')
    (k : gG p l e R s m args below meth c cells slots D AD AS nL Q ws pc' L (.long x.toInt64 :: rest)) : gG p l e R s m args below meth c cells slots D AD AS nL Q ws pc L (.int x :: rest) := by
  subst hpc
  exact fun H locs ls hP hD hS hl => lv_i2l C.1 C.2.1 hdg rfl (k H locs ls hP hD hS hl)
theorem g_l2i (C : gC p s m args meth c cc nL own Ts D tys ret AS) {x : Int64} {pc' : Nat} (hdg : decode cc pc = .ok (.l2i, 1)) (hpc : pc + 1 = pc')
    (k : gG p l e R s m args below meth c cells slots D AD AS nL Q ws pc' L (.int x.toInt32 :: rest)) : gG p l e R s m args below meth c cells slots D AD AS nL Q ws pc L (.long x :: rest) := by
  subst hpc
  exact fun H locs ls hP hD hS hl => lv_l2i C.1 C.2.1 hdg rfl (k H locs ls hP hD hS hl)
theorem g_i2b (C : gC p s m args meth c cc nL own Ts D tys ret AS) {x : Int32} {pc' : Nat} (hdg : decode cc pc = .ok (.i2b, 1)) (hpc : pc + 1 = pc')
    (k : gG p l e R s m args below meth c cells slots D AD AS nL Q ws pc' L (.int x.toInt8.toInt32 :: rest)) : gG p l e R s m args below meth c cells slots D AD AS nL Q ws pc L (.int x :: rest) := by
  subst hpc
  exact fun H locs ls hP hD hS hl => lv_i2b C.1 C.2.1 hdg rfl (k H locs ls hP hD hS hl)
theorem g_lcmp (C : gC p s m args meth c cc nL own Ts D tys ret AS) {x y : Int64} {pc' : Nat} (hdg : decode cc pc = .ok (.lcmp, 1)) (hpc : pc + 1 = pc')
    (k : gG p l e R s m args below meth c cells slots D AD AS nL Q ws pc' L (.int (lg_cmp x y) :: rest)) : gG p l e R s m args below meth c cells slots D AD AS nL Q ws pc L (.long y :: .long x :: rest) := by
  subst hpc
  exact fun H locs ls hP hD hS hl => W.lcmp C.1 C.2.1 hdg (k H locs ls hP hD hS hl)
theorem g_dup (C : gC p s m args meth c cc nL own Ts D tys ret AS) {va : Value} {pc' : Nat} (hdg : decode cc pc = .ok (.dup, 1)) (hva : va.category = 1) (hpc : pc + 1 = pc')
    (k : gG p l e R s m args below meth c cells slots D AD AS nL Q ws pc' L (va :: va :: rest)) : gG p l e R s m args below meth c cells slots D AD AS nL Q ws pc L (va :: rest) := by
  subst hpc
  exact fun H locs ls hP hD hS hl => lv_dup C.1 C.2.1 hdg hva (k H locs ls hP hD hS hl)
theorem g_pop (C : gC p s m args meth c cc nL own Ts D tys ret AS) {va : Value} {pc' : Nat} (hdg : decode cc pc = .ok (.pop, 1)) (hva : va.category = 1) (hpc : pc + 1 = pc')
    (k : gG p l e R s m args below meth c cells slots D AD AS nL Q ws pc' L rest) : gG p l e R s m args below meth c cells slots D AD AS nL Q ws pc L (va :: rest) := by
  subst hpc
  exact fun H locs ls hP hD hS hl => lv_pop C.1 C.2.1 hdg hva (k H locs ls hP hD hS hl)
theorem g_dup2 (C : gC p s m args meth c cc nL own Ts D tys ret AS) {va vb : Value} {pc' : Nat} (hdg : decode cc pc = .ok (.dup2, 1)) (hva : va.category = 1) (hvb : vb.category = 1) (hpc : pc + 1 = pc')
    (k : gG p l e R s m args below meth c cells slots D AD AS nL Q ws pc' L (va :: vb :: va :: vb :: rest)) : gG p l e R s m args below meth c cells slots D AD AS nL Q ws pc L (va :: vb :: rest) := by
  subst hpc
  exact fun H locs ls hP hD hS hl => lv_dup2_11 C.1 C.2.1 hdg hva hvb (k H locs ls hP hD hS hl)
theorem g_if_eq (C : gC p s m args meth c cc nL own Ts D tys ret AS) {x : Int32} {off : Int} {pt pf : Nat} (hdg : decode cc pc = .ok (.ifCond .eq off, 3)) (ht : (pc : Int) + off = (pt : Int)) (hpf : pc + 3 = pf)
    (kt : x = 0 → gG p l e R s m args below meth c cells slots D AD AS nL Q ws pt L rest) (kf : ¬ (x = 0) → gG p l e R s m args below meth c cells slots D AD AS nL Q ws pf L rest) : gG p l e R s m args below meth c cells slots D AD AS nL Q ws pc L (.int x :: rest) := by
  subst hpf
  exact fun H locs ls hP hD hS hl => lv_if_eq C.1 C.2.1 hdg ht (fun h => kt h H locs ls hP hD hS hl) (fun h => kf h H locs ls hP hD hS hl)
theorem g_icmp_eq (C : gC p s m args meth c cc nL own Ts D tys ret AS) {x y : Int32} {off : Int} {pt pf : Nat} (hdg : decode cc pc = .ok (.if_icmp .eq off, 3)) (ht : (pc : Int) + off = (pt : Int)) (hpf : pc + 3 = pf)
    (kt : x = y → gG p l e R s m args below meth c cells slots D AD AS nL Q ws pt L rest) (kf : ¬ (x = y) → gG p l e R s m args below meth c cells slots D AD AS nL Q ws pf L rest) : gG p l e R s m args below meth c cells slots D AD AS nL Q ws pc L (.int y :: .int x :: rest) := by
  subst hpf
  exact fun H locs ls hP hD hS hl => lv_icmp_eq C.1 C.2.1 hdg ht (fun h => kt h H locs ls hP hD hS hl) (fun h => kf h H locs ls hP hD hS hl)
theorem g_if_ne (C : gC p s m args meth c cc nL own Ts D tys ret AS) {x : Int32} {off : Int} {pt pf : Nat} (hdg : decode cc pc = .ok (.ifCond .ne off, 3)) (ht : (pc : Int) + off = (pt : Int)) (hpf : pc + 3 = pf)
    (kt : ¬ x = 0 → gG p l e R s m args below meth c cells slots D AD AS nL Q ws pt L rest) (kf : x = 0 → gG p l e R s m args below meth c cells slots D AD AS nL Q ws pf L rest) : gG p l e R s m args below meth c cells slots D AD AS nL Q ws pc L (.int x :: rest) := by
  subst hpf
  exact fun H locs ls hP hD hS hl => lv_if_ne C.1 C.2.1 hdg ht (fun h => kt h H locs ls hP hD hS hl) (fun h => kf h H locs ls hP hD hS hl)
theorem g_icmp_ne (C : gC p s m args meth c cc nL own Ts D tys ret AS) {x y : Int32} {off : Int} {pt pf : Nat} (hdg : decode cc pc = .ok (.if_icmp .ne off, 3)) (ht : (pc : Int) + off = (pt : Int)) (hpf : pc + 3 = pf)
    (kt : ¬ x = y → gG p l e R s m args below meth c cells slots D AD AS nL Q ws pt L rest) (kf : x = y → gG p l e R s m args below meth c cells slots D AD AS nL Q ws pf L rest) : gG p l e R s m args below meth c cells slots D AD AS nL Q ws pc L (.int y :: .int x :: rest) := by
  subst hpf
  exact fun H locs ls hP hD hS hl => lv_icmp_ne C.1 C.2.1 hdg ht (fun h => kt h H locs ls hP hD hS hl) (fun h => kf h H locs ls hP hD hS hl)
theorem g_if_lt (C : gC p s m args meth c cc nL own Ts D tys ret AS) {x : Int32} {off : Int} {pt pf : Nat} (hdg : decode cc pc = .ok (.ifCond .lt off, 3)) (ht : (pc : Int) + off = (pt : Int)) (hpf : pc + 3 = pf)
    (kt : x < 0 → gG p l e R s m args below meth c cells slots D AD AS nL Q ws pt L rest) (kf : ¬ (x < 0) → gG p l e R s m args below meth c cells slots D AD AS nL Q ws pf L rest) : gG p l e R s m args below meth c cells slots D AD AS nL Q ws pc L (.int x :: rest) := by
  subst hpf
  exact fun H locs ls hP hD hS hl => lv_if_lt C.1 C.2.1 hdg ht (fun h => kt h H locs ls hP hD hS hl) (fun h => kf h H locs ls hP hD hS hl)
theorem g_icmp_lt (C : gC p s m args meth c cc nL own Ts D tys ret AS) {x y : Int32} {off : Int} {pt pf : Nat} (hdg : decode cc pc = .ok (.if_icmp .lt off, 3)) (ht : (pc : Int) + off = (pt : Int)) (hpf : pc + 3 = pf)
    (kt : x < y → gG p l e R s m args below meth c cells slots D AD AS nL Q ws pt L rest) (kf : ¬ (x < y) → gG p l e R s m args below meth c cells slots D AD AS nL Q ws pf L rest) : gG p l e R s m args below meth c cells slots D AD AS nL Q ws pc L (.int y :: .int x :: rest) := by
  subst hpf
  exact fun H locs ls hP hD hS hl => lv_icmp_lt C.1 C.2.1 hdg ht (fun h => kt h H locs ls hP hD hS hl) (fun h => kf h H locs ls hP hD hS hl)
theorem g_if_ge (C : gC p s m args meth c cc nL own Ts D tys ret AS) {x : Int32} {off : Int} {pt pf : Nat} (hdg : decode cc pc = .ok (.ifCond .ge off, 3)) (ht : (pc : Int) + off = (pt : Int)) (hpf : pc + 3 = pf)
    (kt : 0 ≤ x → gG p l e R s m args below meth c cells slots D AD AS nL Q ws pt L rest) (kf : ¬ (0 ≤ x) → gG p l e R s m args below meth c cells slots D AD AS nL Q ws pf L rest) : gG p l e R s m args below meth c cells slots D AD AS nL Q ws pc L (.int x :: rest) := by
  subst hpf
  exact fun H locs ls hP hD hS hl => lv_if_ge C.1 C.2.1 hdg ht (fun h => kt h H locs ls hP hD hS hl) (fun h => kf h H locs ls hP hD hS hl)
theorem g_icmp_ge (C : gC p s m args meth c cc nL own Ts D tys ret AS) {x y : Int32} {off : Int} {pt pf : Nat} (hdg : decode cc pc = .ok (.if_icmp .ge off, 3)) (ht : (pc : Int) + off = (pt : Int)) (hpf : pc + 3 = pf)
    (kt : y ≤ x → gG p l e R s m args below meth c cells slots D AD AS nL Q ws pt L rest) (kf : ¬ (y ≤ x) → gG p l e R s m args below meth c cells slots D AD AS nL Q ws pf L rest) : gG p l e R s m args below meth c cells slots D AD AS nL Q ws pc L (.int y :: .int x :: rest) := by
  subst hpf
  exact fun H locs ls hP hD hS hl => lv_icmp_ge C.1 C.2.1 hdg ht (fun h => kt h H locs ls hP hD hS hl) (fun h => kf h H locs ls hP hD hS hl)
theorem g_if_gt (C : gC p s m args meth c cc nL own Ts D tys ret AS) {x : Int32} {off : Int} {pt pf : Nat} (hdg : decode cc pc = .ok (.ifCond .gt off, 3)) (ht : (pc : Int) + off = (pt : Int)) (hpf : pc + 3 = pf)
    (kt : 0 < x → gG p l e R s m args below meth c cells slots D AD AS nL Q ws pt L rest) (kf : ¬ (0 < x) → gG p l e R s m args below meth c cells slots D AD AS nL Q ws pf L rest) : gG p l e R s m args below meth c cells slots D AD AS nL Q ws pc L (.int x :: rest) := by
  subst hpf
  exact fun H locs ls hP hD hS hl => lv_if_gt C.1 C.2.1 hdg ht (fun h => kt h H locs ls hP hD hS hl) (fun h => kf h H locs ls hP hD hS hl)
theorem g_icmp_gt (C : gC p s m args meth c cc nL own Ts D tys ret AS) {x y : Int32} {off : Int} {pt pf : Nat} (hdg : decode cc pc = .ok (.if_icmp .gt off, 3)) (ht : (pc : Int) + off = (pt : Int)) (hpf : pc + 3 = pf)
    (kt : y < x → gG p l e R s m args below meth c cells slots D AD AS nL Q ws pt L rest) (kf : ¬ (y < x) → gG p l e R s m args below meth c cells slots D AD AS nL Q ws pf L rest) : gG p l e R s m args below meth c cells slots D AD AS nL Q ws pc L (.int y :: .int x :: rest) := by
  subst hpf
  exact fun H locs ls hP hD hS hl => lv_icmp_gt C.1 C.2.1 hdg ht (fun h => kt h H locs ls hP hD hS hl) (fun h => kf h H locs ls hP hD hS hl)
theorem g_if_le (C : gC p s m args meth c cc nL own Ts D tys ret AS) {x : Int32} {off : Int} {pt pf : Nat} (hdg : decode cc pc = .ok (.ifCond .le off, 3)) (ht : (pc : Int) + off = (pt : Int)) (hpf : pc + 3 = pf)
    (kt : x ≤ 0 → gG p l e R s m args below meth c cells slots D AD AS nL Q ws pt L rest) (kf : ¬ (x ≤ 0) → gG p l e R s m args below meth c cells slots D AD AS nL Q ws pf L rest) : gG p l e R s m args below meth c cells slots D AD AS nL Q ws pc L (.int x :: rest) := by
  subst hpf
  exact fun H locs ls hP hD hS hl => lv_if_le C.1 C.2.1 hdg ht (fun h => kt h H locs ls hP hD hS hl) (fun h => kf h H locs ls hP hD hS hl)
theorem g_icmp_le (C : gC p s m args meth c cc nL own Ts D tys ret AS) {x y : Int32} {off : Int} {pt pf : Nat} (hdg : decode cc pc = .ok (.if_icmp .le off, 3)) (ht : (pc : Int) + off = (pt : Int)) (hpf : pc + 3 = pf)
    (kt : x ≤ y → gG p l e R s m args below meth c cells slots D AD AS nL Q ws pt L rest) (kf : ¬ (x ≤ y) → gG p l e R s m args below meth c cells slots D AD AS nL Q ws pf L rest) : gG p l e R s m args below meth c cells slots D AD AS nL Q ws pc L (.int y :: .int x :: rest) := by
  subst hpf
  exact fun H locs ls hP hD hS hl => lv_icmp_le C.1 C.2.1 hdg ht (fun h => kt h H locs ls hP hD hS hl) (fun h => kf h H locs ls hP hD hS hl)
theorem g_goto (C : gC p s m args meth c cc nL own Ts D tys ret AS) {off : Int} {pt : Nat} (hdg : decode cc pc = .ok (.goto off, 3)) (ht : (pc : Int) + off = (pt : Int)) (k : gG p l e R s m args below meth c cells slots D AD AS nL Q ws pt L rest) : gG p l e R s m args below meth c cells slots D AD AS nL Q ws pc L rest :=
  fun H locs ls hP hD hS hl => lv_goto C.1 C.2.1 hdg ht (k H locs ls hP hD hS hl)
theorem g_switchIn (C : gC p s m args meth c cc nL own Ts D tys ret AS) {dflt lo hi : Int} {offs : Array Int} {len : Nat} {x : Int32} (v : Int) {off : Int} {pt : Nat} (hdg : decode cc pc = .ok (.tableswitch dflt lo hi offs, len)) (hx : x = Int32.ofInt v) (hv : (Int32.ofInt v).toInt = v) (h1 : ¬ v < lo) (h2 : ¬ hi < v) (ho : offs[(v - lo).toNat]? = some off) (ht : (pc : Int) + off = (pt : Int)) (k : gG p l e R s m args below meth c cells slots D AD AS nL Q ws pt L rest) : gG p l e R s m args below meth c cells slots D AD AS nL Q ws pc L (.int x :: rest) := by
  subst hx
  exact fun H locs ls hP hD hS hl => lv_tableIn C.1 C.2.1 hdg (by rw [hv]; exact h1) (by rw [hv]; exact h2) (by rw [hv]; exact ho) ht (k H locs ls hP hD hS hl)
theorem g_switchOut (C : gC p s m args meth c cc nL own Ts D tys ret AS) {dflt lo hi : Int} {offs : Array Int} {len : Nat} {x : Int32} {pt : Nat} (hdg : decode cc pc = .ok (.tableswitch dflt lo hi offs, len)) (h : x.toInt < lo ∨ hi < x.toInt) (ht : (pc : Int) + dflt = (pt : Int)) (k : gG p l e R s m args below meth c cells slots D AD AS nL Q ws pt L rest) : gG p l e R s m args below meth c cells slots D AD AS nL Q ws pc L (.int x :: rest) :=
  fun H locs ls hP hD hS hl => lv_tableOut C.1 C.2.1 hdg h ht (k H locs ls hP hD hS hl)
theorem g_lookup (C : gC p s m args meth c cc nL own Ts D tys ret AS) {dflt : Int} {ps : Array (Int × Int)} {len : Nat} {x : Int32} {off : Int} {pt : Nat} (hdg : decode cc pc = .ok (.lookupswitch dflt ps, len)) (hp : (ps.toList.zip (ps.toList.drop 1)).all (fun (a, next) => a.1 < next.1) = true) (ho : Op.lookupswitch.offset ps.toList dflt x.toInt = off) (ht : (pc : Int) + off = (pt : Int)) (k : gG p l e R s m args below meth c cells slots D AD AS nL Q ws pt L rest) : gG p l e R s m args below meth c cells slots D AD AS nL Q ws pc L (.int x :: rest) :=
  fun H locs ls hP hD hS hl => lv_lookup C.1 C.2.1 hdg hp ho ht (k H locs ls hP hD hS hl)
theorem g_ldc2 (C : gC p s m args meth c cc nL own Ts D tys ret AS) {index : Nat} {v : Int64} {pc' : Nat} (hw : Jvm.Cond.constantLong own index v ∈ Ts) (hdg : decode cc pc = .ok (.ldc2_w index, 3)) (hpc : pc + 3 = pc') (k : gG p l e R s m args below meth c cells slots D AD AS nL Q ws pc' L (.long v :: rest)) : gG p l e R s m args below meth c cells slots D AD AS nL Q ws pc L rest := by
  subst hpc
  exact fun H locs ls hP hD hS hl => lv_ldc2 C.1 C.2.1 C.2.2.2.1 (C.2.2.2.2.1 _ hw) hdg (k H locs ls hP hD hS hl)
theorem g_ifnullN (C : gC p s m args meth c cc nL own Ts D tys ret AS) {off : Int} {pt : Nat} (hdg : decode cc pc = .ok (.ifnull off, 3)) (ht : (pc : Int) + off = (pt : Int)) (k : gG p l e R s m args below meth c cells slots D AD AS nL Q ws pt L rest) : gG p l e R s m args below meth c cells slots D AD AS nL Q ws pc L (.null :: rest) :=
  fun H locs ls hP hD hS hl => lv_ifnullN C.1 C.2.1 hdg ht (k H locs ls hP hD hS hl)
theorem g_ifnullR (C : gC p s m args meth c cc nL own Ts D tys ret AS) {off : Int} {x pf : Nat} (hdg : decode cc pc = .ok (.ifnull off, 3)) (hpf : pc + 3 = pf) (k : gG p l e R s m args below meth c cells slots D AD AS nL Q ws pf L rest) : gG p l e R s m args below meth c cells slots D AD AS nL Q ws pc L (.ref x :: rest) := by
  subst hpf
  exact fun H locs ls hP hD hS hl => lv_ifnull C.1 C.2.1 hdg (k H locs ls hP hD hS hl)
theorem g_ifnonnullN (C : gC p s m args meth c cc nL own Ts D tys ret AS) {off : Int} {pf : Nat} (hdg : decode cc pc = .ok (.ifnonnull off, 3)) (hpf : pc + 3 = pf) (k : gG p l e R s m args below meth c cells slots D AD AS nL Q ws pf L rest) : gG p l e R s m args below meth c cells slots D AD AS nL Q ws pc L (.null :: rest) := by
  subst hpf
  exact fun H locs ls hP hD hS hl => lv_ifnonnullN C.1 C.2.1 hdg (k H locs ls hP hD hS hl)
theorem g_ifnonnullR (C : gC p s m args meth c cc nL own Ts D tys ret AS) {off : Int} {x pt : Nat} (hdg : decode cc pc = .ok (.ifnonnull off, 3)) (ht : (pc : Int) + off = (pt : Int)) (k : gG p l e R s m args below meth c cells slots D AD AS nL Q ws pt L rest) : gG p l e R s m args below meth c cells slots D AD AS nL Q ws pc L (.ref x :: rest) :=
  fun H locs ls hP hD hS hl => lv_ifnonnull C.1 C.2.1 hdg ht (k H locs ls hP hD hS hl)
theorem g_getf (C : gC p s m args meth c cc nL own Ts D tys ret AS) {C' ref : String} {T : u_T} {N ci index : Nat} (q0 : Nat) {a : Nat} {fs : List Value} {v : Value} (k : Nat) {pc' : Nat} (hin : ∀ w ∈ u_ws C' T N, w ∈ Ts) (he : ws[q0]? = some (a, .inr (ci, fs))) (hc : vwCl[ci]? = some (C', T, N)) (hk : k < N) (hlink : Cond.fieldLink own index ref (T k).2.1 (T k).2.2.1 ∈ Ts) (hsame : (T k).1 = ref) (hv : fs[k]? = some v) (hdg : decode cc pc = .ok (.getfield index, 3)) (hpc : pc + 3 = pc') (kk : gG p l e R s m args below meth c cells slots D AD AS nL Q ws pc' L (v :: rest)) : gG p l e R s m args below meth c cells slots D AD AS nL Q ws pc L (.ref a :: rest) := by
  subst hpc
  subst hsame
  exact fun H locs ls hP hD hS hl => va_get C.1 C.2.1 C.2.2.2.2.1 hin C.2.2.2.1 C.2.2.2.2.2.1 hP q0 he hc k hk (C.2.2.2.2.1 _ hlink) (fun _ h9 => h9) hv hdg (kk H locs ls hP hD hS hl)
theorem g_putf (C : gC p s m args meth c cc nL own Ts D tys ret AS) {C' ref : String} {T : u_T} {N ci index : Nat} (q0 : Nat) {a : Nat} {fs : List Value} {v : Value} (k : Nat) {ty : FieldType} {ws' : va_W} {pc' : Nat} (ty0 : Nat → FieldType) (hty : ∀ k, k < N → parseFieldDescriptor (T k).2.2.1 = some (ty0 k)) (hnm : ∀ a, a < N → ∀ b, b < N → a ≠ b → (T a).2.1 ≠ (T b).2.1) (hin : ∀ w ∈ u_ws C' T N, w ∈ Ts) (he : ws[q0]? = some (a, .inr (ci, fs))) (hc : vwCl[ci]? = some (C', T, N)) (hk : k < N) (hlink : Cond.fieldLink own index ref (T k).2.1 (T k).2.2.1 ∈ Ts) (hsame : (T k).1 = ref) (hfin : (T k).2.2.2 = false) (hd : parseFieldDescriptor (T k).2.2.1 = some ty) (hn : narrow ty v = v) (hfit : fits ty v = true) (hl9 : k < fs.length) (hW : ws.set q0 (a, .inr (ci, fs.set k v)) = ws') (hdg : decode cc pc = .ok (.putfield index, 3)) (hpc : pc + 3 = pc') (kk : gG p l e R s m args below meth c cells slots D AS AS nL Q ws' pc' L rest) : gG p l e R s m args below meth c cells slots D AS AS nL Q ws pc L (v :: .ref a :: rest) := by
  subst hpc
  subst hsame
  subst hW
  exact fun H locs ls hP hD hS hl => va_put C.1 C.2.1 C.2.2.2.2.1 hin ty0 hty hnm C.2.2.2.1 C.2.2.2.2.2.1 hP hD hS q0 he hc k hk (C.2.2.2.2.1 _ hlink) (fun _ h9 => h9) hfin hd hn hfit hl9 hdg (fun H1 locs1 hP1 hD1 hS1 => kk H1 locs1 ls hP1 hD1 hS1 hl)
theorem g_iald (C : gC p s m args meth c cc nL own Ts D tys ret AS) (q0 t0 : Nat) {a n : Nat} {cA : ClassId} {f : Nat → Int32} {i : Int32} {v : Int32} {pc' : Nat} (ha : ws[q0]? = some (a, .inl (cA, n, .inl f))) (ht : tys[t0]? = some (cA, .int)) (hy : ald n f i = some v) (hdg : decode cc pc = .ok (.iaload, 1)) (hpc : pc + 1 = pc') (kk : gG p l e R s m args below meth c cells slots D AD AS nL Q ws pc' L (.int v :: rest)) : gG p l e R s m args below meth c cells slots D AD AS nL Q ws pc L (.int i :: .ref a :: rest) := by
  subst hpc
  obtain ⟨h1, h2⟩ := ald_in hy
  subst h2
  exact fun H locs ls hP hD hS hl => va_iald C.1 C.2.1 C.2.2.2.2.2.1 hP q0 t0 ha ht h1 hdg (kk H locs ls hP hD hS hl)
theorem g_lald (C : gC p s m args meth c cc nL own Ts D tys ret AS) (q0 t0 : Nat) {a n : Nat} {cA : ClassId} {f : Nat → Int64} {i : Int32} {v : Int64} {pc' : Nat} (ha : ws[q0]? = some (a, .inl (cA, n, .inr (.inl f)))) (ht : tys[t0]? = some (cA, .long)) (hy : ald n f i = some v) (hdg : decode cc pc = .ok (.laload, 1)) (hpc : pc + 1 = pc') (kk : gG p l e R s m args below meth c cells slots D AD AS nL Q ws pc' L (.long v :: rest)) : gG p l e R s m args below meth c cells slots D AD AS nL Q ws pc L (.int i :: .ref a :: rest) := by
  subst hpc
  obtain ⟨h1, h2⟩ := ald_in hy
  subst h2
  exact fun H locs ls hP hD hS hl => va_lald C.1 C.2.1 C.2.2.2.2.2.1 hP q0 t0 ha ht h1 hdg (kk H locs ls hP hD hS hl)
theorem g_bald (C : gC p s m args meth c cc nL own Ts D tys ret AS) (q0 t0 : Nat) {a n : Nat} {cA : ClassId} {f : Nat → Int32} {i : Int32} {v : Int32} {pc' : Nat} (ha : ws[q0]? = some (a, .inl (cA, n, .inl f))) (ht : tys[t0]? = some (cA, .byte)) (hy : ald n f i = some v) (hdg : decode cc pc = .ok (.baload, 1)) (hpc : pc + 1 = pc') (kk : gG p l e R s m args below meth c cells slots D AD AS nL Q ws pc' L (.int v :: rest)) : gG p l e R s m args below meth c cells slots D AD AS nL Q ws pc L (.int i :: .ref a :: rest) := by
  subst hpc
  obtain ⟨h1, h2⟩ := ald_in hy
  subst h2
  exact fun H locs ls hP hD hS hl => va_bald C.1 C.2.1 C.2.2.2.2.2.1 hP q0 t0 ha ht h1 hdg (kk H locs ls hP hD hS hl)
theorem g_zald (C : gC p s m args meth c cc nL own Ts D tys ret AS) (q0 t0 : Nat) {a n : Nat} {cA : ClassId} {f : Nat → Int32} {i : Int32} {v : Int32} {pc' : Nat} (ha : ws[q0]? = some (a, .inl (cA, n, .inl f))) (ht : tys[t0]? = some (cA, .boolean)) (hy : ald n f i = some v) (hdg : decode cc pc = .ok (.baload, 1)) (hpc : pc + 1 = pc') (kk : gG p l e R s m args below meth c cells slots D AD AS nL Q ws pc' L (.int v :: rest)) : gG p l e R s m args below meth c cells slots D AD AS nL Q ws pc L (.int i :: .ref a :: rest) := by
  subst hpc
  obtain ⟨h1, h2⟩ := ald_in hy
  subst h2
  exact fun H locs ls hP hD hS hl => va_zald C.1 C.2.1 C.2.2.2.2.2.1 hP q0 t0 ha ht h1 hdg (kk H locs ls hP hD hS hl)
theorem g_iast (C : gC p s m args meth c cc nL own Ts D tys ret AS) (q0 t0 : Nat) {a n : Nat} {cA : ClassId} {f g : Nat → Int32} {i : Int32} {x : Int32} {ws' : va_W} {pc' : Nat} (ha : ws[q0]? = some (a, .inl (cA, n, .inl f))) (ht : tys[t0]? = some (cA, .int)) (hy : ast n f i x = some g) (hW : ws.set q0 (a, .inl (cA, n, .inl g)) = ws') (hdg : decode cc pc = .ok (.iastore, 1)) (hpc : pc + 1 = pc') (kk : gG p l e R s m args below meth c cells slots D AS AS nL Q ws' pc' L rest) : gG p l e R s m args below meth c cells slots D AS AS nL Q ws pc L (.int x :: .int i :: .ref a :: rest) := by
  subst hpc
  subst hW
  obtain ⟨h1, h2⟩ := ast_in hy
  subst h2
  exact fun H locs ls hP hD hS hl => va_iast C.1 C.2.1 C.2.2.2.2.2.1 hP hD hS q0 t0 ha ht h1 hdg (fun H1 locs1 hP1 hD1 hS1 => kk H1 locs1 ls hP1 hD1 hS1 hl)
theorem g_bast (C : gC p s m args meth c cc nL own Ts D tys ret AS) (q0 t0 : Nat) {a n : Nat} {cA : ClassId} {f g : Nat → Int32} {i : Int32} {x : Int32} {ws' : va_W} {pc' : Nat} (ha : ws[q0]? = some (a, .inl (cA, n, .inl f))) (ht : tys[t0]? = some (cA, .byte)) (hy : ast n f i (vp_nar .byte x) = some g) (hW : ws.set q0 (a, .inl (cA, n, .inl g)) = ws') (hdg : decode cc pc = .ok (.bastore, 1)) (hpc : pc + 1 = pc') (kk : gG p l e R s m args below meth c cells slots D AS AS nL Q ws' pc' L rest) : gG p l e R s m args below meth c cells slots D AS AS nL Q ws pc L (.int x :: .int i :: .ref a :: rest) := by
  subst hpc
  subst hW
  obtain ⟨h1, h2⟩ := ast_in hy
  subst h2
  exact fun H locs ls hP hD hS hl => va_bast C.1 C.2.1 C.2.2.2.2.2.1 hP hD hS q0 t0 ha ht h1 hdg (fun H1 locs1 hP1 hD1 hS1 => kk H1 locs1 ls hP1 hD1 hS1 hl)
theorem g_zast (C : gC p s m args meth c cc nL own Ts D tys ret AS) (q0 t0 : Nat) {a n : Nat} {cA : ClassId} {f g : Nat → Int32} {i : Int32} {x : Int32} {ws' : va_W} {pc' : Nat} (ha : ws[q0]? = some (a, .inl (cA, n, .inl f))) (ht : tys[t0]? = some (cA, .boolean)) (hy : ast n f i (vp_nar .boolean x) = some g) (hW : ws.set q0 (a, .inl (cA, n, .inl g)) = ws') (hdg : decode cc pc = .ok (.bastore, 1)) (hpc : pc + 1 = pc') (kk : gG p l e R s m args below meth c cells slots D AS AS nL Q ws' pc' L rest) : gG p l e R s m args below meth c cells slots D AS AS nL Q ws pc L (.int x :: .int i :: .ref a :: rest) := by
  subst hpc
  subst hW
  obtain ⟨h1, h2⟩ := ast_in hy
  subst h2
  exact fun H locs ls hP hD hS hl => va_zast C.1 C.2.1 C.2.2.2.2.2.1 hP hD hS q0 t0 ha ht h1 hdg (fun H1 locs1 hP1 hD1 hS1 => kk H1 locs1 ls hP1 hD1 hS1 hl)
theorem g_last (C : gC p s m args meth c cc nL own Ts D tys ret AS) (q0 t0 : Nat) {a n : Nat} {cA : ClassId} {f g : Nat → Int64} {i : Int32} {x : Int64} {ws' : va_W} {pc' : Nat} (ha : ws[q0]? = some (a, .inl (cA, n, .inr (.inl f)))) (ht : tys[t0]? = some (cA, .long)) (hy : lst n f i x = some g) (hW : ws.set q0 (a, .inl (cA, n, .inr (.inl g))) = ws') (hdg : decode cc pc = .ok (.lastore, 1)) (hpc : pc + 1 = pc') (kk : gG p l e R s m args below meth c cells slots D AS AS nL Q ws' pc' L rest) : gG p l e R s m args below meth c cells slots D AS AS nL Q ws pc L (.long x :: .int i :: .ref a :: rest) := by
  subst hpc
  subst hW
  obtain ⟨h1, h2⟩ := lst_in hy
  subst h2
  exact fun H locs ls hP hD hS hl => va_last C.1 C.2.1 C.2.2.2.2.2.1 hP hD hS q0 t0 ha ht h1 hdg (fun H1 locs1 hP1 hD1 hS1 => kk H1 locs1 ls hP1 hD1 hS1 hl)
theorem g_alen (C : gC p s m args meth c cc nL own Ts D tys ret AS) (q0 t0 : Nat) {a : Nat} {cA : ClassId} {x : vp_A} {ty : FieldType} {v : Int32} {pc' : Nat} (ha : ws[q0]? = some (a, .inl (cA, x))) (ht : tys[t0]? = some (cA, ty)) (hv : Int32.ofNat x.1 = v) (hdg : decode cc pc = .ok (.arraylength, 1)) (hpc : pc + 1 = pc') (kk : gG p l e R s m args below meth c cells slots D AD AS nL Q ws pc' L (.int v :: rest)) : gG p l e R s m args below meth c cells slots D AD AS nL Q ws pc L (.ref a :: rest) := by
  subst hpc
  exact fun H locs ls hP hD hS hl => va_alen C.1 C.2.1 C.2.2.2.2.2.1 hP q0 t0 ha ht hv hdg (kk H locs ls hP hD hS hl)
theorem g_sub {L' : List (Nat × Value)} {st : List Value} (ks : List Nat) (h : lv_pick L ks = L') (k : gG p l e R s m args below meth c cells slots D AD AS nL Q ws pc L' st) : gG p l e R s m args below meth c cells slots D AD AS nL Q ws pc L st :=
  fun H locs ls hP hD hS hl => k H locs ls hP hD hS (lv_sub hl ks h)
theorem g_st {st st' : List Value} (h : st = st') (k : gG p l e R s m args below meth c cells slots D AD AS nL Q ws pc L st') : gG p l e R s m args below meth c cells slots D AD AS nL Q ws pc L st := by
  subst h
  exact k
end gRules
end
section
/-! PART 04: contracts in worlds, their entry, their ends, their calls -/
def gP (D : va_G) (tys : List (ClassId × FieldType)) (W0 : va_W) (sz : Nat) : State → Prop := fun U => U.heap.size = sz ∧ va_P D vwCl W0 U.heap ∧ va_K D vwCl tys U ∧ va_D (fun _ => True) W0 ∧ gN U
theorem gP_blind {av : List Value} {D : va_G} {tys : List (ClassId × FieldType)} {W0 : va_W} {sz : Nat} : FrameBlind (va_Pc av (gP D tys W0 sz)) := fun a U g mk q => ⟨q.1, q.2.1, q.2.2.1, va_K.moved (u := U) (U := U.calling g mk a) (Vm.Alike.refl U.vm) q.2.2.2.1, q.2.2.2.2.1, gN_same rfl q.2.2.2.2.2⟩
def gQi (D : va_G) (W0 : va_W) (sz : Nat) (r : Int32) (W1 : va_W) : Array Value → State → Outcome → State → Prop := va_Qi (fun (r' : Int32) (_ : Unit) => r' = r) (fun _ t => va_P D vwCl W1 t.heap) (va_A W0 sz)
def gQl (D : va_G) (W0 : va_W) (sz : Nat) (r : Int64) (W1 : va_W) : Array Value → State → Outcome → State → Prop := va_Ql (fun (r' : Int64) (_ : Unit) => r' = r) (fun _ t => va_P D vwCl W1 t.heap) (va_A W0 sz)
def gQv (D : va_G) (W0 : va_W) (sz : Nat) (W1 : va_W) : Array Value → State → Outcome → State → Prop := va_Qv (fun (_ : Unit) => True) (fun _ t => va_P D vwCl W1 t.heap) (va_A W0 sz)
def gRQi (r : Int32) : Array Value → State → Outcome → State → Prop := va_Qi (fun (r' : Int32) (_ : Unit) => r' = r) (fun _ _ => True) (fun _ => False)
def gRQl (r : Int64) : Array Value → State → Outcome → State → Prop := va_Ql (fun (r' : Int64) (_ : Unit) => r' = r) (fun _ _ => True) (fun _ => False)
def gRQq (r : Option Nat) : Array Value → State → Outcome → State → Prop := va_Qq (fun (r' : Option Nat) (_ : Unit) => r' = r) (fun _ _ => True) (fun _ => False)
def gMi (l : Launch) (y : MethodName) (wy : List Cond) (rm : Room) (D : va_G) (tys : List (ClassId × FieldType)) (av : List Value) (W0 : va_W) (r : Int32) (W1 : va_W) : Prop := ∀ sz, Met l y wy rm (va_Pc av (gP D tys W0 sz)) (gQi D W0 sz r W1) 0 0 (va_A W0 sz)
def gMl (l : Launch) (y : MethodName) (wy : List Cond) (rm : Room) (D : va_G) (tys : List (ClassId × FieldType)) (av : List Value) (W0 : va_W) (r : Int64) (W1 : va_W) : Prop := ∀ sz, Met l y wy rm (va_Pc av (gP D tys W0 sz)) (gQl D W0 sz r W1) 0 0 (va_A W0 sz)
def gMv (l : Launch) (y : MethodName) (wy : List Cond) (rm : Room) (D : va_G) (tys : List (ClassId × FieldType)) (av : List Value) (W0 : va_W) (W1 : va_W) : Prop := ∀ sz, Met l y wy rm (va_Pc av (gP D tys W0 sz)) (gQv D W0 sz W1) 0 0 (va_A W0 sz)
def gRi (l : Launch) (y : MethodName) (wy : List Cond) (rm : Room) (D : va_G) (tys : List (ClassId × FieldType)) (av : List Value) (W0 : va_W) (r : Int32) : Prop := ∀ sz, Met l y wy rm (va_Pc av (gP D tys W0 sz)) (gRQi r) 0 0 (fun _ => False)
def gRl (l : Launch) (y : MethodName) (wy : List Cond) (rm : Room) (D : va_G) (tys : List (ClassId × FieldType)) (av : List Value) (W0 : va_W) (r : Int64) : Prop := ∀ sz, Met l y wy rm (va_Pc av (gP D tys W0 sz)) (gRQl r) 0 0 (fun _ => False)
def gRq (l : Launch) (y : MethodName) (wy : List Cond) (rm : Room) (D : va_G) (tys : List (ClassId × FieldType)) (av : List Value) (W0 : va_W) (r : Option Nat) : Prop := ∀ sz, Met l y wy rm (va_Pc av (gP D tys W0 sz)) (gRQq r) 0 0 (fun _ => False)
/-- the entry: all that a body has, out of the contract's start -/
theorem g_enter {l : Launch} {y : MethodName} {wy wy' : List Cond} {rm : Room} {D : va_G} {tys : List (ClassId × FieldType)} {av : List Value} {W0 : va_W} {Qc : Nat → Array Value → State → Outcome → State → Prop} {free : Nat → Nat → Prop} {cc : ByteArray} {maxL : Nat} {ret : Option FieldType} {L : List (Nat × Value)} {own : String} (AD : Nat → Nat → Prop) (hAD : ∀ sz, (AD sz = fun _ => True) ∨ AD sz = va_A W0 sz) (hown9 : y.cls = own) (hy : plainName y.cls = true) (hw : wy = Cond.code y cc maxL ret :: wy') (hlen : (lg_sl av).length ≤ maxL) (hL : lv_args 0 av = L)
    (body : ∀ (p : Program) (e : Env) (s : State) (m : MethodId) (args : Array Value) (below : List Frame) (meth : Method) (c : Code), gC p s m args meth c cc maxL own wy D tys ret (free s.heap.size) → gG p l e (headSpec wy rm).room s m args below meth c 0 0 D (AD s.heap.size) (free s.heap.size) maxL (MQ below (Qc s.heap.size) args s 0 0 (free s.heap.size)) W0 0 L []) :
    ∀ sz, Met l y wy rm (va_Pc av (gP D tys W0 sz)) (Qc sz) 0 0 (free sz) := by
  intro sz
  refine Met.ofW (cc := cc) (maxL := maxL) (ret := ret) hy hw ?_
  intro p e s m args below meth c s₁ B hml hv
  obtain ⟨rfl, hsz, hP, hK, hD0, hN⟩ := hv
  subst hown9
  subst hsz
  have hx := B.exec
  have hts := atoms_spec (ws := wy) B.pre
  have hown : s.vm.findClass y.cls = some m.cls := findClass_of_methodNamed B.named
  have hl := lv_entry av hlen
  rw [lg_entry_eq]
  generalize (lg_sl av ++ List.replicate (maxL - (lg_sl av).length) Slot.unset).toArray = ls at hl ⊢
  rw [hL] at hl
  have hD : va_D (AD s.heap.size) W0 := by
    rcases hAD s.heap.size with h | h
    · rw [h]; exact hD0
    · rw [h]; exact hD0.self
  exact body p e s m _ below meth c ⟨hx, B.bytes, hml, hown, hts, hK, B.returns, B.notSynchronized, hN⟩ s.heap [] ls hP hD va_S.rf hl
section gEnds
variable {p : Program} {l : Launch} {e : Env} {R : Room} {s : State} {m : MethodId} {args : Array Value} {below : List Frame} {meth : Method} {c : Code} {D : va_G} {AD AS : Nat → Prop} {nL : Nat} {Q : State → Prop} {ws : va_W} {L : List (Nat × Value)} {rest : List Value}
variable {cc : ByteArray} {own : String} {Ts : List Cond} {tys : List (ClassId × FieldType)} {ret : Option FieldType} {pc : Nat} {cells slots : Nat}
theorem g_w {cl : List vw_C} {W : va_W} {t : State} {H : Heap} (hP : va_P D cl W H) (ht : t.heap = H) : va_P D cl W t.heap := by
  rw [ht]
  exact hP
theorem g_F {A : Nat → Prop} {t : State} {H : Heap} {locs : List Loc} (hS : va_S A s.heap H locs) (ht : t.heap = H) : va_F A s t := hS.F ht
theorem g_iret {W0 W1 : va_W} {r v : Int32} (C : gC p s m args meth c cc nL own Ts D tys (some .int) (va_A W0 s.heap.size)) (hr : v = r) (hW : ws = W1) (hdg : decode cc pc = .ok (.ireturn, 1)) : gG p l e R s m args below meth c 0 0 D AD (va_A W0 s.heap.size) nL (MQ below (gQi D W0 s.heap.size r W1) args s 0 0 (va_A W0 s.heap.size)) ws pc L [.int v] := by
  subst hr; subst hW
  exact fun H locs ls hP hD hS hl => W.iret C.1 C.2.1 C.2.2.2.2.2.2.1 (fun t ht hW => ⟨⟨v, (), rfl, rfl, g_w hP ht⟩, hS.F ht⟩) hS.2.2 hdg C.2.2.2.2.2.2.2.1
theorem g_zret {W0 W1 : va_W} {r v : Int32} (C : gC p s m args meth c cc nL own Ts D tys (some .boolean) (va_A W0 s.heap.size)) (hz : narrow .boolean (.int v) = .int v) (hr : v = r) (hW : ws = W1) (hdg : decode cc pc = .ok (.ireturn, 1)) : gG p l e R s m args below meth c 0 0 D AD (va_A W0 s.heap.size) nL (MQ below (gQi D W0 s.heap.size r W1) args s 0 0 (va_A W0 s.heap.size)) ws pc L [.int v] := by
  subst hr; subst hW
  exact fun H locs ls hP hD hS hl => W.zret C.1 C.2.1 C.2.2.2.2.2.2.1 hz (fun t ht hW => ⟨⟨v, (), rfl, rfl, g_w hP ht⟩, hS.F ht⟩) hS.2.2 hdg C.2.2.2.2.2.2.2.1
theorem g_lret {W0 W1 : va_W} {r v : Int64} (C : gC p s m args meth c cc nL own Ts D tys (some .long) (va_A W0 s.heap.size)) (hr : v = r) (hW : ws = W1) (hdg : decode cc pc = .ok (.lreturn, 1)) : gG p l e R s m args below meth c 0 0 D AD (va_A W0 s.heap.size) nL (MQ below (gQl D W0 s.heap.size r W1) args s 0 0 (va_A W0 s.heap.size)) ws pc L [.long v] := by
  subst hr; subst hW
  exact fun H locs ls hP hD hS hl => W.lret C.1 C.2.1 C.2.2.2.2.2.2.1 (fun t ht hW => ⟨⟨v, (), rfl, rfl, g_w hP ht⟩, hS.F ht⟩) hS.2.2 hdg C.2.2.2.2.2.2.2.1
theorem g_vret {W0 W1 : va_W} (C : gC p s m args meth c cc nL own Ts D tys none (va_A W0 s.heap.size)) (hW : ws = W1) (hdg : decode cc pc = .ok (.return_, 1)) : gG p l e R s m args below meth c 0 0 D AD (va_A W0 s.heap.size) nL (MQ below (gQv D W0 s.heap.size W1) args s 0 0 (va_A W0 s.heap.size)) ws pc L [] := by
  subst hW
  exact fun H locs ls hP hD hS hl => W.vret C.1 C.2.1 C.2.2.2.2.2.2.1 (fun t ht hW => ⟨⟨(), rfl, trivial, g_w hP ht⟩, hS.F ht⟩) hS.2.2 hdg C.2.2.2.2.2.2.2.1
theorem g_iretR {r v : Int32} (C : gC p s m args meth c cc nL own Ts D tys (some .int) (fun _ => False)) (hr : v = r) (hdg : decode cc pc = .ok (.ireturn, 1)) : gG p l e R s m args below meth c 0 0 D AD (fun _ => False) nL (MQ below (gRQi r) args s 0 0 (fun _ => False)) ws pc L [.int v] := by
  subst hr
  exact fun H locs ls hP hD hS hl => W.iret C.1 C.2.1 C.2.2.2.2.2.2.1 (fun t ht hW => ⟨⟨v, (), rfl, rfl, trivial⟩, hS.F ht⟩) hS.2.2 hdg C.2.2.2.2.2.2.2.1
theorem g_zretR {r v : Int32} (C : gC p s m args meth c cc nL own Ts D tys (some .boolean) (fun _ => False)) (hz : narrow .boolean (.int v) = .int v) (hr : v = r) (hdg : decode cc pc = .ok (.ireturn, 1)) : gG p l e R s m args below meth c 0 0 D AD (fun _ => False) nL (MQ below (gRQi r) args s 0 0 (fun _ => False)) ws pc L [.int v] := by
  subst hr
  exact fun H locs ls hP hD hS hl => W.zret C.1 C.2.1 C.2.2.2.2.2.2.1 hz (fun t ht hW => ⟨⟨v, (), rfl, rfl, trivial⟩, hS.F ht⟩) hS.2.2 hdg C.2.2.2.2.2.2.2.1
theorem g_lretR {r v : Int64} (C : gC p s m args meth c cc nL own Ts D tys (some .long) (fun _ => False)) (hr : v = r) (hdg : decode cc pc = .ok (.lreturn, 1)) : gG p l e R s m args below meth c 0 0 D AD (fun _ => False) nL (MQ below (gRQl r) args s 0 0 (fun _ => False)) ws pc L [.long v] := by
  subst hr
  exact fun H locs ls hP hD hS hl => W.lret C.1 C.2.1 C.2.2.2.2.2.2.1 (fun t ht hW => ⟨⟨v, (), rfl, rfl, trivial⟩, hS.F ht⟩) hS.2.2 hdg C.2.2.2.2.2.2.2.1
theorem g_aretR {r : Option Nat} {v : Value} {n : String} (C : gC p s m args meth c cc nL own Ts D tys (some (.object n)) (fun _ => False)) (hr : v = va_rf r) (hdg : decode cc pc = .ok (.areturn, 1)) : gG p l e R s m args below meth c 0 0 D AD (fun _ => False) nL (MQ below (gRQq r) args s 0 0 (fun _ => False)) ws pc L [v] := by
  subst hr
  exact fun H locs ls hP hD hS hl => W.aret C.1 C.2.1 C.2.2.2.2.2.2.1 (Or.inl ⟨n, rfl⟩) (by cases r with | none => exact Or.inl rfl | some a => exact Or.inr ⟨a, rfl⟩) (fun t ht hW => ⟨⟨r, (), rfl, rfl, trivial⟩, hS.F ht⟩) hS.2.2 hdg C.2.2.2.2.2.2.2.1
-- calls
abbrev gY (y : MethodName) (n : Nat) : Prop := y.cls ≠ "java/lang/invoke/MethodHandle" ∧ y.cls ≠ "java/lang/invoke/VarHandle" ∧ (parseMethodDescriptor y.desc).map (fun d => d.parameters.length) = some n
abbrev gRm (rm : Room) (R : Room) (maxL : Nat) : Prop := rm.frames + 1 ≤ R.frames ∧ 8 + (maxL + 11) + rm.locals ≤ R.locals
theorem g_room {pc' : Nat} {ls : Array Slot} {st : List Value} (h : (rest.map fun v => v.category).sum ≤ 8) : 2 * (F0 m pc' ls st).monitorRoom + (rest.map fun v => v.category).sum ≤ 8 := by
  show 2 * 0 + _ ≤ 8
  omega
theorem g_sz (C : gC p s m args meth c cc nL own Ts D tys ret AS) : CallFix p m c cc nL s args Ts own := ⟨C.1, C.2.1, C.2.2.1, C.2.2.2.1, C.2.2.2.2.1⟩
theorem g_run {W0 : va_W} {ci : Nat} {q0 : Nat} {fs : List Value} {q : vw_C} {H : Heap} {b : Nat} {As : List Value} (C : gC p s m args meth c cc nL own Ts D tys ret AS) (hP : va_P D vwCl ws H) (hD : va_D AD ws) (isC : List Nat) (hC : isC.map (fun i => ws[i]?) = W0.map some) (hn : va_nd isC = true) (hc : vwCl[ci]? = some q) (he : ws[q0]? = some (b, .inr (ci, fs))) : PreV s H q.1 b (va_Pc (.ref b :: As) (gP D tys W0 H.size)) As := by
  have hf : isC.filterMap (fun i => ws[i]?) = W0 := by
    have h1 : isC.filterMap (fun i => ws[i]?) = (isC.map (fun i => ws[i]?)).filterMap id := by rw [List.filterMap_map]; rfl
    rw [h1, hC, List.filterMap_map]
    induction W0 with
    | nil => rfl
    | cons x xs ih => simp
  have hD' : va_D AD W0 := hD.sub isC hn hC
  exact ⟨gP_blind, va_recv C.2.2.2.2.2.1 hP hc he, fun U hU hW => ⟨rfl, by rw [hU], by rw [hU]; exact hP.sub isC hf, va_K.moved hW.alike C.2.2.2.2.2.1, hD'.weaken (fun _ _ _ _ => trivial), gN_warm hW C.2.2.2.2.2.2.2.2⟩⟩
theorem g_runS {W0 : va_W} {H : Heap} {As : List Value} (C : gC p s m args meth c cc nL own Ts D tys ret AS) (hP : va_P D vwCl ws H) (hD : va_D AD ws) (isC : List Nat) (hC : isC.map (fun i => ws[i]?) = W0.map some) (hn : va_nd isC = true) : PreS s H (va_Pc As (gP D tys W0 H.size)) As := by
  have hf : isC.filterMap (fun i => ws[i]?) = W0 := by
    have h1 : isC.filterMap (fun i => ws[i]?) = (isC.map (fun i => ws[i]?)).filterMap id := by rw [List.filterMap_map]; rfl
    rw [h1, hC, List.filterMap_map]
    induction W0 with
    | nil => rfl
    | cons x xs ih => simp
  have hD' : va_D AD W0 := hD.sub isC hn hC
  exact ⟨gP_blind, fun U hU hW => ⟨rfl, by rw [hU], by rw [hU]; exact hP.sub isC hf, va_K.moved hW.alike C.2.2.2.2.2.1, hD'.weaken (fun _ _ _ _ => trivial), gN_warm hW C.2.2.2.2.2.2.2.2⟩⟩
theorem g_callViM {y : MethodName} {wy wy' : List Cond} {rm : Room} {W00 : va_W} {W0 : va_W} {W1 W' : va_W} {r : Int32} {b : Nat} {As : List Value} {st : List Value} {n index maxL : Nat} {bytes : ByteArray} {ret' : Option FieldType} {pc' : Nat} (C : gC p s m args meth c cc nL own Ts D tys ret (va_A W00 s.heap.size)) (hM : gMi l y wy rm D tys (.ref b :: As) W0 r W1) {q0 ci : Nat} {fs : List Value} {T : u_T} {N : Nat} {C' : String} (he : ws[q0]? = some (b, .inr (ci, fs))) (hc : vwCl[ci]? = some (C', T, N)) (g : GoodIn Ts (wsV own index C' y wy)) (hcl : y.cls = C') (hd : gY y n) (hw : wy = Cond.code y bytes maxL ret' :: wy') (hrm : rm.cells = 0 ∧ rm.slots = 0) (hR : gRm rm R maxL) (hn : As.length = n) (isC : List Nat) (hC : isC.map (fun i => ws[i]?) = W0.map some) (hn9 : va_nd isC = true) (hl9 : W1.length = W0.length) (hJ : gJoin ws isC W1 = W') (haddr : W'.map (fun q => q.1) = ws.map (fun q => q.1)) (hst : st = As.reverse ++ .ref b :: rest) (hcat : (rest.map fun v => v.category).sum ≤ 8) (hdg : decode cc pc = .ok (.invokevirtual index, 3)) (hpc : pc + 3 = pc') (kk : gG p l e R s m args below meth c cells slots D (va_A W00 s.heap.size) (va_A W00 s.heap.size) nL Q W' pc' L (.int r :: rest)) (hcs : cells ≤ R.cells ∧ slots ≤ R.slots := by exact ⟨Nat.zero_le _, Nat.zero_le _⟩) : gG p l e R s m args below meth c cells slots D (va_A W00 s.heap.size) (va_A W00 s.heap.size) nL Q ws pc L st := by
  subst hpc
  subst hst
  intro H locs ls hP hD hS hl
  have hF := va_free hD hS (fun q h => Or.inr h) isC hC
  refine va_calli (va_runV (g_sz C) (hM H.size) (cwV n C.2.2.2.2.1 g hw hrm.1 hrm.2 ⟨hcl, hd.1, hd.2.1, hd.2.2⟩ hR) (g_run C hP hD isC hC hn9 hc he) rfl hn hl.1 rfl (g_room hcat) hdg ⟨hcs.1, hcs.2⟩) hS (fun q _ h => hF q h) hF (fun r' u t H1 locs1 ht hvm hw' hB' hz1 hk1 hS' => ?_)
  · subst hw'
    have hB9 : va_P D vwCl W1 t.heap := hB'
    rw [ht] at hB9
    have hP' := g_join hP hD isC hC hl9 hk1 hB9 hJ
    exact kk H1 locs1 ls hP' (hD.addr haddr) hS' hl
theorem g_callViR {y : MethodName} {wy wy' : List Cond} {rm : Room} {W0 : va_W} {r : Int32} {b : Nat} {As : List Value} {st : List Value} {n index maxL : Nat} {bytes : ByteArray} {ret' : Option FieldType} {pc' : Nat} (C : gC p s m args meth c cc nL own Ts D tys ret AS) (hM : gRi l y wy rm D tys (.ref b :: As) W0 r) {q0 ci : Nat} {fs : List Value} {T : u_T} {N : Nat} {C' : String} (he : ws[q0]? = some (b, .inr (ci, fs))) (hc : vwCl[ci]? = some (C', T, N)) (g : GoodIn Ts (wsV own index C' y wy)) (hcl : y.cls = C') (hd : gY y n) (hw : wy = Cond.code y bytes maxL ret' :: wy') (hrm : rm.cells = 0 ∧ rm.slots = 0) (hR : gRm rm R maxL) (hn : As.length = n) (isC : List Nat) (hC : isC.map (fun i => ws[i]?) = W0.map some) (hn9 : va_nd isC = true) (hst : st = As.reverse ++ .ref b :: rest) (hcat : (rest.map fun v => v.category).sum ≤ 8) (hdg : decode cc pc = .ok (.invokevirtual index, 3)) (hpc : pc + 3 = pc') (kk : gG p l e R s m args below meth c cells slots D AD AS nL Q ws pc' L (.int r :: rest)) (hcs : cells ≤ R.cells ∧ slots ≤ R.slots := by exact ⟨Nat.zero_le _, Nat.zero_le _⟩) : gG p l e R s m args below meth c cells slots D AD AS nL Q ws pc L st := by
  subst hpc
  subst hst
  intro H locs ls hP hD hS hl
  skip
  refine va_calli (va_runV (g_sz C) (hM H.size) (cwV n C.2.2.2.2.1 g hw hrm.1 hrm.2 ⟨hcl, hd.1, hd.2.1, hd.2.2⟩ hR) (g_run C hP hD isC hC hn9 hc he) rfl hn hl.1 rfl (g_room hcat) hdg ⟨hcs.1, hcs.2⟩) hS (fun q _ h => h.elim) (fun q h => h.elim) (fun r' u t H1 locs1 ht hvm hw' hB' hz1 hk1 hS' => ?_)
  · subst hw'
    exact kk H1 locs1 ls (hP.kept (fun k q hk => hk1 q.1 (hP k q hk).lt id)) hD hS' hl
theorem g_callVlM {y : MethodName} {wy wy' : List Cond} {rm : Room} {W00 : va_W} {W0 : va_W} {W1 W' : va_W} {r : Int64} {b : Nat} {As : List Value} {st : List Value} {n index maxL : Nat} {bytes : ByteArray} {ret' : Option FieldType} {pc' : Nat} (C : gC p s m args meth c cc nL own Ts D tys ret (va_A W00 s.heap.size)) (hM : gMl l y wy rm D tys (.ref b :: As) W0 r W1) {q0 ci : Nat} {fs : List Value} {T : u_T} {N : Nat} {C' : String} (he : ws[q0]? = some (b, .inr (ci, fs))) (hc : vwCl[ci]? = some (C', T, N)) (g : GoodIn Ts (wsV own index C' y wy)) (hcl : y.cls = C') (hd : gY y n) (hw : wy = Cond.code y bytes maxL ret' :: wy') (hrm : rm.cells = 0 ∧ rm.slots = 0) (hR : gRm rm R maxL) (hn : As.length = n) (isC : List Nat) (hC : isC.map (fun i => ws[i]?) = W0.map some) (hn9 : va_nd isC = true) (hl9 : W1.length = W0.length) (hJ : gJoin ws isC W1 = W') (haddr : W'.map (fun q => q.1) = ws.map (fun q => q.1)) (hst : st = As.reverse ++ .ref b :: rest) (hcat : (rest.map fun v => v.category).sum ≤ 8) (hdg : decode cc pc = .ok (.invokevirtual index, 3)) (hpc : pc + 3 = pc') (kk : gG p l e R s m args below meth c cells slots D (va_A W00 s.heap.size) (va_A W00 s.heap.size) nL Q W' pc' L (.long r :: rest)) (hcs : cells ≤ R.cells ∧ slots ≤ R.slots := by exact ⟨Nat.zero_le _, Nat.zero_le _⟩) : gG p l e R s m args below meth c cells slots D (va_A W00 s.heap.size) (va_A W00 s.heap.size) nL Q ws pc L st := by
  subst hpc
  subst hst
  intro H locs ls hP hD hS hl
  have hF := va_free hD hS (fun q h => Or.inr h) isC hC
  refine va_calll (va_runV (g_sz C) (hM H.size) (cwV n C.2.2.2.2.1 g hw hrm.1 hrm.2 ⟨hcl, hd.1, hd.2.1, hd.2.2⟩ hR) (g_run C hP hD isC hC hn9 hc he) rfl hn hl.1 rfl (g_room hcat) hdg ⟨hcs.1, hcs.2⟩) hS (fun q _ h => hF q h) hF (fun r' u t H1 locs1 ht hvm hw' hB' hz1 hk1 hS' => ?_)
  · subst hw'
    have hB9 : va_P D vwCl W1 t.heap := hB'
    rw [ht] at hB9
    have hP' := g_join hP hD isC hC hl9 hk1 hB9 hJ
    exact kk H1 locs1 ls hP' (hD.addr haddr) hS' hl
theorem g_callVlR {y : MethodName} {wy wy' : List Cond} {rm : Room} {W0 : va_W} {r : Int64} {b : Nat} {As : List Value} {st : List Value} {n index maxL : Nat} {bytes : ByteArray} {ret' : Option FieldType} {pc' : Nat} (C : gC p s m args meth c cc nL own Ts D tys ret AS) (hM : gRl l y wy rm D tys (.ref b :: As) W0 r) {q0 ci : Nat} {fs : List Value} {T : u_T} {N : Nat} {C' : String} (he : ws[q0]? = some (b, .inr (ci, fs))) (hc : vwCl[ci]? = some (C', T, N)) (g : GoodIn Ts (wsV own index C' y wy)) (hcl : y.cls = C') (hd : gY y n) (hw : wy = Cond.code y bytes maxL ret' :: wy') (hrm : rm.cells = 0 ∧ rm.slots = 0) (hR : gRm rm R maxL) (hn : As.length = n) (isC : List Nat) (hC : isC.map (fun i => ws[i]?) = W0.map some) (hn9 : va_nd isC = true) (hst : st = As.reverse ++ .ref b :: rest) (hcat : (rest.map fun v => v.category).sum ≤ 8) (hdg : decode cc pc = .ok (.invokevirtual index, 3)) (hpc : pc + 3 = pc') (kk : gG p l e R s m args below meth c cells slots D AD AS nL Q ws pc' L (.long r :: rest)) (hcs : cells ≤ R.cells ∧ slots ≤ R.slots := by exact ⟨Nat.zero_le _, Nat.zero_le _⟩) : gG p l e R s m args below meth c cells slots D AD AS nL Q ws pc L st := by
  subst hpc
  subst hst
  intro H locs ls hP hD hS hl
  skip
  refine va_calll (va_runV (g_sz C) (hM H.size) (cwV n C.2.2.2.2.1 g hw hrm.1 hrm.2 ⟨hcl, hd.1, hd.2.1, hd.2.2⟩ hR) (g_run C hP hD isC hC hn9 hc he) rfl hn hl.1 rfl (g_room hcat) hdg ⟨hcs.1, hcs.2⟩) hS (fun q _ h => h.elim) (fun q h => h.elim) (fun r' u t H1 locs1 ht hvm hw' hB' hz1 hk1 hS' => ?_)
  · subst hw'
    exact kk H1 locs1 ls (hP.kept (fun k q hk => hk1 q.1 (hP k q hk).lt id)) hD hS' hl
theorem g_callVvM {y : MethodName} {wy wy' : List Cond} {rm : Room} {W00 : va_W} {W0 : va_W} {W1 W' : va_W} {b : Nat} {As : List Value} {st : List Value} {n index maxL : Nat} {bytes : ByteArray} {ret' : Option FieldType} {pc' : Nat} (C : gC p s m args meth c cc nL own Ts D tys ret (va_A W00 s.heap.size)) (hM : gMv l y wy rm D tys (.ref b :: As) W0 W1) {q0 ci : Nat} {fs : List Value} {T : u_T} {N : Nat} {C' : String} (he : ws[q0]? = some (b, .inr (ci, fs))) (hc : vwCl[ci]? = some (C', T, N)) (g : GoodIn Ts (wsV own index C' y wy)) (hcl : y.cls = C') (hd : gY y n) (hw : wy = Cond.code y bytes maxL ret' :: wy') (hrm : rm.cells = 0 ∧ rm.slots = 0) (hR : gRm rm R maxL) (hn : As.length = n) (isC : List Nat) (hC : isC.map (fun i => ws[i]?) = W0.map some) (hn9 : va_nd isC = true) (hl9 : W1.length = W0.length) (hJ : gJoin ws isC W1 = W') (haddr : W'.map (fun q => q.1) = ws.map (fun q => q.1)) (hst : st = As.reverse ++ .ref b :: rest) (hcat : (rest.map fun v => v.category).sum ≤ 8) (hdg : decode cc pc = .ok (.invokevirtual index, 3)) (hpc : pc + 3 = pc') (kk : gG p l e R s m args below meth c cells slots D (va_A W00 s.heap.size) (va_A W00 s.heap.size) nL Q W' pc' L rest) (hcs : cells ≤ R.cells ∧ slots ≤ R.slots := by exact ⟨Nat.zero_le _, Nat.zero_le _⟩) : gG p l e R s m args below meth c cells slots D (va_A W00 s.heap.size) (va_A W00 s.heap.size) nL Q ws pc L st := by
  subst hpc
  subst hst
  intro H locs ls hP hD hS hl
  have hF := va_free hD hS (fun q h => Or.inr h) isC hC
  refine va_callv (va_runV (g_sz C) (hM H.size) (cwV n C.2.2.2.2.1 g hw hrm.1 hrm.2 ⟨hcl, hd.1, hd.2.1, hd.2.2⟩ hR) (g_run C hP hD isC hC hn9 hc he) rfl hn hl.1 rfl (g_room hcat) hdg ⟨hcs.1, hcs.2⟩) hS (fun q _ h => hF q h) hF (fun u t H1 locs1 ht hvm hw' hB' hz1 hk1 hS' => ?_)
  · have hB9 : va_P D vwCl W1 t.heap := hB'
    rw [ht] at hB9
    have hP' := g_join hP hD isC hC hl9 hk1 hB9 hJ
    exact kk H1 locs1 ls hP' (hD.addr haddr) hS' hl
theorem g_callVqR {y : MethodName} {wy wy' : List Cond} {rm : Room} {W0 : va_W} {r : Option Nat} {b : Nat} {As : List Value} {st : List Value} {n index maxL : Nat} {bytes : ByteArray} {ret' : Option FieldType} {pc' : Nat} (C : gC p s m args meth c cc nL own Ts D tys ret AS) (hM : gRq l y wy rm D tys (.ref b :: As) W0 r) {q0 ci : Nat} {fs : List Value} {T : u_T} {N : Nat} {C' : String} (he : ws[q0]? = some (b, .inr (ci, fs))) (hc : vwCl[ci]? = some (C', T, N)) (g : GoodIn Ts (wsV own index C' y wy)) (hcl : y.cls = C') (hd : gY y n) (hw : wy = Cond.code y bytes maxL ret' :: wy') (hrm : rm.cells = 0 ∧ rm.slots = 0) (hR : gRm rm R maxL) (hn : As.length = n) (isC : List Nat) (hC : isC.map (fun i => ws[i]?) = W0.map some) (hn9 : va_nd isC = true) (hst : st = As.reverse ++ .ref b :: rest) (hcat : (rest.map fun v => v.category).sum ≤ 8) (hdg : decode cc pc = .ok (.invokevirtual index, 3)) (hpc : pc + 3 = pc') (kk : gG p l e R s m args below meth c cells slots D AD AS nL Q ws pc' L (va_rf r :: rest)) (hcs : cells ≤ R.cells ∧ slots ≤ R.slots := by exact ⟨Nat.zero_le _, Nat.zero_le _⟩) : gG p l e R s m args below meth c cells slots D AD AS nL Q ws pc L st := by
  subst hpc
  subst hst
  intro H locs ls hP hD hS hl
  skip
  refine va_callq (va_runV (g_sz C) (hM H.size) (cwV n C.2.2.2.2.1 g hw hrm.1 hrm.2 ⟨hcl, hd.1, hd.2.1, hd.2.2⟩ hR) (g_run C hP hD isC hC hn9 hc he) rfl hn hl.1 rfl (g_room hcat) hdg ⟨hcs.1, hcs.2⟩) hS (fun q _ h => h.elim) (fun q h => h.elim) (fun r' u t H1 locs1 ht hvm hw' hB' hz1 hk1 hS' => ?_)
  · subst hw'
    exact kk H1 locs1 ls (hP.kept (fun k q hk => hk1 q.1 (hP k q hk).lt id)) hD hS' hl
theorem g_callSiM {y : MethodName} {wy wy' : List Cond} {rm : Room} {W00 : va_W} {W0 : va_W} {W1 W' : va_W} {r : Int32} {As : List Value} {st : List Value} {n index maxL : Nat} {bytes : ByteArray} {ret' : Option FieldType} {pc' : Nat} (C : gC p s m args meth c cc nL own Ts D tys ret (va_A W00 s.heap.size)) (hM : gMi l y wy rm D tys As W0 r W1) (g : GoodIn Ts (va_wsS own index y wy)) (hd : gY y n) (hw : wy = Cond.code y bytes maxL ret' :: wy') (hrm : rm.cells = 0 ∧ rm.slots = 0) (hR : gRm rm R maxL) (hn : As.length = n) (isC : List Nat) (hC : isC.map (fun i => ws[i]?) = W0.map some) (hn9 : va_nd isC = true) (hl9 : W1.length = W0.length) (hJ : gJoin ws isC W1 = W') (haddr : W'.map (fun q => q.1) = ws.map (fun q => q.1)) (hst : st = As.reverse ++ rest) (hcat : (rest.map fun v => v.category).sum ≤ 8) (hdg : decode cc pc = .ok (.invokestatic index, 3)) (hpc : pc + 3 = pc') (kk : gG p l e R s m args below meth c cells slots D (va_A W00 s.heap.size) (va_A W00 s.heap.size) nL Q W' pc' L (.int r :: rest)) (hcs : cells ≤ R.cells ∧ slots ≤ R.slots := by exact ⟨Nat.zero_le _, Nat.zero_le _⟩) : gG p l e R s m args below meth c cells slots D (va_A W00 s.heap.size) (va_A W00 s.heap.size) nL Q ws pc L st := by
  subst hpc
  subst hst
  intro H locs ls hP hD hS hl
  have hF := va_free hD hS (fun q h => Or.inr h) isC hC
  refine va_calli (va_runS (g_sz C) (hM H.size) (va_cwS n C.2.2.2.2.1 g hw hrm.1 hrm.2 hd hR) (g_runS C hP hD isC hC hn9) rfl hn hl.1 rfl (g_room hcat) hdg ⟨hcs.1, hcs.2⟩) hS (fun q _ h => hF q h) hF (fun r' u t H1 locs1 ht hvm hw' hB' hz1 hk1 hS' => ?_)
  · subst hw'
    have hB9 : va_P D vwCl W1 t.heap := hB'
    rw [ht] at hB9
    have hP' := g_join hP hD isC hC hl9 hk1 hB9 hJ
    exact kk H1 locs1 ls hP' (hD.addr haddr) hS' hl
theorem g_callSiR {y : MethodName} {wy wy' : List Cond} {rm : Room} {W0 : va_W} {r : Int32} {As : List Value} {st : List Value} {n index maxL : Nat} {bytes : ByteArray} {ret' : Option FieldType} {pc' : Nat} (C : gC p s m args meth c cc nL own Ts D tys ret AS) (hM : gRi l y wy rm D tys As W0 r) (g : GoodIn Ts (va_wsS own index y wy)) (hd : gY y n) (hw : wy = Cond.code y bytes maxL ret' :: wy') (hrm : rm.cells = 0 ∧ rm.slots = 0) (hR : gRm rm R maxL) (hn : As.length = n) (isC : List Nat) (hC : isC.map (fun i => ws[i]?) = W0.map some) (hn9 : va_nd isC = true) (hst : st = As.reverse ++ rest) (hcat : (rest.map fun v => v.category).sum ≤ 8) (hdg : decode cc pc = .ok (.invokestatic index, 3)) (hpc : pc + 3 = pc') (kk : gG p l e R s m args below meth c cells slots D AD AS nL Q ws pc' L (.int r :: rest)) (hcs : cells ≤ R.cells ∧ slots ≤ R.slots := by exact ⟨Nat.zero_le _, Nat.zero_le _⟩) : gG p l e R s m args below meth c cells slots D AD AS nL Q ws pc L st := by
  subst hpc
  subst hst
  intro H locs ls hP hD hS hl
  skip
  refine va_calli (va_runS (g_sz C) (hM H.size) (va_cwS n C.2.2.2.2.1 g hw hrm.1 hrm.2 hd hR) (g_runS C hP hD isC hC hn9) rfl hn hl.1 rfl (g_room hcat) hdg ⟨hcs.1, hcs.2⟩) hS (fun q _ h => h.elim) (fun q h => h.elim) (fun r' u t H1 locs1 ht hvm hw' hB' hz1 hk1 hS' => ?_)
  · subst hw'
    exact kk H1 locs1 ls (hP.kept (fun k q hk => hk1 q.1 (hP k q hk).lt id)) hD hS' hl
theorem g_callSlM {y : MethodName} {wy wy' : List Cond} {rm : Room} {W00 : va_W} {W0 : va_W} {W1 W' : va_W} {r : Int64} {As : List Value} {st : List Value} {n index maxL : Nat} {bytes : ByteArray} {ret' : Option FieldType} {pc' : Nat} (C : gC p s m args meth c cc nL own Ts D tys ret (va_A W00 s.heap.size)) (hM : gMl l y wy rm D tys As W0 r W1) (g : GoodIn Ts (va_wsS own index y wy)) (hd : gY y n) (hw : wy = Cond.code y bytes maxL ret' :: wy') (hrm : rm.cells = 0 ∧ rm.slots = 0) (hR : gRm rm R maxL) (hn : As.length = n) (isC : List Nat) (hC : isC.map (fun i => ws[i]?) = W0.map some) (hn9 : va_nd isC = true) (hl9 : W1.length = W0.length) (hJ : gJoin ws isC W1 = W') (haddr : W'.map (fun q => q.1) = ws.map (fun q => q.1)) (hst : st = As.reverse ++ rest) (hcat : (rest.map fun v => v.category).sum ≤ 8) (hdg : decode cc pc = .ok (.invokestatic index, 3)) (hpc : pc + 3 = pc') (kk : gG p l e R s m args below meth c cells slots D (va_A W00 s.heap.size) (va_A W00 s.heap.size) nL Q W' pc' L (.long r :: rest)) (hcs : cells ≤ R.cells ∧ slots ≤ R.slots := by exact ⟨Nat.zero_le _, Nat.zero_le _⟩) : gG p l e R s m args below meth c cells slots D (va_A W00 s.heap.size) (va_A W00 s.heap.size) nL Q ws pc L st := by
  subst hpc
  subst hst
  intro H locs ls hP hD hS hl
  have hF := va_free hD hS (fun q h => Or.inr h) isC hC
  refine va_calll (va_runS (g_sz C) (hM H.size) (va_cwS n C.2.2.2.2.1 g hw hrm.1 hrm.2 hd hR) (g_runS C hP hD isC hC hn9) rfl hn hl.1 rfl (g_room hcat) hdg ⟨hcs.1, hcs.2⟩) hS (fun q _ h => hF q h) hF (fun r' u t H1 locs1 ht hvm hw' hB' hz1 hk1 hS' => ?_)
  · subst hw'
    have hB9 : va_P D vwCl W1 t.heap := hB'
    rw [ht] at hB9
    have hP' := g_join hP hD isC hC hl9 hk1 hB9 hJ
    exact kk H1 locs1 ls hP' (hD.addr haddr) hS' hl
theorem g_callSlR {y : MethodName} {wy wy' : List Cond} {rm : Room} {W0 : va_W} {r : Int64} {As : List Value} {st : List Value} {n index maxL : Nat} {bytes : ByteArray} {ret' : Option FieldType} {pc' : Nat} (C : gC p s m args meth c cc nL own Ts D tys ret AS) (hM : gRl l y wy rm D tys As W0 r) (g : GoodIn Ts (va_wsS own index y wy)) (hd : gY y n) (hw : wy = Cond.code y bytes maxL ret' :: wy') (hrm : rm.cells = 0 ∧ rm.slots = 0) (hR : gRm rm R maxL) (hn : As.length = n) (isC : List Nat) (hC : isC.map (fun i => ws[i]?) = W0.map some) (hn9 : va_nd isC = true) (hst : st = As.reverse ++ rest) (hcat : (rest.map fun v => v.category).sum ≤ 8) (hdg : decode cc pc = .ok (.invokestatic index, 3)) (hpc : pc + 3 = pc') (kk : gG p l e R s m args below meth c cells slots D AD AS nL Q ws pc' L (.long r :: rest)) (hcs : cells ≤ R.cells ∧ slots ≤ R.slots := by exact ⟨Nat.zero_le _, Nat.zero_le _⟩) : gG p l e R s m args below meth c cells slots D AD AS nL Q ws pc L st := by
  subst hpc
  subst hst
  intro H locs ls hP hD hS hl
  skip
  refine va_calll (va_runS (g_sz C) (hM H.size) (va_cwS n C.2.2.2.2.1 g hw hrm.1 hrm.2 hd hR) (g_runS C hP hD isC hC hn9) rfl hn hl.1 rfl (g_room hcat) hdg ⟨hcs.1, hcs.2⟩) hS (fun q _ h => h.elim) (fun q h => h.elim) (fun r' u t H1 locs1 ht hvm hw' hB' hz1 hk1 hS' => ?_)
  · subst hw'
    exact kk H1 locs1 ls (hP.kept (fun k q hk => hk1 q.1 (hP k q hk).lt id)) hD hS' hl
theorem g_callSvM {y : MethodName} {wy wy' : List Cond} {rm : Room} {W00 : va_W} {W0 : va_W} {W1 W' : va_W} {As : List Value} {st : List Value} {n index maxL : Nat} {bytes : ByteArray} {ret' : Option FieldType} {pc' : Nat} (C : gC p s m args meth c cc nL own Ts D tys ret (va_A W00 s.heap.size)) (hM : gMv l y wy rm D tys As W0 W1) (g : GoodIn Ts (va_wsS own index y wy)) (hd : gY y n) (hw : wy = Cond.code y bytes maxL ret' :: wy') (hrm : rm.cells = 0 ∧ rm.slots = 0) (hR : gRm rm R maxL) (hn : As.length = n) (isC : List Nat) (hC : isC.map (fun i => ws[i]?) = W0.map some) (hn9 : va_nd isC = true) (hl9 : W1.length = W0.length) (hJ : gJoin ws isC W1 = W') (haddr : W'.map (fun q => q.1) = ws.map (fun q => q.1)) (hst : st = As.reverse ++ rest) (hcat : (rest.map fun v => v.category).sum ≤ 8) (hdg : decode cc pc = .ok (.invokestatic index, 3)) (hpc : pc + 3 = pc') (kk : gG p l e R s m args below meth c cells slots D (va_A W00 s.heap.size) (va_A W00 s.heap.size) nL Q W' pc' L rest) (hcs : cells ≤ R.cells ∧ slots ≤ R.slots := by exact ⟨Nat.zero_le _, Nat.zero_le _⟩) : gG p l e R s m args below meth c cells slots D (va_A W00 s.heap.size) (va_A W00 s.heap.size) nL Q ws pc L st := by
  subst hpc
  subst hst
  intro H locs ls hP hD hS hl
  have hF := va_free hD hS (fun q h => Or.inr h) isC hC
  refine va_callv (va_runS (g_sz C) (hM H.size) (va_cwS n C.2.2.2.2.1 g hw hrm.1 hrm.2 hd hR) (g_runS C hP hD isC hC hn9) rfl hn hl.1 rfl (g_room hcat) hdg ⟨hcs.1, hcs.2⟩) hS (fun q _ h => hF q h) hF (fun u t H1 locs1 ht hvm hw' hB' hz1 hk1 hS' => ?_)
  · have hB9 : va_P D vwCl W1 t.heap := hB'
    rw [ht] at hB9
    have hP' := g_join hP hD isC hC hl9 hk1 hB9 hJ
    exact kk H1 locs1 ls hP' (hD.addr haddr) hS' hl
theorem g_callSqR {y : MethodName} {wy wy' : List Cond} {rm : Room} {W0 : va_W} {r : Option Nat} {As : List Value} {st : List Value} {n index maxL : Nat} {bytes : ByteArray} {ret' : Option FieldType} {pc' : Nat} (C : gC p s m args meth c cc nL own Ts D tys ret AS) (hM : gRq l y wy rm D tys As W0 r) (g : GoodIn Ts (va_wsS own index y wy)) (hd : gY y n) (hw : wy = Cond.code y bytes maxL ret' :: wy') (hrm : rm.cells = 0 ∧ rm.slots = 0) (hR : gRm rm R maxL) (hn : As.length = n) (isC : List Nat) (hC : isC.map (fun i => ws[i]?) = W0.map some) (hn9 : va_nd isC = true) (hst : st = As.reverse ++ rest) (hcat : (rest.map fun v => v.category).sum ≤ 8) (hdg : decode cc pc = .ok (.invokestatic index, 3)) (hpc : pc + 3 = pc') (kk : gG p l e R s m args below meth c cells slots D AD AS nL Q ws pc' L (va_rf r :: rest)) (hcs : cells ≤ R.cells ∧ slots ≤ R.slots := by exact ⟨Nat.zero_le _, Nat.zero_le _⟩) : gG p l e R s m args below meth c cells slots D AD AS nL Q ws pc L st := by
  subst hpc
  subst hst
  intro H locs ls hP hD hS hl
  skip
  refine va_callq (va_runS (g_sz C) (hM H.size) (va_cwS n C.2.2.2.2.1 g hw hrm.1 hrm.2 hd hR) (g_runS C hP hD isC hC hn9) rfl hn hl.1 rfl (g_room hcat) hdg ⟨hcs.1, hcs.2⟩) hS (fun q _ h => h.elim) (fun q h => h.elim) (fun r' u t H1 locs1 ht hvm hw' hB' hz1 hk1 hS' => ?_)
  · subst hw'
    exact kk H1 locs1 ls (hP.kept (fun k q hk => hk1 q.1 (hP k q hk).lt id)) hD hS' hl
theorem g_callSNiR {y : MethodName} {wy wy' : List Cond} {rm : Room} {W0 : va_W} {r : Int32} {As : List Value} {st : List Value} {n index maxL : Nat} {bytes : ByteArray} {ret' : Option FieldType} {host : String} {pc' : Nat} (C : gC p s m args meth c cc nL own Ts D tys ret AS) (hM : gRi l y wy rm D tys As W0 r) (hl9 : va_Nw (.methodLinkNest own index y host) s) (g : GoodIn Ts wy) (hd : y.cls ≠ "java/lang/invoke/MethodHandle" ∧ y.cls ≠ "java/lang/invoke/VarHandle" ∧ (parseMethodDescriptor y.desc).map (fun d => d.parameters.length) = some n) (hs9 : Cond.static y ∈ Ts) (hi9 : Cond.initialized y.cls ∈ Ts) (hw : wy = Cond.code y bytes maxL ret' :: wy') (hrm : rm.cells = 0 ∧ rm.slots = 0) (hR : gRm rm R maxL) (hn : As.length = n) (isC : List Nat) (hC : isC.map (fun i => ws[i]?) = W0.map some) (hn9 : va_nd isC = true) (hst : st = As.reverse ++ rest) (hcat : (rest.map fun v => v.category).sum ≤ 8) (hdg : decode cc pc = .ok (.invokestatic index, 3)) (hpc : pc + 3 = pc') (kk : gG p l e R s m args below meth c cells slots D AD AS nL Q ws pc' L (.int r :: rest)) (hcs : cells ≤ R.cells ∧ slots ≤ R.slots := by exact ⟨Nat.zero_le _, Nat.zero_le _⟩) : gG p l e R s m args below meth c cells slots D AD AS nL Q ws pc L st := by
  subst hpc
  subst hst
  intro H locs ls hP hD hS hl
  refine va_calli (va_runSN (g_sz C) (hM H.size) ⟨va_cnB n C.2.2.2.2.1 g hw hrm.1 hrm.2 hl9 (C.2.2.2.2.1 _ hi9) hd hR, C.2.2.2.2.1 _ hs9, trivial⟩ (g_runS C hP hD isC hC hn9) rfl hn hl.1 rfl (g_room hcat) hdg ⟨hcs.1, hcs.2⟩) hS (fun q _ h => h.elim) (fun q h => h.elim) (fun r' u t H1 locs1 ht hvm hw' hB' hz1 hk1 hS' => ?_)
  · subst hw'
    exact kk H1 locs1 ls (hP.kept (fun k q hk => hk1 q.1 (hP k q hk).lt id)) hD hS' hl
theorem sw_out3 {x : Int32} (lo : Int) (h0 : ¬ x = Int32.ofInt lo) (h1 : ¬ x = Int32.ofInt (lo + 1)) (h2 : ¬ x = Int32.ofInt (lo + 2)) : x.toInt < lo ∨ lo + 2 < x.toInt := by
  by_cases a : x.toInt < lo
  · exact Or.inl a
  · by_cases b : lo + 2 < x.toInt
    · exact Or.inr b
    · exfalso
      have e : ∀ v : Int, x.toInt = v → x = Int32.ofInt v := fun v hv => by rw [← hv, Int32.ofInt_toInt]
      rcases (by omega : x.toInt = lo ∨ x.toInt = lo + 1 ∨ x.toInt = lo + 2) with z | z | z
      · exact h0 (e _ z)
      · exact h1 (e _ z)
      · exact h2 (e _ z)
theorem sw_out4 {x : Int32} (lo : Int) (h0 : ¬ x = Int32.ofInt lo) (h1 : ¬ x = Int32.ofInt (lo + 1)) (h2 : ¬ x = Int32.ofInt (lo + 2)) (h3 : ¬ x = Int32.ofInt (lo + 3)) : x.toInt < lo ∨ lo + 3 < x.toInt := by
  by_cases b : x.toInt = lo + 3
  · exact absurd (by rw [← b, Int32.ofInt_toInt]) h3
  · rcases sw_out3 lo h0 h1 h2 with z | z
    · exact Or.inl z
    · right; omega
theorem sw_out5 {x : Int32} (lo : Int) (h0 : ¬ x = Int32.ofInt lo) (h1 : ¬ x = Int32.ofInt (lo + 1)) (h2 : ¬ x = Int32.ofInt (lo + 2)) (h3 : ¬ x = Int32.ofInt (lo + 3)) (h4 : ¬ x = Int32.ofInt (lo + 4)) : x.toInt < lo ∨ lo + 4 < x.toInt := by
  by_cases b : x.toInt = lo + 4
  · exact absurd (by rw [← b, Int32.ofInt_toInt]) h4
  · rcases sw_out4 lo h0 h1 h2 h3 with z | z
    · exact Or.inl z
    · right; omega
theorem sw_out9 {x : Int32} (lo : Int) (h0 : ¬ x = Int32.ofInt lo) (h1 : ¬ x = Int32.ofInt (lo + 1)) (h2 : ¬ x = Int32.ofInt (lo + 2)) (h3 : ¬ x = Int32.ofInt (lo + 3)) (h4 : ¬ x = Int32.ofInt (lo + 4)) (h5 : ¬ x = Int32.ofInt (lo + 5)) (h6 : ¬ x = Int32.ofInt (lo + 6)) (h7 : ¬ x = Int32.ofInt (lo + 7)) (h8 : ¬ x = Int32.ofInt (lo + 8)) : x.toInt < lo ∨ lo + 8 < x.toInt := by
  have e : ∀ v : Int, ¬ x = Int32.ofInt v → ¬ x.toInt = v := fun v hv z => hv (by rw [← z, Int32.ofInt_toInt])
  have a5 := e _ h5
  have a6 := e _ h6
  have a7 := e _ h7
  have a8 := e _ h8
  rcases sw_out5 lo h0 h1 h2 h3 h4 with z | z
  · exact Or.inl z
  · right; omega
end gEnds
end
section
/-! PART 05: what a state is: tuples with getters and setters, and their worlds; printed by wip/whole/walk.py -/
abbrev BS : Type := (Nat → Int32) × (Nat → Int32) × (Nat → Int32) × (Nat → Int64) × (Nat → Int32) × (Nat → Int32) × (Nat → Int32) × Int32 × Int32 × Int32
abbrev BS_lev (x : BS) : Nat → Int32 := x.1
abbrev BS_bob (x : BS) : Nat → Int32 := x.2.1
abbrev BS_tel (x : BS) : Nat → Int32 := x.2.2.1
abbrev BS_num (x : BS) : Nat → Int64 := x.2.2.2.1
abbrev BS_told (x : BS) : Nat → Int32 := x.2.2.2.2.1
abbrev BS_bir (x : BS) : Nat → Int32 := x.2.2.2.2.2.1
abbrev BS_loo (x : BS) : Nat → Int32 := x.2.2.2.2.2.2.1
abbrev BS_lc (x : BS) : Int32 := x.2.2.2.2.2.2.2.1
abbrev BS_cnt (x : BS) : Int32 := x.2.2.2.2.2.2.2.2.1
abbrev BS_fr (x : BS) : Int32 := x.2.2.2.2.2.2.2.2.2
abbrev BS_setlev (x : BS) (y : Nat → Int32) : BS := (y, x.2)
abbrev BS_setbob (x : BS) (y : Nat → Int32) : BS := (x.1, y, x.2.2)
abbrev BS_settel (x : BS) (y : Nat → Int32) : BS := (x.1, x.2.1, y, x.2.2.2)
abbrev BS_setnum (x : BS) (y : Nat → Int64) : BS := (x.1, x.2.1, x.2.2.1, y, x.2.2.2.2)
abbrev BS_settold (x : BS) (y : Nat → Int32) : BS := (x.1, x.2.1, x.2.2.1, x.2.2.2.1, y, x.2.2.2.2.2)
abbrev BS_setbir (x : BS) (y : Nat → Int32) : BS := (x.1, x.2.1, x.2.2.1, x.2.2.2.1, x.2.2.2.2.1, y, x.2.2.2.2.2.2)
abbrev BS_setloo (x : BS) (y : Nat → Int32) : BS := (x.1, x.2.1, x.2.2.1, x.2.2.2.1, x.2.2.2.2.1, x.2.2.2.2.2.1, y, x.2.2.2.2.2.2.2)
abbrev BS_setlc (x : BS) (y : Int32) : BS := (x.1, x.2.1, x.2.2.1, x.2.2.2.1, x.2.2.2.2.1, x.2.2.2.2.2.1, x.2.2.2.2.2.2.1, y, x.2.2.2.2.2.2.2.2)
abbrev BS_setcnt (x : BS) (y : Int32) : BS := (x.1, x.2.1, x.2.2.1, x.2.2.2.1, x.2.2.2.2.1, x.2.2.2.2.2.1, x.2.2.2.2.2.2.1, x.2.2.2.2.2.2.2.1, y, x.2.2.2.2.2.2.2.2.2)
abbrev BS_setfr (x : BS) (y : Int32) : BS := (x.1, x.2.1, x.2.2.1, x.2.2.2.1, x.2.2.2.2.1, x.2.2.2.2.2.1, x.2.2.2.2.2.2.1, x.2.2.2.2.2.2.2.1, x.2.2.2.2.2.2.2.2.1, y)
abbrev VS : Type := BS × (Nat → Int64) × (Nat → Int32) × Int32 × Int32 × Int32
abbrev VS_b (x : VS) : BS := x.1
abbrev VS_mk (x : VS) : Nat → Int64 := x.2.1
abbrev VS_gn (x : VS) : Nat → Int32 := x.2.2.1
abbrev VS_gen (x : VS) : Int32 := x.2.2.2.1
abbrev VS_snaps (x : VS) : Int32 := x.2.2.2.2.1
abbrev VS_busy (x : VS) : Int32 := x.2.2.2.2.2
abbrev VS_setb (x : VS) (y : BS) : VS := (y, x.2)
abbrev VS_setmk (x : VS) (y : Nat → Int64) : VS := (x.1, y, x.2.2)
abbrev VS_setgn (x : VS) (y : Nat → Int32) : VS := (x.1, x.2.1, y, x.2.2.2)
abbrev VS_setgen (x : VS) (y : Int32) : VS := (x.1, x.2.1, x.2.2.1, y, x.2.2.2.2)
abbrev VS_setsnaps (x : VS) (y : Int32) : VS := (x.1, x.2.1, x.2.2.1, x.2.2.2.1, y, x.2.2.2.2.2)
abbrev VS_setbusy (x : VS) (y : Int32) : VS := (x.1, x.2.1, x.2.2.1, x.2.2.2.1, x.2.2.2.2.1, y)
abbrev SB : Type := (Nat → Int32) × Int32
abbrev SB_cells (x : SB) : Nat → Int32 := x.1
abbrev SB_len (x : SB) : Int32 := x.2
abbrev SB_setcells (x : SB) (y : Nat → Int32) : SB := (y, x.2)
abbrev SB_setlen (x : SB) (y : Int32) : SB := (x.1, y)
abbrev SD : Type := Int32 × Int32 × Int32 × Int32
abbrev SD_since (x : SD) : Int32 := x.1
abbrev SD_wr (x : SD) : Int32 := x.2.1
abbrev SD_cl (x : SD) : Int32 := x.2.2.1
abbrev SD_sn (x : SD) : Int32 := x.2.2.2
abbrev SD_setsince (x : SD) (y : Int32) : SD := (y, x.2)
abbrev SD_setwr (x : SD) (y : Int32) : SD := (x.1, y, x.2.2)
abbrev SD_setcl (x : SD) (y : Int32) : SD := (x.1, x.2.1, y, x.2.2.2)
abbrev SD_setsn (x : SD) (y : Int32) : SD := (x.1, x.2.1, x.2.2.1, y)
abbrev RC : Type := Int32 × Int32 × Int64
abbrev RC_pos (x : RC) : Int32 := x.1
abbrev RC_rec (x : RC) : Int32 := x.2.1
abbrev RC_tgt (x : RC) : Int64 := x.2.2
abbrev RC_setpos (x : RC) (y : Int32) : RC := (y, x.2)
abbrev RC_setrec (x : RC) (y : Int32) : RC := (x.1, y, x.2.2)
abbrev RC_settgt (x : RC) (y : Int64) : RC := (x.1, x.2.1, y)
abbrev MS : Type := Int32 × (Nat → Int32) × (Nat → Int32) × (Nat → Int32) × (Nat → Int32) × (Nat → Int64) × (Nat → Int32) × (Nat → Int32) × (Nat → Int32) × (Nat → Int32) × (Nat → Int32) × (Nat → Int32) × (Nat → Int64) × (Nat → Int32) × (Nat → Int32) × (Nat → Int32) × (Nat → Int64) × Int64 × (Nat → Int32) × Int32 × Int32 × Int32 × Int32 × Int32 × (Nat → Int32) × (Nat → Int32) × Int32
abbrev MS_thr (x : MS) : Int32 := x.1
abbrev MS_many (x : MS) : Nat → Int32 := x.2.1
abbrev MS_lev (x : MS) : Nat → Int32 := x.2.2.1
abbrev MS_tel (x : MS) : Nat → Int32 := x.2.2.2.1
abbrev MS_bir (x : MS) : Nat → Int32 := x.2.2.2.2.1
abbrev MS_dat (x : MS) : Nat → Int64 := x.2.2.2.2.2.1
abbrev MS_free (x : MS) : Nat → Int32 := x.2.2.2.2.2.2.1
abbrev MS_tt (x : MS) : Nat → Int32 := x.2.2.2.2.2.2.2.1
abbrev MS_tb (x : MS) : Nat → Int32 := x.2.2.2.2.2.2.2.2.1
abbrev MS_gen (x : MS) : Nat → Int32 := x.2.2.2.2.2.2.2.2.2.1
abbrev MS_snaps (x : MS) : Nat → Int32 := x.2.2.2.2.2.2.2.2.2.2.1
abbrev MS_sg (x : MS) : Nat → Int32 := x.2.2.2.2.2.2.2.2.2.2.2.1
abbrev MS_sm (x : MS) : Nat → Int64 := x.2.2.2.2.2.2.2.2.2.2.2.2.1
abbrev MS_busy (x : MS) : Nat → Int32 := x.2.2.2.2.2.2.2.2.2.2.2.2.2.1
abbrev MS_at (x : MS) : Nat → Int32 := x.2.2.2.2.2.2.2.2.2.2.2.2.2.2.1
abbrev MS_rec (x : MS) : Nat → Int32 := x.2.2.2.2.2.2.2.2.2.2.2.2.2.2.2.1
abbrev MS_tgt (x : MS) : Nat → Int64 := x.2.2.2.2.2.2.2.2.2.2.2.2.2.2.2.2.1
abbrev MS_nm (x : MS) : Int64 := x.2.2.2.2.2.2.2.2.2.2.2.2.2.2.2.2.2.1
abbrev MS_str (x : MS) : Nat → Int32 := x.2.2.2.2.2.2.2.2.2.2.2.2.2.2.2.2.2.2.1
abbrev MS_len (x : MS) : Int32 := x.2.2.2.2.2.2.2.2.2.2.2.2.2.2.2.2.2.2.2.1
abbrev MS_recs (x : MS) : Int32 := x.2.2.2.2.2.2.2.2.2.2.2.2.2.2.2.2.2.2.2.2.1
abbrev MS_wr (x : MS) : Int32 := x.2.2.2.2.2.2.2.2.2.2.2.2.2.2.2.2.2.2.2.2.2.1
abbrev MS_cl (x : MS) : Int32 := x.2.2.2.2.2.2.2.2.2.2.2.2.2.2.2.2.2.2.2.2.2.2.1
abbrev MS_sn (x : MS) : Int32 := x.2.2.2.2.2.2.2.2.2.2.2.2.2.2.2.2.2.2.2.2.2.2.2.1
abbrev MS_rch (x : MS) : Nat → Int32 := x.2.2.2.2.2.2.2.2.2.2.2.2.2.2.2.2.2.2.2.2.2.2.2.2.1
abbrev MS_way (x : MS) : Nat → Int32 := x.2.2.2.2.2.2.2.2.2.2.2.2.2.2.2.2.2.2.2.2.2.2.2.2.2.1
abbrev MS_rf (x : MS) : Int32 := x.2.2.2.2.2.2.2.2.2.2.2.2.2.2.2.2.2.2.2.2.2.2.2.2.2.2
abbrev MS_setthr (x : MS) (y : Int32) : MS := (y, x.2)
abbrev MS_setmany (x : MS) (y : Nat → Int32) : MS := (x.1, y, x.2.2)
abbrev MS_setlev (x : MS) (y : Nat → Int32) : MS := (x.1, x.2.1, y, x.2.2.2)
abbrev MS_settel (x : MS) (y : Nat → Int32) : MS := (x.1, x.2.1, x.2.2.1, y, x.2.2.2.2)
abbrev MS_setbir (x : MS) (y : Nat → Int32) : MS := (x.1, x.2.1, x.2.2.1, x.2.2.2.1, y, x.2.2.2.2.2)
abbrev MS_setdat (x : MS) (y : Nat → Int64) : MS := (x.1, x.2.1, x.2.2.1, x.2.2.2.1, x.2.2.2.2.1, y, x.2.2.2.2.2.2)
abbrev MS_setfree (x : MS) (y : Nat → Int32) : MS := (x.1, x.2.1, x.2.2.1, x.2.2.2.1, x.2.2.2.2.1, x.2.2.2.2.2.1, y, x.2.2.2.2.2.2.2)
abbrev MS_settt (x : MS) (y : Nat → Int32) : MS := (x.1, x.2.1, x.2.2.1, x.2.2.2.1, x.2.2.2.2.1, x.2.2.2.2.2.1, x.2.2.2.2.2.2.1, y, x.2.2.2.2.2.2.2.2)
abbrev MS_settb (x : MS) (y : Nat → Int32) : MS := (x.1, x.2.1, x.2.2.1, x.2.2.2.1, x.2.2.2.2.1, x.2.2.2.2.2.1, x.2.2.2.2.2.2.1, x.2.2.2.2.2.2.2.1, y, x.2.2.2.2.2.2.2.2.2)
abbrev MS_setgen (x : MS) (y : Nat → Int32) : MS := (x.1, x.2.1, x.2.2.1, x.2.2.2.1, x.2.2.2.2.1, x.2.2.2.2.2.1, x.2.2.2.2.2.2.1, x.2.2.2.2.2.2.2.1, x.2.2.2.2.2.2.2.2.1, y, x.2.2.2.2.2.2.2.2.2.2)
abbrev MS_setsnaps (x : MS) (y : Nat → Int32) : MS := (x.1, x.2.1, x.2.2.1, x.2.2.2.1, x.2.2.2.2.1, x.2.2.2.2.2.1, x.2.2.2.2.2.2.1, x.2.2.2.2.2.2.2.1, x.2.2.2.2.2.2.2.2.1, x.2.2.2.2.2.2.2.2.2.1, y, x.2.2.2.2.2.2.2.2.2.2.2)
abbrev MS_setsg (x : MS) (y : Nat → Int32) : MS := (x.1, x.2.1, x.2.2.1, x.2.2.2.1, x.2.2.2.2.1, x.2.2.2.2.2.1, x.2.2.2.2.2.2.1, x.2.2.2.2.2.2.2.1, x.2.2.2.2.2.2.2.2.1, x.2.2.2.2.2.2.2.2.2.1, x.2.2.2.2.2.2.2.2.2.2.1, y, x.2.2.2.2.2.2.2.2.2.2.2.2)
abbrev MS_setsm (x : MS) (y : Nat → Int64) : MS := (x.1, x.2.1, x.2.2.1, x.2.2.2.1, x.2.2.2.2.1, x.2.2.2.2.2.1, x.2.2.2.2.2.2.1, x.2.2.2.2.2.2.2.1, x.2.2.2.2.2.2.2.2.1, x.2.2.2.2.2.2.2.2.2.1, x.2.2.2.2.2.2.2.2.2.2.1, x.2.2.2.2.2.2.2.2.2.2.2.1, y, x.2.2.2.2.2.2.2.2.2.2.2.2.2)
abbrev MS_setbusy (x : MS) (y : Nat → Int32) : MS := (x.1, x.2.1, x.2.2.1, x.2.2.2.1, x.2.2.2.2.1, x.2.2.2.2.2.1, x.2.2.2.2.2.2.1, x.2.2.2.2.2.2.2.1, x.2.2.2.2.2.2.2.2.1, x.2.2.2.2.2.2.2.2.2.1, x.2.2.2.2.2.2.2.2.2.2.1, x.2.2.2.2.2.2.2.2.2.2.2.1, x.2.2.2.2.2.2.2.2.2.2.2.2.1, y, x.2.2.2.2.2.2.2.2.2.2.2.2.2.2)
abbrev MS_setat (x : MS) (y : Nat → Int32) : MS := (x.1, x.2.1, x.2.2.1, x.2.2.2.1, x.2.2.2.2.1, x.2.2.2.2.2.1, x.2.2.2.2.2.2.1, x.2.2.2.2.2.2.2.1, x.2.2.2.2.2.2.2.2.1, x.2.2.2.2.2.2.2.2.2.1, x.2.2.2.2.2.2.2.2.2.2.1, x.2.2.2.2.2.2.2.2.2.2.2.1, x.2.2.2.2.2.2.2.2.2.2.2.2.1, x.2.2.2.2.2.2.2.2.2.2.2.2.2.1, y, x.2.2.2.2.2.2.2.2.2.2.2.2.2.2.2)
abbrev MS_setrec (x : MS) (y : Nat → Int32) : MS := (x.1, x.2.1, x.2.2.1, x.2.2.2.1, x.2.2.2.2.1, x.2.2.2.2.2.1, x.2.2.2.2.2.2.1, x.2.2.2.2.2.2.2.1, x.2.2.2.2.2.2.2.2.1, x.2.2.2.2.2.2.2.2.2.1, x.2.2.2.2.2.2.2.2.2.2.1, x.2.2.2.2.2.2.2.2.2.2.2.1, x.2.2.2.2.2.2.2.2.2.2.2.2.1, x.2.2.2.2.2.2.2.2.2.2.2.2.2.1, x.2.2.2.2.2.2.2.2.2.2.2.2.2.2.1, y, x.2.2.2.2.2.2.2.2.2.2.2.2.2.2.2.2)
abbrev MS_settgt (x : MS) (y : Nat → Int64) : MS := (x.1, x.2.1, x.2.2.1, x.2.2.2.1, x.2.2.2.2.1, x.2.2.2.2.2.1, x.2.2.2.2.2.2.1, x.2.2.2.2.2.2.2.1, x.2.2.2.2.2.2.2.2.1, x.2.2.2.2.2.2.2.2.2.1, x.2.2.2.2.2.2.2.2.2.2.1, x.2.2.2.2.2.2.2.2.2.2.2.1, x.2.2.2.2.2.2.2.2.2.2.2.2.1, x.2.2.2.2.2.2.2.2.2.2.2.2.2.1, x.2.2.2.2.2.2.2.2.2.2.2.2.2.2.1, x.2.2.2.2.2.2.2.2.2.2.2.2.2.2.2.1, y, x.2.2.2.2.2.2.2.2.2.2.2.2.2.2.2.2.2)
abbrev MS_setnm (x : MS) (y : Int64) : MS := (x.1, x.2.1, x.2.2.1, x.2.2.2.1, x.2.2.2.2.1, x.2.2.2.2.2.1, x.2.2.2.2.2.2.1, x.2.2.2.2.2.2.2.1, x.2.2.2.2.2.2.2.2.1, x.2.2.2.2.2.2.2.2.2.1, x.2.2.2.2.2.2.2.2.2.2.1, x.2.2.2.2.2.2.2.2.2.2.2.1, x.2.2.2.2.2.2.2.2.2.2.2.2.1, x.2.2.2.2.2.2.2.2.2.2.2.2.2.1, x.2.2.2.2.2.2.2.2.2.2.2.2.2.2.1, x.2.2.2.2.2.2.2.2.2.2.2.2.2.2.2.1, x.2.2.2.2.2.2.2.2.2.2.2.2.2.2.2.2.1, y, x.2.2.2.2.2.2.2.2.2.2.2.2.2.2.2.2.2.2)
abbrev MS_setstr (x : MS) (y : Nat → Int32) : MS := (x.1, x.2.1, x.2.2.1, x.2.2.2.1, x.2.2.2.2.1, x.2.2.2.2.2.1, x.2.2.2.2.2.2.1, x.2.2.2.2.2.2.2.1, x.2.2.2.2.2.2.2.2.1, x.2.2.2.2.2.2.2.2.2.1, x.2.2.2.2.2.2.2.2.2.2.1, x.2.2.2.2.2.2.2.2.2.2.2.1, x.2.2.2.2.2.2.2.2.2.2.2.2.1, x.2.2.2.2.2.2.2.2.2.2.2.2.2.1, x.2.2.2.2.2.2.2.2.2.2.2.2.2.2.1, x.2.2.2.2.2.2.2.2.2.2.2.2.2.2.2.1, x.2.2.2.2.2.2.2.2.2.2.2.2.2.2.2.2.1, x.2.2.2.2.2.2.2.2.2.2.2.2.2.2.2.2.2.1, y, x.2.2.2.2.2.2.2.2.2.2.2.2.2.2.2.2.2.2.2)
abbrev MS_setlen (x : MS) (y : Int32) : MS := (x.1, x.2.1, x.2.2.1, x.2.2.2.1, x.2.2.2.2.1, x.2.2.2.2.2.1, x.2.2.2.2.2.2.1, x.2.2.2.2.2.2.2.1, x.2.2.2.2.2.2.2.2.1, x.2.2.2.2.2.2.2.2.2.1, x.2.2.2.2.2.2.2.2.2.2.1, x.2.2.2.2.2.2.2.2.2.2.2.1, x.2.2.2.2.2.2.2.2.2.2.2.2.1, x.2.2.2.2.2.2.2.2.2.2.2.2.2.1, x.2.2.2.2.2.2.2.2.2.2.2.2.2.2.1, x.2.2.2.2.2.2.2.2.2.2.2.2.2.2.2.1, x.2.2.2.2.2.2.2.2.2.2.2.2.2.2.2.2.1, x.2.2.2.2.2.2.2.2.2.2.2.2.2.2.2.2.2.1, x.2.2.2.2.2.2.2.2.2.2.2.2.2.2.2.2.2.2.1, y, x.2.2.2.2.2.2.2.2.2.2.2.2.2.2.2.2.2.2.2.2)
abbrev MS_setrecs (x : MS) (y : Int32) : MS := (x.1, x.2.1, x.2.2.1, x.2.2.2.1, x.2.2.2.2.1, x.2.2.2.2.2.1, x.2.2.2.2.2.2.1, x.2.2.2.2.2.2.2.1, x.2.2.2.2.2.2.2.2.1, x.2.2.2.2.2.2.2.2.2.1, x.2.2.2.2.2.2.2.2.2.2.1, x.2.2.2.2.2.2.2.2.2.2.2.1, x.2.2.2.2.2.2.2.2.2.2.2.2.1, x.2.2.2.2.2.2.2.2.2.2.2.2.2.1, x.2.2.2.2.2.2.2.2.2.2.2.2.2.2.1, x.2.2.2.2.2.2.2.2.2.2.2.2.2.2.2.1, x.2.2.2.2.2.2.2.2.2.2.2.2.2.2.2.2.1, x.2.2.2.2.2.2.2.2.2.2.2.2.2.2.2.2.2.1, x.2.2.2.2.2.2.2.2.2.2.2.2.2.2.2.2.2.2.1, x.2.2.2.2.2.2.2.2.2.2.2.2.2.2.2.2.2.2.2.1, y, x.2.2.2.2.2.2.2.2.2.2.2.2.2.2.2.2.2.2.2.2.2)
abbrev MS_setwr (x : MS) (y : Int32) : MS := (x.1, x.2.1, x.2.2.1, x.2.2.2.1, x.2.2.2.2.1, x.2.2.2.2.2.1, x.2.2.2.2.2.2.1, x.2.2.2.2.2.2.2.1, x.2.2.2.2.2.2.2.2.1, x.2.2.2.2.2.2.2.2.2.1, x.2.2.2.2.2.2.2.2.2.2.1, x.2.2.2.2.2.2.2.2.2.2.2.1, x.2.2.2.2.2.2.2.2.2.2.2.2.1, x.2.2.2.2.2.2.2.2.2.2.2.2.2.1, x.2.2.2.2.2.2.2.2.2.2.2.2.2.2.1, x.2.2.2.2.2.2.2.2.2.2.2.2.2.2.2.1, x.2.2.2.2.2.2.2.2.2.2.2.2.2.2.2.2.1, x.2.2.2.2.2.2.2.2.2.2.2.2.2.2.2.2.2.1, x.2.2.2.2.2.2.2.2.2.2.2.2.2.2.2.2.2.2.1, x.2.2.2.2.2.2.2.2.2.2.2.2.2.2.2.2.2.2.2.1, x.2.2.2.2.2.2.2.2.2.2.2.2.2.2.2.2.2.2.2.2.1, y, x.2.2.2.2.2.2.2.2.2.2.2.2.2.2.2.2.2.2.2.2.2.2)
abbrev MS_setcl (x : MS) (y : Int32) : MS := (x.1, x.2.1, x.2.2.1, x.2.2.2.1, x.2.2.2.2.1, x.2.2.2.2.2.1, x.2.2.2.2.2.2.1, x.2.2.2.2.2.2.2.1, x.2.2.2.2.2.2.2.2.1, x.2.2.2.2.2.2.2.2.2.1, x.2.2.2.2.2.2.2.2.2.2.1, x.2.2.2.2.2.2.2.2.2.2.2.1, x.2.2.2.2.2.2.2.2.2.2.2.2.1, x.2.2.2.2.2.2.2.2.2.2.2.2.2.1, x.2.2.2.2.2.2.2.2.2.2.2.2.2.2.1, x.2.2.2.2.2.2.2.2.2.2.2.2.2.2.2.1, x.2.2.2.2.2.2.2.2.2.2.2.2.2.2.2.2.1, x.2.2.2.2.2.2.2.2.2.2.2.2.2.2.2.2.2.1, x.2.2.2.2.2.2.2.2.2.2.2.2.2.2.2.2.2.2.1, x.2.2.2.2.2.2.2.2.2.2.2.2.2.2.2.2.2.2.2.1, x.2.2.2.2.2.2.2.2.2.2.2.2.2.2.2.2.2.2.2.2.1, x.2.2.2.2.2.2.2.2.2.2.2.2.2.2.2.2.2.2.2.2.2.1, y, x.2.2.2.2.2.2.2.2.2.2.2.2.2.2.2.2.2.2.2.2.2.2.2)
abbrev MS_setsn (x : MS) (y : Int32) : MS := (x.1, x.2.1, x.2.2.1, x.2.2.2.1, x.2.2.2.2.1, x.2.2.2.2.2.1, x.2.2.2.2.2.2.1, x.2.2.2.2.2.2.2.1, x.2.2.2.2.2.2.2.2.1, x.2.2.2.2.2.2.2.2.2.1, x.2.2.2.2.2.2.2.2.2.2.1, x.2.2.2.2.2.2.2.2.2.2.2.1, x.2.2.2.2.2.2.2.2.2.2.2.2.1, x.2.2.2.2.2.2.2.2.2.2.2.2.2.1, x.2.2.2.2.2.2.2.2.2.2.2.2.2.2.1, x.2.2.2.2.2.2.2.2.2.2.2.2.2.2.2.1, x.2.2.2.2.2.2.2.2.2.2.2.2.2.2.2.2.1, x.2.2.2.2.2.2.2.2.2.2.2.2.2.2.2.2.2.1, x.2.2.2.2.2.2.2.2.2.2.2.2.2.2.2.2.2.2.1, x.2.2.2.2.2.2.2.2.2.2.2.2.2.2.2.2.2.2.2.1, x.2.2.2.2.2.2.2.2.2.2.2.2.2.2.2.2.2.2.2.2.1, x.2.2.2.2.2.2.2.2.2.2.2.2.2.2.2.2.2.2.2.2.2.1, x.2.2.2.2.2.2.2.2.2.2.2.2.2.2.2.2.2.2.2.2.2.2.1, y, x.2.2.2.2.2.2.2.2.2.2.2.2.2.2.2.2.2.2.2.2.2.2.2.2)
abbrev MS_setrch (x : MS) (y : Nat → Int32) : MS := (x.1, x.2.1, x.2.2.1, x.2.2.2.1, x.2.2.2.2.1, x.2.2.2.2.2.1, x.2.2.2.2.2.2.1, x.2.2.2.2.2.2.2.1, x.2.2.2.2.2.2.2.2.1, x.2.2.2.2.2.2.2.2.2.1, x.2.2.2.2.2.2.2.2.2.2.1, x.2.2.2.2.2.2.2.2.2.2.2.1, x.2.2.2.2.2.2.2.2.2.2.2.2.1, x.2.2.2.2.2.2.2.2.2.2.2.2.2.1, x.2.2.2.2.2.2.2.2.2.2.2.2.2.2.1, x.2.2.2.2.2.2.2.2.2.2.2.2.2.2.2.1, x.2.2.2.2.2.2.2.2.2.2.2.2.2.2.2.2.1, x.2.2.2.2.2.2.2.2.2.2.2.2.2.2.2.2.2.1, x.2.2.2.2.2.2.2.2.2.2.2.2.2.2.2.2.2.2.1, x.2.2.2.2.2.2.2.2.2.2.2.2.2.2.2.2.2.2.2.1, x.2.2.2.2.2.2.2.2.2.2.2.2.2.2.2.2.2.2.2.2.1, x.2.2.2.2.2.2.2.2.2.2.2.2.2.2.2.2.2.2.2.2.2.1, x.2.2.2.2.2.2.2.2.2.2.2.2.2.2.2.2.2.2.2.2.2.2.1, x.2.2.2.2.2.2.2.2.2.2.2.2.2.2.2.2.2.2.2.2.2.2.2.1, y, x.2.2.2.2.2.2.2.2.2.2.2.2.2.2.2.2.2.2.2.2.2.2.2.2.2)
abbrev MS_setway (x : MS) (y : Nat → Int32) : MS := (x.1, x.2.1, x.2.2.1, x.2.2.2.1, x.2.2.2.2.1, x.2.2.2.2.2.1, x.2.2.2.2.2.2.1, x.2.2.2.2.2.2.2.1, x.2.2.2.2.2.2.2.2.1, x.2.2.2.2.2.2.2.2.2.1, x.2.2.2.2.2.2.2.2.2.2.1, x.2.2.2.2.2.2.2.2.2.2.2.1, x.2.2.2.2.2.2.2.2.2.2.2.2.1, x.2.2.2.2.2.2.2.2.2.2.2.2.2.1, x.2.2.2.2.2.2.2.2.2.2.2.2.2.2.1, x.2.2.2.2.2.2.2.2.2.2.2.2.2.2.2.1, x.2.2.2.2.2.2.2.2.2.2.2.2.2.2.2.2.1, x.2.2.2.2.2.2.2.2.2.2.2.2.2.2.2.2.2.1, x.2.2.2.2.2.2.2.2.2.2.2.2.2.2.2.2.2.2.1, x.2.2.2.2.2.2.2.2.2.2.2.2.2.2.2.2.2.2.2.1, x.2.2.2.2.2.2.2.2.2.2.2.2.2.2.2.2.2.2.2.2.1, x.2.2.2.2.2.2.2.2.2.2.2.2.2.2.2.2.2.2.2.2.2.1, x.2.2.2.2.2.2.2.2.2.2.2.2.2.2.2.2.2.2.2.2.2.2.1, x.2.2.2.2.2.2.2.2.2.2.2.2.2.2.2.2.2.2.2.2.2.2.2.1, x.2.2.2.2.2.2.2.2.2.2.2.2.2.2.2.2.2.2.2.2.2.2.2.2.1, y, x.2.2.2.2.2.2.2.2.2.2.2.2.2.2.2.2.2.2.2.2.2.2.2.2.2.2)
abbrev MS_setrf (x : MS) (y : Int32) : MS := (x.1, x.2.1, x.2.2.1, x.2.2.2.1, x.2.2.2.2.1, x.2.2.2.2.2.1, x.2.2.2.2.2.2.1, x.2.2.2.2.2.2.2.1, x.2.2.2.2.2.2.2.2.1, x.2.2.2.2.2.2.2.2.2.1, x.2.2.2.2.2.2.2.2.2.2.1, x.2.2.2.2.2.2.2.2.2.2.2.1, x.2.2.2.2.2.2.2.2.2.2.2.2.1, x.2.2.2.2.2.2.2.2.2.2.2.2.2.1, x.2.2.2.2.2.2.2.2.2.2.2.2.2.2.1, x.2.2.2.2.2.2.2.2.2.2.2.2.2.2.2.1, x.2.2.2.2.2.2.2.2.2.2.2.2.2.2.2.2.1, x.2.2.2.2.2.2.2.2.2.2.2.2.2.2.2.2.2.1, x.2.2.2.2.2.2.2.2.2.2.2.2.2.2.2.2.2.2.1, x.2.2.2.2.2.2.2.2.2.2.2.2.2.2.2.2.2.2.2.1, x.2.2.2.2.2.2.2.2.2.2.2.2.2.2.2.2.2.2.2.2.1, x.2.2.2.2.2.2.2.2.2.2.2.2.2.2.2.2.2.2.2.2.2.1, x.2.2.2.2.2.2.2.2.2.2.2.2.2.2.2.2.2.2.2.2.2.2.1, x.2.2.2.2.2.2.2.2.2.2.2.2.2.2.2.2.2.2.2.2.2.2.2.1, x.2.2.2.2.2.2.2.2.2.2.2.2.2.2.2.2.2.2.2.2.2.2.2.2.1, x.2.2.2.2.2.2.2.2.2.2.2.2.2.2.2.2.2.2.2.2.2.2.2.2.2.1, y)
abbrev wIR (cI : ClassId) (n : Nat) (h0 h1 : Nat) (x : Nat → Int32) : va_W := [(h0, .inr (1, [.ref h1])), (h1, .inl (cI, n, .inl x))]
abbrev wLR (cJ : ClassId) (n : Nat) (h0 h1 : Nat) (x : Nat → Int64) : va_W := [(h0, .inr (2, [.ref h1])), (h1, .inl (cJ, n, .inr (.inl x)))]
abbrev wAR (cI : ClassId) (n : Nat) (h0 : Nat) (x : Nat → Int32) : va_W := [(h0, .inl (cI, n, .inl x))]
abbrev wSB (cB : ClassId) (h0 h1 : Nat) (x : SB) : va_W := [(h0, .inr (5, [.ref h1, .int (SB_len x)])), (h1, .inl (cB, 9766, .inl (SB_cells x)))]
abbrev wB (cI cJ : ClassId) (h0 h1 h2 h3 h4 h5 h6 h7 h8 h9 h10 h11 h12 h13 h14 : Nat) (x : BS) : va_W := [(h0, .inr (0, [.ref h1, .ref h3, .ref h5, .ref h7, .ref h9, .ref h11, .ref h13, .int (BS_lc x), .int (BS_cnt x), .int (BS_fr x)])), (h1, .inr (1, [.ref h2])), (h2, .inl (cI, 600, .inl (BS_lev x))), (h3, .inr (1, [.ref h4])), (h4, .inl (cI, 600, .inl (BS_bob x))), (h5, .inr (1, [.ref h6])), (h6, .inl (cI, 600, .inl (BS_tel x))), (h7, .inr (2, [.ref h8])), (h8, .inl (cJ, 600, .inr (.inl (BS_num x)))), (h9, .inr (1, [.ref h10])), (h10, .inl (cI, 4822, .inl (BS_told x))), (h11, .inr (1, [.ref h12])), (h12, .inl (cI, 4822, .inl (BS_bir x))), (h13, .inr (1, [.ref h14])), (h14, .inl (cI, 600, .inl (BS_loo x)))]
abbrev wV (cI cJ : ClassId) (h0 h1 h2 h3 h4 h5 h6 h7 h8 h9 h10 h11 h12 h13 h14 h15 h16 h17 h18 h19 : Nat) (x : VS) : va_W := [(h0, .inr (6, [.ref h5, .ref h1, .ref h3, .int (VS_gen x), .int (VS_snaps x), .int (VS_busy x)])), (h1, .inr (2, [.ref h2])), (h2, .inl (cJ, 20, .inr (.inl (VS_mk x)))), (h3, .inr (1, [.ref h4])), (h4, .inl (cI, 20, .inl (VS_gn x)))] ++ wB cI cJ h5 h6 h7 h8 h9 h10 h11 h12 h13 h14 h15 h16 h17 h18 h19 (VS_b x)
abbrev wSD (h0 : Nat) (xSB : Nat) (x : SD) : va_W := [(h0, .inr (4, [.ref xSB, .int (SD_since x), .int (SD_wr x), .int (SD_cl x), .int (SD_sn x)]))]
abbrev wRC (h0 : Nat) (xV xSB : Nat) (x : RC) : va_W := [(h0, .inr (3, [.ref xV, .ref xSB, .int (RC_pos x), .int (RC_rec x), .long (RC_tgt x)]))]
abbrev wTV (h0 : Nat) (xSB xSD xV0 xV1 xR0 xR1 : Nat) (x : Int64) : va_W := [(h0, .inr (7, [.ref xSB, .ref xSD, .ref xV0, .ref xV1, .ref xR0, .ref xR1, .long x]))]
abbrev wM (cB cI cJ cZ : ClassId) (h0 h1 h2 h3 h4 h5 h6 h7 h8 h9 h10 h11 h12 h13 h14 h15 h16 h17 h18 h19 : Nat) (x : MS) : va_W := [(h0, .inr (8, [.int (MS_thr x), .ref h1, .ref h2, .ref h3, .ref h4, .ref h5, .ref h6, .ref h7, .ref h8, .ref h9, .ref h10, .ref h11, .ref h12, .ref h13, .ref h14, .ref h15, .ref h16, .long (MS_nm x), .ref h17, .int (MS_len x), .int (MS_recs x), .int (MS_wr x), .int (MS_cl x), .int (MS_sn x), .ref h18, .ref h19, .int (MS_rf x)])), (h1, .inl (cI, 2, .inl (MS_many x))), (h2, .inl (cI, 1200, .inl (MS_lev x))), (h3, .inl (cI, 9600, .inl (MS_tel x))), (h4, .inl (cI, 9600, .inl (MS_bir x))), (h5, .inl (cJ, 1200, .inr (.inl (MS_dat x)))), (h6, .inl (cZ, 1200, .inl (MS_free x))), (h7, .inl (cI, 44, .inl (MS_tt x))), (h8, .inl (cI, 44, .inl (MS_tb x))), (h9, .inl (cI, 2, .inl (MS_gen x))), (h10, .inl (cI, 2, .inl (MS_snaps x))), (h11, .inl (cI, 40, .inl (MS_sg x))), (h12, .inl (cJ, 40, .inr (.inl (MS_sm x)))), (h13, .inl (cZ, 2, .inl (MS_busy x))), (h14, .inl (cI, 2, .inl (MS_at x))), (h15, .inl (cI, 2, .inl (MS_rec x))), (h16, .inl (cJ, 2, .inr (.inl (MS_tgt x)))), (h17, .inl (cB, 16000, .inl (MS_str x))), (h18, .inl (cZ, 600, .inl (MS_rch x))), (h19, .inl (cI, 4, .inl (MS_way x)))]
end
section
/-! PART 06: contracts that return or throw -/
def gCa (C T : String) (U : State) : Prop := ∃ c t : ClassId, U.vm.findClass C = some c ∧ U.vm.findClass T = some t ∧ U.vm.assignable c t = true
theorem gCa.moved {C T : String} {u U : State} (hvm : u.vm.Alike U.vm) (h : gCa C T u) : gCa C T U := by
  obtain ⟨c, t, h1, h2, h3⟩ := h
  exact ⟨c, t, by rw [hvm.findClass]; exact h1, by rw [hvm.findClass]; exact h2, by rw [hvm.assignable]; exact h3⟩
theorem gCa.use {C T : String} {U : State} {A : Array Value} (h : gCa C T U) : (Cond.castable C T).before A U = true := by
  obtain ⟨c, t, h1, h2, h3⟩ := h
  simp [Cond.before, Cond.holds, Cond.value, h1, h2, h3]
theorem gCa.of {C T : String} {U : State} {A : Array Value} (h : (Cond.castable C T).before A U = true) : gCa C T U := by
  simp only [Cond.before, Cond.holds, Cond.value] at h
  cases h1 : U.vm.findClass C with
  | none => simp [h1] at h
  | some c =>
    cases h2 : U.vm.findClass T with
    | none => simp [h1, h2] at h
    | some t =>
      simp [h1, h2] at h
      exact ⟨c, t, h1, h2, h⟩
abbrev xIA : String := "java/lang/IllegalArgumentException"
abbrev xIS : String := "java/lang/IllegalStateException"
abbrev xNS : String := "java/util/NoSuchElementException"
abbrev xUO : String := "java/lang/UnsupportedOperationException"
abbrev xAll : List String := [xIA, xIS, xNS, xUO]
def gX (U : State) : Prop := (∀ E ∈ xAll, gCa E E U) ∧ ∀ E ∈ xAll, ∀ T ∈ xAll, E ≠ T → va_Nc E T U
theorem gX.moved {u U : State} (hvm : u.vm.Alike U.vm) (h : gX u) : gX U := ⟨fun E hE => (h.1 E hE).moved hvm, fun E hE T hT hn => (h.2 E hE T hT hn).moved hvm⟩
def gZ (A : Nat → Prop) (U : State) (H : Heap) : Prop := vx_Zq Bundle.tN "UNASSIGNED_STACK" Bundle.steD A U H ∧ vx_Zq Bundle.tN "SUPPRESSED_SENTINEL" Bundle.listD A U H
theorem gZ.moved {A : Nat → Prop} {u U : State} {H : Heap} (hvm : u.vm.Alike U.vm) (h : gZ A u H) : gZ A U H := ⟨h.1.moved hvm, h.2.moved hvm⟩
theorem gZ.kept {A : Nat → Prop} {U : State} {H H1 : Heap} (h : gZ A U H) (hq : ∀ a : Nat, a < H.size → ¬ A a → H1[a]? = H[a]?) : gZ A U H1 := ⟨h.1.kept hq, h.2.kept hq⟩
theorem gZ.narrow {A B : Nat → Prop} {U : State} {H : Heap} (h : gZ A U H) (hAB : ∀ q, B q → A q) : gZ B U H := ⟨h.1.narrow hAB, h.2.narrow hAB⟩
def gPX (D : va_G) (tys : List (ClassId × FieldType)) (W0 : va_W) (sz : Nat) : State → Prop := fun U => gP D tys W0 sz U ∧ gX U ∧ gZ (va_A W0 sz) U U.heap
theorem gPX_blind {av : List Value} {D : va_G} {tys : List (ClassId × FieldType)} {W0 : va_W} {sz : Nat} : FrameBlind (va_Pc av (gPX D tys W0 sz)) := fun a U g mk q => ⟨q.1, (gP_blind a U g mk ⟨q.1, q.2.1⟩).2, gX.moved (u := U) (U := U.calling g mk a) (Vm.Alike.refl U.vm) q.2.2.1, gZ.moved (u := U) (U := U.calling g mk a) (Vm.Alike.refl U.vm) q.2.2.2⟩
/-- thrown: the class as the function says, the world as it was -/
def gXC (D : va_G) (W0 : va_W) (sz : Nat) (P : String → Prop) : String → State → State → Prop := vx_X (fun _ : Unit => True) (fun E _ t => P E ∧ va_P D vwCl W0 t.heap) (va_A W0 sz)
def gXQi {S : Type} (D : va_G) (W0 : va_W) (sz : Nat) (P : Int32 → S → Prop) (W1 : S → va_W) : Array Value → State → Outcome → State → Prop := va_Qi P (fun u t => va_P D vwCl (W1 u) t.heap) (va_A W0 sz)
def gXQl {S : Type} (D : va_G) (W0 : va_W) (sz : Nat) (P : Int64 → S → Prop) (W1 : S → va_W) : Array Value → State → Outcome → State → Prop := va_Ql P (fun u t => va_P D vwCl (W1 u) t.heap) (va_A W0 sz)
def gXQv {S : Type} (D : va_G) (W0 : va_W) (sz : Nat) (P : S → Prop) (W1 : S → va_W) : Array Value → State → Outcome → State → Prop := va_Qv P (fun u t => va_P D vwCl (W1 u) t.heap) (va_A W0 sz)
def gXi {S : Type} (l : Launch) (y : MethodName) (wy : List Cond) (rm : Room) (D : va_G) (tys : List (ClassId × FieldType)) (av : List Value) (W0 : va_W) (res : Except String (Int32 × S)) (W1 : S → va_W) : Prop := ∀ sz, vx_Met l y wy rm (va_Pc av (gPX D tys W0 sz)) (gXQi D W0 sz (fun r u => res = .ok (r, u)) W1) (gXC D W0 sz (fun E => res = .error E)) 1 6 (va_A W0 sz)
def gXl {S : Type} (l : Launch) (y : MethodName) (wy : List Cond) (rm : Room) (D : va_G) (tys : List (ClassId × FieldType)) (av : List Value) (W0 : va_W) (res : Except String (Int64 × S)) (W1 : S → va_W) : Prop := ∀ sz, vx_Met l y wy rm (va_Pc av (gPX D tys W0 sz)) (gXQl D W0 sz (fun r u => res = .ok (r, u)) W1) (gXC D W0 sz (fun E => res = .error E)) 1 6 (va_A W0 sz)
def gXv {S : Type} (l : Launch) (y : MethodName) (wy : List Cond) (rm : Room) (D : va_G) (tys : List (ClassId × FieldType)) (av : List Value) (W0 : va_W) (res : Except String S) (W1 : S → va_W) : Prop := ∀ sz, vx_Met l y wy rm (va_Pc av (gPX D tys W0 sz)) (gXQv D W0 sz (fun u => res = .ok u) W1) (gXC D W0 sz (fun E => res = .error E)) 1 6 (va_A W0 sz)
theorem g_enterX {l : Launch} {y : MethodName} {wy wy' : List Cond} {rm : Room} {D : va_G} {tys : List (ClassId × FieldType)} {av : List Value} {W0 : va_W} {Qc : Nat → Array Value → State → Outcome → State → Prop} {XC : Nat → String → State → State → Prop} {cc : ByteArray} {maxL : Nat} {ret : Option FieldType} {L : List (Nat × Value)} {own : String} (hown9 : y.cls = own) (hy : plainName y.cls = true) (hw : wy = Cond.code y cc maxL ret :: wy') (hlen : (lg_sl av).length ≤ maxL) (hL : lv_args 0 av = L)
    (body : ∀ (p : Program) (e : Env) (s : State) (m : MethodId) (args : Array Value) (below : List Frame) (meth : Method) (c : Code), gC p s m args meth c cc maxL own wy D tys ret (va_A W0 s.heap.size) → (∀ x ∈ c.exceptionTable.toList, False) → gX s → gZ (va_A W0 s.heap.size) s s.heap → gG p l e (headSpec wy rm).room s m args below meth c 0 0 D (va_A W0 s.heap.size) (va_A W0 s.heap.size) maxL (vx_MQ below (Qc s.heap.size) (XC s.heap.size) args s 1 6 (va_A W0 s.heap.size)) W0 0 L []) :
    ∀ sz, vx_Met l y wy rm (va_Pc av (gPX D tys W0 sz)) (Qc sz) (XC sz) 1 6 (va_A W0 sz) := by
  intro sz
  refine vx_ofW (cc := cc) (maxL := maxL) (ret := ret) hy hw ?_
  intro p e s m args below meth c s₁ B hml htab hv
  obtain ⟨rfl, ⟨hsz, hP, hK, hD0, hN⟩, hX, hZ⟩ := hv
  subst hown9
  subst hsz
  have hx := B.exec
  have hts := atoms_spec (ws := wy) B.pre
  have hown : s.vm.findClass y.cls = some m.cls := findClass_of_methodNamed B.named
  have hl := lv_entry av hlen
  rw [lg_entry_eq]
  generalize (lg_sl av ++ List.replicate (maxL - (lg_sl av).length) Slot.unset).toArray = ls at hl ⊢
  rw [hL] at hl
  exact body p e s m _ below meth c ⟨hx, B.bytes, hml, hown, hts, hK, B.returns, B.notSynchronized, hN⟩ htab hX hZ s.heap [] ls hP hD0.self va_S.rf hl
section gXEnds
variable {p : Program} {l : Launch} {e : Env} {R : Room} {s : State} {m : MethodId} {args : Array Value} {below : List Frame} {meth : Method} {c : Code} {D : va_G} {AD AS : Nat → Prop} {nL : Nat} {Q : State → Prop} {ws : va_W} {L : List (Nat × Value)} {rest : List Value}
variable {cc : ByteArray} {own : String} {Ts : List Cond} {tys : List (ClassId × FieldType)} {ret : Option FieldType} {pc : Nat} {S : Type} {XC : String → State → State → Prop}
theorem g_iretX {W0 : va_W} {W1 : S → va_W} {P : Int32 → S → Prop} {v : Int32} (u : S) (C : gC p s m args meth c cc nL own Ts D tys (some .int) (va_A W0 s.heap.size)) (hp : P v u) (hW : ws = W1 u) (hdg : decode cc pc = .ok (.ireturn, 1)) : gG p l e R s m args below meth c 0 0 D AD (va_A W0 s.heap.size) nL (vx_MQ below (gXQi D W0 s.heap.size P W1) XC args s 1 6 (va_A W0 s.heap.size)) ws pc L [.int v] := by
  subst hW
  exact fun H locs ls hP hD hS hl => W.widen (k := 1) (n := 6) (by omega) (by omega) (vx_ret (W.iret C.1 C.2.1 C.2.2.2.2.2.2.1 (fun t ht hW => ⟨⟨v, u, rfl, hp, g_w hP ht⟩, hS.F ht⟩) hS.2.2 hdg C.2.2.2.2.2.2.2.1))
theorem g_zretX {W0 : va_W} {W1 : S → va_W} {P : Int32 → S → Prop} {v : Int32} (u : S) (C : gC p s m args meth c cc nL own Ts D tys (some .boolean) (va_A W0 s.heap.size)) (hz : narrow .boolean (.int v) = .int v) (hp : P v u) (hW : ws = W1 u) (hdg : decode cc pc = .ok (.ireturn, 1)) : gG p l e R s m args below meth c 0 0 D AD (va_A W0 s.heap.size) nL (vx_MQ below (gXQi D W0 s.heap.size P W1) XC args s 1 6 (va_A W0 s.heap.size)) ws pc L [.int v] := by
  subst hW
  exact fun H locs ls hP hD hS hl => W.widen (k := 1) (n := 6) (by omega) (by omega) (vx_ret (W.zret C.1 C.2.1 C.2.2.2.2.2.2.1 hz (fun t ht hW => ⟨⟨v, u, rfl, hp, g_w hP ht⟩, hS.F ht⟩) hS.2.2 hdg C.2.2.2.2.2.2.2.1))
theorem g_lretX {W0 : va_W} {W1 : S → va_W} {P : Int64 → S → Prop} {v : Int64} (u : S) (C : gC p s m args meth c cc nL own Ts D tys (some .long) (va_A W0 s.heap.size)) (hp : P v u) (hW : ws = W1 u) (hdg : decode cc pc = .ok (.lreturn, 1)) : gG p l e R s m args below meth c 0 0 D AD (va_A W0 s.heap.size) nL (vx_MQ below (gXQl D W0 s.heap.size P W1) XC args s 1 6 (va_A W0 s.heap.size)) ws pc L [.long v] := by
  subst hW
  exact fun H locs ls hP hD hS hl => W.widen (k := 1) (n := 6) (by omega) (by omega) (vx_ret (W.lret C.1 C.2.1 C.2.2.2.2.2.2.1 (fun t ht hW => ⟨⟨v, u, rfl, hp, g_w hP ht⟩, hS.F ht⟩) hS.2.2 hdg C.2.2.2.2.2.2.2.1))
theorem g_vretX {W0 : va_W} {W1 : S → va_W} {P : S → Prop} (u : S) (C : gC p s m args meth c cc nL own Ts D tys none (va_A W0 s.heap.size)) (hp : P u) (hW : ws = W1 u) (hdg : decode cc pc = .ok (.return_, 1)) : gG p l e R s m args below meth c 0 0 D AD (va_A W0 s.heap.size) nL (vx_MQ below (gXQv D W0 s.heap.size P W1) XC args s 1 6 (va_A W0 s.heap.size)) ws pc L [] := by
  subst hW
  exact fun H locs ls hP hD hS hl => W.widen (k := 1) (n := 6) (by omega) (by omega) (vx_ret (W.vret C.1 C.2.1 C.2.2.2.2.2.2.1 (fun t ht hW => ⟨⟨u, rfl, hp, g_w hP ht⟩, hS.F ht⟩) hS.2.2 hdg C.2.2.2.2.2.2.2.1))
/-- new E(); throw: the world as it was at the entry -/
theorem g_throw {W0 : va_W} {P : String → Prop} {Qc : Array Value → State → Outcome → State → Prop} {cls : String} {ik ic : Nat} {p3 p4 p7 : Nat} (C : gC p s m args meth c cc nL own Ts D tys ret (va_A W0 s.heap.size)) (htab : ∀ x ∈ c.exceptionTable.toList, False) (hX : gX s) (hZ : gZ (va_A W0 s.heap.size) s s.heap) (hl : l.stackTraces = false)
    (hE : cls ∈ xAll) (hcls : Bundle.fit cls = true) (hk : Cond.classLink own ik cls ∈ Ts) (hini : Cond.initialized cls ∈ Ts)
    (hat : ∀ w ∈ (vx_at0 own ic cls ["java/lang/RuntimeException", "java/lang/Exception"]).filter goodWord, w ∈ Ts) (hbad : ∀ w ∈ (vx_at0 own ic cls ["java/lang/RuntimeException", "java/lang/Exception"]).filter (fun w => !goodWord w), w ∈ [Cond.castable cls cls])
    (hgood : ∀ w ∈ Cond.classLink own ik cls :: Cond.initialized cls :: vx_at0 own ic cls ["java/lang/RuntimeException", "java/lang/Exception"], vx_ot w = true)
    (hp : P cls) (hW : ws = W0) (d0 : decode cc pc = .ok (.new ik, 3)) (d3 : decode cc p3 = .ok (.dup, 1)) (d4 : decode cc p4 = .ok (.invokespecial ic, 3)) (d7 : decode cc p7 = .ok (.athrow, 1)) (e3 : pc + 3 = p3) (e4 : pc + 4 = p4) (e7 : pc + 7 = p7)
    (hRf : 5 < R.frames) (hRl : (rest.map fun v => v.category).sum + 81 ≤ R.locals) (hRc : 1 ≤ R.cells) (hRs : 6 ≤ R.slots) : gG p l e R s m args below meth c 0 0 D AD (va_A W0 s.heap.size) nL (vx_MQ below Qc (gXC D W0 s.heap.size P) args s 1 6 (va_A W0 s.heap.size)) ws pc L rest := by
  subst hW; subst e3; subst e4; subst e7
  intro H locs ls hP hD hS hl9
  refine vx_throw0 C.1 C.2.1 hl C.2.2.2.1 hcls (by decide) (C.2.2.2.2.1 _ hk) (C.2.2.2.2.1 _ hini) (vx_hat (B := [Cond.castable cls cls]) (fun w hw => C.2.2.2.2.1 _ (hat w hw)) hbad (fun w hw => by rw [List.mem_singleton.mp hw]; exact (hX.1 cls hE).use)) hgood hZ.1 hZ.2 hS (hl9.1.trans C.2.2.1.symm) d0 d3 d4 d7 (fun x hx => (htab x hx).elim) hRf hRl (by omega) (by omega) C.2.2.2.2.2.2.2.1 (fun t ht h1 h2 => ⟨(), trivial, ⟨hp, hP.kept (fun k q hk => h2 q.1 (hP k q hk).lt)⟩, ⟨Nat.le_trans hS.1 h1, fun q hq hn => by rw [h2 q (Nat.lt_of_lt_of_le hq hS.1)]; exact hS.2.1 q hq hn⟩⟩) hS.2.2 (Nat.le_refl _) (Nat.le_refl _)
end gXEnds
end
section
/-! PART 10.rows: walks, printed by wip/whole/walk.py -/
def FJ7_fill_53178_L5 (n : Nat) (v1 : Int32) (v3 : Int32) (k9 : (Nat → Int32) → Int32 → Option ((Nat → Int32))) : Nat → (Nat → Int32) → Int32 → Option ((Nat → Int32))
  | 0, _, _ => none
  | n9 + 1, f, v2 =>
    if v3 ≤ v2 then
      k9 f v2
    else
      (ast n f v2 v1).bind fun g2 =>
      FJ7_fill_53178_L5 n v1 v3 k9 n9 g2 (v2 + 1)
def FJ7_fill_53178 (n : Nat) (f0 : Nat → Int32) (p1 : Int32) : Option ((Nat → Int32)) :=
  FJ7_fill_53178_L5 n p1 (Int32.ofNat n) (fun fq4 w2_4 =>
    some fq4) 100000 f0 0
def rJ7_fill_53178 : Room := { frames := 0, cells := 0, slots := 0, locals := 0 }
set_option maxHeartbeats 4000000 in
set_option maxRecDepth 100000 in
theorem c_FJ7_fill_53178_L5 {p : Program} {l : Launch} {e : Env} {s : State} {m : MethodId} {args : Array Value} {below : List Frame} {meth : Method} {c : Code} {D : va_G} {cB cI cJ cZ : ClassId} {n : Nat} {f_0 : Nat} {f0 : Nat → Int32} {res : (Nat → Int32)} (C : gC p s m args meth c cJ7_fill_53178 4 RJ7 wsJ7_fill_53178 D (gT cB cI cJ cZ) none (va_A (wAR cI n f_0 f0) s.heap.size)) {v1 : Int32} {v3 : Int32} {k9 : (Nat → Int32) → Int32 → Option ((Nat → Int32))} (hk9 : ∀ (f : Nat → Int32) (v2 : Int32), k9 f v2 = some res → gG p l e (headSpec wsJ7_fill_53178 rJ7_fill_53178).room s m args below meth c 0 0 D (va_A (wAR cI n f_0 f0) s.heap.size) (va_A (wAR cI n f_0 f0) s.heap.size) 4 (MQ below (gQv D (wAR cI n f_0 f0) s.heap.size (wAR cI n f_0 res)) args s 0 0 (va_A (wAR cI n f_0 f0) s.heap.size)) (wAR cI n f_0 f) 20 [(0, .ref f_0), (1, .int v1), (2, .int v2), (3, .int v3)] []) :
    ∀ (n9 : Nat) (f : Nat → Int32) (v2 : Int32), FJ7_fill_53178_L5 n v1 v3 k9 n9 f v2 = some res → gG p l e (headSpec wsJ7_fill_53178 rJ7_fill_53178).room s m args below meth c 0 0 D (va_A (wAR cI n f_0 f0) s.heap.size) (va_A (wAR cI n f_0 f0) s.heap.size) 4 (MQ below (gQv D (wAR cI n f_0 f0) s.heap.size (wAR cI n f_0 res)) args s 0 0 (va_A (wAR cI n f_0 f0) s.heap.size)) (wAR cI n f_0 f) 5 [(0, .ref f_0), (1, .int v1), (2, .int v2), (3, .int v3)] [] := by
  intro n9
  induction n9 with
  | zero =>
    intro f v2 hF
    exact absurd hF (by simp [FJ7_fill_53178_L5])
  | succ n9 ih9 =>
    intro f v2 hF
    rw [FJ7_fill_53178_L5] at hF
    refine g_iload_n (z := 2) C (tdec DJ7_fill_53178 5 rfl) rfl rfl rfl ?_
    refine g_iload_n (z := 3) C (tdec DJ7_fill_53178 6 rfl) rfl rfl rfl ?_
    refine g_icmp_ge (pt := 20) C (tdec DJ7_fill_53178 7 rfl) (by decide) rfl (fun h1 => ?_) (fun h1 => ?_)
    · have hF := o_ifp hF h1
      refine g_sub (L' := [(0, .ref f_0), (1, .int v1), (2, .int v2), (3, .int v3)]) [0, 1, 2, 3] rfl ?_
      exact hk9 _ _ hF
    · have hF := o_ifn hF h1
      refine g_aload_n (z := 0) C (tdec DJ7_fill_53178 8 rfl) rfl rfl rfl ?_
      refine g_iload_n (z := 2) C (tdec DJ7_fill_53178 9 rfl) rfl rfl rfl ?_
      refine g_iload_n (z := 1) C (tdec DJ7_fill_53178 10 rfl) rfl rfl rfl ?_
      obtain ⟨g2, y3, hF⟩ := o_bind hF
      refine g_iast (ws' := wAR cI n f_0 g2) C 0 1 rfl rfl y3 rfl (tdec DJ7_fill_53178 11 rfl) rfl ?_
      refine g_iinc (z := 2) (v := (v2 + 1)) (L' := [(2, .int (v2 + 1)), (0, .ref f_0), (1, .int v1), (3, .int v3)]) C (tdec DJ7_fill_53178 12 rfl) rfl rfl (by decide) rfl rfl ?_
      refine g_goto (pt := 5) C (tdec DJ7_fill_53178 13 rfl) (by decide) ?_
      refine g_sub (L' := [(0, .ref f_0), (1, .int v1), (2, .int (v2 + 1)), (3, .int v3)]) [1, 2, 0, 3] rfl ?_
      exact ih9 _ _ hF
set_option maxHeartbeats 4000000 in
set_option maxRecDepth 100000 in
theorem c_J7_fill_53178 (l : Launch) (D : va_G) (cB cI cJ cZ : ClassId) (f_0 : Nat) {n : Nat} {f0 : Nat → Int32} {p1 : Int32} {res : (Nat → Int32)} (hF : FJ7_fill_53178 n f0 p1 = some res) : gMv l yJ7_fill_53178 wsJ7_fill_53178 rJ7_fill_53178 D (gT cB cI cJ cZ) [.ref f_0, .int p1] (wAR cI n f_0 f0) (wAR cI n f_0 res) := by
  refine g_enter (own := RJ7) (free := (fun sz => va_A (wAR cI n f_0 f0) sz)) (Qc := (fun sz => gQv D (wAR cI n f_0 f0) sz (wAR cI n f_0 res))) (fun sz => va_A (wAR cI n f_0 f0) sz) (fun sz => Or.inr rfl) rfl (by decide) rfl (Nat.le_of_ble_eq_true rfl) rfl ?_
  intro p e s m args below meth c C
  unfold FJ7_fill_53178 at hF
  refine g_iconst (v := 0) C (tdec DJ7_fill_53178 0 rfl) (by decide) rfl ?_
  refine g_istore_n (L' := [(2, .int 0), (0, .ref f_0), (1, .int p1)]) C (tdec DJ7_fill_53178 1 rfl) rfl (by decide) rfl rfl ?_
  refine g_aload_n (z := 1) C (tdec DJ7_fill_53178 2 rfl) rfl rfl rfl ?_
  refine g_alen C 0 1 rfl rfl rfl (tdec DJ7_fill_53178 3 rfl) rfl ?_
  refine g_istore_n (L' := [(3, .int (Int32.ofNat n)), (2, .int 0), (0, .ref f_0), (1, .int p1)]) C (tdec DJ7_fill_53178 4 rfl) rfl (by decide) rfl rfl ?_
  refine g_sub (L' := [(0, .ref f_0), (1, .int p1), (2, .int 0), (3, .int (Int32.ofNat n))]) [2, 3, 1, 0] rfl ?_
  refine c_FJ7_fill_53178_L5 C (fun fq4 w2_4 hF => ?_) 100000 _ _ hF
  have hr9 := o_some hF
  subst hr9
  exact g_vret C rfl (tdec DJ7_fill_53178 14 rfl)
def FX1_fill (n : Nat) (f0 : Nat → Int32) (p1 : Int32) : Option ((Nat → Int32)) :=
  (FJ7_fill_53178 n f0 p1).bind fun s1 =>
  some s1
def rX1_fill : Room := { frames := 1, cells := 0, slots := 0, locals := 23 }
set_option maxHeartbeats 4000000 in
set_option maxRecDepth 100000 in
theorem c_X1_fill (l : Launch) (D : va_G) (cB cI cJ cZ : ClassId) (f_0 f_1 : Nat) {n : Nat} {f0 : Nat → Int32} {p1 : Int32} {res : (Nat → Int32)} (hF : FX1_fill n f0 p1 = some res) : gMv l yX1_fill wsX1_fill rX1_fill D (gT cB cI cJ cZ) [.ref f_0, .int p1] (wIR cI n f_0 f_1 f0) (wIR cI n f_0 f_1 res) := by
  refine g_enter (own := RX1) (free := (fun sz => va_A (wIR cI n f_0 f_1 f0) sz)) (Qc := (fun sz => gQv D (wIR cI n f_0 f_1 f0) sz (wIR cI n f_0 f_1 res))) (fun sz => va_A (wIR cI n f_0 f_1 f0) sz) (fun sz => Or.inr rfl) rfl (by decide) rfl (Nat.le_of_ble_eq_true rfl) rfl ?_
  intro p e s m args below meth c C
  unfold FX1_fill at hF
  refine g_aload_n (z := 0) C (tdec DX1_fill 0 rfl) rfl rfl rfl ?_
  refine g_getf (C' := RX1) (T := TX1) (N := 1) (v := .ref f_1) C 0 0 (gIn iw_X1) rfl rfl (by decide) (gMem fl_X1_15) rfl rfl (tdec DX1_fill 1 rfl) rfl ?_
  refine g_iload_n (z := 1) C (tdec DX1_fill 2 rfl) rfl rfl rfl ?_
  obtain ⟨s1, y2, hF⟩ := o_bind hF
  refine g_callSvM (W' := wIR cI n f_0 f_1 s1) C (c_J7_fill_53178 l D cB cI cJ cZ f_1 y2) (gIS ml_X1_21 st_J7_fill_53178 in_J7 cd_J7_fill_53178) eJ7_fill_53178 rfl ⟨rfl, rfl⟩ ⟨Nat.le_of_ble_eq_true rfl, Nat.le_of_ble_eq_true rfl⟩ rfl [1] rfl rfl rfl rfl rfl rfl (Nat.le_of_ble_eq_true rfl) (tdec DX1_fill 3 rfl) rfl ?_
  have hr9 := o_some hF
  subst hr9
  exact g_vret C rfl (tdec DX1_fill 4 rfl)
def FX1_at (n : Nat) (f0 : Nat → Int32) (p1 : Int32) : Option (Int32) :=
  if p1 < 0 then
    some (-1)
  else
    if (Int32.ofNat n) ≤ p1 then
      some (-1)
    else
      (ald n f0 p1).bind fun r3 =>
      some r3
def rX1_at : Room := { frames := 0, cells := 0, slots := 0, locals := 0 }
set_option maxHeartbeats 4000000 in
set_option maxRecDepth 100000 in
theorem c_X1_at (l : Launch) (D : va_G) (cB cI cJ cZ : ClassId) (f_0 f_1 : Nat) {n : Nat} {f0 : Nat → Int32} {p1 : Int32} {res : Int32} (hF : FX1_at n f0 p1 = some res) : gRi l yX1_at wsX1_at rX1_at D (gT cB cI cJ cZ) [.ref f_0, .int p1] (wIR cI n f_0 f_1 f0) res := by
  refine g_enter (own := RX1) (free := (fun _ _ => False)) (Qc := (fun sz => gRQi res)) (fun _ _ => True) (fun sz => Or.inl rfl) rfl (by decide) rfl (Nat.le_of_ble_eq_true rfl) rfl ?_
  intro p e s m args below meth c C
  unfold FX1_at at hF
  refine g_iload_n (z := 1) C (tdec DX1_at 0 rfl) rfl rfl rfl ?_
  refine g_if_lt (pt := 22) C (tdec DX1_at 1 rfl) (by decide) rfl (fun h1 => ?_) (fun h1 => ?_)
  · have hF := o_ifp hF h1
    refine g_iconst (v := (-1)) C (tdec DX1_at 12 rfl) (by decide) rfl ?_
    have hr9 := o_some hF
    subst hr9
    exact g_iretR C rfl (tdec DX1_at 13 rfl)
  · have hF := o_ifn hF h1
    refine g_iload_n (z := 1) C (tdec DX1_at 2 rfl) rfl rfl rfl ?_
    refine g_aload_n (z := 0) C (tdec DX1_at 3 rfl) rfl rfl rfl ?_
    refine g_getf (C' := RX1) (T := TX1) (N := 1) (v := .ref f_1) C 0 0 (gIn iw_X1) rfl rfl (by decide) (gMem fl_X1_15) rfl rfl (tdec DX1_at 4 rfl) rfl ?_
    refine g_alen C 1 1 rfl rfl rfl (tdec DX1_at 5 rfl) rfl ?_
    refine g_icmp_ge (pt := 22) C (tdec DX1_at 6 rfl) (by decide) rfl (fun h2 => ?_) (fun h2 => ?_)
    · have hF := o_ifp hF h2
      refine g_iconst (v := (-1)) C (tdec DX1_at 12 rfl) (by decide) rfl ?_
      have hr9 := o_some hF
      subst hr9
      exact g_iretR C rfl (tdec DX1_at 13 rfl)
    · have hF := o_ifn hF h2
      refine g_aload_n (z := 0) C (tdec DX1_at 7 rfl) rfl rfl rfl ?_
      refine g_getf (C' := RX1) (T := TX1) (N := 1) (v := .ref f_1) C 0 0 (gIn iw_X1) rfl rfl (by decide) (gMem fl_X1_15) rfl rfl (tdec DX1_at 8 rfl) rfl ?_
      refine g_iload_n (z := 1) C (tdec DX1_at 9 rfl) rfl rfl rfl ?_
      obtain ⟨r3, y4, hF⟩ := o_bind hF
      refine g_iald C 1 1 rfl rfl y4 (tdec DX1_at 10 rfl) rfl ?_
      refine g_goto (pt := 23) C (tdec DX1_at 11 rfl) (by decide) ?_
      have hr9 := o_some hF
      subst hr9
      exact g_iretR C rfl (tdec DX1_at 13 rfl)
def FX2_at (n : Nat) (f0 : Nat → Int64) (p1 : Int32) : Option (Int64) :=
  if p1 < 0 then
    some 0
  else
    if (Int32.ofNat n) ≤ p1 then
      some 0
    else
      (ald n f0 p1).bind fun r3 =>
      some r3
def rX2_at : Room := { frames := 0, cells := 0, slots := 0, locals := 0 }
set_option maxHeartbeats 4000000 in
set_option maxRecDepth 100000 in
theorem c_X2_at (l : Launch) (D : va_G) (cB cI cJ cZ : ClassId) (f_0 f_1 : Nat) {n : Nat} {f0 : Nat → Int64} {p1 : Int32} {res : Int64} (hF : FX2_at n f0 p1 = some res) : gRl l yX2_at wsX2_at rX2_at D (gT cB cI cJ cZ) [.ref f_0, .int p1] (wLR cJ n f_0 f_1 f0) res := by
  refine g_enter (own := RX2) (free := (fun _ _ => False)) (Qc := (fun sz => gRQl res)) (fun _ _ => True) (fun sz => Or.inl rfl) rfl (by decide) rfl (Nat.le_of_ble_eq_true rfl) rfl ?_
  intro p e s m args below meth c C
  unfold FX2_at at hF
  refine g_iload_n (z := 1) C (tdec DX2_at 0 rfl) rfl rfl rfl ?_
  refine g_if_lt (pt := 22) C (tdec DX2_at 1 rfl) (by decide) rfl (fun h1 => ?_) (fun h1 => ?_)
  · have hF := o_ifp hF h1
    refine g_lconst (v := 0) C (tdec DX2_at 12 rfl) (by decide) rfl ?_
    have hr9 := o_some hF
    subst hr9
    exact g_lretR C rfl (tdec DX2_at 13 rfl)
  · have hF := o_ifn hF h1
    refine g_iload_n (z := 1) C (tdec DX2_at 2 rfl) rfl rfl rfl ?_
    refine g_aload_n (z := 0) C (tdec DX2_at 3 rfl) rfl rfl rfl ?_
    refine g_getf (C' := RX2) (T := TX2) (N := 1) (v := .ref f_1) C 0 0 (gIn iw_X2) rfl rfl (by decide) (gMem fl_X2_13) rfl rfl (tdec DX2_at 4 rfl) rfl ?_
    refine g_alen C 1 2 rfl rfl rfl (tdec DX2_at 5 rfl) rfl ?_
    refine g_icmp_ge (pt := 22) C (tdec DX2_at 6 rfl) (by decide) rfl (fun h2 => ?_) (fun h2 => ?_)
    · have hF := o_ifp hF h2
      refine g_lconst (v := 0) C (tdec DX2_at 12 rfl) (by decide) rfl ?_
      have hr9 := o_some hF
      subst hr9
      exact g_lretR C rfl (tdec DX2_at 13 rfl)
    · have hF := o_ifn hF h2
      refine g_aload_n (z := 0) C (tdec DX2_at 7 rfl) rfl rfl rfl ?_
      refine g_getf (C' := RX2) (T := TX2) (N := 1) (v := .ref f_1) C 0 0 (gIn iw_X2) rfl rfl (by decide) (gMem fl_X2_13) rfl rfl (tdec DX2_at 8 rfl) rfl ?_
      refine g_iload_n (z := 1) C (tdec DX2_at 9 rfl) rfl rfl rfl ?_
      obtain ⟨r3, y4, hF⟩ := o_bind hF
      refine g_lald C 1 2 rfl rfl y4 (tdec DX2_at 10 rfl) rfl ?_
      refine g_goto (pt := 23) C (tdec DX2_at 11 rfl) (by decide) ?_
      have hr9 := o_some hF
      subst hr9
      exact g_lretR C rfl (tdec DX2_at 13 rfl)
def FX2_put (n : Nat) (f0 : Nat → Int64) (p1 : Int32) (p2 : Int64) : Option ((Nat → Int64)) :=
  if p1 < 0 then
    some f0
  else
    if (Int32.ofNat n) ≤ p1 then
      some f0
    else
      (lst n f0 p1 p2).bind fun g3 =>
      some g3
def rX2_put : Room := { frames := 0, cells := 0, slots := 0, locals := 0 }
set_option maxHeartbeats 4000000 in
set_option maxRecDepth 100000 in
theorem c_X2_put (l : Launch) (D : va_G) (cB cI cJ cZ : ClassId) (f_0 f_1 : Nat) {n : Nat} {f0 : Nat → Int64} {p1 : Int32} {p2 : Int64} {res : (Nat → Int64)} (hF : FX2_put n f0 p1 p2 = some res) : gMv l yX2_put wsX2_put rX2_put D (gT cB cI cJ cZ) [.ref f_0, .int p1, .long p2] (wLR cJ n f_0 f_1 f0) (wLR cJ n f_0 f_1 res) := by
  refine g_enter (own := RX2) (free := (fun sz => va_A (wLR cJ n f_0 f_1 f0) sz)) (Qc := (fun sz => gQv D (wLR cJ n f_0 f_1 f0) sz (wLR cJ n f_0 f_1 res))) (fun sz => va_A (wLR cJ n f_0 f_1 f0) sz) (fun sz => Or.inr rfl) rfl (by decide) rfl (Nat.le_of_ble_eq_true rfl) rfl ?_
  intro p e s m args below meth c C
  unfold FX2_put at hF
  refine g_iload_n (z := 1) C (tdec DX2_put 0 rfl) rfl rfl rfl ?_
  refine g_if_lt (pt := 20) C (tdec DX2_put 1 rfl) (by decide) rfl (fun h1 => ?_) (fun h1 => ?_)
  · have hF := o_ifp hF h1
    have hr9 := o_some hF
    subst hr9
    exact g_vret C rfl (tdec DX2_put 12 rfl)
  · have hF := o_ifn hF h1
    refine g_iload_n (z := 1) C (tdec DX2_put 2 rfl) rfl rfl rfl ?_
    refine g_aload_n (z := 0) C (tdec DX2_put 3 rfl) rfl rfl rfl ?_
    refine g_getf (C' := RX2) (T := TX2) (N := 1) (v := .ref f_1) C 0 0 (gIn iw_X2) rfl rfl (by decide) (gMem fl_X2_13) rfl rfl (tdec DX2_put 4 rfl) rfl ?_
    refine g_alen C 1 2 rfl rfl rfl (tdec DX2_put 5 rfl) rfl ?_
    refine g_icmp_ge (pt := 20) C (tdec DX2_put 6 rfl) (by decide) rfl (fun h2 => ?_) (fun h2 => ?_)
    · have hF := o_ifp hF h2
      have hr9 := o_some hF
      subst hr9
      exact g_vret C rfl (tdec DX2_put 12 rfl)
    · have hF := o_ifn hF h2
      refine g_aload_n (z := 0) C (tdec DX2_put 7 rfl) rfl rfl rfl ?_
      refine g_getf (C' := RX2) (T := TX2) (N := 1) (v := .ref f_1) C 0 0 (gIn iw_X2) rfl rfl (by decide) (gMem fl_X2_13) rfl rfl (tdec DX2_put 8 rfl) rfl ?_
      refine g_iload_n (z := 1) C (tdec DX2_put 9 rfl) rfl rfl rfl ?_
      refine g_lload_n (z := 2) C (tdec DX2_put 10 rfl) rfl rfl rfl ?_
      obtain ⟨g3, y4, hF⟩ := o_bind hF
      refine g_last (ws' := wLR cJ n f_0 f_1 g3) C 1 2 rfl rfl y4 rfl (tdec DX2_put 11 rfl) rfl ?_
      have hr9 := o_some hF
      subst hr9
      exact g_vret C rfl (tdec DX2_put 12 rfl)
def FX1_put (n : Nat) (f0 : Nat → Int32) (p1 : Int32) (p2 : Int32) : Option ((Nat → Int32)) :=
  if p1 < 0 then
    some f0
  else
    if (Int32.ofNat n) ≤ p1 then
      some f0
    else
      (ast n f0 p1 p2).bind fun g3 =>
      some g3
def rX1_put : Room := { frames := 0, cells := 0, slots := 0, locals := 0 }
set_option maxHeartbeats 4000000 in
set_option maxRecDepth 100000 in
theorem c_X1_put (l : Launch) (D : va_G) (cB cI cJ cZ : ClassId) (f_0 f_1 : Nat) {n : Nat} {f0 : Nat → Int32} {p1 : Int32} {p2 : Int32} {res : (Nat → Int32)} (hF : FX1_put n f0 p1 p2 = some res) : gMv l yX1_put wsX1_put rX1_put D (gT cB cI cJ cZ) [.ref f_0, .int p1, .int p2] (wIR cI n f_0 f_1 f0) (wIR cI n f_0 f_1 res) := by
  refine g_enter (own := RX1) (free := (fun sz => va_A (wIR cI n f_0 f_1 f0) sz)) (Qc := (fun sz => gQv D (wIR cI n f_0 f_1 f0) sz (wIR cI n f_0 f_1 res))) (fun sz => va_A (wIR cI n f_0 f_1 f0) sz) (fun sz => Or.inr rfl) rfl (by decide) rfl (Nat.le_of_ble_eq_true rfl) rfl ?_
  intro p e s m args below meth c C
  unfold FX1_put at hF
  refine g_iload_n (z := 1) C (tdec DX1_put 0 rfl) rfl rfl rfl ?_
  refine g_if_lt (pt := 20) C (tdec DX1_put 1 rfl) (by decide) rfl (fun h1 => ?_) (fun h1 => ?_)
  · have hF := o_ifp hF h1
    have hr9 := o_some hF
    subst hr9
    exact g_vret C rfl (tdec DX1_put 12 rfl)
  · have hF := o_ifn hF h1
    refine g_iload_n (z := 1) C (tdec DX1_put 2 rfl) rfl rfl rfl ?_
    refine g_aload_n (z := 0) C (tdec DX1_put 3 rfl) rfl rfl rfl ?_
    refine g_getf (C' := RX1) (T := TX1) (N := 1) (v := .ref f_1) C 0 0 (gIn iw_X1) rfl rfl (by decide) (gMem fl_X1_15) rfl rfl (tdec DX1_put 4 rfl) rfl ?_
    refine g_alen C 1 1 rfl rfl rfl (tdec DX1_put 5 rfl) rfl ?_
    refine g_icmp_ge (pt := 20) C (tdec DX1_put 6 rfl) (by decide) rfl (fun h2 => ?_) (fun h2 => ?_)
    · have hF := o_ifp hF h2
      have hr9 := o_some hF
      subst hr9
      exact g_vret C rfl (tdec DX1_put 12 rfl)
    · have hF := o_ifn hF h2
      refine g_aload_n (z := 0) C (tdec DX1_put 7 rfl) rfl rfl rfl ?_
      refine g_getf (C' := RX1) (T := TX1) (N := 1) (v := .ref f_1) C 0 0 (gIn iw_X1) rfl rfl (by decide) (gMem fl_X1_15) rfl rfl (tdec DX1_put 8 rfl) rfl ?_
      refine g_iload_n (z := 1) C (tdec DX1_put 9 rfl) rfl rfl rfl ?_
      refine g_iload_n (z := 2) C (tdec DX1_put 10 rfl) rfl rfl rfl ?_
      obtain ⟨g3, y4, hF⟩ := o_bind hF
      refine g_iast (ws' := wIR cI n f_0 f_1 g3) C 1 1 rfl rfl y4 rfl (tdec DX1_put 11 rfl) rfl ?_
      have hr9 := o_some hF
      subst hr9
      exact g_vret C rfl (tdec DX1_put 12 rfl)
end
section
/-! PART 11.X5: walks, printed by wip/whole/walk.py -/
def FX5_at (sb0 : SB) (p1 : Int32) : Option (Int32) :=
  if p1 < 0 then
    some (-1)
  else
    if (SB_len sb0) ≤ p1 then
      some (-1)
    else
      if (Int32.ofNat 9766) ≤ p1 then
        some (-1)
      else
        (ald 9766 (SB_cells sb0) p1).bind fun r4 =>
        some (r4 &&& 255)
def rX5_at : Room := { frames := 0, cells := 0, slots := 0, locals := 0 }
set_option maxHeartbeats 4000000 in
set_option maxRecDepth 100000 in
theorem c_X5_at (l : Launch) (D : va_G) (cB cI cJ cZ : ClassId) (sb_0 sb_1 : Nat) {sb0 : SB} {p1 : Int32} {res : Int32} (hF : FX5_at sb0 p1 = some res) : gRi l yX5_at wsX5_at rX5_at D (gT cB cI cJ cZ) [.ref sb_0, .int p1] (wSB cB sb_0 sb_1 sb0) res := by
  refine g_enter (own := RX5) (free := (fun _ _ => False)) (Qc := (fun sz => gRQi res)) (fun _ _ => True) (fun sz => Or.inl rfl) rfl (by decide) rfl (Nat.le_of_ble_eq_true rfl) rfl ?_
  intro p e s m args below meth c C
  unfold FX5_at at hF
  refine g_iload_n (z := 1) C (tdec DX5_at 0 rfl) rfl rfl rfl ?_
  refine g_if_lt (pt := 34) C (tdec DX5_at 1 rfl) (by decide) rfl (fun h1 => ?_) (fun h1 => ?_)
  · have hF := o_ifp hF h1
    refine g_iconst (v := (-1)) C (tdec DX5_at 18 rfl) (by decide) rfl ?_
    have hr9 := o_some hF
    subst hr9
    exact g_iretR C rfl (tdec DX5_at 19 rfl)
  · have hF := o_ifn hF h1
    refine g_iload_n (z := 1) C (tdec DX5_at 2 rfl) rfl rfl rfl ?_
    refine g_aload_n (z := 0) C (tdec DX5_at 3 rfl) rfl rfl rfl ?_
    refine g_getf (C' := RX5) (T := TX5) (N := 2) (v := .int (SB_len sb0)) C 0 1 (gIn iw_X5) rfl rfl (by decide) (gMem fl_X5_15) rfl rfl (tdec DX5_at 4 rfl) rfl ?_
    refine g_icmp_ge (pt := 34) C (tdec DX5_at 5 rfl) (by decide) rfl (fun h2 => ?_) (fun h2 => ?_)
    · have hF := o_ifp hF h2
      refine g_iconst (v := (-1)) C (tdec DX5_at 18 rfl) (by decide) rfl ?_
      have hr9 := o_some hF
      subst hr9
      exact g_iretR C rfl (tdec DX5_at 19 rfl)
    · have hF := o_ifn hF h2
      refine g_iload_n (z := 1) C (tdec DX5_at 6 rfl) rfl rfl rfl ?_
      refine g_aload_n (z := 0) C (tdec DX5_at 7 rfl) rfl rfl rfl ?_
      refine g_getf (C' := RX5) (T := TX5) (N := 2) (v := .ref sb_1) C 0 0 (gIn iw_X5) rfl rfl (by decide) (gMem fl_X5_9) rfl rfl (tdec DX5_at 8 rfl) rfl ?_
      refine g_alen C 1 0 rfl rfl rfl (tdec DX5_at 9 rfl) rfl ?_
      refine g_icmp_ge (pt := 34) C (tdec DX5_at 10 rfl) (by decide) rfl (fun h3 => ?_) (fun h3 => ?_)
      · have hF := o_ifp hF h3
        refine g_iconst (v := (-1)) C (tdec DX5_at 18 rfl) (by decide) rfl ?_
        have hr9 := o_some hF
        subst hr9
        exact g_iretR C rfl (tdec DX5_at 19 rfl)
      · have hF := o_ifn hF h3
        refine g_aload_n (z := 0) C (tdec DX5_at 11 rfl) rfl rfl rfl ?_
        refine g_getf (C' := RX5) (T := TX5) (N := 2) (v := .ref sb_1) C 0 0 (gIn iw_X5) rfl rfl (by decide) (gMem fl_X5_9) rfl rfl (tdec DX5_at 12 rfl) rfl ?_
        refine g_iload_n (z := 1) C (tdec DX5_at 13 rfl) rfl rfl rfl ?_
        obtain ⟨r4, y5, hF⟩ := o_bind hF
        refine g_bald C 1 0 rfl rfl y5 (tdec DX5_at 14 rfl) rfl ?_
        refine g_sipush (v := 255) C (tdec DX5_at 15 rfl) (by decide) rfl ?_
        refine g_iand C (tdec DX5_at 16 rfl) rfl ?_
        refine g_goto (pt := 35) C (tdec DX5_at 17 rfl) (by decide) ?_
        have hr9 := o_some hF
        subst hr9
        exact g_iretR C rfl (tdec DX5_at 19 rfl)
def FX5_sumOf_L8 (sb0 : SB) (v1 : Int32) (v2 : Int32) (k9 : Int32 → Int32 → Int32 → Option (Int64)) : Nat → Int32 → Int32 → Int32 → Option (Int64)
  | 0, _, _, _ => none
  | n9 + 1, v3, v4, v5 =>
    if v2 ≤ v5 then
      k9 v3 v4 v5
    else
      (FX5_at sb0 v5).bind fun r2 =>
      FX5_sumOf_L8 sb0 v1 v2 k9 n9 (v3 + r2) (v4 + (v3 + r2)) (v5 + 1)
def FX5_sumOf (sb0 : SB) (p1 : Int32) (p2 : Int32) : Option (Int64) :=
  FX5_sumOf_L8 sb0 p1 p2 (fun w3_4 w4_4 w5_4 =>
    some ((((w4_4 : Int32).toInt64) <<< ((32 : Int32).toInt64 &&& 63)) ||| (((w3_4 : Int32).toInt64) &&& 4294967295))) 100000 1 0 p1
def rX5_sumOf : Room := { frames := 1, cells := 0, slots := 0, locals := 21 }
set_option maxHeartbeats 4000000 in
set_option maxRecDepth 100000 in
theorem c_FX5_sumOf_L8 {p : Program} {l : Launch} {e : Env} {s : State} {m : MethodId} {args : Array Value} {below : List Frame} {meth : Method} {c : Code} {D : va_G} {cB cI cJ cZ : ClassId} {sb_0 sb_1 : Nat} {sb0 : SB} {res : Int64} (C : gC p s m args meth c cX5_sumOf 6 RX5 wsX5_sumOf D (gT cB cI cJ cZ) (some .long) (fun _ => False)) {v1 : Int32} {v2 : Int32} {k9 : Int32 → Int32 → Int32 → Option (Int64)} (hk9 : ∀ (v3 : Int32) (v4 : Int32) (v5 : Int32), k9 v3 v4 v5 = some res → gG p l e (headSpec wsX5_sumOf rX5_sumOf).room s m args below meth c 0 0 D (fun _ => True) (fun _ => False) 6 (MQ below (gRQl res) args s 0 0 (fun _ => False)) (wSB cB sb_0 sb_1 sb0) 35 [(0, .ref sb_0), (1, .int v1), (2, .int v2), (3, .int v3), (4, .int v4), (5, .int v5)] []) :
    ∀ (n9 : Nat) (v3 : Int32) (v4 : Int32) (v5 : Int32), FX5_sumOf_L8 sb0 v1 v2 k9 n9 v3 v4 v5 = some res → gG p l e (headSpec wsX5_sumOf rX5_sumOf).room s m args below meth c 0 0 D (fun _ => True) (fun _ => False) 6 (MQ below (gRQl res) args s 0 0 (fun _ => False)) (wSB cB sb_0 sb_1 sb0) 8 [(0, .ref sb_0), (1, .int v1), (2, .int v2), (3, .int v3), (4, .int v4), (5, .int v5)] [] := by
  intro n9
  induction n9 with
  | zero =>
    intro v3 v4 v5 hF
    exact absurd hF (by simp [FX5_sumOf_L8])
  | succ n9 ih9 =>
    intro v3 v4 v5 hF
    rw [FX5_sumOf_L8] at hF
    refine g_iload (z := 5) C (tdec DX5_sumOf 6 rfl) rfl rfl ?_
    refine g_iload_n (z := 2) C (tdec DX5_sumOf 7 rfl) rfl rfl rfl ?_
    refine g_icmp_ge (pt := 35) C (tdec DX5_sumOf 8 rfl) (by decide) rfl (fun h1 => ?_) (fun h1 => ?_)
    · have hF := o_ifp hF h1
      refine g_sub (L' := [(0, .ref sb_0), (1, .int v1), (2, .int v2), (3, .int v3), (4, .int v4), (5, .int v5)]) [0, 1, 2, 3, 4, 5] rfl ?_
      exact hk9 _ _ _ hF
    · have hF := o_ifn hF h1
      refine g_iload_n (z := 3) C (tdec DX5_sumOf 9 rfl) rfl rfl rfl ?_
      refine g_aload_n (z := 0) C (tdec DX5_sumOf 10 rfl) rfl rfl rfl ?_
      refine g_iload (z := 5) C (tdec DX5_sumOf 11 rfl) rfl rfl ?_
      obtain ⟨r2, y3, hF⟩ := o_bind hF
      refine g_callViR (q0 := 0) C (c_X5_at l D cB cI cJ cZ sb_0 sb_1 y3) rfl rfl (gIV ml_X5_37 im_X5_at sl_X5_at in_X5 cd_X5_at) rfl eX5_at rfl ⟨rfl, rfl⟩ ⟨Nat.le_of_ble_eq_true rfl, Nat.le_of_ble_eq_true rfl⟩ rfl [0, 1] rfl rfl rfl (Nat.le_of_ble_eq_true rfl) (tdec DX5_sumOf 12 rfl) rfl ?_
      refine g_iadd C (tdec DX5_sumOf 13 rfl) rfl ?_
      refine g_istore_n (L' := [(3, .int (v3 + r2)), (0, .ref sb_0), (1, .int v1), (2, .int v2), (4, .int v4), (5, .int v5)]) C (tdec DX5_sumOf 14 rfl) rfl (by decide) rfl rfl ?_
      refine g_iload (z := 4) C (tdec DX5_sumOf 15 rfl) rfl rfl ?_
      refine g_iload_n (z := 0) C (tdec DX5_sumOf 16 rfl) rfl rfl rfl ?_
      refine g_iadd C (tdec DX5_sumOf 17 rfl) rfl ?_
      refine g_istore (L' := [(4, .int (v4 + (v3 + r2))), (3, .int (v3 + r2)), (0, .ref sb_0), (1, .int v1), (2, .int v2), (5, .int v5)]) C (tdec DX5_sumOf 18 rfl) (by decide) rfl rfl ?_
      refine g_iinc (z := 5) (v := (v5 + 1)) (L' := [(5, .int (v5 + 1)), (4, .int (v4 + (v3 + r2))), (3, .int (v3 + r2)), (0, .ref sb_0), (1, .int v1), (2, .int v2)]) C (tdec DX5_sumOf 19 rfl) rfl rfl (by decide) rfl rfl ?_
      refine g_goto (pt := 8) C (tdec DX5_sumOf 20 rfl) (by decide) ?_
      refine g_sub (L' := [(0, .ref sb_0), (1, .int v1), (2, .int v2), (3, .int (v3 + r2)), (4, .int (v4 + (v3 + r2))), (5, .int (v5 + 1))]) [3, 4, 5, 2, 1, 0] rfl ?_
      exact ih9 _ _ _ hF
set_option maxHeartbeats 4000000 in
set_option maxRecDepth 100000 in
theorem c_X5_sumOf (l : Launch) (D : va_G) (cB cI cJ cZ : ClassId) (sb_0 sb_1 : Nat) {sb0 : SB} {p1 : Int32} {p2 : Int32} {res : Int64} (hF : FX5_sumOf sb0 p1 p2 = some res) : gRl l yX5_sumOf wsX5_sumOf rX5_sumOf D (gT cB cI cJ cZ) [.ref sb_0, .int p1, .int p2] (wSB cB sb_0 sb_1 sb0) res := by
  refine g_enter (own := RX5) (free := (fun _ _ => False)) (Qc := (fun sz => gRQl res)) (fun _ _ => True) (fun sz => Or.inl rfl) rfl (by decide) rfl (Nat.le_of_ble_eq_true rfl) rfl ?_
  intro p e s m args below meth c C
  unfold FX5_sumOf at hF
  refine g_iconst (v := 1) C (tdec DX5_sumOf 0 rfl) (by decide) rfl ?_
  refine g_istore_n (L' := [(3, .int 1), (0, .ref sb_0), (1, .int p1), (2, .int p2)]) C (tdec DX5_sumOf 1 rfl) rfl (by decide) rfl rfl ?_
  refine g_iconst (v := 0) C (tdec DX5_sumOf 2 rfl) (by decide) rfl ?_
  refine g_istore (L' := [(4, .int 0), (3, .int 1), (0, .ref sb_0), (1, .int p1), (2, .int p2)]) C (tdec DX5_sumOf 3 rfl) (by decide) rfl rfl ?_
  refine g_iload_n (z := 3) C (tdec DX5_sumOf 4 rfl) rfl rfl rfl ?_
  refine g_istore (L' := [(5, .int p1), (4, .int 0), (3, .int 1), (0, .ref sb_0), (1, .int p1), (2, .int p2)]) C (tdec DX5_sumOf 5 rfl) (by decide) rfl rfl ?_
  refine g_sub (L' := [(0, .ref sb_0), (1, .int p1), (2, .int p2), (3, .int 1), (4, .int 0), (5, .int p1)]) [3, 4, 5, 2, 1, 0] rfl ?_
  refine c_FX5_sumOf_L8 C (fun w3_4 w4_4 w5_4 hF => ?_) 100000 _ _ _ hF
  refine g_iload (z := 4) C (tdec DX5_sumOf 21 rfl) rfl rfl ?_
  refine g_i2l C (tdec DX5_sumOf 22 rfl) rfl ?_
  refine g_bipush (v := 32) C (tdec DX5_sumOf 23 rfl) (by decide) rfl ?_
  refine g_lshl C (tdec DX5_sumOf 24 rfl) rfl ?_
  refine g_iload_n (z := 3) C (tdec DX5_sumOf 25 rfl) rfl rfl rfl ?_
  refine g_i2l C (tdec DX5_sumOf 26 rfl) rfl ?_
  refine g_ldc2 C (gMem kl_X5_44) (tdec DX5_sumOf 27 rfl) rfl ?_
  refine g_land C (tdec DX5_sumOf 28 rfl) rfl ?_
  refine g_lor C (tdec DX5_sumOf 29 rfl) rfl ?_
  have hr9 := o_some hF
  subst hr9
  exact g_lretR C rfl (tdec DX5_sumOf 30 rfl)
def FX5_numberAt_L5 (sb0 : SB) (v1 : Int32) (v2 : Int32) (k9 : Int64 → Int32 → Option (Int64)) : Nat → Int64 → Int32 → Option (Int64)
  | 0, _, _ => none
  | n9 + 1, v3, v5 =>
    if v2 ≤ v5 then
      k9 v3 v5
    else
      (FX5_at sb0 (v1 + v5)).bind fun r2 =>
      FX5_numberAt_L5 sb0 v1 v2 k9 n9 ((v3 <<< ((8 : Int32).toInt64 &&& 63)) ||| (((r2 &&& 255) : Int32).toInt64)) (v5 + 1)
def FX5_numberAt (sb0 : SB) (p1 : Int32) (p2 : Int32) : Option (Int64) :=
  FX5_numberAt_L5 sb0 p1 p2 (fun w3_4 w5_4 =>
    some w3_4) 100000 0 0
def rX5_numberAt : Room := { frames := 1, cells := 0, slots := 0, locals := 21 }
set_option maxHeartbeats 4000000 in
set_option maxRecDepth 100000 in
theorem c_FX5_numberAt_L5 {p : Program} {l : Launch} {e : Env} {s : State} {m : MethodId} {args : Array Value} {below : List Frame} {meth : Method} {c : Code} {D : va_G} {cB cI cJ cZ : ClassId} {sb_0 sb_1 : Nat} {sb0 : SB} {res : Int64} (C : gC p s m args meth c cX5_numberAt 6 RX5 wsX5_numberAt D (gT cB cI cJ cZ) (some .long) (fun _ => False)) {v1 : Int32} {v2 : Int32} {k9 : Int64 → Int32 → Option (Int64)} (hk9 : ∀ (v3 : Int64) (v5 : Int32), k9 v3 v5 = some res → gG p l e (headSpec wsX5_numberAt rX5_numberAt).room s m args below meth c 0 0 D (fun _ => True) (fun _ => False) 6 (MQ below (gRQl res) args s 0 0 (fun _ => False)) (wSB cB sb_0 sb_1 sb0) 36 [(0, .ref sb_0), (1, .int v1), (2, .int v2), (3, .long v3), (5, .int v5)] []) :
    ∀ (n9 : Nat) (v3 : Int64) (v5 : Int32), FX5_numberAt_L5 sb0 v1 v2 k9 n9 v3 v5 = some res → gG p l e (headSpec wsX5_numberAt rX5_numberAt).room s m args below meth c 0 0 D (fun _ => True) (fun _ => False) 6 (MQ below (gRQl res) args s 0 0 (fun _ => False)) (wSB cB sb_0 sb_1 sb0) 5 [(0, .ref sb_0), (1, .int v1), (2, .int v2), (3, .long v3), (5, .int v5)] [] := by
  intro n9
  induction n9 with
  | zero =>
    intro v3 v5 hF
    exact absurd hF (by simp [FX5_numberAt_L5])
  | succ n9 ih9 =>
    intro v3 v5 hF
    rw [FX5_numberAt_L5] at hF
    refine g_iload (z := 4) C (tdec DX5_numberAt 4 rfl) rfl rfl ?_
    refine g_iload_n (z := 2) C (tdec DX5_numberAt 5 rfl) rfl rfl rfl ?_
    refine g_icmp_ge (pt := 36) C (tdec DX5_numberAt 6 rfl) (by decide) rfl (fun h1 => ?_) (fun h1 => ?_)
    · have hF := o_ifp hF h1
      refine g_sub (L' := [(0, .ref sb_0), (1, .int v1), (2, .int v2), (3, .long v3), (5, .int v5)]) [0, 1, 2, 3, 4] rfl ?_
      exact hk9 _ _ hF
    · have hF := o_ifn hF h1
      refine g_lload_n (z := 3) C (tdec DX5_numberAt 7 rfl) rfl rfl rfl ?_
      refine g_bipush (v := 8) C (tdec DX5_numberAt 8 rfl) (by decide) rfl ?_
      refine g_lshl C (tdec DX5_numberAt 9 rfl) rfl ?_
      refine g_aload_n (z := 0) C (tdec DX5_numberAt 10 rfl) rfl rfl rfl ?_
      refine g_iload_n (z := 1) C (tdec DX5_numberAt 11 rfl) rfl rfl rfl ?_
      refine g_iload (z := 4) C (tdec DX5_numberAt 12 rfl) rfl rfl ?_
      refine g_iadd C (tdec DX5_numberAt 13 rfl) rfl ?_
      obtain ⟨r2, y3, hF⟩ := o_bind hF
      refine g_callViR (q0 := 0) C (c_X5_at l D cB cI cJ cZ sb_0 sb_1 y3) rfl rfl (gIV ml_X5_37 im_X5_at sl_X5_at in_X5 cd_X5_at) rfl eX5_at rfl ⟨rfl, rfl⟩ ⟨Nat.le_of_ble_eq_true rfl, Nat.le_of_ble_eq_true rfl⟩ rfl [0, 1] rfl rfl rfl (Nat.le_of_ble_eq_true rfl) (tdec DX5_numberAt 14 rfl) rfl ?_
      refine g_sipush (v := 255) C (tdec DX5_numberAt 15 rfl) (by decide) rfl ?_
      refine g_iand C (tdec DX5_numberAt 16 rfl) rfl ?_
      refine g_i2l C (tdec DX5_numberAt 17 rfl) rfl ?_
      refine g_lor C (tdec DX5_numberAt 18 rfl) rfl ?_
      refine g_lstore_n (L' := [(3, .long ((v3 <<< ((8 : Int32).toInt64 &&& 63)) ||| (((r2 &&& 255) : Int32).toInt64))), (0, .ref sb_0), (1, .int v1), (2, .int v2), (5, .int v5)]) C (tdec DX5_numberAt 19 rfl) rfl (by decide) rfl rfl ?_
      refine g_iinc (z := 4) (v := (v5 + 1)) (L' := [(5, .int (v5 + 1)), (3, .long ((v3 <<< ((8 : Int32).toInt64 &&& 63)) ||| (((r2 &&& 255) : Int32).toInt64))), (0, .ref sb_0), (1, .int v1), (2, .int v2)]) C (tdec DX5_numberAt 20 rfl) rfl rfl (by decide) rfl rfl ?_
      refine g_goto (pt := 5) C (tdec DX5_numberAt 21 rfl) (by decide) ?_
      refine g_sub (L' := [(0, .ref sb_0), (1, .int v1), (2, .int v2), (3, .long ((v3 <<< ((8 : Int32).toInt64 &&& 63)) ||| (((r2 &&& 255) : Int32).toInt64))), (5, .int (v5 + 1))]) [2, 3, 4, 1, 0] rfl ?_
      exact ih9 _ _ hF
set_option maxHeartbeats 4000000 in
set_option maxRecDepth 100000 in
theorem c_X5_numberAt (l : Launch) (D : va_G) (cB cI cJ cZ : ClassId) (sb_0 sb_1 : Nat) {sb0 : SB} {p1 : Int32} {p2 : Int32} {res : Int64} (hF : FX5_numberAt sb0 p1 p2 = some res) : gRl l yX5_numberAt wsX5_numberAt rX5_numberAt D (gT cB cI cJ cZ) [.ref sb_0, .int p1, .int p2] (wSB cB sb_0 sb_1 sb0) res := by
  refine g_enter (own := RX5) (free := (fun _ _ => False)) (Qc := (fun sz => gRQl res)) (fun _ _ => True) (fun sz => Or.inl rfl) rfl (by decide) rfl (Nat.le_of_ble_eq_true rfl) rfl ?_
  intro p e s m args below meth c C
  unfold FX5_numberAt at hF
  refine g_lconst (v := 0) C (tdec DX5_numberAt 0 rfl) (by decide) rfl ?_
  refine g_lstore_n (L' := [(3, .long 0), (0, .ref sb_0), (1, .int p1), (2, .int p2)]) C (tdec DX5_numberAt 1 rfl) rfl (by decide) rfl rfl ?_
  refine g_iconst (v := 0) C (tdec DX5_numberAt 2 rfl) (by decide) rfl ?_
  refine g_istore (L' := [(5, .int 0), (3, .long 0), (0, .ref sb_0), (1, .int p1), (2, .int p2)]) C (tdec DX5_numberAt 3 rfl) (by decide) rfl rfl ?_
  refine g_sub (L' := [(0, .ref sb_0), (1, .int p1), (2, .int p2), (3, .long 0), (5, .int 0)]) [2, 3, 4, 1, 0] rfl ?_
  refine c_FX5_numberAt_L5 C (fun w3_4 w5_4 hF => ?_) 100000 _ _ hF
  refine g_lload_n (z := 3) C (tdec DX5_numberAt 22 rfl) rfl rfl rfl ?_
  have hr9 := o_some hF
  subst hr9
  exact g_lretR C rfl (tdec DX5_numberAt 23 rfl)
def FX5_isWhole (sb0 : SB) (p1 : Int32) (p2 : Int32) : Option (Int32) :=
  if p2 < 8 then
    some 0
  else
    if (p1 + p2) ≤ (SB_len sb0) then
      (FX5_sumOf sb0 p1 ((p1 + p2) - 8)).bind fun r3 =>
      (FX5_numberAt sb0 ((p1 + p2) - 8) 8).bind fun r5 =>
      if (lg_cmp r3 r5) = 0 then
        some 1
      else
        some 0
    else
      some 0
def rX5_isWhole : Room := { frames := 2, cells := 0, slots := 0, locals := 46 }
set_option maxHeartbeats 4000000 in
set_option maxRecDepth 100000 in
theorem c_X5_isWhole (l : Launch) (D : va_G) (cB cI cJ cZ : ClassId) (sb_0 sb_1 : Nat) {sb0 : SB} {p1 : Int32} {p2 : Int32} {res : Int32} (hF : FX5_isWhole sb0 p1 p2 = some res) : gRi l yX5_isWhole wsX5_isWhole rX5_isWhole D (gT cB cI cJ cZ) [.ref sb_0, .int p1, .int p2] (wSB cB sb_0 sb_1 sb0) res := by
  refine g_enter (own := RX5) (free := (fun _ _ => False)) (Qc := (fun sz => gRQi res)) (fun _ _ => True) (fun sz => Or.inl rfl) rfl (by decide) rfl (Nat.le_of_ble_eq_true rfl) rfl ?_
  intro p e s m args below meth c C
  unfold FX5_isWhole at hF
  refine g_iload_n (z := 2) C (tdec DX5_isWhole 0 rfl) rfl rfl rfl ?_
  refine g_bipush (v := 8) C (tdec DX5_isWhole 1 rfl) (by decide) rfl ?_
  refine g_icmp_lt (pt := 16) C (tdec DX5_isWhole 2 rfl) (by decide) rfl (fun h1 => ?_) (fun h1 => ?_)
  · have hF := o_ifp hF h1
    refine g_iconst (v := 0) C (tdec DX5_isWhole 9 rfl) (by decide) rfl ?_
    have hr9 := o_some hF
    subst hr9
    exact g_zretR C rfl rfl (tdec DX5_isWhole 10 rfl)
  · have hF := o_ifn hF h1
    refine g_iload_n (z := 1) C (tdec DX5_isWhole 3 rfl) rfl rfl rfl ?_
    refine g_iload_n (z := 2) C (tdec DX5_isWhole 4 rfl) rfl rfl rfl ?_
    refine g_iadd C (tdec DX5_isWhole 5 rfl) rfl ?_
    refine g_aload_n (z := 0) C (tdec DX5_isWhole 6 rfl) rfl rfl rfl ?_
    refine g_getf (C' := RX5) (T := TX5) (N := 2) (v := .int (SB_len sb0)) C 0 1 (gIn iw_X5) rfl rfl (by decide) (gMem fl_X5_15) rfl rfl (tdec DX5_isWhole 7 rfl) rfl ?_
    refine g_icmp_le (pt := 18) C (tdec DX5_isWhole 8 rfl) (by decide) rfl (fun h2 => ?_) (fun h2 => ?_)
    · have hF := o_ifp hF h2
      refine g_iload_n (z := 1) C (tdec DX5_isWhole 11 rfl) rfl rfl rfl ?_
      refine g_iload_n (z := 2) C (tdec DX5_isWhole 12 rfl) rfl rfl rfl ?_
      refine g_iadd C (tdec DX5_isWhole 13 rfl) rfl ?_
      refine g_bipush (v := 8) C (tdec DX5_isWhole 14 rfl) (by decide) rfl ?_
      refine g_isub C (tdec DX5_isWhole 15 rfl) rfl ?_
      refine g_istore_n (L' := [(3, .int ((p1 + p2) - 8)), (0, .ref sb_0), (1, .int p1), (2, .int p2)]) C (tdec DX5_isWhole 16 rfl) rfl (by decide) rfl rfl ?_
      refine g_aload_n (z := 1) C (tdec DX5_isWhole 17 rfl) rfl rfl rfl ?_
      refine g_iload_n (z := 2) C (tdec DX5_isWhole 18 rfl) rfl rfl rfl ?_
      refine g_iload_n (z := 0) C (tdec DX5_isWhole 19 rfl) rfl rfl rfl ?_
      obtain ⟨r3, y4, hF⟩ := o_bind hF
      refine g_callVlR (q0 := 0) C (c_X5_sumOf l D cB cI cJ cZ sb_0 sb_1 y4) rfl rfl (gIV ml_X5_23 im_X5_sumOf sl_X5_sumOf in_X5 cd_X5_sumOf) rfl eX5_sumOf rfl ⟨rfl, rfl⟩ ⟨Nat.le_of_ble_eq_true rfl, Nat.le_of_ble_eq_true rfl⟩ rfl [0, 1] rfl rfl rfl (Nat.le_of_ble_eq_true rfl) (tdec DX5_isWhole 20 rfl) rfl ?_
      refine g_aload_n (z := 1) C (tdec DX5_isWhole 21 rfl) rfl rfl rfl ?_
      refine g_iload_n (z := 0) C (tdec DX5_isWhole 22 rfl) rfl rfl rfl ?_
      refine g_bipush (v := 8) C (tdec DX5_isWhole 23 rfl) (by decide) rfl ?_
      obtain ⟨r5, y6, hF⟩ := o_bind hF
      refine g_callVlR (q0 := 0) C (c_X5_numberAt l D cB cI cJ cZ sb_0 sb_1 y6) rfl rfl (gIV ml_X5_41 im_X5_numberAt sl_X5_numberAt in_X5 cd_X5_numberAt) rfl eX5_numberAt rfl ⟨rfl, rfl⟩ ⟨Nat.le_of_ble_eq_true rfl, Nat.le_of_ble_eq_true rfl⟩ rfl [0, 1] rfl rfl rfl (Nat.le_of_ble_eq_true rfl) (tdec DX5_isWhole 24 rfl) rfl ?_
      refine g_lcmp C (tdec DX5_isWhole 25 rfl) rfl ?_
      refine g_if_ne (pt := 46) C (tdec DX5_isWhole 26 rfl) (by decide) rfl (fun h7 => ?_) (fun h7 => ?_)
      · have hF := o_ifn hF h7
        refine g_iconst (v := 0) C (tdec DX5_isWhole 29 rfl) (by decide) rfl ?_
        have hr9 := o_some hF
        subst hr9
        exact g_zretR C rfl rfl (tdec DX5_isWhole 30 rfl)
      · have hF := o_ifp hF h7
        refine g_iconst (v := 1) C (tdec DX5_isWhole 27 rfl) (by decide) rfl ?_
        refine g_goto (pt := 47) C (tdec DX5_isWhole 28 rfl) (by decide) ?_
        have hr9 := o_some hF
        subst hr9
        exact g_zretR C rfl rfl (tdec DX5_isWhole 30 rfl)
    · have hF := o_ifn hF h2
      refine g_iconst (v := 0) C (tdec DX5_isWhole 9 rfl) (by decide) rfl ?_
      have hr9 := o_some hF
      subst hr9
      exact g_zretR C rfl rfl (tdec DX5_isWhole 10 rfl)
def FX5_length (sb0 : SB) : Option (Int32) :=
  some (SB_len sb0)
def rX5_length : Room := { frames := 0, cells := 0, slots := 0, locals := 0 }
set_option maxHeartbeats 4000000 in
set_option maxRecDepth 100000 in
theorem c_X5_length (l : Launch) (D : va_G) (cB cI cJ cZ : ClassId) (sb_0 sb_1 : Nat) {sb0 : SB} {res : Int32} (hF : FX5_length sb0 = some res) : gRi l yX5_length wsX5_length rX5_length D (gT cB cI cJ cZ) [.ref sb_0] (wSB cB sb_0 sb_1 sb0) res := by
  refine g_enter (own := RX5) (free := (fun _ _ => False)) (Qc := (fun sz => gRQi res)) (fun _ _ => True) (fun sz => Or.inl rfl) rfl (by decide) rfl (Nat.le_of_ble_eq_true rfl) rfl ?_
  intro p e s m args below meth c C
  unfold FX5_length at hF
  refine g_aload_n (z := 0) C (tdec DX5_length 0 rfl) rfl rfl rfl ?_
  refine g_getf (C' := RX5) (T := TX5) (N := 2) (v := .int (SB_len sb0)) C 0 1 (gIn iw_X5) rfl rfl (by decide) (gMem fl_X5_15) rfl rfl (tdec DX5_length 1 rfl) rfl ?_
  have hr9 := o_some hF
  subst hr9
  exact g_iretR C rfl (tdec DX5_length 2 rfl)
def FX5_shorten (sb0 : SB) (p1 : Int32) : Option (SB) :=
  some (SB_setlen sb0 p1)
def rX5_shorten : Room := { frames := 0, cells := 0, slots := 0, locals := 0 }
set_option maxHeartbeats 4000000 in
set_option maxRecDepth 100000 in
theorem c_X5_shorten (l : Launch) (D : va_G) (cB cI cJ cZ : ClassId) (sb_0 sb_1 : Nat) {sb0 : SB} {p1 : Int32} {res : SB} (hF : FX5_shorten sb0 p1 = some res) : gMv l yX5_shorten wsX5_shorten rX5_shorten D (gT cB cI cJ cZ) [.ref sb_0, .int p1] (wSB cB sb_0 sb_1 sb0) (wSB cB sb_0 sb_1 res) := by
  refine g_enter (own := RX5) (free := (fun sz => va_A (wSB cB sb_0 sb_1 sb0) sz)) (Qc := (fun sz => gQv D (wSB cB sb_0 sb_1 sb0) sz (wSB cB sb_0 sb_1 res))) (fun sz => va_A (wSB cB sb_0 sb_1 sb0) sz) (fun sz => Or.inr rfl) rfl (by decide) rfl (Nat.le_of_ble_eq_true rfl) rfl ?_
  intro p e s m args below meth c C
  unfold FX5_shorten at hF
  refine g_aload_n (z := 0) C (tdec DX5_shorten 0 rfl) rfl rfl rfl ?_
  refine g_iload_n (z := 1) C (tdec DX5_shorten 1 rfl) rfl rfl rfl ?_
  refine g_putf (C' := RX5) (T := TX5) (N := 2) (v := .int p1) (ws' := wSB cB sb_0 sb_1 (SB_setlen sb0 p1)) C 0 1 tyX5 tyX5_ok nmX5 (gIn iw_X5) rfl rfl (by decide) (gMem fl_X5_15) rfl rfl (tyX5_ok 1 (by decide)) rfl rfl (Nat.le_of_ble_eq_true rfl) rfl (tdec DX5_shorten 2 rfl) rfl ?_
  have hr9 := o_some hF
  subst hr9
  exact g_vret C rfl (tdec DX5_shorten 3 rfl)
def FX5_put (sb0 : SB) (p1 : Int32) (p2 : Int32) : Option (SB) :=
  if p1 < 0 then
    some sb0
  else
    if (Int32.ofNat 9766) ≤ p1 then
      some sb0
    else
      (ast 9766 (SB_cells sb0) p1 (vp_nar .byte ((p2 : Int32).toInt8.toInt32))).bind fun g3 =>
      some (SB_setcells sb0 g3)
def rX5_put : Room := { frames := 0, cells := 0, slots := 0, locals := 0 }
set_option maxHeartbeats 4000000 in
set_option maxRecDepth 100000 in
theorem c_X5_put (l : Launch) (D : va_G) (cB cI cJ cZ : ClassId) (sb_0 sb_1 : Nat) {sb0 : SB} {p1 : Int32} {p2 : Int32} {res : SB} (hF : FX5_put sb0 p1 p2 = some res) : gMv l yX5_put wsX5_put rX5_put D (gT cB cI cJ cZ) [.ref sb_0, .int p1, .int p2] (wSB cB sb_0 sb_1 sb0) (wSB cB sb_0 sb_1 res) := by
  refine g_enter (own := RX5) (free := (fun sz => va_A (wSB cB sb_0 sb_1 sb0) sz)) (Qc := (fun sz => gQv D (wSB cB sb_0 sb_1 sb0) sz (wSB cB sb_0 sb_1 res))) (fun sz => va_A (wSB cB sb_0 sb_1 sb0) sz) (fun sz => Or.inr rfl) rfl (by decide) rfl (Nat.le_of_ble_eq_true rfl) rfl ?_
  intro p e s m args below meth c C
  unfold FX5_put at hF
  refine g_iload_n (z := 1) C (tdec DX5_put 0 rfl) rfl rfl rfl ?_
  refine g_if_lt (pt := 21) C (tdec DX5_put 1 rfl) (by decide) rfl (fun h1 => ?_) (fun h1 => ?_)
  · have hF := o_ifp hF h1
    have hr9 := o_some hF
    subst hr9
    exact g_vret C rfl (tdec DX5_put 13 rfl)
  · have hF := o_ifn hF h1
    refine g_iload_n (z := 1) C (tdec DX5_put 2 rfl) rfl rfl rfl ?_
    refine g_aload_n (z := 0) C (tdec DX5_put 3 rfl) rfl rfl rfl ?_
    refine g_getf (C' := RX5) (T := TX5) (N := 2) (v := .ref sb_1) C 0 0 (gIn iw_X5) rfl rfl (by decide) (gMem fl_X5_9) rfl rfl (tdec DX5_put 4 rfl) rfl ?_
    refine g_alen C 1 0 rfl rfl rfl (tdec DX5_put 5 rfl) rfl ?_
    refine g_icmp_ge (pt := 21) C (tdec DX5_put 6 rfl) (by decide) rfl (fun h2 => ?_) (fun h2 => ?_)
    · have hF := o_ifp hF h2
      have hr9 := o_some hF
      subst hr9
      exact g_vret C rfl (tdec DX5_put 13 rfl)
    · have hF := o_ifn hF h2
      refine g_aload_n (z := 0) C (tdec DX5_put 7 rfl) rfl rfl rfl ?_
      refine g_getf (C' := RX5) (T := TX5) (N := 2) (v := .ref sb_1) C 0 0 (gIn iw_X5) rfl rfl (by decide) (gMem fl_X5_9) rfl rfl (tdec DX5_put 8 rfl) rfl ?_
      refine g_iload_n (z := 1) C (tdec DX5_put 9 rfl) rfl rfl rfl ?_
      refine g_iload_n (z := 2) C (tdec DX5_put 10 rfl) rfl rfl rfl ?_
      refine g_i2b C (tdec DX5_put 11 rfl) rfl ?_
      obtain ⟨g3, y4, hF⟩ := o_bind hF
      refine g_bast (ws' := wSB cB sb_0 sb_1 (SB_setcells sb0 g3)) C 1 0 rfl rfl y4 rfl (tdec DX5_put 12 rfl) rfl ?_
      have hr9 := o_some hF
      subst hr9
      exact g_vret C rfl (tdec DX5_put 13 rfl)
def FX5_addNumber_L5 (v1 : Int64) (v3 : Int32) (k9 : SB → Int32 → Option (SB)) : Nat → SB → Int32 → Option (SB)
  | 0, _, _ => none
  | n9 + 1, sb, v4 =>
    if v4 < 0 then
      k9 sb v4
    else
      if (Int32.ofNat 9766) ≤ (SB_len sb) then
        FX5_addNumber_L5 v1 v3 k9 n9 sb (v4 + (-1))
      else
        (FX5_put sb (SB_len sb) (((((v1 : Int64).toUInt64 >>> (((8 * v4) : Int32).toInt64.toUInt64 &&& Int64.toUInt64 63)).toInt64) : Int64).toInt32)).bind fun s3 =>
        FX5_addNumber_L5 v1 v3 k9 n9 (SB_setlen s3 ((SB_len s3) + 1)) (v4 + (-1))
def FX5_addNumber (sb0 : SB) (p1 : Int64) (p3 : Int32) : Option (SB) :=
  FX5_addNumber_L5 p1 p3 (fun sbq5 w4_5 =>
    some sbq5) 100000 sb0 (p3 - 1)
def rX5_addNumber : Room := { frames := 1, cells := 0, slots := 0, locals := 22 }
set_option maxHeartbeats 4000000 in
set_option maxRecDepth 100000 in
theorem c_FX5_addNumber_L5 {p : Program} {l : Launch} {e : Env} {s : State} {m : MethodId} {args : Array Value} {below : List Frame} {meth : Method} {c : Code} {D : va_G} {cB cI cJ cZ : ClassId} {sb_0 sb_1 : Nat} {sb0 : SB} {res : SB} (C : gC p s m args meth c cX5_addNumber 5 RX5 wsX5_addNumber D (gT cB cI cJ cZ) none (va_A (wSB cB sb_0 sb_1 sb0) s.heap.size)) {v1 : Int64} {v3 : Int32} {k9 : SB → Int32 → Option (SB)} (hk9 : ∀ (sb : SB) (v4 : Int32), k9 sb v4 = some res → gG p l e (headSpec wsX5_addNumber rX5_addNumber).room s m args below meth c 0 0 D (va_A (wSB cB sb_0 sb_1 sb0) s.heap.size) (va_A (wSB cB sb_0 sb_1 sb0) s.heap.size) 5 (MQ below (gQv D (wSB cB sb_0 sb_1 sb0) s.heap.size (wSB cB sb_0 sb_1 res)) args s 0 0 (va_A (wSB cB sb_0 sb_1 sb0) s.heap.size)) (wSB cB sb_0 sb_1 sb) 54 [(0, .ref sb_0), (1, .long v1), (3, .int v3), (4, .int v4)] []) :
    ∀ (n9 : Nat) (sb : SB) (v4 : Int32), FX5_addNumber_L5 v1 v3 k9 n9 sb v4 = some res → gG p l e (headSpec wsX5_addNumber rX5_addNumber).room s m args below meth c 0 0 D (va_A (wSB cB sb_0 sb_1 sb0) s.heap.size) (va_A (wSB cB sb_0 sb_1 sb0) s.heap.size) 5 (MQ below (gQv D (wSB cB sb_0 sb_1 sb0) s.heap.size (wSB cB sb_0 sb_1 res)) args s 0 0 (va_A (wSB cB sb_0 sb_1 sb0) s.heap.size)) (wSB cB sb_0 sb_1 sb) 5 [(0, .ref sb_0), (1, .long v1), (3, .int v3), (4, .int v4)] [] := by
  intro n9
  induction n9 with
  | zero =>
    intro sb v4 hF
    exact absurd hF (by simp [FX5_addNumber_L5])
  | succ n9 ih9 =>
    intro sb v4 hF
    rw [FX5_addNumber_L5] at hF
    refine g_iload (z := 3) C (tdec DX5_addNumber 4 rfl) rfl rfl ?_
    refine g_if_lt (pt := 54) C (tdec DX5_addNumber 5 rfl) (by decide) rfl (fun h1 => ?_) (fun h1 => ?_)
    · have hF := o_ifp hF h1
      refine g_sub (L' := [(0, .ref sb_0), (1, .long v1), (3, .int v3), (4, .int v4)]) [0, 1, 2, 3] rfl ?_
      exact hk9 _ _ hF
    · have hF := o_ifn hF h1
      refine g_aload_n (z := 0) C (tdec DX5_addNumber 6 rfl) rfl rfl rfl ?_
      refine g_getf (C' := RX5) (T := TX5) (N := 2) (v := .int (SB_len sb)) C 0 1 (gIn iw_X5) rfl rfl (by decide) (gMem fl_X5_15) rfl rfl (tdec DX5_addNumber 7 rfl) rfl ?_
      refine g_aload_n (z := 0) C (tdec DX5_addNumber 8 rfl) rfl rfl rfl ?_
      refine g_getf (C' := RX5) (T := TX5) (N := 2) (v := .ref sb_1) C 0 0 (gIn iw_X5) rfl rfl (by decide) (gMem fl_X5_9) rfl rfl (tdec DX5_addNumber 9 rfl) rfl ?_
      refine g_alen C 1 0 rfl rfl rfl (tdec DX5_addNumber 10 rfl) rfl ?_
      refine g_icmp_ge (pt := 48) C (tdec DX5_addNumber 11 rfl) (by decide) rfl (fun h2 => ?_) (fun h2 => ?_)
      · have hF := o_ifp hF h2
        refine g_iinc (z := 3) (v := (v4 + (-1))) (L' := [(4, .int (v4 + (-1))), (0, .ref sb_0), (1, .long v1), (3, .int v3)]) C (tdec DX5_addNumber 28 rfl) rfl rfl (by decide) rfl rfl ?_
        refine g_goto (pt := 5) C (tdec DX5_addNumber 29 rfl) (by decide) ?_
        refine g_sub (L' := [(0, .ref sb_0), (1, .long v1), (3, .int v3), (4, .int (v4 + (-1)))]) [1, 2, 3, 0] rfl ?_
        exact ih9 _ _ hF
      · have hF := o_ifn hF h2
        refine g_aload_n (z := 0) C (tdec DX5_addNumber 12 rfl) rfl rfl rfl ?_
        refine g_aload_n (z := 0) C (tdec DX5_addNumber 13 rfl) rfl rfl rfl ?_
        refine g_getf (C' := RX5) (T := TX5) (N := 2) (v := .int (SB_len sb)) C 0 1 (gIn iw_X5) rfl rfl (by decide) (gMem fl_X5_15) rfl rfl (tdec DX5_addNumber 14 rfl) rfl ?_
        refine g_lload_n (z := 1) C (tdec DX5_addNumber 15 rfl) rfl rfl rfl ?_
        refine g_bipush (v := 8) C (tdec DX5_addNumber 16 rfl) (by decide) rfl ?_
        refine g_iload (z := 3) C (tdec DX5_addNumber 17 rfl) rfl rfl ?_
        refine g_imul C (tdec DX5_addNumber 18 rfl) rfl ?_
        refine g_lushr C (tdec DX5_addNumber 19 rfl) rfl ?_
        refine g_l2i C (tdec DX5_addNumber 20 rfl) rfl ?_
        obtain ⟨s3, y4, hF⟩ := o_bind hF
        refine g_callVvM (q0 := 0) (W' := wSB cB sb_0 sb_1 s3) C (c_X5_put l D cB cI cJ cZ sb_0 sb_1 y4) rfl rfl (gIV ml_X5_33 im_X5_put sl_X5_put in_X5 cd_X5_put) rfl eX5_put rfl ⟨rfl, rfl⟩ ⟨Nat.le_of_ble_eq_true rfl, Nat.le_of_ble_eq_true rfl⟩ rfl [0, 1] rfl rfl rfl rfl rfl rfl (Nat.le_of_ble_eq_true rfl) (tdec DX5_addNumber 21 rfl) rfl ?_
        refine g_aload_n (z := 0) C (tdec DX5_addNumber 22 rfl) rfl rfl rfl ?_
        refine g_dup C (tdec DX5_addNumber 23 rfl) rfl rfl ?_
        refine g_getf (C' := RX5) (T := TX5) (N := 2) (v := .int (SB_len s3)) C 0 1 (gIn iw_X5) rfl rfl (by decide) (gMem fl_X5_15) rfl rfl (tdec DX5_addNumber 24 rfl) rfl ?_
        refine g_iconst (v := 1) C (tdec DX5_addNumber 25 rfl) (by decide) rfl ?_
        refine g_iadd C (tdec DX5_addNumber 26 rfl) rfl ?_
        refine g_putf (C' := RX5) (T := TX5) (N := 2) (v := .int ((SB_len s3) + 1)) (ws' := wSB cB sb_0 sb_1 (SB_setlen s3 ((SB_len s3) + 1))) C 0 1 tyX5 tyX5_ok nmX5 (gIn iw_X5) rfl rfl (by decide) (gMem fl_X5_15) rfl rfl (tyX5_ok 1 (by decide)) rfl rfl (Nat.le_of_ble_eq_true rfl) rfl (tdec DX5_addNumber 27 rfl) rfl ?_
        refine g_iinc (z := 3) (v := (v4 + (-1))) (L' := [(4, .int (v4 + (-1))), (0, .ref sb_0), (1, .long v1), (3, .int v3)]) C (tdec DX5_addNumber 28 rfl) rfl rfl (by decide) rfl rfl ?_
        refine g_goto (pt := 5) C (tdec DX5_addNumber 29 rfl) (by decide) ?_
        refine g_sub (L' := [(0, .ref sb_0), (1, .long v1), (3, .int v3), (4, .int (v4 + (-1)))]) [1, 2, 3, 0] rfl ?_
        exact ih9 _ _ hF
set_option maxHeartbeats 4000000 in
set_option maxRecDepth 100000 in
theorem c_X5_addNumber (l : Launch) (D : va_G) (cB cI cJ cZ : ClassId) (sb_0 sb_1 : Nat) {sb0 : SB} {p1 : Int64} {p3 : Int32} {res : SB} (hF : FX5_addNumber sb0 p1 p3 = some res) : gMv l yX5_addNumber wsX5_addNumber rX5_addNumber D (gT cB cI cJ cZ) [.ref sb_0, .long p1, .int p3] (wSB cB sb_0 sb_1 sb0) (wSB cB sb_0 sb_1 res) := by
  refine g_enter (own := RX5) (free := (fun sz => va_A (wSB cB sb_0 sb_1 sb0) sz)) (Qc := (fun sz => gQv D (wSB cB sb_0 sb_1 sb0) sz (wSB cB sb_0 sb_1 res))) (fun sz => va_A (wSB cB sb_0 sb_1 sb0) sz) (fun sz => Or.inr rfl) rfl (by decide) rfl (Nat.le_of_ble_eq_true rfl) rfl ?_
  intro p e s m args below meth c C
  unfold FX5_addNumber at hF
  refine g_iload_n (z := 2) C (tdec DX5_addNumber 0 rfl) rfl rfl rfl ?_
  refine g_iconst (v := 1) C (tdec DX5_addNumber 1 rfl) (by decide) rfl ?_
  refine g_isub C (tdec DX5_addNumber 2 rfl) rfl ?_
  refine g_istore (L' := [(4, .int (p3 - 1)), (0, .ref sb_0), (1, .long p1), (3, .int p3)]) C (tdec DX5_addNumber 3 rfl) (by decide) rfl rfl ?_
  refine g_sub (L' := [(0, .ref sb_0), (1, .long p1), (3, .int p3), (4, .int (p3 - 1))]) [1, 2, 3, 0] rfl ?_
  refine c_FX5_addNumber_L5 C (fun sbq5 w4_5 hF => ?_) 100000 _ _ hF
  have hr9 := o_some hF
  subst hr9
  exact g_vret C rfl (tdec DX5_addNumber 30 rfl)
def FX5_addBegin (sb0 : SB) (p1 : Int64) (p3 : Int64) : Option (SB) :=
  (FX5_addNumber sb0 1 1).bind fun s1 =>
  (FX5_addNumber s1 p1 8).bind fun s3 =>
  (FX5_addNumber s3 p3 8).bind fun s5 =>
  (FX5_sumOf s5 (SB_len sb0) (SB_len s5)).bind fun r7 =>
  (FX5_addNumber s5 r7 8).bind fun s9 =>
  some s9
def rX5_addBegin : Room := { frames := 2, cells := 0, slots := 0, locals := 46 }
set_option maxHeartbeats 4000000 in
set_option maxRecDepth 100000 in
theorem c_X5_addBegin (l : Launch) (D : va_G) (cB cI cJ cZ : ClassId) (sb_0 sb_1 : Nat) {sb0 : SB} {p1 : Int64} {p3 : Int64} {res : SB} (hF : FX5_addBegin sb0 p1 p3 = some res) : gMv l yX5_addBegin wsX5_addBegin rX5_addBegin D (gT cB cI cJ cZ) [.ref sb_0, .long p1, .long p3] (wSB cB sb_0 sb_1 sb0) (wSB cB sb_0 sb_1 res) := by
  refine g_enter (own := RX5) (free := (fun sz => va_A (wSB cB sb_0 sb_1 sb0) sz)) (Qc := (fun sz => gQv D (wSB cB sb_0 sb_1 sb0) sz (wSB cB sb_0 sb_1 res))) (fun sz => va_A (wSB cB sb_0 sb_1 sb0) sz) (fun sz => Or.inr rfl) rfl (by decide) rfl (Nat.le_of_ble_eq_true rfl) rfl ?_
  intro p e s m args below meth c C
  unfold FX5_addBegin at hF
  refine g_aload_n (z := 0) C (tdec DX5_addBegin 0 rfl) rfl rfl rfl ?_
  refine g_getf (C' := RX5) (T := TX5) (N := 2) (v := .int (SB_len sb0)) C 0 1 (gIn iw_X5) rfl rfl (by decide) (gMem fl_X5_15) rfl rfl (tdec DX5_addBegin 1 rfl) rfl ?_
  refine g_istore (L' := [(5, .int (SB_len sb0)), (0, .ref sb_0), (1, .long p1), (3, .long p3)]) C (tdec DX5_addBegin 2 rfl) (by decide) rfl rfl ?_
  refine g_aload_n (z := 1) C (tdec DX5_addBegin 3 rfl) rfl rfl rfl ?_
  refine g_lconst (v := 1) C (tdec DX5_addBegin 4 rfl) (by decide) rfl ?_
  refine g_iconst (v := 1) C (tdec DX5_addBegin 5 rfl) (by decide) rfl ?_
  obtain ⟨s1, y2, hF⟩ := o_bind hF
  refine g_callVvM (q0 := 0) (W' := wSB cB sb_0 sb_1 s1) C (c_X5_addNumber l D cB cI cJ cZ sb_0 sb_1 y2) rfl rfl (gIV ml_X5_19 im_X5_addNumber sl_X5_addNumber in_X5 cd_X5_addNumber) rfl eX5_addNumber rfl ⟨rfl, rfl⟩ ⟨Nat.le_of_ble_eq_true rfl, Nat.le_of_ble_eq_true rfl⟩ rfl [0, 1] rfl rfl rfl rfl rfl rfl (Nat.le_of_ble_eq_true rfl) (tdec DX5_addBegin 6 rfl) rfl ?_
  refine g_aload_n (z := 1) C (tdec DX5_addBegin 7 rfl) rfl rfl rfl ?_
  refine g_lload_n (z := 2) C (tdec DX5_addBegin 8 rfl) rfl rfl rfl ?_
  refine g_bipush (v := 8) C (tdec DX5_addBegin 9 rfl) (by decide) rfl ?_
  obtain ⟨s3, y4, hF⟩ := o_bind hF
  refine g_callVvM (q0 := 0) (W' := wSB cB sb_0 sb_1 s3) C (c_X5_addNumber l D cB cI cJ cZ sb_0 sb_1 y4) rfl rfl (gIV ml_X5_19 im_X5_addNumber sl_X5_addNumber in_X5 cd_X5_addNumber) rfl eX5_addNumber rfl ⟨rfl, rfl⟩ ⟨Nat.le_of_ble_eq_true rfl, Nat.le_of_ble_eq_true rfl⟩ rfl [0, 1] rfl rfl rfl rfl rfl rfl (Nat.le_of_ble_eq_true rfl) (tdec DX5_addBegin 10 rfl) rfl ?_
  refine g_aload_n (z := 1) C (tdec DX5_addBegin 11 rfl) rfl rfl rfl ?_
  refine g_lload_n (z := 3) C (tdec DX5_addBegin 12 rfl) rfl rfl rfl ?_
  refine g_bipush (v := 8) C (tdec DX5_addBegin 13 rfl) (by decide) rfl ?_
  obtain ⟨s5, y6, hF⟩ := o_bind hF
  refine g_callVvM (q0 := 0) (W' := wSB cB sb_0 sb_1 s5) C (c_X5_addNumber l D cB cI cJ cZ sb_0 sb_1 y6) rfl rfl (gIV ml_X5_19 im_X5_addNumber sl_X5_addNumber in_X5 cd_X5_addNumber) rfl eX5_addNumber rfl ⟨rfl, rfl⟩ ⟨Nat.le_of_ble_eq_true rfl, Nat.le_of_ble_eq_true rfl⟩ rfl [0, 1] rfl rfl rfl rfl rfl rfl (Nat.le_of_ble_eq_true rfl) (tdec DX5_addBegin 14 rfl) rfl ?_
  refine g_aload_n (z := 1) C (tdec DX5_addBegin 15 rfl) rfl rfl rfl ?_
  refine g_aload_n (z := 1) C (tdec DX5_addBegin 16 rfl) rfl rfl rfl ?_
  refine g_iload (z := 0) C (tdec DX5_addBegin 17 rfl) rfl rfl ?_
  refine g_aload_n (z := 1) C (tdec DX5_addBegin 18 rfl) rfl rfl rfl ?_
  refine g_getf (C' := RX5) (T := TX5) (N := 2) (v := .int (SB_len s5)) C 0 1 (gIn iw_X5) rfl rfl (by decide) (gMem fl_X5_15) rfl rfl (tdec DX5_addBegin 19 rfl) rfl ?_
  obtain ⟨r7, y8, hF⟩ := o_bind hF
  refine g_callVlR (q0 := 0) C (c_X5_sumOf l D cB cI cJ cZ sb_0 sb_1 y8) rfl rfl (gIV ml_X5_23 im_X5_sumOf sl_X5_sumOf in_X5 cd_X5_sumOf) rfl eX5_sumOf rfl ⟨rfl, rfl⟩ ⟨Nat.le_of_ble_eq_true rfl, Nat.le_of_ble_eq_true rfl⟩ rfl [0, 1] rfl rfl rfl (Nat.le_of_ble_eq_true rfl) (tdec DX5_addBegin 20 rfl) rfl ?_
  refine g_bipush (v := 8) C (tdec DX5_addBegin 21 rfl) (by decide) rfl ?_
  obtain ⟨s9, y10, hF⟩ := o_bind hF
  refine g_callVvM (q0 := 0) (W' := wSB cB sb_0 sb_1 s9) C (c_X5_addNumber l D cB cI cJ cZ sb_0 sb_1 y10) rfl rfl (gIV ml_X5_19 im_X5_addNumber sl_X5_addNumber in_X5 cd_X5_addNumber) rfl eX5_addNumber rfl ⟨rfl, rfl⟩ ⟨Nat.le_of_ble_eq_true rfl, Nat.le_of_ble_eq_true rfl⟩ rfl [0, 1] rfl rfl rfl rfl rfl rfl (Nat.le_of_ble_eq_true rfl) (tdec DX5_addBegin 22 rfl) rfl ?_
  have hr9 := o_some hF
  subst hr9
  exact g_vret C rfl (tdec DX5_addBegin 23 rfl)
def FX5_addClear (sb0 : SB) (p1 : Int32) (p2 : Int32) : Option (SB) :=
  (FX5_addNumber sb0 3 1).bind fun s1 =>
  (FX5_addNumber s1 ((p1 : Int32).toInt64) 2).bind fun s3 =>
  (FX5_addNumber s3 ((p2 : Int32).toInt64) 2).bind fun s5 =>
  (FX5_sumOf s5 (SB_len sb0) (SB_len s5)).bind fun r7 =>
  (FX5_addNumber s5 r7 8).bind fun s9 =>
  some s9
def rX5_addClear : Room := { frames := 2, cells := 0, slots := 0, locals := 46 }
set_option maxHeartbeats 4000000 in
set_option maxRecDepth 100000 in
theorem c_X5_addClear (l : Launch) (D : va_G) (cB cI cJ cZ : ClassId) (sb_0 sb_1 : Nat) {sb0 : SB} {p1 : Int32} {p2 : Int32} {res : SB} (hF : FX5_addClear sb0 p1 p2 = some res) : gMv l yX5_addClear wsX5_addClear rX5_addClear D (gT cB cI cJ cZ) [.ref sb_0, .int p1, .int p2] (wSB cB sb_0 sb_1 sb0) (wSB cB sb_0 sb_1 res) := by
  refine g_enter (own := RX5) (free := (fun sz => va_A (wSB cB sb_0 sb_1 sb0) sz)) (Qc := (fun sz => gQv D (wSB cB sb_0 sb_1 sb0) sz (wSB cB sb_0 sb_1 res))) (fun sz => va_A (wSB cB sb_0 sb_1 sb0) sz) (fun sz => Or.inr rfl) rfl (by decide) rfl (Nat.le_of_ble_eq_true rfl) rfl ?_
  intro p e s m args below meth c C
  unfold FX5_addClear at hF
  refine g_aload_n (z := 0) C (tdec DX5_addClear 0 rfl) rfl rfl rfl ?_
  refine g_getf (C' := RX5) (T := TX5) (N := 2) (v := .int (SB_len sb0)) C 0 1 (gIn iw_X5) rfl rfl (by decide) (gMem fl_X5_15) rfl rfl (tdec DX5_addClear 1 rfl) rfl ?_
  refine g_istore_n (L' := [(3, .int (SB_len sb0)), (0, .ref sb_0), (1, .int p1), (2, .int p2)]) C (tdec DX5_addClear 2 rfl) rfl (by decide) rfl rfl ?_
  refine g_aload_n (z := 1) C (tdec DX5_addClear 3 rfl) rfl rfl rfl ?_
  refine g_ldc2 C (gMem kl_X5_29) (tdec DX5_addClear 4 rfl) rfl ?_
  refine g_iconst (v := 1) C (tdec DX5_addClear 5 rfl) (by decide) rfl ?_
  obtain ⟨s1, y2, hF⟩ := o_bind hF
  refine g_callVvM (q0 := 0) (W' := wSB cB sb_0 sb_1 s1) C (c_X5_addNumber l D cB cI cJ cZ sb_0 sb_1 y2) rfl rfl (gIV ml_X5_19 im_X5_addNumber sl_X5_addNumber in_X5 cd_X5_addNumber) rfl eX5_addNumber rfl ⟨rfl, rfl⟩ ⟨Nat.le_of_ble_eq_true rfl, Nat.le_of_ble_eq_true rfl⟩ rfl [0, 1] rfl rfl rfl rfl rfl rfl (Nat.le_of_ble_eq_true rfl) (tdec DX5_addClear 6 rfl) rfl ?_
  refine g_aload_n (z := 1) C (tdec DX5_addClear 7 rfl) rfl rfl rfl ?_
  refine g_iload_n (z := 2) C (tdec DX5_addClear 8 rfl) rfl rfl rfl ?_
  refine g_i2l C (tdec DX5_addClear 9 rfl) rfl ?_
  refine g_iconst (v := 2) C (tdec DX5_addClear 10 rfl) (by decide) rfl ?_
  obtain ⟨s3, y4, hF⟩ := o_bind hF
  refine g_callVvM (q0 := 0) (W' := wSB cB sb_0 sb_1 s3) C (c_X5_addNumber l D cB cI cJ cZ sb_0 sb_1 y4) rfl rfl (gIV ml_X5_19 im_X5_addNumber sl_X5_addNumber in_X5 cd_X5_addNumber) rfl eX5_addNumber rfl ⟨rfl, rfl⟩ ⟨Nat.le_of_ble_eq_true rfl, Nat.le_of_ble_eq_true rfl⟩ rfl [0, 1] rfl rfl rfl rfl rfl rfl (Nat.le_of_ble_eq_true rfl) (tdec DX5_addClear 11 rfl) rfl ?_
  refine g_aload_n (z := 1) C (tdec DX5_addClear 12 rfl) rfl rfl rfl ?_
  refine g_iload_n (z := 3) C (tdec DX5_addClear 13 rfl) rfl rfl rfl ?_
  refine g_i2l C (tdec DX5_addClear 14 rfl) rfl ?_
  refine g_iconst (v := 2) C (tdec DX5_addClear 15 rfl) (by decide) rfl ?_
  obtain ⟨s5, y6, hF⟩ := o_bind hF
  refine g_callVvM (q0 := 0) (W' := wSB cB sb_0 sb_1 s5) C (c_X5_addNumber l D cB cI cJ cZ sb_0 sb_1 y6) rfl rfl (gIV ml_X5_19 im_X5_addNumber sl_X5_addNumber in_X5 cd_X5_addNumber) rfl eX5_addNumber rfl ⟨rfl, rfl⟩ ⟨Nat.le_of_ble_eq_true rfl, Nat.le_of_ble_eq_true rfl⟩ rfl [0, 1] rfl rfl rfl rfl rfl rfl (Nat.le_of_ble_eq_true rfl) (tdec DX5_addClear 16 rfl) rfl ?_
  refine g_aload_n (z := 1) C (tdec DX5_addClear 17 rfl) rfl rfl rfl ?_
  refine g_aload_n (z := 1) C (tdec DX5_addClear 18 rfl) rfl rfl rfl ?_
  refine g_iload_n (z := 0) C (tdec DX5_addClear 19 rfl) rfl rfl rfl ?_
  refine g_aload_n (z := 1) C (tdec DX5_addClear 20 rfl) rfl rfl rfl ?_
  refine g_getf (C' := RX5) (T := TX5) (N := 2) (v := .int (SB_len s5)) C 0 1 (gIn iw_X5) rfl rfl (by decide) (gMem fl_X5_15) rfl rfl (tdec DX5_addClear 21 rfl) rfl ?_
  obtain ⟨r7, y8, hF⟩ := o_bind hF
  refine g_callVlR (q0 := 0) C (c_X5_sumOf l D cB cI cJ cZ sb_0 sb_1 y8) rfl rfl (gIV ml_X5_23 im_X5_sumOf sl_X5_sumOf in_X5 cd_X5_sumOf) rfl eX5_sumOf rfl ⟨rfl, rfl⟩ ⟨Nat.le_of_ble_eq_true rfl, Nat.le_of_ble_eq_true rfl⟩ rfl [0, 1] rfl rfl rfl (Nat.le_of_ble_eq_true rfl) (tdec DX5_addClear 22 rfl) rfl ?_
  refine g_bipush (v := 8) C (tdec DX5_addClear 23 rfl) (by decide) rfl ?_
  obtain ⟨s9, y10, hF⟩ := o_bind hF
  refine g_callVvM (q0 := 0) (W' := wSB cB sb_0 sb_1 s9) C (c_X5_addNumber l D cB cI cJ cZ sb_0 sb_1 y10) rfl rfl (gIV ml_X5_19 im_X5_addNumber sl_X5_addNumber in_X5 cd_X5_addNumber) rfl eX5_addNumber rfl ⟨rfl, rfl⟩ ⟨Nat.le_of_ble_eq_true rfl, Nat.le_of_ble_eq_true rfl⟩ rfl [0, 1] rfl rfl rfl rfl rfl rfl (Nat.le_of_ble_eq_true rfl) (tdec DX5_addClear 24 rfl) rfl ?_
  have hr9 := o_some hF
  subst hr9
  exact g_vret C rfl (tdec DX5_addClear 25 rfl)
def FX5_addWrite (sb0 : SB) (p1 : Int32) (p2 : Int64) : Option (SB) :=
  (FX5_addNumber sb0 2 1).bind fun s1 =>
  (FX5_addNumber s1 ((p1 : Int32).toInt64) 2).bind fun s3 =>
  (FX5_addNumber s3 p2 8).bind fun s5 =>
  (FX5_sumOf s5 (SB_len sb0) (SB_len s5)).bind fun r7 =>
  (FX5_addNumber s5 r7 8).bind fun s9 =>
  some s9
def rX5_addWrite : Room := { frames := 2, cells := 0, slots := 0, locals := 46 }
set_option maxHeartbeats 4000000 in
set_option maxRecDepth 100000 in
theorem c_X5_addWrite (l : Launch) (D : va_G) (cB cI cJ cZ : ClassId) (sb_0 sb_1 : Nat) {sb0 : SB} {p1 : Int32} {p2 : Int64} {res : SB} (hF : FX5_addWrite sb0 p1 p2 = some res) : gMv l yX5_addWrite wsX5_addWrite rX5_addWrite D (gT cB cI cJ cZ) [.ref sb_0, .int p1, .long p2] (wSB cB sb_0 sb_1 sb0) (wSB cB sb_0 sb_1 res) := by
  refine g_enter (own := RX5) (free := (fun sz => va_A (wSB cB sb_0 sb_1 sb0) sz)) (Qc := (fun sz => gQv D (wSB cB sb_0 sb_1 sb0) sz (wSB cB sb_0 sb_1 res))) (fun sz => va_A (wSB cB sb_0 sb_1 sb0) sz) (fun sz => Or.inr rfl) rfl (by decide) rfl (Nat.le_of_ble_eq_true rfl) rfl ?_
  intro p e s m args below meth c C
  unfold FX5_addWrite at hF
  refine g_aload_n (z := 0) C (tdec DX5_addWrite 0 rfl) rfl rfl rfl ?_
  refine g_getf (C' := RX5) (T := TX5) (N := 2) (v := .int (SB_len sb0)) C 0 1 (gIn iw_X5) rfl rfl (by decide) (gMem fl_X5_15) rfl rfl (tdec DX5_addWrite 1 rfl) rfl ?_
  refine g_istore (L' := [(4, .int (SB_len sb0)), (0, .ref sb_0), (1, .int p1), (2, .long p2)]) C (tdec DX5_addWrite 2 rfl) (by decide) rfl rfl ?_
  refine g_aload_n (z := 1) C (tdec DX5_addWrite 3 rfl) rfl rfl rfl ?_
  refine g_ldc2 C (gMem kl_X5_27) (tdec DX5_addWrite 4 rfl) rfl ?_
  refine g_iconst (v := 1) C (tdec DX5_addWrite 5 rfl) (by decide) rfl ?_
  obtain ⟨s1, y2, hF⟩ := o_bind hF
  refine g_callVvM (q0 := 0) (W' := wSB cB sb_0 sb_1 s1) C (c_X5_addNumber l D cB cI cJ cZ sb_0 sb_1 y2) rfl rfl (gIV ml_X5_19 im_X5_addNumber sl_X5_addNumber in_X5 cd_X5_addNumber) rfl eX5_addNumber rfl ⟨rfl, rfl⟩ ⟨Nat.le_of_ble_eq_true rfl, Nat.le_of_ble_eq_true rfl⟩ rfl [0, 1] rfl rfl rfl rfl rfl rfl (Nat.le_of_ble_eq_true rfl) (tdec DX5_addWrite 6 rfl) rfl ?_
  refine g_aload_n (z := 1) C (tdec DX5_addWrite 7 rfl) rfl rfl rfl ?_
  refine g_iload_n (z := 2) C (tdec DX5_addWrite 8 rfl) rfl rfl rfl ?_
  refine g_i2l C (tdec DX5_addWrite 9 rfl) rfl ?_
  refine g_iconst (v := 2) C (tdec DX5_addWrite 10 rfl) (by decide) rfl ?_
  obtain ⟨s3, y4, hF⟩ := o_bind hF
  refine g_callVvM (q0 := 0) (W' := wSB cB sb_0 sb_1 s3) C (c_X5_addNumber l D cB cI cJ cZ sb_0 sb_1 y4) rfl rfl (gIV ml_X5_19 im_X5_addNumber sl_X5_addNumber in_X5 cd_X5_addNumber) rfl eX5_addNumber rfl ⟨rfl, rfl⟩ ⟨Nat.le_of_ble_eq_true rfl, Nat.le_of_ble_eq_true rfl⟩ rfl [0, 1] rfl rfl rfl rfl rfl rfl (Nat.le_of_ble_eq_true rfl) (tdec DX5_addWrite 11 rfl) rfl ?_
  refine g_aload_n (z := 1) C (tdec DX5_addWrite 12 rfl) rfl rfl rfl ?_
  refine g_lload_n (z := 3) C (tdec DX5_addWrite 13 rfl) rfl rfl rfl ?_
  refine g_bipush (v := 8) C (tdec DX5_addWrite 14 rfl) (by decide) rfl ?_
  obtain ⟨s5, y6, hF⟩ := o_bind hF
  refine g_callVvM (q0 := 0) (W' := wSB cB sb_0 sb_1 s5) C (c_X5_addNumber l D cB cI cJ cZ sb_0 sb_1 y6) rfl rfl (gIV ml_X5_19 im_X5_addNumber sl_X5_addNumber in_X5 cd_X5_addNumber) rfl eX5_addNumber rfl ⟨rfl, rfl⟩ ⟨Nat.le_of_ble_eq_true rfl, Nat.le_of_ble_eq_true rfl⟩ rfl [0, 1] rfl rfl rfl rfl rfl rfl (Nat.le_of_ble_eq_true rfl) (tdec DX5_addWrite 15 rfl) rfl ?_
  refine g_aload_n (z := 1) C (tdec DX5_addWrite 16 rfl) rfl rfl rfl ?_
  refine g_aload_n (z := 1) C (tdec DX5_addWrite 17 rfl) rfl rfl rfl ?_
  refine g_iload (z := 0) C (tdec DX5_addWrite 18 rfl) rfl rfl ?_
  refine g_aload_n (z := 1) C (tdec DX5_addWrite 19 rfl) rfl rfl rfl ?_
  refine g_getf (C' := RX5) (T := TX5) (N := 2) (v := .int (SB_len s5)) C 0 1 (gIn iw_X5) rfl rfl (by decide) (gMem fl_X5_15) rfl rfl (tdec DX5_addWrite 20 rfl) rfl ?_
  obtain ⟨r7, y8, hF⟩ := o_bind hF
  refine g_callVlR (q0 := 0) C (c_X5_sumOf l D cB cI cJ cZ sb_0 sb_1 y8) rfl rfl (gIV ml_X5_23 im_X5_sumOf sl_X5_sumOf in_X5 cd_X5_sumOf) rfl eX5_sumOf rfl ⟨rfl, rfl⟩ ⟨Nat.le_of_ble_eq_true rfl, Nat.le_of_ble_eq_true rfl⟩ rfl [0, 1] rfl rfl rfl (Nat.le_of_ble_eq_true rfl) (tdec DX5_addWrite 21 rfl) rfl ?_
  refine g_bipush (v := 8) C (tdec DX5_addWrite 22 rfl) (by decide) rfl ?_
  obtain ⟨s9, y10, hF⟩ := o_bind hF
  refine g_callVvM (q0 := 0) (W' := wSB cB sb_0 sb_1 s9) C (c_X5_addNumber l D cB cI cJ cZ sb_0 sb_1 y10) rfl rfl (gIV ml_X5_19 im_X5_addNumber sl_X5_addNumber in_X5 cd_X5_addNumber) rfl eX5_addNumber rfl ⟨rfl, rfl⟩ ⟨Nat.le_of_ble_eq_true rfl, Nat.le_of_ble_eq_true rfl⟩ rfl [0, 1] rfl rfl rfl rfl rfl rfl (Nat.le_of_ble_eq_true rfl) (tdec DX5_addWrite 23 rfl) rfl ?_
  have hr9 := o_some hF
  subst hr9
  exact g_vret C rfl (tdec DX5_addWrite 24 rfl)
def FX5_addEnd (sb0 : SB) (p1 : Int32) : Option (SB) :=
  (FX5_addNumber sb0 4 1).bind fun s1 =>
  (FX5_addNumber s1 ((p1 : Int32).toInt64) 4).bind fun s3 =>
  (FX5_sumOf s3 (SB_len sb0) (SB_len s3)).bind fun r5 =>
  (FX5_addNumber s3 r5 8).bind fun s7 =>
  some s7
def rX5_addEnd : Room := { frames := 2, cells := 0, slots := 0, locals := 46 }
set_option maxHeartbeats 4000000 in
set_option maxRecDepth 100000 in
theorem c_X5_addEnd (l : Launch) (D : va_G) (cB cI cJ cZ : ClassId) (sb_0 sb_1 : Nat) {sb0 : SB} {p1 : Int32} {res : SB} (hF : FX5_addEnd sb0 p1 = some res) : gMv l yX5_addEnd wsX5_addEnd rX5_addEnd D (gT cB cI cJ cZ) [.ref sb_0, .int p1] (wSB cB sb_0 sb_1 sb0) (wSB cB sb_0 sb_1 res) := by
  refine g_enter (own := RX5) (free := (fun sz => va_A (wSB cB sb_0 sb_1 sb0) sz)) (Qc := (fun sz => gQv D (wSB cB sb_0 sb_1 sb0) sz (wSB cB sb_0 sb_1 res))) (fun sz => va_A (wSB cB sb_0 sb_1 sb0) sz) (fun sz => Or.inr rfl) rfl (by decide) rfl (Nat.le_of_ble_eq_true rfl) rfl ?_
  intro p e s m args below meth c C
  unfold FX5_addEnd at hF
  refine g_aload_n (z := 0) C (tdec DX5_addEnd 0 rfl) rfl rfl rfl ?_
  refine g_getf (C' := RX5) (T := TX5) (N := 2) (v := .int (SB_len sb0)) C 0 1 (gIn iw_X5) rfl rfl (by decide) (gMem fl_X5_15) rfl rfl (tdec DX5_addEnd 1 rfl) rfl ?_
  refine g_istore_n (L' := [(2, .int (SB_len sb0)), (0, .ref sb_0), (1, .int p1)]) C (tdec DX5_addEnd 2 rfl) rfl (by decide) rfl rfl ?_
  refine g_aload_n (z := 1) C (tdec DX5_addEnd 3 rfl) rfl rfl rfl ?_
  refine g_ldc2 C (gMem kl_X5_31) (tdec DX5_addEnd 4 rfl) rfl ?_
  refine g_iconst (v := 1) C (tdec DX5_addEnd 5 rfl) (by decide) rfl ?_
  obtain ⟨s1, y2, hF⟩ := o_bind hF
  refine g_callVvM (q0 := 0) (W' := wSB cB sb_0 sb_1 s1) C (c_X5_addNumber l D cB cI cJ cZ sb_0 sb_1 y2) rfl rfl (gIV ml_X5_19 im_X5_addNumber sl_X5_addNumber in_X5 cd_X5_addNumber) rfl eX5_addNumber rfl ⟨rfl, rfl⟩ ⟨Nat.le_of_ble_eq_true rfl, Nat.le_of_ble_eq_true rfl⟩ rfl [0, 1] rfl rfl rfl rfl rfl rfl (Nat.le_of_ble_eq_true rfl) (tdec DX5_addEnd 6 rfl) rfl ?_
  refine g_aload_n (z := 1) C (tdec DX5_addEnd 7 rfl) rfl rfl rfl ?_
  refine g_iload_n (z := 2) C (tdec DX5_addEnd 8 rfl) rfl rfl rfl ?_
  refine g_i2l C (tdec DX5_addEnd 9 rfl) rfl ?_
  refine g_iconst (v := 4) C (tdec DX5_addEnd 10 rfl) (by decide) rfl ?_
  obtain ⟨s3, y4, hF⟩ := o_bind hF
  refine g_callVvM (q0 := 0) (W' := wSB cB sb_0 sb_1 s3) C (c_X5_addNumber l D cB cI cJ cZ sb_0 sb_1 y4) rfl rfl (gIV ml_X5_19 im_X5_addNumber sl_X5_addNumber in_X5 cd_X5_addNumber) rfl eX5_addNumber rfl ⟨rfl, rfl⟩ ⟨Nat.le_of_ble_eq_true rfl, Nat.le_of_ble_eq_true rfl⟩ rfl [0, 1] rfl rfl rfl rfl rfl rfl (Nat.le_of_ble_eq_true rfl) (tdec DX5_addEnd 11 rfl) rfl ?_
  refine g_aload_n (z := 1) C (tdec DX5_addEnd 12 rfl) rfl rfl rfl ?_
  refine g_aload_n (z := 1) C (tdec DX5_addEnd 13 rfl) rfl rfl rfl ?_
  refine g_iload_n (z := 0) C (tdec DX5_addEnd 14 rfl) rfl rfl rfl ?_
  refine g_aload_n (z := 1) C (tdec DX5_addEnd 15 rfl) rfl rfl rfl ?_
  refine g_getf (C' := RX5) (T := TX5) (N := 2) (v := .int (SB_len s3)) C 0 1 (gIn iw_X5) rfl rfl (by decide) (gMem fl_X5_15) rfl rfl (tdec DX5_addEnd 16 rfl) rfl ?_
  obtain ⟨r5, y6, hF⟩ := o_bind hF
  refine g_callVlR (q0 := 0) C (c_X5_sumOf l D cB cI cJ cZ sb_0 sb_1 y6) rfl rfl (gIV ml_X5_23 im_X5_sumOf sl_X5_sumOf in_X5 cd_X5_sumOf) rfl eX5_sumOf rfl ⟨rfl, rfl⟩ ⟨Nat.le_of_ble_eq_true rfl, Nat.le_of_ble_eq_true rfl⟩ rfl [0, 1] rfl rfl rfl (Nat.le_of_ble_eq_true rfl) (tdec DX5_addEnd 17 rfl) rfl ?_
  refine g_bipush (v := 8) C (tdec DX5_addEnd 18 rfl) (by decide) rfl ?_
  obtain ⟨s7, y8, hF⟩ := o_bind hF
  refine g_callVvM (q0 := 0) (W' := wSB cB sb_0 sb_1 s7) C (c_X5_addNumber l D cB cI cJ cZ sb_0 sb_1 y8) rfl rfl (gIV ml_X5_19 im_X5_addNumber sl_X5_addNumber in_X5 cd_X5_addNumber) rfl eX5_addNumber rfl ⟨rfl, rfl⟩ ⟨Nat.le_of_ble_eq_true rfl, Nat.le_of_ble_eq_true rfl⟩ rfl [0, 1] rfl rfl rfl rfl rfl rfl (Nat.le_of_ble_eq_true rfl) (tdec DX5_addEnd 19 rfl) rfl ?_
  have hr9 := o_some hF
  subst hr9
  exact g_vret C rfl (tdec DX5_addEnd 20 rfl)
end
section
/-! PART 12.X0: walks, printed by wip/whole/walk.py -/
def FX0_startAnew (b0 : BS) (p1 : Int32) : Option (BS) :=
  (FX1_fill 600 (BS_lev b0) (-1)).bind fun s1 =>
  (FX1_fill 600 (BS_tel b0) 0).bind fun s3 =>
  (FX1_fill 4822 (BS_told b0) (-1)).bind fun s5 =>
  (FX1_fill 4822 (BS_bir b0) 0).bind fun s7 =>
  some (BS_setfr (BS_setcnt (BS_setlc (BS_setbir (BS_settold (BS_settel (BS_setlev b0 s1) s3) s5) s7) 0) p1) p1)
def rX0_startAnew : Room := { frames := 2, cells := 0, slots := 0, locals := 44 }
set_option maxHeartbeats 4000000 in
set_option maxRecDepth 100000 in
theorem c_X0_startAnew (l : Launch) (D : va_G) (cB cI cJ cZ : ClassId) (b_0 b_1 b_2 b_3 b_4 b_5 b_6 b_7 b_8 b_9 b_10 b_11 b_12 b_13 b_14 : Nat) {b0 : BS} {p1 : Int32} {res : BS} (hF : FX0_startAnew b0 p1 = some res) : gMv l yX0_startAnew wsX0_startAnew rX0_startAnew D (gT cB cI cJ cZ) [.ref b_0, .int p1] (wB cI cJ b_0 b_1 b_2 b_3 b_4 b_5 b_6 b_7 b_8 b_9 b_10 b_11 b_12 b_13 b_14 b0) (wB cI cJ b_0 b_1 b_2 b_3 b_4 b_5 b_6 b_7 b_8 b_9 b_10 b_11 b_12 b_13 b_14 res) := by
  refine g_enter (own := RX0) (free := (fun sz => va_A (wB cI cJ b_0 b_1 b_2 b_3 b_4 b_5 b_6 b_7 b_8 b_9 b_10 b_11 b_12 b_13 b_14 b0) sz)) (Qc := (fun sz => gQv D (wB cI cJ b_0 b_1 b_2 b_3 b_4 b_5 b_6 b_7 b_8 b_9 b_10 b_11 b_12 b_13 b_14 b0) sz (wB cI cJ b_0 b_1 b_2 b_3 b_4 b_5 b_6 b_7 b_8 b_9 b_10 b_11 b_12 b_13 b_14 res))) (fun sz => va_A (wB cI cJ b_0 b_1 b_2 b_3 b_4 b_5 b_6 b_7 b_8 b_9 b_10 b_11 b_12 b_13 b_14 b0) sz) (fun sz => Or.inr rfl) rfl (by decide) rfl (Nat.le_of_ble_eq_true rfl) rfl ?_
  intro p e s m args below meth c C
  unfold FX0_startAnew at hF
  refine g_aload_n (z := 0) C (tdec DX0_startAnew 0 rfl) rfl rfl rfl ?_
  refine g_getf (C' := RX0) (T := TX0) (N := 10) (v := .ref b_1) C 0 0 (gIn iw_X0) rfl rfl (by decide) (gMem fl_X0_14) rfl rfl (tdec DX0_startAnew 1 rfl) rfl ?_
  refine g_iconst (v := (-1)) C (tdec DX0_startAnew 2 rfl) (by decide) rfl ?_
  obtain ⟨s1, y2, hF⟩ := o_bind hF
  refine g_callVvM (q0 := 1) (W' := wB cI cJ b_0 b_1 b_2 b_3 b_4 b_5 b_6 b_7 b_8 b_9 b_10 b_11 b_12 b_13 b_14 (BS_setlev b0 s1)) C (c_X1_fill l D cB cI cJ cZ b_1 b_2 y2) rfl rfl (gIV ml_X0_42 im_X1_fill sl_X1_fill in_X1 cd_X1_fill) rfl eX1_fill rfl ⟨rfl, rfl⟩ ⟨Nat.le_of_ble_eq_true rfl, Nat.le_of_ble_eq_true rfl⟩ rfl [1, 2] rfl rfl rfl rfl rfl rfl (Nat.le_of_ble_eq_true rfl) (tdec DX0_startAnew 3 rfl) rfl ?_
  refine g_aload_n (z := 0) C (tdec DX0_startAnew 4 rfl) rfl rfl rfl ?_
  refine g_getf (C' := RX0) (T := TX0) (N := 10) (v := .ref b_5) C 0 2 (gIn iw_X0) rfl rfl (by decide) (gMem fl_X0_23) rfl rfl (tdec DX0_startAnew 5 rfl) rfl ?_
  refine g_iconst (v := 0) C (tdec DX0_startAnew 6 rfl) (by decide) rfl ?_
  obtain ⟨s3, y4, hF⟩ := o_bind hF
  refine g_callVvM (q0 := 5) (W' := wB cI cJ b_0 b_1 b_2 b_3 b_4 b_5 b_6 b_7 b_8 b_9 b_10 b_11 b_12 b_13 b_14 (BS_settel (BS_setlev b0 s1) s3)) C (c_X1_fill l D cB cI cJ cZ b_5 b_6 y4) rfl rfl (gIV ml_X0_42 im_X1_fill sl_X1_fill in_X1 cd_X1_fill) rfl eX1_fill rfl ⟨rfl, rfl⟩ ⟨Nat.le_of_ble_eq_true rfl, Nat.le_of_ble_eq_true rfl⟩ rfl [5, 6] rfl rfl rfl rfl rfl rfl (Nat.le_of_ble_eq_true rfl) (tdec DX0_startAnew 7 rfl) rfl ?_
  refine g_aload_n (z := 0) C (tdec DX0_startAnew 8 rfl) rfl rfl rfl ?_
  refine g_getf (C' := RX0) (T := TX0) (N := 10) (v := .ref b_9) C 0 4 (gIn iw_X0) rfl rfl (by decide) (gMem fl_X0_33) rfl rfl (tdec DX0_startAnew 9 rfl) rfl ?_
  refine g_iconst (v := (-1)) C (tdec DX0_startAnew 10 rfl) (by decide) rfl ?_
  obtain ⟨s5, y6, hF⟩ := o_bind hF
  refine g_callVvM (q0 := 9) (W' := wB cI cJ b_0 b_1 b_2 b_3 b_4 b_5 b_6 b_7 b_8 b_9 b_10 b_11 b_12 b_13 b_14 (BS_settold (BS_settel (BS_setlev b0 s1) s3) s5)) C (c_X1_fill l D cB cI cJ cZ b_9 b_10 y6) rfl rfl (gIV ml_X0_42 im_X1_fill sl_X1_fill in_X1 cd_X1_fill) rfl eX1_fill rfl ⟨rfl, rfl⟩ ⟨Nat.le_of_ble_eq_true rfl, Nat.le_of_ble_eq_true rfl⟩ rfl [9, 10] rfl rfl rfl rfl rfl rfl (Nat.le_of_ble_eq_true rfl) (tdec DX0_startAnew 11 rfl) rfl ?_
  refine g_aload_n (z := 0) C (tdec DX0_startAnew 12 rfl) rfl rfl rfl ?_
  refine g_getf (C' := RX0) (T := TX0) (N := 10) (v := .ref b_11) C 0 5 (gIn iw_X0) rfl rfl (by decide) (gMem fl_X0_36) rfl rfl (tdec DX0_startAnew 13 rfl) rfl ?_
  refine g_iconst (v := 0) C (tdec DX0_startAnew 14 rfl) (by decide) rfl ?_
  obtain ⟨s7, y8, hF⟩ := o_bind hF
  refine g_callVvM (q0 := 11) (W' := wB cI cJ b_0 b_1 b_2 b_3 b_4 b_5 b_6 b_7 b_8 b_9 b_10 b_11 b_12 b_13 b_14 (BS_setbir (BS_settold (BS_settel (BS_setlev b0 s1) s3) s5) s7)) C (c_X1_fill l D cB cI cJ cZ b_11 b_12 y8) rfl rfl (gIV ml_X0_42 im_X1_fill sl_X1_fill in_X1 cd_X1_fill) rfl eX1_fill rfl ⟨rfl, rfl⟩ ⟨Nat.le_of_ble_eq_true rfl, Nat.le_of_ble_eq_true rfl⟩ rfl [11, 12] rfl rfl rfl rfl rfl rfl (Nat.le_of_ble_eq_true rfl) (tdec DX0_startAnew 15 rfl) rfl ?_
  refine g_aload_n (z := 0) C (tdec DX0_startAnew 16 rfl) rfl rfl rfl ?_
  refine g_iconst (v := 0) C (tdec DX0_startAnew 17 rfl) (by decide) rfl ?_
  refine g_putf (C' := RX0) (T := TX0) (N := 10) (v := .int 0) (ws' := wB cI cJ b_0 b_1 b_2 b_3 b_4 b_5 b_6 b_7 b_8 b_9 b_10 b_11 b_12 b_13 b_14 (BS_setlc (BS_setbir (BS_settold (BS_settel (BS_setlev b0 s1) s3) s5) s7) 0)) C 0 7 tyX0 tyX0_ok nmX0 (gIn iw_X0) rfl rfl (by decide) (gMem fl_X0_45) rfl rfl (tyX0_ok 7 (by decide)) rfl rfl (Nat.le_of_ble_eq_true rfl) rfl (tdec DX0_startAnew 18 rfl) rfl ?_
  refine g_aload_n (z := 0) C (tdec DX0_startAnew 19 rfl) rfl rfl rfl ?_
  refine g_iload_n (z := 1) C (tdec DX0_startAnew 20 rfl) rfl rfl rfl ?_
  refine g_putf (C' := RX0) (T := TX0) (N := 10) (v := .int p1) (ws' := wB cI cJ b_0 b_1 b_2 b_3 b_4 b_5 b_6 b_7 b_8 b_9 b_10 b_11 b_12 b_13 b_14 (BS_setcnt (BS_setlc (BS_setbir (BS_settold (BS_settel (BS_setlev b0 s1) s3) s5) s7) 0) p1)) C 0 8 tyX0 tyX0_ok nmX0 (gIn iw_X0) rfl rfl (by decide) (gMem fl_X0_49) rfl rfl (tyX0_ok 8 (by decide)) rfl rfl (Nat.le_of_ble_eq_true rfl) rfl (tdec DX0_startAnew 21 rfl) rfl ?_
  refine g_aload_n (z := 0) C (tdec DX0_startAnew 22 rfl) rfl rfl rfl ?_
  refine g_iload_n (z := 1) C (tdec DX0_startAnew 23 rfl) rfl rfl rfl ?_
  refine g_putf (C' := RX0) (T := TX0) (N := 10) (v := .int p1) (ws' := wB cI cJ b_0 b_1 b_2 b_3 b_4 b_5 b_6 b_7 b_8 b_9 b_10 b_11 b_12 b_13 b_14 (BS_setfr (BS_setcnt (BS_setlc (BS_setbir (BS_settold (BS_settel (BS_setlev b0 s1) s3) s5) s7) 0) p1) p1)) C 0 9 tyX0 tyX0_ok nmX0 (gIn iw_X0) rfl rfl (by decide) (gMem fl_X0_52) rfl rfl (tyX0_ok 9 (by decide)) rfl rfl (Nat.le_of_ble_eq_true rfl) rfl (tdec DX0_startAnew 24 rfl) rfl ?_
  have hr9 := o_some hF
  subst hr9
  exact g_vret C rfl (tdec DX0_startAnew 25 rfl)
def FX0_count (b0 : BS) : Option (Int32) :=
  some (BS_cnt b0)
def rX0_count : Room := { frames := 0, cells := 0, slots := 0, locals := 0 }
set_option maxHeartbeats 4000000 in
set_option maxRecDepth 100000 in
theorem c_X0_count (l : Launch) (D : va_G) (cB cI cJ cZ : ClassId) (b_0 b_1 b_2 b_3 b_4 b_5 b_6 b_7 b_8 b_9 b_10 b_11 b_12 b_13 b_14 : Nat) {b0 : BS} {res : Int32} (hF : FX0_count b0 = some res) : gRi l yX0_count wsX0_count rX0_count D (gT cB cI cJ cZ) [.ref b_0] (wB cI cJ b_0 b_1 b_2 b_3 b_4 b_5 b_6 b_7 b_8 b_9 b_10 b_11 b_12 b_13 b_14 b0) res := by
  refine g_enter (own := RX0) (free := (fun _ _ => False)) (Qc := (fun sz => gRQi res)) (fun _ _ => True) (fun sz => Or.inl rfl) rfl (by decide) rfl (Nat.le_of_ble_eq_true rfl) rfl ?_
  intro p e s m args below meth c C
  unfold FX0_count at hF
  refine g_aload_n (z := 0) C (tdec DX0_count 0 rfl) rfl rfl rfl ?_
  refine g_getf (C' := RX0) (T := TX0) (N := 10) (v := .int (BS_cnt b0)) C 0 8 (gIn iw_X0) rfl rfl (by decide) (gMem fl_X0_49) rfl rfl (tdec DX0_count 1 rfl) rfl ?_
  have hr9 := o_some hF
  subst hr9
  exact g_iretR C rfl (tdec DX0_count 2 rfl)
def FX0_free (b0 : BS) : Option (Int32) :=
  some (BS_fr b0)
def rX0_free : Room := { frames := 0, cells := 0, slots := 0, locals := 0 }
set_option maxHeartbeats 4000000 in
set_option maxRecDepth 100000 in
theorem c_X0_free (l : Launch) (D : va_G) (cB cI cJ cZ : ClassId) (b_0 b_1 b_2 b_3 b_4 b_5 b_6 b_7 b_8 b_9 b_10 b_11 b_12 b_13 b_14 : Nat) {b0 : BS} {res : Int32} (hF : FX0_free b0 = some res) : gRi l yX0_free wsX0_free rX0_free D (gT cB cI cJ cZ) [.ref b_0] (wB cI cJ b_0 b_1 b_2 b_3 b_4 b_5 b_6 b_7 b_8 b_9 b_10 b_11 b_12 b_13 b_14 b0) res := by
  refine g_enter (own := RX0) (free := (fun _ _ => False)) (Qc := (fun sz => gRQi res)) (fun _ _ => True) (fun sz => Or.inl rfl) rfl (by decide) rfl (Nat.le_of_ble_eq_true rfl) rfl ?_
  intro p e s m args below meth c C
  unfold FX0_free at hF
  refine g_aload_n (z := 0) C (tdec DX0_free 0 rfl) rfl rfl rfl ?_
  refine g_getf (C' := RX0) (T := TX0) (N := 10) (v := .int (BS_fr b0)) C 0 9 (gIn iw_X0) rfl rfl (by decide) (gMem fl_X0_52) rfl rfl (tdec DX0_free 1 rfl) rfl ?_
  have hr9 := o_some hF
  subst hr9
  exact g_iretR C rfl (tdec DX0_free 2 rfl)
def FX0_has (b0 : BS) (p1 : Int32) : Option (Int32) :=
  if p1 < 0 then
    some 0
  else
    if (BS_cnt b0) ≤ p1 then
      some 0
    else
      some 1
def rX0_has : Room := { frames := 0, cells := 0, slots := 0, locals := 0 }
set_option maxHeartbeats 4000000 in
set_option maxRecDepth 100000 in
theorem c_X0_has (l : Launch) (D : va_G) (cB cI cJ cZ : ClassId) (b_0 b_1 b_2 b_3 b_4 b_5 b_6 b_7 b_8 b_9 b_10 b_11 b_12 b_13 b_14 : Nat) {b0 : BS} {p1 : Int32} {res : Int32} (hF : FX0_has b0 p1 = some res) : gRi l yX0_has wsX0_has rX0_has D (gT cB cI cJ cZ) [.ref b_0, .int p1] (wB cI cJ b_0 b_1 b_2 b_3 b_4 b_5 b_6 b_7 b_8 b_9 b_10 b_11 b_12 b_13 b_14 b0) res := by
  refine g_enter (own := RX0) (free := (fun _ _ => False)) (Qc := (fun sz => gRQi res)) (fun _ _ => True) (fun sz => Or.inl rfl) rfl (by decide) rfl (Nat.le_of_ble_eq_true rfl) rfl ?_
  intro p e s m args below meth c C
  unfold FX0_has at hF
  refine g_iload_n (z := 1) C (tdec DX0_has 0 rfl) rfl rfl rfl ?_
  refine g_if_lt (pt := 16) C (tdec DX0_has 1 rfl) (by decide) rfl (fun h1 => ?_) (fun h1 => ?_)
  · have hF := o_ifp hF h1
    refine g_iconst (v := 0) C (tdec DX0_has 8 rfl) (by decide) rfl ?_
    have hr9 := o_some hF
    subst hr9
    exact g_zretR C rfl rfl (tdec DX0_has 9 rfl)
  · have hF := o_ifn hF h1
    refine g_iload_n (z := 1) C (tdec DX0_has 2 rfl) rfl rfl rfl ?_
    refine g_aload_n (z := 0) C (tdec DX0_has 3 rfl) rfl rfl rfl ?_
    refine g_getf (C' := RX0) (T := TX0) (N := 10) (v := .int (BS_cnt b0)) C 0 8 (gIn iw_X0) rfl rfl (by decide) (gMem fl_X0_49) rfl rfl (tdec DX0_has 4 rfl) rfl ?_
    refine g_icmp_ge (pt := 16) C (tdec DX0_has 5 rfl) (by decide) rfl (fun h2 => ?_) (fun h2 => ?_)
    · have hF := o_ifp hF h2
      refine g_iconst (v := 0) C (tdec DX0_has 8 rfl) (by decide) rfl ?_
      have hr9 := o_some hF
      subst hr9
      exact g_zretR C rfl rfl (tdec DX0_has 9 rfl)
    · have hF := o_ifn hF h2
      refine g_iconst (v := 1) C (tdec DX0_has 6 rfl) (by decide) rfl ?_
      refine g_goto (pt := 17) C (tdec DX0_has 7 rfl) (by decide) ?_
      have hr9 := o_some hF
      subst hr9
      exact g_zretR C rfl rfl (tdec DX0_has 9 rfl)
def FX0_level (b0 : BS) (p1 : Int32) : Option (Int32) :=
  (FX1_at 600 (BS_lev b0) p1).bind fun r1 =>
  some r1
def rX0_level : Room := { frames := 1, cells := 0, slots := 0, locals := 21 }
set_option maxHeartbeats 4000000 in
set_option maxRecDepth 100000 in
theorem c_X0_level (l : Launch) (D : va_G) (cB cI cJ cZ : ClassId) (b_0 b_1 b_2 b_3 b_4 b_5 b_6 b_7 b_8 b_9 b_10 b_11 b_12 b_13 b_14 : Nat) {b0 : BS} {p1 : Int32} {res : Int32} (hF : FX0_level b0 p1 = some res) : gRi l yX0_level wsX0_level rX0_level D (gT cB cI cJ cZ) [.ref b_0, .int p1] (wB cI cJ b_0 b_1 b_2 b_3 b_4 b_5 b_6 b_7 b_8 b_9 b_10 b_11 b_12 b_13 b_14 b0) res := by
  refine g_enter (own := RX0) (free := (fun _ _ => False)) (Qc := (fun sz => gRQi res)) (fun _ _ => True) (fun sz => Or.inl rfl) rfl (by decide) rfl (Nat.le_of_ble_eq_true rfl) rfl ?_
  intro p e s m args below meth c C
  unfold FX0_level at hF
  refine g_aload_n (z := 0) C (tdec DX0_level 0 rfl) rfl rfl rfl ?_
  refine g_getf (C' := RX0) (T := TX0) (N := 10) (v := .ref b_1) C 0 0 (gIn iw_X0) rfl rfl (by decide) (gMem fl_X0_14) rfl rfl (tdec DX0_level 1 rfl) rfl ?_
  refine g_iload_n (z := 1) C (tdec DX0_level 2 rfl) rfl rfl rfl ?_
  obtain ⟨r1, y2, hF⟩ := o_bind hF
  refine g_callViR (q0 := 1) C (c_X1_at l D cB cI cJ cZ b_1 b_2 y2) rfl rfl (gIV ml_X0_55 im_X1_at sl_X1_at in_X1 cd_X1_at) rfl eX1_at rfl ⟨rfl, rfl⟩ ⟨Nat.le_of_ble_eq_true rfl, Nat.le_of_ble_eq_true rfl⟩ rfl [1, 2] rfl rfl rfl (Nat.le_of_ble_eq_true rfl) (tdec DX0_level 3 rfl) rfl ?_
  have hr9 := o_some hF
  subst hr9
  exact g_iretR C rfl (tdec DX0_level 4 rfl)
def FX0_birthOfBlock (b0 : BS) (p1 : Int32) : Option (Int32) :=
  (FX1_at 600 (BS_lev b0) p1).bind fun r1 =>
  if r1 = (-1) then
    some (-1)
  else
    (FX1_at 600 (BS_bob b0) p1).bind fun r4 =>
    some r4
def rX0_birthOfBlock : Room := { frames := 1, cells := 0, slots := 0, locals := 21 }
set_option maxHeartbeats 4000000 in
set_option maxRecDepth 100000 in
theorem c_X0_birthOfBlock (l : Launch) (D : va_G) (cB cI cJ cZ : ClassId) (b_0 b_1 b_2 b_3 b_4 b_5 b_6 b_7 b_8 b_9 b_10 b_11 b_12 b_13 b_14 : Nat) {b0 : BS} {p1 : Int32} {res : Int32} (hF : FX0_birthOfBlock b0 p1 = some res) : gRi l yX0_birthOfBlock wsX0_birthOfBlock rX0_birthOfBlock D (gT cB cI cJ cZ) [.ref b_0, .int p1] (wB cI cJ b_0 b_1 b_2 b_3 b_4 b_5 b_6 b_7 b_8 b_9 b_10 b_11 b_12 b_13 b_14 b0) res := by
  refine g_enter (own := RX0) (free := (fun _ _ => False)) (Qc := (fun sz => gRQi res)) (fun _ _ => True) (fun sz => Or.inl rfl) rfl (by decide) rfl (Nat.le_of_ble_eq_true rfl) rfl ?_
  intro p e s m args below meth c C
  unfold FX0_birthOfBlock at hF
  refine g_aload_n (z := 0) C (tdec DX0_birthOfBlock 0 rfl) rfl rfl rfl ?_
  refine g_getf (C' := RX0) (T := TX0) (N := 10) (v := .ref b_1) C 0 0 (gIn iw_X0) rfl rfl (by decide) (gMem fl_X0_14) rfl rfl (tdec DX0_birthOfBlock 1 rfl) rfl ?_
  refine g_iload_n (z := 1) C (tdec DX0_birthOfBlock 2 rfl) rfl rfl rfl ?_
  obtain ⟨r1, y2, hF⟩ := o_bind hF
  refine g_callViR (q0 := 1) C (c_X1_at l D cB cI cJ cZ b_1 b_2 y2) rfl rfl (gIV ml_X0_55 im_X1_at sl_X1_at in_X1 cd_X1_at) rfl eX1_at rfl ⟨rfl, rfl⟩ ⟨Nat.le_of_ble_eq_true rfl, Nat.le_of_ble_eq_true rfl⟩ rfl [1, 2] rfl rfl rfl (Nat.le_of_ble_eq_true rfl) (tdec DX0_birthOfBlock 3 rfl) rfl ?_
  refine g_iconst (v := (-1)) C (tdec DX0_birthOfBlock 4 rfl) (by decide) rfl ?_
  refine g_icmp_ne (pt := 16) C (tdec DX0_birthOfBlock 5 rfl) (by decide) rfl (fun h3 => ?_) (fun h3 => ?_)
  · have hF := o_ifn hF h3
    refine g_aload_n (z := 0) C (tdec DX0_birthOfBlock 8 rfl) rfl rfl rfl ?_
    refine g_getf (C' := RX0) (T := TX0) (N := 10) (v := .ref b_3) C 0 1 (gIn iw_X0) rfl rfl (by decide) (gMem fl_X0_20) rfl rfl (tdec DX0_birthOfBlock 9 rfl) rfl ?_
    refine g_iload_n (z := 1) C (tdec DX0_birthOfBlock 10 rfl) rfl rfl rfl ?_
    obtain ⟨r4, y5, hF⟩ := o_bind hF
    refine g_callViR (q0 := 3) C (c_X1_at l D cB cI cJ cZ b_3 b_4 y5) rfl rfl (gIV ml_X0_55 im_X1_at sl_X1_at in_X1 cd_X1_at) rfl eX1_at rfl ⟨rfl, rfl⟩ ⟨Nat.le_of_ble_eq_true rfl, Nat.le_of_ble_eq_true rfl⟩ rfl [3, 4] rfl rfl rfl (Nat.le_of_ble_eq_true rfl) (tdec DX0_birthOfBlock 11 rfl) rfl ?_
    have hr9 := o_some hF
    subst hr9
    exact g_iretR C rfl (tdec DX0_birthOfBlock 12 rfl)
  · have hF := o_ifp hF h3
    refine g_iconst (v := (-1)) C (tdec DX0_birthOfBlock 6 rfl) (by decide) rfl ?_
    refine g_goto (pt := 24) C (tdec DX0_birthOfBlock 7 rfl) (by decide) ?_
    have hr9 := o_some hF
    subst hr9
    exact g_iretR C rfl (tdec DX0_birthOfBlock 12 rfl)
def FX0_tellers (b0 : BS) (p1 : Int32) : Option (Int32) :=
  (FX1_at 600 (BS_tel b0) p1).bind fun r1 =>
  some r1
def rX0_tellers : Room := { frames := 1, cells := 0, slots := 0, locals := 21 }
set_option maxHeartbeats 4000000 in
set_option maxRecDepth 100000 in
theorem c_X0_tellers (l : Launch) (D : va_G) (cB cI cJ cZ : ClassId) (b_0 b_1 b_2 b_3 b_4 b_5 b_6 b_7 b_8 b_9 b_10 b_11 b_12 b_13 b_14 : Nat) {b0 : BS} {p1 : Int32} {res : Int32} (hF : FX0_tellers b0 p1 = some res) : gRi l yX0_tellers wsX0_tellers rX0_tellers D (gT cB cI cJ cZ) [.ref b_0, .int p1] (wB cI cJ b_0 b_1 b_2 b_3 b_4 b_5 b_6 b_7 b_8 b_9 b_10 b_11 b_12 b_13 b_14 b0) res := by
  refine g_enter (own := RX0) (free := (fun _ _ => False)) (Qc := (fun sz => gRQi res)) (fun _ _ => True) (fun sz => Or.inl rfl) rfl (by decide) rfl (Nat.le_of_ble_eq_true rfl) rfl ?_
  intro p e s m args below meth c C
  unfold FX0_tellers at hF
  refine g_aload_n (z := 0) C (tdec DX0_tellers 0 rfl) rfl rfl rfl ?_
  refine g_getf (C' := RX0) (T := TX0) (N := 10) (v := .ref b_5) C 0 2 (gIn iw_X0) rfl rfl (by decide) (gMem fl_X0_23) rfl rfl (tdec DX0_tellers 1 rfl) rfl ?_
  refine g_iload_n (z := 1) C (tdec DX0_tellers 2 rfl) rfl rfl rfl ?_
  obtain ⟨r1, y2, hF⟩ := o_bind hF
  refine g_callViR (q0 := 5) C (c_X1_at l D cB cI cJ cZ b_5 b_6 y2) rfl rfl (gIV ml_X0_55 im_X1_at sl_X1_at in_X1 cd_X1_at) rfl eX1_at rfl ⟨rfl, rfl⟩ ⟨Nat.le_of_ble_eq_true rfl, Nat.le_of_ble_eq_true rfl⟩ rfl [5, 6] rfl rfl rfl (Nat.le_of_ble_eq_true rfl) (tdec DX0_tellers 3 rfl) rfl ?_
  have hr9 := o_some hF
  subst hr9
  exact g_iretR C rfl (tdec DX0_tellers 4 rfl)
def FX0_number (b0 : BS) (p1 : Int32) : Option (Int64) :=
  (FX2_at 600 (BS_num b0) p1).bind fun r1 =>
  some r1
def rX0_number : Room := { frames := 1, cells := 0, slots := 0, locals := 21 }
set_option maxHeartbeats 4000000 in
set_option maxRecDepth 100000 in
theorem c_X0_number (l : Launch) (D : va_G) (cB cI cJ cZ : ClassId) (b_0 b_1 b_2 b_3 b_4 b_5 b_6 b_7 b_8 b_9 b_10 b_11 b_12 b_13 b_14 : Nat) {b0 : BS} {p1 : Int32} {res : Int64} (hF : FX0_number b0 p1 = some res) : gRl l yX0_number wsX0_number rX0_number D (gT cB cI cJ cZ) [.ref b_0, .int p1] (wB cI cJ b_0 b_1 b_2 b_3 b_4 b_5 b_6 b_7 b_8 b_9 b_10 b_11 b_12 b_13 b_14 b0) res := by
  refine g_enter (own := RX0) (free := (fun _ _ => False)) (Qc := (fun sz => gRQl res)) (fun _ _ => True) (fun sz => Or.inl rfl) rfl (by decide) rfl (Nat.le_of_ble_eq_true rfl) rfl ?_
  intro p e s m args below meth c C
  unfold FX0_number at hF
  refine g_aload_n (z := 0) C (tdec DX0_number 0 rfl) rfl rfl rfl ?_
  refine g_getf (C' := RX0) (T := TX0) (N := 10) (v := .ref b_7) C 0 3 (gIn iw_X0) rfl rfl (by decide) (gMem fl_X0_29) rfl rfl (tdec DX0_number 1 rfl) rfl ?_
  refine g_iload_n (z := 1) C (tdec DX0_number 2 rfl) rfl rfl rfl ?_
  obtain ⟨r1, y2, hF⟩ := o_bind hF
  refine g_callVlR (q0 := 7) C (c_X2_at l D cB cI cJ cZ b_7 b_8 y2) rfl rfl (gIV ml_X0_59 im_X2_at sl_X2_at in_X2 cd_X2_at) rfl eX2_at rfl ⟨rfl, rfl⟩ ⟨Nat.le_of_ble_eq_true rfl, Nat.le_of_ble_eq_true rfl⟩ rfl [7, 8] rfl rfl rfl (Nat.le_of_ble_eq_true rfl) (tdec DX0_number 3 rfl) rfl ?_
  have hr9 := o_some hF
  subst hr9
  exact g_lretR C rfl (tdec DX0_number 4 rfl)
def FX0_putNumber (b0 : BS) (p1 : Int32) (p2 : Int64) : Option (BS) :=
  (FX2_put 600 (BS_num b0) p1 p2).bind fun s1 =>
  some (BS_setnum b0 s1)
def rX0_putNumber : Room := { frames := 1, cells := 0, slots := 0, locals := 23 }
set_option maxHeartbeats 4000000 in
set_option maxRecDepth 100000 in
theorem c_X0_putNumber (l : Launch) (D : va_G) (cB cI cJ cZ : ClassId) (b_0 b_1 b_2 b_3 b_4 b_5 b_6 b_7 b_8 b_9 b_10 b_11 b_12 b_13 b_14 : Nat) {b0 : BS} {p1 : Int32} {p2 : Int64} {res : BS} (hF : FX0_putNumber b0 p1 p2 = some res) : gMv l yX0_putNumber wsX0_putNumber rX0_putNumber D (gT cB cI cJ cZ) [.ref b_0, .int p1, .long p2] (wB cI cJ b_0 b_1 b_2 b_3 b_4 b_5 b_6 b_7 b_8 b_9 b_10 b_11 b_12 b_13 b_14 b0) (wB cI cJ b_0 b_1 b_2 b_3 b_4 b_5 b_6 b_7 b_8 b_9 b_10 b_11 b_12 b_13 b_14 res) := by
  refine g_enter (own := RX0) (free := (fun sz => va_A (wB cI cJ b_0 b_1 b_2 b_3 b_4 b_5 b_6 b_7 b_8 b_9 b_10 b_11 b_12 b_13 b_14 b0) sz)) (Qc := (fun sz => gQv D (wB cI cJ b_0 b_1 b_2 b_3 b_4 b_5 b_6 b_7 b_8 b_9 b_10 b_11 b_12 b_13 b_14 b0) sz (wB cI cJ b_0 b_1 b_2 b_3 b_4 b_5 b_6 b_7 b_8 b_9 b_10 b_11 b_12 b_13 b_14 res))) (fun sz => va_A (wB cI cJ b_0 b_1 b_2 b_3 b_4 b_5 b_6 b_7 b_8 b_9 b_10 b_11 b_12 b_13 b_14 b0) sz) (fun sz => Or.inr rfl) rfl (by decide) rfl (Nat.le_of_ble_eq_true rfl) rfl ?_
  intro p e s m args below meth c C
  unfold FX0_putNumber at hF
  refine g_aload_n (z := 0) C (tdec DX0_putNumber 0 rfl) rfl rfl rfl ?_
  refine g_getf (C' := RX0) (T := TX0) (N := 10) (v := .ref b_7) C 0 3 (gIn iw_X0) rfl rfl (by decide) (gMem fl_X0_29) rfl rfl (tdec DX0_putNumber 1 rfl) rfl ?_
  refine g_iload_n (z := 1) C (tdec DX0_putNumber 2 rfl) rfl rfl rfl ?_
  refine g_lload_n (z := 2) C (tdec DX0_putNumber 3 rfl) rfl rfl rfl ?_
  obtain ⟨s1, y2, hF⟩ := o_bind hF
  refine g_callVvM (q0 := 7) (W' := wB cI cJ b_0 b_1 b_2 b_3 b_4 b_5 b_6 b_7 b_8 b_9 b_10 b_11 b_12 b_13 b_14 (BS_setnum b0 s1)) C (c_X2_put l D cB cI cJ cZ b_7 b_8 y2) rfl rfl (gIV ml_X0_62 im_X2_put sl_X2_put in_X2 cd_X2_put) rfl eX2_put rfl ⟨rfl, rfl⟩ ⟨Nat.le_of_ble_eq_true rfl, Nat.le_of_ble_eq_true rfl⟩ rfl [7, 8] rfl rfl rfl rfl rfl rfl (Nat.le_of_ble_eq_true rfl) (tdec DX0_putNumber 4 rfl) rfl ?_
  have hr9 := o_some hF
  subst hr9
  exact g_vret C rfl (tdec DX0_putNumber 5 rfl)
def FX0_told (b0 : BS) (p1 : Int32) : Option (Int32) :=
  (FX1_at 4822 (BS_told b0) p1).bind fun r1 =>
  some r1
def rX0_told : Room := { frames := 1, cells := 0, slots := 0, locals := 21 }
set_option maxHeartbeats 4000000 in
set_option maxRecDepth 100000 in
theorem c_X0_told (l : Launch) (D : va_G) (cB cI cJ cZ : ClassId) (b_0 b_1 b_2 b_3 b_4 b_5 b_6 b_7 b_8 b_9 b_10 b_11 b_12 b_13 b_14 : Nat) {b0 : BS} {p1 : Int32} {res : Int32} (hF : FX0_told b0 p1 = some res) : gRi l yX0_told wsX0_told rX0_told D (gT cB cI cJ cZ) [.ref b_0, .int p1] (wB cI cJ b_0 b_1 b_2 b_3 b_4 b_5 b_6 b_7 b_8 b_9 b_10 b_11 b_12 b_13 b_14 b0) res := by
  refine g_enter (own := RX0) (free := (fun _ _ => False)) (Qc := (fun sz => gRQi res)) (fun _ _ => True) (fun sz => Or.inl rfl) rfl (by decide) rfl (Nat.le_of_ble_eq_true rfl) rfl ?_
  intro p e s m args below meth c C
  unfold FX0_told at hF
  refine g_aload_n (z := 0) C (tdec DX0_told 0 rfl) rfl rfl rfl ?_
  refine g_getf (C' := RX0) (T := TX0) (N := 10) (v := .ref b_9) C 0 4 (gIn iw_X0) rfl rfl (by decide) (gMem fl_X0_33) rfl rfl (tdec DX0_told 1 rfl) rfl ?_
  refine g_iload_n (z := 1) C (tdec DX0_told 2 rfl) rfl rfl rfl ?_
  obtain ⟨r1, y2, hF⟩ := o_bind hF
  refine g_callViR (q0 := 9) C (c_X1_at l D cB cI cJ cZ b_9 b_10 y2) rfl rfl (gIV ml_X0_55 im_X1_at sl_X1_at in_X1 cd_X1_at) rfl eX1_at rfl ⟨rfl, rfl⟩ ⟨Nat.le_of_ble_eq_true rfl, Nat.le_of_ble_eq_true rfl⟩ rfl [9, 10] rfl rfl rfl (Nat.le_of_ble_eq_true rfl) (tdec DX0_told 3 rfl) rfl ?_
  have hr9 := o_some hF
  subst hr9
  exact g_iretR C rfl (tdec DX0_told 4 rfl)
def FX0_birth (b0 : BS) (p1 : Int32) : Option (Int32) :=
  (FX1_at 4822 (BS_bir b0) p1).bind fun r1 =>
  some r1
def rX0_birth : Room := { frames := 1, cells := 0, slots := 0, locals := 21 }
set_option maxHeartbeats 4000000 in
set_option maxRecDepth 100000 in
theorem c_X0_birth (l : Launch) (D : va_G) (cB cI cJ cZ : ClassId) (b_0 b_1 b_2 b_3 b_4 b_5 b_6 b_7 b_8 b_9 b_10 b_11 b_12 b_13 b_14 : Nat) {b0 : BS} {p1 : Int32} {res : Int32} (hF : FX0_birth b0 p1 = some res) : gRi l yX0_birth wsX0_birth rX0_birth D (gT cB cI cJ cZ) [.ref b_0, .int p1] (wB cI cJ b_0 b_1 b_2 b_3 b_4 b_5 b_6 b_7 b_8 b_9 b_10 b_11 b_12 b_13 b_14 b0) res := by
  refine g_enter (own := RX0) (free := (fun _ _ => False)) (Qc := (fun sz => gRQi res)) (fun _ _ => True) (fun sz => Or.inl rfl) rfl (by decide) rfl (Nat.le_of_ble_eq_true rfl) rfl ?_
  intro p e s m args below meth c C
  unfold FX0_birth at hF
  refine g_aload_n (z := 0) C (tdec DX0_birth 0 rfl) rfl rfl rfl ?_
  refine g_getf (C' := RX0) (T := TX0) (N := 10) (v := .ref b_11) C 0 5 (gIn iw_X0) rfl rfl (by decide) (gMem fl_X0_36) rfl rfl (tdec DX0_birth 1 rfl) rfl ?_
  refine g_iload_n (z := 1) C (tdec DX0_birth 2 rfl) rfl rfl rfl ?_
  obtain ⟨r1, y2, hF⟩ := o_bind hF
  refine g_callViR (q0 := 11) C (c_X1_at l D cB cI cJ cZ b_11 b_12 y2) rfl rfl (gIV ml_X0_55 im_X1_at sl_X1_at in_X1 cd_X1_at) rfl eX1_at rfl ⟨rfl, rfl⟩ ⟨Nat.le_of_ble_eq_true rfl, Nat.le_of_ble_eq_true rfl⟩ rfl [11, 12] rfl rfl rfl (Nat.le_of_ble_eq_true rfl) (tdec DX0_birth 3 rfl) rfl ?_
  have hr9 := o_some hF
  subst hr9
  exact g_iretR C rfl (tdec DX0_birth 4 rfl)
def FX0_slotIn (b0 : BS) (p1 : Int32) (p2 : Int32) : Option (Int32) :=
  (FX1_at 600 (BS_lev b0) p1).bind fun r1 =>
  if 1 ≤ r1 then
    some ((p1 * 8) + ((p2 >>> ((3 * (r1 - 1)) &&& 31)) &&& 7))
  else
    some (-1)
def rX0_slotIn : Room := { frames := 1, cells := 0, slots := 0, locals := 21 }
set_option maxHeartbeats 4000000 in
set_option maxRecDepth 100000 in
theorem c_X0_slotIn (l : Launch) (D : va_G) (cB cI cJ cZ : ClassId) (b_0 b_1 b_2 b_3 b_4 b_5 b_6 b_7 b_8 b_9 b_10 b_11 b_12 b_13 b_14 : Nat) {b0 : BS} {p1 : Int32} {p2 : Int32} {res : Int32} (hF : FX0_slotIn b0 p1 p2 = some res) : gRi l yX0_slotIn wsX0_slotIn rX0_slotIn D (gT cB cI cJ cZ) [.ref b_0, .int p1, .int p2] (wB cI cJ b_0 b_1 b_2 b_3 b_4 b_5 b_6 b_7 b_8 b_9 b_10 b_11 b_12 b_13 b_14 b0) res := by
  refine g_enter (own := RX0) (free := (fun _ _ => False)) (Qc := (fun sz => gRQi res)) (fun _ _ => True) (fun sz => Or.inl rfl) rfl (by decide) rfl (Nat.le_of_ble_eq_true rfl) rfl ?_
  intro p e s m args below meth c C
  unfold FX0_slotIn at hF
  refine g_aload_n (z := 0) C (tdec DX0_slotIn 0 rfl) rfl rfl rfl ?_
  refine g_getf (C' := RX0) (T := TX0) (N := 10) (v := .ref b_1) C 0 0 (gIn iw_X0) rfl rfl (by decide) (gMem fl_X0_14) rfl rfl (tdec DX0_slotIn 1 rfl) rfl ?_
  refine g_iload_n (z := 1) C (tdec DX0_slotIn 2 rfl) rfl rfl rfl ?_
  obtain ⟨r1, y2, hF⟩ := o_bind hF
  refine g_callViR (q0 := 1) C (c_X1_at l D cB cI cJ cZ b_1 b_2 y2) rfl rfl (gIV ml_X0_55 im_X1_at sl_X1_at in_X1 cd_X1_at) rfl eX1_at rfl ⟨rfl, rfl⟩ ⟨Nat.le_of_ble_eq_true rfl, Nat.le_of_ble_eq_true rfl⟩ rfl [1, 2] rfl rfl rfl (Nat.le_of_ble_eq_true rfl) (tdec DX0_slotIn 3 rfl) rfl ?_
  refine g_istore_n (L' := [(3, .int r1), (0, .ref b_0), (1, .int p1), (2, .int p2)]) C (tdec DX0_slotIn 4 rfl) rfl (by decide) rfl rfl ?_
  refine g_iload_n (z := 0) C (tdec DX0_slotIn 5 rfl) rfl rfl rfl ?_
  refine g_iconst (v := 1) C (tdec DX0_slotIn 6 rfl) (by decide) rfl ?_
  refine g_icmp_ge (pt := 16) C (tdec DX0_slotIn 7 rfl) (by decide) rfl (fun h3 => ?_) (fun h3 => ?_)
  · have hF := o_ifp hF h3
    refine g_iload_n (z := 2) C (tdec DX0_slotIn 10 rfl) rfl rfl rfl ?_
    refine g_bipush (v := 8) C (tdec DX0_slotIn 11 rfl) (by decide) rfl ?_
    refine g_imul C (tdec DX0_slotIn 12 rfl) rfl ?_
    refine g_iload_n (z := 3) C (tdec DX0_slotIn 13 rfl) rfl rfl rfl ?_
    refine g_iconst (v := 3) C (tdec DX0_slotIn 14 rfl) (by decide) rfl ?_
    refine g_iload_n (z := 0) C (tdec DX0_slotIn 15 rfl) rfl rfl rfl ?_
    refine g_iconst (v := 1) C (tdec DX0_slotIn 16 rfl) (by decide) rfl ?_
    refine g_isub C (tdec DX0_slotIn 17 rfl) rfl ?_
    refine g_imul C (tdec DX0_slotIn 18 rfl) rfl ?_
    refine g_ishr C (tdec DX0_slotIn 19 rfl) rfl ?_
    refine g_bipush (v := 7) C (tdec DX0_slotIn 20 rfl) (by decide) rfl ?_
    refine g_iand C (tdec DX0_slotIn 21 rfl) rfl ?_
    refine g_iadd C (tdec DX0_slotIn 22 rfl) rfl ?_
    have hr9 := o_some hF
    subst hr9
    exact g_iretR C rfl (tdec DX0_slotIn 23 rfl)
  · have hF := o_ifn hF h3
    refine g_iconst (v := (-1)) C (tdec DX0_slotIn 8 rfl) (by decide) rfl ?_
    have hr9 := o_some hF
    subst hr9
    exact g_iretR C rfl (tdec DX0_slotIn 9 rfl)
def FX0_point (b0 : BS) (p1 : Int32) (p2 : Int32) (p3 : Int32) : Option (BS) :=
  (FX1_at 4822 (BS_told b0) p1).bind fun r1 =>
  if p2 = (-1) then
    (FX1_put 4822 (BS_told b0) p1 p2).bind fun s4 =>
    (FX1_put 4822 (BS_bir b0) p1 p3).bind fun s6 =>
    if r1 = (-1) then
      some (BS_setbir (BS_settold b0 s4) s6)
    else
      (FX1_at 600 (BS_tel b0) r1).bind fun r9 =>
      (FX1_put 600 (BS_tel b0) r1 (r9 - 1)).bind fun s11 =>
      (FX1_at 600 s11 r1).bind fun r13 =>
      if r13 = 0 then
        (FX1_put 600 (BS_loo b0) (BS_lc b0) r1).bind fun s16 =>
        some (BS_setlc (BS_setloo (BS_settel (BS_setbir (BS_settold b0 s4) s6) s11) s16) ((BS_lc b0) + 1))
      else
        some (BS_settel (BS_setbir (BS_settold b0 s4) s6) s11)
  else
    (FX1_at 600 (BS_tel b0) p2).bind fun r18 =>
    (FX1_put 600 (BS_tel b0) p2 (r18 + 1)).bind fun s20 =>
    (FX1_put 4822 (BS_told b0) p1 p2).bind fun s22 =>
    (FX1_put 4822 (BS_bir b0) p1 p3).bind fun s24 =>
    if r1 = (-1) then
      some (BS_setbir (BS_settold (BS_settel b0 s20) s22) s24)
    else
      (FX1_at 600 s20 r1).bind fun r27 =>
      (FX1_put 600 s20 r1 (r27 - 1)).bind fun s29 =>
      (FX1_at 600 s29 r1).bind fun r31 =>
      if r31 = 0 then
        (FX1_put 600 (BS_loo b0) (BS_lc b0) r1).bind fun s34 =>
        some (BS_setlc (BS_setloo (BS_settel (BS_setbir (BS_settold (BS_settel b0 s20) s22) s24) s29) s34) ((BS_lc b0) + 1))
      else
        some (BS_settel (BS_setbir (BS_settold (BS_settel b0 s20) s22) s24) s29)
def rX0_point : Room := { frames := 1, cells := 0, slots := 0, locals := 22 }
set_option maxHeartbeats 4000000 in
set_option maxRecDepth 100000 in
theorem c_X0_point (l : Launch) (D : va_G) (cB cI cJ cZ : ClassId) (b_0 b_1 b_2 b_3 b_4 b_5 b_6 b_7 b_8 b_9 b_10 b_11 b_12 b_13 b_14 : Nat) {b0 : BS} {p1 : Int32} {p2 : Int32} {p3 : Int32} {res : BS} (hF : FX0_point b0 p1 p2 p3 = some res) : gMv l yX0_point wsX0_point rX0_point D (gT cB cI cJ cZ) [.ref b_0, .int p1, .int p2, .int p3] (wB cI cJ b_0 b_1 b_2 b_3 b_4 b_5 b_6 b_7 b_8 b_9 b_10 b_11 b_12 b_13 b_14 b0) (wB cI cJ b_0 b_1 b_2 b_3 b_4 b_5 b_6 b_7 b_8 b_9 b_10 b_11 b_12 b_13 b_14 res) := by
  refine g_enter (own := RX0) (free := (fun sz => va_A (wB cI cJ b_0 b_1 b_2 b_3 b_4 b_5 b_6 b_7 b_8 b_9 b_10 b_11 b_12 b_13 b_14 b0) sz)) (Qc := (fun sz => gQv D (wB cI cJ b_0 b_1 b_2 b_3 b_4 b_5 b_6 b_7 b_8 b_9 b_10 b_11 b_12 b_13 b_14 b0) sz (wB cI cJ b_0 b_1 b_2 b_3 b_4 b_5 b_6 b_7 b_8 b_9 b_10 b_11 b_12 b_13 b_14 res))) (fun sz => va_A (wB cI cJ b_0 b_1 b_2 b_3 b_4 b_5 b_6 b_7 b_8 b_9 b_10 b_11 b_12 b_13 b_14 b0) sz) (fun sz => Or.inr rfl) rfl (by decide) rfl (Nat.le_of_ble_eq_true rfl) rfl ?_
  intro p e s m args below meth c C
  unfold FX0_point at hF
  refine g_aload_n (z := 0) C (tdec DX0_point 0 rfl) rfl rfl rfl ?_
  refine g_getf (C' := RX0) (T := TX0) (N := 10) (v := .ref b_9) C 0 4 (gIn iw_X0) rfl rfl (by decide) (gMem fl_X0_33) rfl rfl (tdec DX0_point 1 rfl) rfl ?_
  refine g_iload_n (z := 1) C (tdec DX0_point 2 rfl) rfl rfl rfl ?_
  obtain ⟨r1, y2, hF⟩ := o_bind hF
  refine g_callViR (q0 := 9) C (c_X1_at l D cB cI cJ cZ b_9 b_10 y2) rfl rfl (gIV ml_X0_55 im_X1_at sl_X1_at in_X1 cd_X1_at) rfl eX1_at rfl ⟨rfl, rfl⟩ ⟨Nat.le_of_ble_eq_true rfl, Nat.le_of_ble_eq_true rfl⟩ rfl [9, 10] rfl rfl rfl (Nat.le_of_ble_eq_true rfl) (tdec DX0_point 3 rfl) rfl ?_
  refine g_istore (L' := [(4, .int r1), (0, .ref b_0), (1, .int p1), (2, .int p2), (3, .int p3)]) C (tdec DX0_point 4 rfl) (by decide) rfl rfl ?_
  refine g_iload_n (z := 3) C (tdec DX0_point 5 rfl) rfl rfl rfl ?_
  refine g_iconst (v := (-1)) C (tdec DX0_point 6 rfl) (by decide) rfl ?_
  refine g_icmp_eq (pt := 33) C (tdec DX0_point 7 rfl) (by decide) rfl (fun h3 => ?_) (fun h3 => ?_)
  · have hF := o_ifp hF h3
    refine g_aload_n (z := 1) C (tdec DX0_point 18 rfl) rfl rfl rfl ?_
    refine g_getf (C' := RX0) (T := TX0) (N := 10) (v := .ref b_9) C 0 4 (gIn iw_X0) rfl rfl (by decide) (gMem fl_X0_33) rfl rfl (tdec DX0_point 19 rfl) rfl ?_
    refine g_iload_n (z := 2) C (tdec DX0_point 20 rfl) rfl rfl rfl ?_
    refine g_iload_n (z := 3) C (tdec DX0_point 21 rfl) rfl rfl rfl ?_
    obtain ⟨s4, y5, hF⟩ := o_bind hF
    refine g_callVvM (q0 := 9) (W' := wB cI cJ b_0 b_1 b_2 b_3 b_4 b_5 b_6 b_7 b_8 b_9 b_10 b_11 b_12 b_13 b_14 (BS_settold b0 s4)) C (c_X1_put l D cB cI cJ cZ b_9 b_10 y5) rfl rfl (gIV ml_X0_66 im_X1_put sl_X1_put in_X1 cd_X1_put) rfl eX1_put rfl ⟨rfl, rfl⟩ ⟨Nat.le_of_ble_eq_true rfl, Nat.le_of_ble_eq_true rfl⟩ rfl [9, 10] rfl rfl rfl rfl rfl rfl (Nat.le_of_ble_eq_true rfl) (tdec DX0_point 22 rfl) rfl ?_
    refine g_aload_n (z := 1) C (tdec DX0_point 23 rfl) rfl rfl rfl ?_
    refine g_getf (C' := RX0) (T := TX0) (N := 10) (v := .ref b_11) C 0 5 (gIn iw_X0) rfl rfl (by decide) (gMem fl_X0_36) rfl rfl (tdec DX0_point 24 rfl) rfl ?_
    refine g_iload_n (z := 2) C (tdec DX0_point 25 rfl) rfl rfl rfl ?_
    refine g_iload_n (z := 4) C (tdec DX0_point 26 rfl) rfl rfl rfl ?_
    obtain ⟨s6, y7, hF⟩ := o_bind hF
    refine g_callVvM (q0 := 11) (W' := wB cI cJ b_0 b_1 b_2 b_3 b_4 b_5 b_6 b_7 b_8 b_9 b_10 b_11 b_12 b_13 b_14 (BS_setbir (BS_settold b0 s4) s6)) C (c_X1_put l D cB cI cJ cZ b_11 b_12 y7) rfl rfl (gIV ml_X0_66 im_X1_put sl_X1_put in_X1 cd_X1_put) rfl eX1_put rfl ⟨rfl, rfl⟩ ⟨Nat.le_of_ble_eq_true rfl, Nat.le_of_ble_eq_true rfl⟩ rfl [11, 12] rfl rfl rfl rfl rfl rfl (Nat.le_of_ble_eq_true rfl) (tdec DX0_point 27 rfl) rfl ?_
    refine g_iload (z := 0) C (tdec DX0_point 28 rfl) rfl rfl ?_
    refine g_iconst (v := (-1)) C (tdec DX0_point 29 rfl) (by decide) rfl ?_
    refine g_icmp_eq (pt := 112) C (tdec DX0_point 30 rfl) (by decide) rfl (fun h8 => ?_) (fun h8 => ?_)
    · have hF := o_ifp hF h8
      have hr9 := o_some hF
      subst hr9
      exact g_vret C rfl (tdec DX0_point 58 rfl)
    · have hF := o_ifn hF h8
      refine g_aload_n (z := 1) C (tdec DX0_point 31 rfl) rfl rfl rfl ?_
      refine g_getf (C' := RX0) (T := TX0) (N := 10) (v := .ref b_5) C 0 2 (gIn iw_X0) rfl rfl (by decide) (gMem fl_X0_23) rfl rfl (tdec DX0_point 32 rfl) rfl ?_
      refine g_iload (z := 0) C (tdec DX0_point 33 rfl) rfl rfl ?_
      refine g_aload_n (z := 1) C (tdec DX0_point 34 rfl) rfl rfl rfl ?_
      refine g_getf (C' := RX0) (T := TX0) (N := 10) (v := .ref b_5) C 0 2 (gIn iw_X0) rfl rfl (by decide) (gMem fl_X0_23) rfl rfl (tdec DX0_point 35 rfl) rfl ?_
      refine g_iload (z := 0) C (tdec DX0_point 36 rfl) rfl rfl ?_
      obtain ⟨r9, y10, hF⟩ := o_bind hF
      refine g_callViR (q0 := 5) C (c_X1_at l D cB cI cJ cZ b_5 b_6 y10) rfl rfl (gIV ml_X0_55 im_X1_at sl_X1_at in_X1 cd_X1_at) rfl eX1_at rfl ⟨rfl, rfl⟩ ⟨Nat.le_of_ble_eq_true rfl, Nat.le_of_ble_eq_true rfl⟩ rfl [5, 6] rfl rfl rfl (Nat.le_of_ble_eq_true rfl) (tdec DX0_point 37 rfl) rfl ?_
      refine g_iconst (v := 1) C (tdec DX0_point 38 rfl) (by decide) rfl ?_
      refine g_isub C (tdec DX0_point 39 rfl) rfl ?_
      obtain ⟨s11, y12, hF⟩ := o_bind hF
      refine g_callVvM (q0 := 5) (W' := wB cI cJ b_0 b_1 b_2 b_3 b_4 b_5 b_6 b_7 b_8 b_9 b_10 b_11 b_12 b_13 b_14 (BS_settel (BS_setbir (BS_settold b0 s4) s6) s11)) C (c_X1_put l D cB cI cJ cZ b_5 b_6 y12) rfl rfl (gIV ml_X0_66 im_X1_put sl_X1_put in_X1 cd_X1_put) rfl eX1_put rfl ⟨rfl, rfl⟩ ⟨Nat.le_of_ble_eq_true rfl, Nat.le_of_ble_eq_true rfl⟩ rfl [5, 6] rfl rfl rfl rfl rfl rfl (Nat.le_of_ble_eq_true rfl) (tdec DX0_point 40 rfl) rfl ?_
      refine g_aload_n (z := 1) C (tdec DX0_point 41 rfl) rfl rfl rfl ?_
      refine g_getf (C' := RX0) (T := TX0) (N := 10) (v := .ref b_5) C 0 2 (gIn iw_X0) rfl rfl (by decide) (gMem fl_X0_23) rfl rfl (tdec DX0_point 42 rfl) rfl ?_
      refine g_iload (z := 0) C (tdec DX0_point 43 rfl) rfl rfl ?_
      obtain ⟨r13, y14, hF⟩ := o_bind hF
      refine g_callViR (q0 := 5) C (c_X1_at l D cB cI cJ cZ b_5 b_6 y14) rfl rfl (gIV ml_X0_55 im_X1_at sl_X1_at in_X1 cd_X1_at) rfl eX1_at rfl ⟨rfl, rfl⟩ ⟨Nat.le_of_ble_eq_true rfl, Nat.le_of_ble_eq_true rfl⟩ rfl [5, 6] rfl rfl rfl (Nat.le_of_ble_eq_true rfl) (tdec DX0_point 44 rfl) rfl ?_
      refine g_if_ne (pt := 112) C (tdec DX0_point 45 rfl) (by decide) rfl (fun h15 => ?_) (fun h15 => ?_)
      · have hF := o_ifn hF h15
        have hr9 := o_some hF
        subst hr9
        exact g_vret C rfl (tdec DX0_point 58 rfl)
      · have hF := o_ifp hF h15
        refine g_aload_n (z := 1) C (tdec DX0_point 46 rfl) rfl rfl rfl ?_
        refine g_getf (C' := RX0) (T := TX0) (N := 10) (v := .ref b_13) C 0 6 (gIn iw_X0) rfl rfl (by decide) (gMem fl_X0_39) rfl rfl (tdec DX0_point 47 rfl) rfl ?_
        refine g_aload_n (z := 1) C (tdec DX0_point 48 rfl) rfl rfl rfl ?_
        refine g_getf (C' := RX0) (T := TX0) (N := 10) (v := .int (BS_lc b0)) C 0 7 (gIn iw_X0) rfl rfl (by decide) (gMem fl_X0_45) rfl rfl (tdec DX0_point 49 rfl) rfl ?_
        refine g_iload (z := 0) C (tdec DX0_point 50 rfl) rfl rfl ?_
        obtain ⟨s16, y17, hF⟩ := o_bind hF
        refine g_callVvM (q0 := 13) (W' := wB cI cJ b_0 b_1 b_2 b_3 b_4 b_5 b_6 b_7 b_8 b_9 b_10 b_11 b_12 b_13 b_14 (BS_setloo (BS_settel (BS_setbir (BS_settold b0 s4) s6) s11) s16)) C (c_X1_put l D cB cI cJ cZ b_13 b_14 y17) rfl rfl (gIV ml_X0_66 im_X1_put sl_X1_put in_X1 cd_X1_put) rfl eX1_put rfl ⟨rfl, rfl⟩ ⟨Nat.le_of_ble_eq_true rfl, Nat.le_of_ble_eq_true rfl⟩ rfl [13, 14] rfl rfl rfl rfl rfl rfl (Nat.le_of_ble_eq_true rfl) (tdec DX0_point 51 rfl) rfl ?_
        refine g_aload_n (z := 1) C (tdec DX0_point 52 rfl) rfl rfl rfl ?_
        refine g_dup C (tdec DX0_point 53 rfl) rfl rfl ?_
        refine g_getf (C' := RX0) (T := TX0) (N := 10) (v := .int (BS_lc b0)) C 0 7 (gIn iw_X0) rfl rfl (by decide) (gMem fl_X0_45) rfl rfl (tdec DX0_point 54 rfl) rfl ?_
        refine g_iconst (v := 1) C (tdec DX0_point 55 rfl) (by decide) rfl ?_
        refine g_iadd C (tdec DX0_point 56 rfl) rfl ?_
        refine g_putf (C' := RX0) (T := TX0) (N := 10) (v := .int ((BS_lc b0) + 1)) (ws' := wB cI cJ b_0 b_1 b_2 b_3 b_4 b_5 b_6 b_7 b_8 b_9 b_10 b_11 b_12 b_13 b_14 (BS_setlc (BS_setloo (BS_settel (BS_setbir (BS_settold b0 s4) s6) s11) s16) ((BS_lc b0) + 1))) C 0 7 tyX0 tyX0_ok nmX0 (gIn iw_X0) rfl rfl (by decide) (gMem fl_X0_45) rfl rfl (tyX0_ok 7 (by decide)) rfl rfl (Nat.le_of_ble_eq_true rfl) rfl (tdec DX0_point 57 rfl) rfl ?_
        have hr9 := o_some hF
        subst hr9
        exact g_vret C rfl (tdec DX0_point 58 rfl)
  · have hF := o_ifn hF h3
    refine g_aload_n (z := 1) C (tdec DX0_point 8 rfl) rfl rfl rfl ?_
    refine g_getf (C' := RX0) (T := TX0) (N := 10) (v := .ref b_5) C 0 2 (gIn iw_X0) rfl rfl (by decide) (gMem fl_X0_23) rfl rfl (tdec DX0_point 9 rfl) rfl ?_
    refine g_iload_n (z := 3) C (tdec DX0_point 10 rfl) rfl rfl rfl ?_
    refine g_aload_n (z := 1) C (tdec DX0_point 11 rfl) rfl rfl rfl ?_
    refine g_getf (C' := RX0) (T := TX0) (N := 10) (v := .ref b_5) C 0 2 (gIn iw_X0) rfl rfl (by decide) (gMem fl_X0_23) rfl rfl (tdec DX0_point 12 rfl) rfl ?_
    refine g_iload_n (z := 3) C (tdec DX0_point 13 rfl) rfl rfl rfl ?_
    obtain ⟨r18, y19, hF⟩ := o_bind hF
    refine g_callViR (q0 := 5) C (c_X1_at l D cB cI cJ cZ b_5 b_6 y19) rfl rfl (gIV ml_X0_55 im_X1_at sl_X1_at in_X1 cd_X1_at) rfl eX1_at rfl ⟨rfl, rfl⟩ ⟨Nat.le_of_ble_eq_true rfl, Nat.le_of_ble_eq_true rfl⟩ rfl [5, 6] rfl rfl rfl (Nat.le_of_ble_eq_true rfl) (tdec DX0_point 14 rfl) rfl ?_
    refine g_iconst (v := 1) C (tdec DX0_point 15 rfl) (by decide) rfl ?_
    refine g_iadd C (tdec DX0_point 16 rfl) rfl ?_
    obtain ⟨s20, y21, hF⟩ := o_bind hF
    refine g_callVvM (q0 := 5) (W' := wB cI cJ b_0 b_1 b_2 b_3 b_4 b_5 b_6 b_7 b_8 b_9 b_10 b_11 b_12 b_13 b_14 (BS_settel b0 s20)) C (c_X1_put l D cB cI cJ cZ b_5 b_6 y21) rfl rfl (gIV ml_X0_66 im_X1_put sl_X1_put in_X1 cd_X1_put) rfl eX1_put rfl ⟨rfl, rfl⟩ ⟨Nat.le_of_ble_eq_true rfl, Nat.le_of_ble_eq_true rfl⟩ rfl [5, 6] rfl rfl rfl rfl rfl rfl (Nat.le_of_ble_eq_true rfl) (tdec DX0_point 17 rfl) rfl ?_
    refine g_aload_n (z := 1) C (tdec DX0_point 18 rfl) rfl rfl rfl ?_
    refine g_getf (C' := RX0) (T := TX0) (N := 10) (v := .ref b_9) C 0 4 (gIn iw_X0) rfl rfl (by decide) (gMem fl_X0_33) rfl rfl (tdec DX0_point 19 rfl) rfl ?_
    refine g_iload_n (z := 2) C (tdec DX0_point 20 rfl) rfl rfl rfl ?_
    refine g_iload_n (z := 3) C (tdec DX0_point 21 rfl) rfl rfl rfl ?_
    obtain ⟨s22, y23, hF⟩ := o_bind hF
    refine g_callVvM (q0 := 9) (W' := wB cI cJ b_0 b_1 b_2 b_3 b_4 b_5 b_6 b_7 b_8 b_9 b_10 b_11 b_12 b_13 b_14 (BS_settold (BS_settel b0 s20) s22)) C (c_X1_put l D cB cI cJ cZ b_9 b_10 y23) rfl rfl (gIV ml_X0_66 im_X1_put sl_X1_put in_X1 cd_X1_put) rfl eX1_put rfl ⟨rfl, rfl⟩ ⟨Nat.le_of_ble_eq_true rfl, Nat.le_of_ble_eq_true rfl⟩ rfl [9, 10] rfl rfl rfl rfl rfl rfl (Nat.le_of_ble_eq_true rfl) (tdec DX0_point 22 rfl) rfl ?_
    refine g_aload_n (z := 1) C (tdec DX0_point 23 rfl) rfl rfl rfl ?_
    refine g_getf (C' := RX0) (T := TX0) (N := 10) (v := .ref b_11) C 0 5 (gIn iw_X0) rfl rfl (by decide) (gMem fl_X0_36) rfl rfl (tdec DX0_point 24 rfl) rfl ?_
    refine g_iload_n (z := 2) C (tdec DX0_point 25 rfl) rfl rfl rfl ?_
    refine g_iload_n (z := 4) C (tdec DX0_point 26 rfl) rfl rfl rfl ?_
    obtain ⟨s24, y25, hF⟩ := o_bind hF
    refine g_callVvM (q0 := 11) (W' := wB cI cJ b_0 b_1 b_2 b_3 b_4 b_5 b_6 b_7 b_8 b_9 b_10 b_11 b_12 b_13 b_14 (BS_setbir (BS_settold (BS_settel b0 s20) s22) s24)) C (c_X1_put l D cB cI cJ cZ b_11 b_12 y25) rfl rfl (gIV ml_X0_66 im_X1_put sl_X1_put in_X1 cd_X1_put) rfl eX1_put rfl ⟨rfl, rfl⟩ ⟨Nat.le_of_ble_eq_true rfl, Nat.le_of_ble_eq_true rfl⟩ rfl [11, 12] rfl rfl rfl rfl rfl rfl (Nat.le_of_ble_eq_true rfl) (tdec DX0_point 27 rfl) rfl ?_
    refine g_iload (z := 0) C (tdec DX0_point 28 rfl) rfl rfl ?_
    refine g_iconst (v := (-1)) C (tdec DX0_point 29 rfl) (by decide) rfl ?_
    refine g_icmp_eq (pt := 112) C (tdec DX0_point 30 rfl) (by decide) rfl (fun h26 => ?_) (fun h26 => ?_)
    · have hF := o_ifp hF h26
      have hr9 := o_some hF
      subst hr9
      exact g_vret C rfl (tdec DX0_point 58 rfl)
    · have hF := o_ifn hF h26
      refine g_aload_n (z := 1) C (tdec DX0_point 31 rfl) rfl rfl rfl ?_
      refine g_getf (C' := RX0) (T := TX0) (N := 10) (v := .ref b_5) C 0 2 (gIn iw_X0) rfl rfl (by decide) (gMem fl_X0_23) rfl rfl (tdec DX0_point 32 rfl) rfl ?_
      refine g_iload (z := 0) C (tdec DX0_point 33 rfl) rfl rfl ?_
      refine g_aload_n (z := 1) C (tdec DX0_point 34 rfl) rfl rfl rfl ?_
      refine g_getf (C' := RX0) (T := TX0) (N := 10) (v := .ref b_5) C 0 2 (gIn iw_X0) rfl rfl (by decide) (gMem fl_X0_23) rfl rfl (tdec DX0_point 35 rfl) rfl ?_
      refine g_iload (z := 0) C (tdec DX0_point 36 rfl) rfl rfl ?_
      obtain ⟨r27, y28, hF⟩ := o_bind hF
      refine g_callViR (q0 := 5) C (c_X1_at l D cB cI cJ cZ b_5 b_6 y28) rfl rfl (gIV ml_X0_55 im_X1_at sl_X1_at in_X1 cd_X1_at) rfl eX1_at rfl ⟨rfl, rfl⟩ ⟨Nat.le_of_ble_eq_true rfl, Nat.le_of_ble_eq_true rfl⟩ rfl [5, 6] rfl rfl rfl (Nat.le_of_ble_eq_true rfl) (tdec DX0_point 37 rfl) rfl ?_
      refine g_iconst (v := 1) C (tdec DX0_point 38 rfl) (by decide) rfl ?_
      refine g_isub C (tdec DX0_point 39 rfl) rfl ?_
      obtain ⟨s29, y30, hF⟩ := o_bind hF
      refine g_callVvM (q0 := 5) (W' := wB cI cJ b_0 b_1 b_2 b_3 b_4 b_5 b_6 b_7 b_8 b_9 b_10 b_11 b_12 b_13 b_14 (BS_settel (BS_setbir (BS_settold (BS_settel b0 s20) s22) s24) s29)) C (c_X1_put l D cB cI cJ cZ b_5 b_6 y30) rfl rfl (gIV ml_X0_66 im_X1_put sl_X1_put in_X1 cd_X1_put) rfl eX1_put rfl ⟨rfl, rfl⟩ ⟨Nat.le_of_ble_eq_true rfl, Nat.le_of_ble_eq_true rfl⟩ rfl [5, 6] rfl rfl rfl rfl rfl rfl (Nat.le_of_ble_eq_true rfl) (tdec DX0_point 40 rfl) rfl ?_
      refine g_aload_n (z := 1) C (tdec DX0_point 41 rfl) rfl rfl rfl ?_
      refine g_getf (C' := RX0) (T := TX0) (N := 10) (v := .ref b_5) C 0 2 (gIn iw_X0) rfl rfl (by decide) (gMem fl_X0_23) rfl rfl (tdec DX0_point 42 rfl) rfl ?_
      refine g_iload (z := 0) C (tdec DX0_point 43 rfl) rfl rfl ?_
      obtain ⟨r31, y32, hF⟩ := o_bind hF
      refine g_callViR (q0 := 5) C (c_X1_at l D cB cI cJ cZ b_5 b_6 y32) rfl rfl (gIV ml_X0_55 im_X1_at sl_X1_at in_X1 cd_X1_at) rfl eX1_at rfl ⟨rfl, rfl⟩ ⟨Nat.le_of_ble_eq_true rfl, Nat.le_of_ble_eq_true rfl⟩ rfl [5, 6] rfl rfl rfl (Nat.le_of_ble_eq_true rfl) (tdec DX0_point 44 rfl) rfl ?_
      refine g_if_ne (pt := 112) C (tdec DX0_point 45 rfl) (by decide) rfl (fun h33 => ?_) (fun h33 => ?_)
      · have hF := o_ifn hF h33
        have hr9 := o_some hF
        subst hr9
        exact g_vret C rfl (tdec DX0_point 58 rfl)
      · have hF := o_ifp hF h33
        refine g_aload_n (z := 1) C (tdec DX0_point 46 rfl) rfl rfl rfl ?_
        refine g_getf (C' := RX0) (T := TX0) (N := 10) (v := .ref b_13) C 0 6 (gIn iw_X0) rfl rfl (by decide) (gMem fl_X0_39) rfl rfl (tdec DX0_point 47 rfl) rfl ?_
        refine g_aload_n (z := 1) C (tdec DX0_point 48 rfl) rfl rfl rfl ?_
        refine g_getf (C' := RX0) (T := TX0) (N := 10) (v := .int (BS_lc b0)) C 0 7 (gIn iw_X0) rfl rfl (by decide) (gMem fl_X0_45) rfl rfl (tdec DX0_point 49 rfl) rfl ?_
        refine g_iload (z := 0) C (tdec DX0_point 50 rfl) rfl rfl ?_
        obtain ⟨s34, y35, hF⟩ := o_bind hF
        refine g_callVvM (q0 := 13) (W' := wB cI cJ b_0 b_1 b_2 b_3 b_4 b_5 b_6 b_7 b_8 b_9 b_10 b_11 b_12 b_13 b_14 (BS_setloo (BS_settel (BS_setbir (BS_settold (BS_settel b0 s20) s22) s24) s29) s34)) C (c_X1_put l D cB cI cJ cZ b_13 b_14 y35) rfl rfl (gIV ml_X0_66 im_X1_put sl_X1_put in_X1 cd_X1_put) rfl eX1_put rfl ⟨rfl, rfl⟩ ⟨Nat.le_of_ble_eq_true rfl, Nat.le_of_ble_eq_true rfl⟩ rfl [13, 14] rfl rfl rfl rfl rfl rfl (Nat.le_of_ble_eq_true rfl) (tdec DX0_point 51 rfl) rfl ?_
        refine g_aload_n (z := 1) C (tdec DX0_point 52 rfl) rfl rfl rfl ?_
        refine g_dup C (tdec DX0_point 53 rfl) rfl rfl ?_
        refine g_getf (C' := RX0) (T := TX0) (N := 10) (v := .int (BS_lc b0)) C 0 7 (gIn iw_X0) rfl rfl (by decide) (gMem fl_X0_45) rfl rfl (tdec DX0_point 54 rfl) rfl ?_
        refine g_iconst (v := 1) C (tdec DX0_point 55 rfl) (by decide) rfl ?_
        refine g_iadd C (tdec DX0_point 56 rfl) rfl ?_
        refine g_putf (C' := RX0) (T := TX0) (N := 10) (v := .int ((BS_lc b0) + 1)) (ws' := wB cI cJ b_0 b_1 b_2 b_3 b_4 b_5 b_6 b_7 b_8 b_9 b_10 b_11 b_12 b_13 b_14 (BS_setlc (BS_setloo (BS_settel (BS_setbir (BS_settold (BS_settel b0 s20) s22) s24) s29) s34) ((BS_lc b0) + 1))) C 0 7 tyX0 tyX0_ok nmX0 (gIn iw_X0) rfl rfl (by decide) (gMem fl_X0_45) rfl rfl (tyX0_ok 7 (by decide)) rfl rfl (Nat.le_of_ble_eq_true rfl) rfl (tdec DX0_point 57 rfl) rfl ?_
        have hr9 := o_some hF
        subst hr9
        exact g_vret C rfl (tdec DX0_point 58 rfl)
def FX0_hasOnlyHoles_L2 (b0 : BS) (v1 : Int32) (k9 : Int32 → Option (Int32)) : Nat → Int32 → Option (Int32)
  | 0, _ => none
  | n9 + 1, v2 =>
    if 8 ≤ v2 then
      k9 v2
    else
      (FX1_at 4822 (BS_told b0) ((v1 * 8) + v2)).bind fun r2 =>
      if r2 = (-1) then
        FX0_hasOnlyHoles_L2 b0 v1 k9 n9 (v2 + 1)
      else
        some 0
def FX0_hasOnlyHoles (b0 : BS) (p1 : Int32) : Option (Int32) :=
  FX0_hasOnlyHoles_L2 b0 p1 (fun w2_5 =>
    some 1) 100000 0
def rX0_hasOnlyHoles : Room := { frames := 1, cells := 0, slots := 0, locals := 21 }
set_option maxHeartbeats 4000000 in
set_option maxRecDepth 100000 in
theorem c_FX0_hasOnlyHoles_L2 {p : Program} {l : Launch} {e : Env} {s : State} {m : MethodId} {args : Array Value} {below : List Frame} {meth : Method} {c : Code} {D : va_G} {cB cI cJ cZ : ClassId} {b_0 b_1 b_2 b_3 b_4 b_5 b_6 b_7 b_8 b_9 b_10 b_11 b_12 b_13 b_14 : Nat} {b0 : BS} {res : Int32} (C : gC p s m args meth c cX0_hasOnlyHoles 3 RX0 wsX0_hasOnlyHoles D (gT cB cI cJ cZ) (some .boolean) (fun _ => False)) {v1 : Int32} {k9 : Int32 → Option (Int32)} (hk9 : ∀ (v2 : Int32), k9 v2 = some res → gG p l e (headSpec wsX0_hasOnlyHoles rX0_hasOnlyHoles).room s m args below meth c 0 0 D (fun _ => True) (fun _ => False) 3 (MQ below (gRQi res) args s 0 0 (fun _ => False)) (wB cI cJ b_0 b_1 b_2 b_3 b_4 b_5 b_6 b_7 b_8 b_9 b_10 b_11 b_12 b_13 b_14 b0) 33 [(0, .ref b_0), (1, .int v1), (2, .int v2)] []) :
    ∀ (n9 : Nat) (v2 : Int32), FX0_hasOnlyHoles_L2 b0 v1 k9 n9 v2 = some res → gG p l e (headSpec wsX0_hasOnlyHoles rX0_hasOnlyHoles).room s m args below meth c 0 0 D (fun _ => True) (fun _ => False) 3 (MQ below (gRQi res) args s 0 0 (fun _ => False)) (wB cI cJ b_0 b_1 b_2 b_3 b_4 b_5 b_6 b_7 b_8 b_9 b_10 b_11 b_12 b_13 b_14 b0) 2 [(0, .ref b_0), (1, .int v1), (2, .int v2)] [] := by
  intro n9
  induction n9 with
  | zero =>
    intro v2 hF
    exact absurd hF (by simp [FX0_hasOnlyHoles_L2])
  | succ n9 ih9 =>
    intro v2 hF
    rw [FX0_hasOnlyHoles_L2] at hF
    refine g_iload_n (z := 2) C (tdec DX0_hasOnlyHoles 2 rfl) rfl rfl rfl ?_
    refine g_bipush (v := 8) C (tdec DX0_hasOnlyHoles 3 rfl) (by decide) rfl ?_
    refine g_icmp_ge (pt := 33) C (tdec DX0_hasOnlyHoles 4 rfl) (by decide) rfl (fun h1 => ?_) (fun h1 => ?_)
    · have hF := o_ifp hF h1
      refine g_sub (L' := [(0, .ref b_0), (1, .int v1), (2, .int v2)]) [0, 1, 2] rfl ?_
      exact hk9 _ hF
    · have hF := o_ifn hF h1
      refine g_aload_n (z := 0) C (tdec DX0_hasOnlyHoles 5 rfl) rfl rfl rfl ?_
      refine g_getf (C' := RX0) (T := TX0) (N := 10) (v := .ref b_9) C 0 4 (gIn iw_X0) rfl rfl (by decide) (gMem fl_X0_33) rfl rfl (tdec DX0_hasOnlyHoles 6 rfl) rfl ?_
      refine g_iload_n (z := 1) C (tdec DX0_hasOnlyHoles 7 rfl) rfl rfl rfl ?_
      refine g_bipush (v := 8) C (tdec DX0_hasOnlyHoles 8 rfl) (by decide) rfl ?_
      refine g_imul C (tdec DX0_hasOnlyHoles 9 rfl) rfl ?_
      refine g_iload_n (z := 2) C (tdec DX0_hasOnlyHoles 10 rfl) rfl rfl rfl ?_
      refine g_iadd C (tdec DX0_hasOnlyHoles 11 rfl) rfl ?_
      obtain ⟨r2, y3, hF⟩ := o_bind hF
      refine g_callViR (q0 := 9) C (c_X1_at l D cB cI cJ cZ b_9 b_10 y3) rfl rfl (gIV ml_X0_55 im_X1_at sl_X1_at in_X1 cd_X1_at) rfl eX1_at rfl ⟨rfl, rfl⟩ ⟨Nat.le_of_ble_eq_true rfl, Nat.le_of_ble_eq_true rfl⟩ rfl [9, 10] rfl rfl rfl (Nat.le_of_ble_eq_true rfl) (tdec DX0_hasOnlyHoles 12 rfl) rfl ?_
      refine g_iconst (v := (-1)) C (tdec DX0_hasOnlyHoles 13 rfl) (by decide) rfl ?_
      refine g_icmp_eq (pt := 27) C (tdec DX0_hasOnlyHoles 14 rfl) (by decide) rfl (fun h4 => ?_) (fun h4 => ?_)
      · have hF := o_ifp hF h4
        refine g_iinc (z := 2) (v := (v2 + 1)) (L' := [(2, .int (v2 + 1)), (0, .ref b_0), (1, .int v1)]) C (tdec DX0_hasOnlyHoles 17 rfl) rfl rfl (by decide) rfl rfl ?_
        refine g_goto (pt := 2) C (tdec DX0_hasOnlyHoles 18 rfl) (by decide) ?_
        refine g_sub (L' := [(0, .ref b_0), (1, .int v1), (2, .int (v2 + 1))]) [1, 2, 0] rfl ?_
        exact ih9 _ hF
      · have hF := o_ifn hF h4
        refine g_iconst (v := 0) C (tdec DX0_hasOnlyHoles 15 rfl) (by decide) rfl ?_
        have hr9 := o_some hF
        subst hr9
        exact g_zretR C rfl rfl (tdec DX0_hasOnlyHoles 16 rfl)
set_option maxHeartbeats 4000000 in
set_option maxRecDepth 100000 in
theorem c_X0_hasOnlyHoles (l : Launch) (D : va_G) (cB cI cJ cZ : ClassId) (b_0 b_1 b_2 b_3 b_4 b_5 b_6 b_7 b_8 b_9 b_10 b_11 b_12 b_13 b_14 : Nat) {b0 : BS} {p1 : Int32} {res : Int32} (hF : FX0_hasOnlyHoles b0 p1 = some res) : gRi l yX0_hasOnlyHoles wsX0_hasOnlyHoles rX0_hasOnlyHoles D (gT cB cI cJ cZ) [.ref b_0, .int p1] (wB cI cJ b_0 b_1 b_2 b_3 b_4 b_5 b_6 b_7 b_8 b_9 b_10 b_11 b_12 b_13 b_14 b0) res := by
  refine g_enter (own := RX0) (free := (fun _ _ => False)) (Qc := (fun sz => gRQi res)) (fun _ _ => True) (fun sz => Or.inl rfl) rfl (by decide) rfl (Nat.le_of_ble_eq_true rfl) rfl ?_
  intro p e s m args below meth c C
  unfold FX0_hasOnlyHoles at hF
  refine g_iconst (v := 0) C (tdec DX0_hasOnlyHoles 0 rfl) (by decide) rfl ?_
  refine g_istore_n (L' := [(2, .int 0), (0, .ref b_0), (1, .int p1)]) C (tdec DX0_hasOnlyHoles 1 rfl) rfl (by decide) rfl rfl ?_
  refine g_sub (L' := [(0, .ref b_0), (1, .int p1), (2, .int 0)]) [1, 2, 0] rfl ?_
  refine c_FX0_hasOnlyHoles_L2 C (fun w2_5 hF => ?_) 100000 _ hF
  refine g_iconst (v := 1) C (tdec DX0_hasOnlyHoles 19 rfl) (by decide) rfl ?_
  have hr9 := o_some hF
  subst hr9
  exact g_zretR C rfl rfl (tdec DX0_hasOnlyHoles 20 rfl)
def FX0_wantsNewBlock (b0 : BS) (p1 : Int32) (p2 : Int32) : Option (Int32) :=
  (FX1_at 4822 (BS_told b0) p1).bind fun r1 =>
  if r1 = (-1) then
    some 1
  else
    (FX1_at 4822 (BS_bir b0) p1).bind fun r4 =>
    if r4 = p2 then
      some 0
    else
      some 1
def rX0_wantsNewBlock : Room := { frames := 1, cells := 0, slots := 0, locals := 21 }
set_option maxHeartbeats 4000000 in
set_option maxRecDepth 100000 in
theorem c_X0_wantsNewBlock (l : Launch) (D : va_G) (cB cI cJ cZ : ClassId) (b_0 b_1 b_2 b_3 b_4 b_5 b_6 b_7 b_8 b_9 b_10 b_11 b_12 b_13 b_14 : Nat) {b0 : BS} {p1 : Int32} {p2 : Int32} {res : Int32} (hF : FX0_wantsNewBlock b0 p1 p2 = some res) : gRi l yX0_wantsNewBlock wsX0_wantsNewBlock rX0_wantsNewBlock D (gT cB cI cJ cZ) [.ref b_0, .int p1, .int p2] (wB cI cJ b_0 b_1 b_2 b_3 b_4 b_5 b_6 b_7 b_8 b_9 b_10 b_11 b_12 b_13 b_14 b0) res := by
  refine g_enter (own := RX0) (free := (fun _ _ => False)) (Qc := (fun sz => gRQi res)) (fun _ _ => True) (fun sz => Or.inl rfl) rfl (by decide) rfl (Nat.le_of_ble_eq_true rfl) rfl ?_
  intro p e s m args below meth c C
  unfold FX0_wantsNewBlock at hF
  refine g_aload_n (z := 0) C (tdec DX0_wantsNewBlock 0 rfl) rfl rfl rfl ?_
  refine g_getf (C' := RX0) (T := TX0) (N := 10) (v := .ref b_9) C 0 4 (gIn iw_X0) rfl rfl (by decide) (gMem fl_X0_33) rfl rfl (tdec DX0_wantsNewBlock 1 rfl) rfl ?_
  refine g_iload_n (z := 1) C (tdec DX0_wantsNewBlock 2 rfl) rfl rfl rfl ?_
  obtain ⟨r1, y2, hF⟩ := o_bind hF
  refine g_callViR (q0 := 9) C (c_X1_at l D cB cI cJ cZ b_9 b_10 y2) rfl rfl (gIV ml_X0_55 im_X1_at sl_X1_at in_X1 cd_X1_at) rfl eX1_at rfl ⟨rfl, rfl⟩ ⟨Nat.le_of_ble_eq_true rfl, Nat.le_of_ble_eq_true rfl⟩ rfl [9, 10] rfl rfl rfl (Nat.le_of_ble_eq_true rfl) (tdec DX0_wantsNewBlock 3 rfl) rfl ?_
  refine g_iconst (v := (-1)) C (tdec DX0_wantsNewBlock 4 rfl) (by decide) rfl ?_
  refine g_icmp_eq (pt := 24) C (tdec DX0_wantsNewBlock 5 rfl) (by decide) rfl (fun h3 => ?_) (fun h3 => ?_)
  · have hF := o_ifp hF h3
    refine g_iconst (v := 1) C (tdec DX0_wantsNewBlock 12 rfl) (by decide) rfl ?_
    refine g_goto (pt := 29) C (tdec DX0_wantsNewBlock 13 rfl) (by decide) ?_
    have hr9 := o_some hF
    subst hr9
    exact g_zretR C rfl rfl (tdec DX0_wantsNewBlock 15 rfl)
  · have hF := o_ifn hF h3
    refine g_aload_n (z := 0) C (tdec DX0_wantsNewBlock 6 rfl) rfl rfl rfl ?_
    refine g_getf (C' := RX0) (T := TX0) (N := 10) (v := .ref b_11) C 0 5 (gIn iw_X0) rfl rfl (by decide) (gMem fl_X0_36) rfl rfl (tdec DX0_wantsNewBlock 7 rfl) rfl ?_
    refine g_iload_n (z := 1) C (tdec DX0_wantsNewBlock 8 rfl) rfl rfl rfl ?_
    obtain ⟨r4, y5, hF⟩ := o_bind hF
    refine g_callViR (q0 := 11) C (c_X1_at l D cB cI cJ cZ b_11 b_12 y5) rfl rfl (gIV ml_X0_55 im_X1_at sl_X1_at in_X1 cd_X1_at) rfl eX1_at rfl ⟨rfl, rfl⟩ ⟨Nat.le_of_ble_eq_true rfl, Nat.le_of_ble_eq_true rfl⟩ rfl [11, 12] rfl rfl rfl (Nat.le_of_ble_eq_true rfl) (tdec DX0_wantsNewBlock 9 rfl) rfl ?_
    refine g_iload_n (z := 2) C (tdec DX0_wantsNewBlock 10 rfl) rfl rfl rfl ?_
    refine g_icmp_eq (pt := 28) C (tdec DX0_wantsNewBlock 11 rfl) (by decide) rfl (fun h6 => ?_) (fun h6 => ?_)
    · have hF := o_ifp hF h6
      refine g_iconst (v := 0) C (tdec DX0_wantsNewBlock 14 rfl) (by decide) rfl ?_
      have hr9 := o_some hF
      subst hr9
      exact g_zretR C rfl rfl (tdec DX0_wantsNewBlock 15 rfl)
    · have hF := o_ifn hF h6
      refine g_iconst (v := 1) C (tdec DX0_wantsNewBlock 12 rfl) (by decide) rfl ?_
      refine g_goto (pt := 29) C (tdec DX0_wantsNewBlock 13 rfl) (by decide) ?_
      have hr9 := o_some hF
      subst hr9
      exact g_zretR C rfl rfl (tdec DX0_wantsNewBlock 15 rfl)
def FX0_takeLeastFree_L2 (k9 : BS → Int32 → Option (Int32 × BS)) : Nat → BS → Int32 → Option (Int32 × BS)
  | 0, _, _ => none
  | n9 + 1, b, v1 =>
    if (BS_cnt b) ≤ v1 then
      k9 b v1
    else
      (FX1_at 600 (BS_lev b) v1).bind fun r2 =>
      if r2 = (-1) then
        some (v1, (BS_setfr b ((BS_fr b) - 1)))
      else
        FX0_takeLeastFree_L2 k9 n9 b (v1 + 1)
def FX0_takeLeastFree (b0 : BS) : Option (Int32 × BS) :=
  FX0_takeLeastFree_L2 (fun bq5 w1_5 =>
    some ((-1), bq5)) 100000 b0 0
def rX0_takeLeastFree : Room := { frames := 1, cells := 0, slots := 0, locals := 21 }
set_option maxHeartbeats 4000000 in
set_option maxRecDepth 100000 in
theorem c_FX0_takeLeastFree_L2 {p : Program} {l : Launch} {e : Env} {s : State} {m : MethodId} {args : Array Value} {below : List Frame} {meth : Method} {c : Code} {D : va_G} {cB cI cJ cZ : ClassId} {b_0 b_1 b_2 b_3 b_4 b_5 b_6 b_7 b_8 b_9 b_10 b_11 b_12 b_13 b_14 : Nat} {b0 : BS} {res : Int32 × BS} (C : gC p s m args meth c cX0_takeLeastFree 2 RX0 wsX0_takeLeastFree D (gT cB cI cJ cZ) (some .int) (va_A (wB cI cJ b_0 b_1 b_2 b_3 b_4 b_5 b_6 b_7 b_8 b_9 b_10 b_11 b_12 b_13 b_14 b0) s.heap.size)) {k9 : BS → Int32 → Option (Int32 × BS)} (hk9 : ∀ (b : BS) (v1 : Int32), k9 b v1 = some res → gG p l e (headSpec wsX0_takeLeastFree rX0_takeLeastFree).room s m args below meth c 0 0 D (va_A (wB cI cJ b_0 b_1 b_2 b_3 b_4 b_5 b_6 b_7 b_8 b_9 b_10 b_11 b_12 b_13 b_14 b0) s.heap.size) (va_A (wB cI cJ b_0 b_1 b_2 b_3 b_4 b_5 b_6 b_7 b_8 b_9 b_10 b_11 b_12 b_13 b_14 b0) s.heap.size) 2 (MQ below (gQi D (wB cI cJ b_0 b_1 b_2 b_3 b_4 b_5 b_6 b_7 b_8 b_9 b_10 b_11 b_12 b_13 b_14 b0) s.heap.size res.1 (wB cI cJ b_0 b_1 b_2 b_3 b_4 b_5 b_6 b_7 b_8 b_9 b_10 b_11 b_12 b_13 b_14 res.2)) args s 0 0 (va_A (wB cI cJ b_0 b_1 b_2 b_3 b_4 b_5 b_6 b_7 b_8 b_9 b_10 b_11 b_12 b_13 b_14 b0) s.heap.size)) (wB cI cJ b_0 b_1 b_2 b_3 b_4 b_5 b_6 b_7 b_8 b_9 b_10 b_11 b_12 b_13 b_14 b) 40 [(0, .ref b_0), (1, .int v1)] []) :
    ∀ (n9 : Nat) (b : BS) (v1 : Int32), FX0_takeLeastFree_L2 k9 n9 b v1 = some res → gG p l e (headSpec wsX0_takeLeastFree rX0_takeLeastFree).room s m args below meth c 0 0 D (va_A (wB cI cJ b_0 b_1 b_2 b_3 b_4 b_5 b_6 b_7 b_8 b_9 b_10 b_11 b_12 b_13 b_14 b0) s.heap.size) (va_A (wB cI cJ b_0 b_1 b_2 b_3 b_4 b_5 b_6 b_7 b_8 b_9 b_10 b_11 b_12 b_13 b_14 b0) s.heap.size) 2 (MQ below (gQi D (wB cI cJ b_0 b_1 b_2 b_3 b_4 b_5 b_6 b_7 b_8 b_9 b_10 b_11 b_12 b_13 b_14 b0) s.heap.size res.1 (wB cI cJ b_0 b_1 b_2 b_3 b_4 b_5 b_6 b_7 b_8 b_9 b_10 b_11 b_12 b_13 b_14 res.2)) args s 0 0 (va_A (wB cI cJ b_0 b_1 b_2 b_3 b_4 b_5 b_6 b_7 b_8 b_9 b_10 b_11 b_12 b_13 b_14 b0) s.heap.size)) (wB cI cJ b_0 b_1 b_2 b_3 b_4 b_5 b_6 b_7 b_8 b_9 b_10 b_11 b_12 b_13 b_14 b) 2 [(0, .ref b_0), (1, .int v1)] [] := by
  intro n9
  induction n9 with
  | zero =>
    intro b v1 hF
    exact absurd hF (by simp [FX0_takeLeastFree_L2])
  | succ n9 ih9 =>
    intro b v1 hF
    rw [FX0_takeLeastFree_L2] at hF
    refine g_iload_n (z := 1) C (tdec DX0_takeLeastFree 2 rfl) rfl rfl rfl ?_
    refine g_aload_n (z := 0) C (tdec DX0_takeLeastFree 3 rfl) rfl rfl rfl ?_
    refine g_getf (C' := RX0) (T := TX0) (N := 10) (v := .int (BS_cnt b)) C 0 8 (gIn iw_X0) rfl rfl (by decide) (gMem fl_X0_49) rfl rfl (tdec DX0_takeLeastFree 4 rfl) rfl ?_
    refine g_icmp_ge (pt := 40) C (tdec DX0_takeLeastFree 5 rfl) (by decide) rfl (fun h1 => ?_) (fun h1 => ?_)
    · have hF := o_ifp hF h1
      refine g_sub (L' := [(0, .ref b_0), (1, .int v1)]) [0, 1] rfl ?_
      exact hk9 _ _ hF
    · have hF := o_ifn hF h1
      refine g_aload_n (z := 0) C (tdec DX0_takeLeastFree 6 rfl) rfl rfl rfl ?_
      refine g_getf (C' := RX0) (T := TX0) (N := 10) (v := .ref b_1) C 0 0 (gIn iw_X0) rfl rfl (by decide) (gMem fl_X0_14) rfl rfl (tdec DX0_takeLeastFree 7 rfl) rfl ?_
      refine g_iload_n (z := 1) C (tdec DX0_takeLeastFree 8 rfl) rfl rfl rfl ?_
      obtain ⟨r2, y3, hF⟩ := o_bind hF
      refine g_callViR (q0 := 1) C (c_X1_at l D cB cI cJ cZ b_1 b_2 y3) rfl rfl (gIV ml_X0_55 im_X1_at sl_X1_at in_X1 cd_X1_at) rfl eX1_at rfl ⟨rfl, rfl⟩ ⟨Nat.le_of_ble_eq_true rfl, Nat.le_of_ble_eq_true rfl⟩ rfl [1, 2] rfl rfl rfl (Nat.le_of_ble_eq_true rfl) (tdec DX0_takeLeastFree 9 rfl) rfl ?_
      refine g_iconst (v := (-1)) C (tdec DX0_takeLeastFree 10 rfl) (by decide) rfl ?_
      refine g_icmp_ne (pt := 34) C (tdec DX0_takeLeastFree 11 rfl) (by decide) rfl (fun h4 => ?_) (fun h4 => ?_)
      · have hF := o_ifn hF h4
        refine g_iinc (z := 1) (v := (v1 + 1)) (L' := [(1, .int (v1 + 1)), (0, .ref b_0)]) C (tdec DX0_takeLeastFree 20 rfl) rfl rfl (by decide) rfl rfl ?_
        refine g_goto (pt := 2) C (tdec DX0_takeLeastFree 21 rfl) (by decide) ?_
        refine g_sub (L' := [(0, .ref b_0), (1, .int (v1 + 1))]) [1, 0] rfl ?_
        exact ih9 _ _ hF
      · have hF := o_ifp hF h4
        refine g_aload_n (z := 0) C (tdec DX0_takeLeastFree 12 rfl) rfl rfl rfl ?_
        refine g_dup C (tdec DX0_takeLeastFree 13 rfl) rfl rfl ?_
        refine g_getf (C' := RX0) (T := TX0) (N := 10) (v := .int (BS_fr b)) C 0 9 (gIn iw_X0) rfl rfl (by decide) (gMem fl_X0_52) rfl rfl (tdec DX0_takeLeastFree 14 rfl) rfl ?_
        refine g_iconst (v := 1) C (tdec DX0_takeLeastFree 15 rfl) (by decide) rfl ?_
        refine g_isub C (tdec DX0_takeLeastFree 16 rfl) rfl ?_
        refine g_putf (C' := RX0) (T := TX0) (N := 10) (v := .int ((BS_fr b) - 1)) (ws' := wB cI cJ b_0 b_1 b_2 b_3 b_4 b_5 b_6 b_7 b_8 b_9 b_10 b_11 b_12 b_13 b_14 (BS_setfr b ((BS_fr b) - 1))) C 0 9 tyX0 tyX0_ok nmX0 (gIn iw_X0) rfl rfl (by decide) (gMem fl_X0_52) rfl rfl (tyX0_ok 9 (by decide)) rfl rfl (Nat.le_of_ble_eq_true rfl) rfl (tdec DX0_takeLeastFree 17 rfl) rfl ?_
        refine g_iload_n (z := 1) C (tdec DX0_takeLeastFree 18 rfl) rfl rfl rfl ?_
        have hr9 := o_some hF
        subst hr9
        exact g_iret C rfl rfl (tdec DX0_takeLeastFree 19 rfl)
set_option maxHeartbeats 4000000 in
set_option maxRecDepth 100000 in
theorem c_X0_takeLeastFree (l : Launch) (D : va_G) (cB cI cJ cZ : ClassId) (b_0 b_1 b_2 b_3 b_4 b_5 b_6 b_7 b_8 b_9 b_10 b_11 b_12 b_13 b_14 : Nat) {b0 : BS} {res : Int32 × BS} (hF : FX0_takeLeastFree b0 = some res) : gMi l yX0_takeLeastFree wsX0_takeLeastFree rX0_takeLeastFree D (gT cB cI cJ cZ) [.ref b_0] (wB cI cJ b_0 b_1 b_2 b_3 b_4 b_5 b_6 b_7 b_8 b_9 b_10 b_11 b_12 b_13 b_14 b0) res.1 (wB cI cJ b_0 b_1 b_2 b_3 b_4 b_5 b_6 b_7 b_8 b_9 b_10 b_11 b_12 b_13 b_14 res.2) := by
  refine g_enter (own := RX0) (free := (fun sz => va_A (wB cI cJ b_0 b_1 b_2 b_3 b_4 b_5 b_6 b_7 b_8 b_9 b_10 b_11 b_12 b_13 b_14 b0) sz)) (Qc := (fun sz => gQi D (wB cI cJ b_0 b_1 b_2 b_3 b_4 b_5 b_6 b_7 b_8 b_9 b_10 b_11 b_12 b_13 b_14 b0) sz res.1 (wB cI cJ b_0 b_1 b_2 b_3 b_4 b_5 b_6 b_7 b_8 b_9 b_10 b_11 b_12 b_13 b_14 res.2))) (fun sz => va_A (wB cI cJ b_0 b_1 b_2 b_3 b_4 b_5 b_6 b_7 b_8 b_9 b_10 b_11 b_12 b_13 b_14 b0) sz) (fun sz => Or.inr rfl) rfl (by decide) rfl (Nat.le_of_ble_eq_true rfl) rfl ?_
  intro p e s m args below meth c C
  unfold FX0_takeLeastFree at hF
  refine g_iconst (v := 0) C (tdec DX0_takeLeastFree 0 rfl) (by decide) rfl ?_
  refine g_istore_n (L' := [(1, .int 0), (0, .ref b_0)]) C (tdec DX0_takeLeastFree 1 rfl) rfl (by decide) rfl rfl ?_
  refine g_sub (L' := [(0, .ref b_0), (1, .int 0)]) [1, 0] rfl ?_
  refine c_FX0_takeLeastFree_L2 C (fun bq5 w1_5 hF => ?_) 100000 _ _ hF
  refine g_iconst (v := (-1)) C (tdec DX0_takeLeastFree 22 rfl) (by decide) rfl ?_
  have hr9 := o_some hF
  subst hr9
  exact g_iret C rfl rfl (tdec DX0_takeLeastFree 23 rfl)
def FX0_renew_L49 (v1 : Int32) (v2 : Int32) (v3 : Int32) (v4 : Int32) (v5 : Int32) (k9 : BS → Int32 → Option (BS)) : Nat → BS → Int32 → Option (BS)
  | 0, _, _ => none
  | n9 + 1, b, v6 =>
    if 8 ≤ v6 then
      k9 b v6
    else
      if v2 ≤ 0 then
        k9 b v6
      else
        if v5 = (-1) then
          (FX1_at 4822 (BS_bir b) v1).bind fun r22 =>
          (FX0_point b ((v4 * 8) + v6) (-1) r22).bind fun s24 =>
          FX0_renew_L49 v1 v2 v3 v4 v5 k9 n9 s24 (v6 + 1)
        else
          (FX1_at 4822 (BS_told b) ((v5 * 8) + v6)).bind fun r16 =>
          (FX1_at 4822 (BS_bir b) ((v5 * 8) + v6)).bind fun r18 =>
          (FX0_point b ((v4 * 8) + v6) r16 r18).bind fun s20 =>
          FX0_renew_L49 v1 v2 v3 v4 v5 k9 n9 s20 (v6 + 1)
def FX0_renew (b0 : BS) (p1 : Int32) (p2 : Int32) (p3 : Int32) : Option (BS) :=
  (FX0_wantsNewBlock b0 p1 p3).bind fun r1 =>
  if r1 = 0 then
    some b0
  else
    (FX0_takeLeastFree b0).bind fun (r4, s5) =>
    (FX1_put 600 (BS_lev s5) r4 p2).bind fun s7 =>
    (FX1_put 600 (BS_bob s5) r4 p3).bind fun s9 =>
    (FX1_at 4822 (BS_told s5) p1).bind fun r11 =>
    FX0_renew_L49 p1 p2 p3 r4 r11 (fun bq26 w6_26 =>
      (FX0_point bq26 p1 r4 p3).bind fun s27 =>
      some s27) 100000 (BS_setbob (BS_setlev s5 s7) s9) 0
def rX0_renew : Room := { frames := 2, cells := 0, slots := 0, locals := 46 }
set_option maxHeartbeats 4000000 in
set_option maxRecDepth 100000 in
theorem c_FX0_renew_L49 {p : Program} {l : Launch} {e : Env} {s : State} {m : MethodId} {args : Array Value} {below : List Frame} {meth : Method} {c : Code} {D : va_G} {cB cI cJ cZ : ClassId} {b_0 b_1 b_2 b_3 b_4 b_5 b_6 b_7 b_8 b_9 b_10 b_11 b_12 b_13 b_14 : Nat} {b0 : BS} {res : BS} (C : gC p s m args meth c cX0_renew 7 RX0 wsX0_renew D (gT cB cI cJ cZ) none (va_A (wB cI cJ b_0 b_1 b_2 b_3 b_4 b_5 b_6 b_7 b_8 b_9 b_10 b_11 b_12 b_13 b_14 b0) s.heap.size)) {v1 : Int32} {v2 : Int32} {v3 : Int32} {v4 : Int32} {v5 : Int32} {k9 : BS → Int32 → Option (BS)} (hk9 : ∀ (b : BS) (v6 : Int32), k9 b v6 = some res → gG p l e (headSpec wsX0_renew rX0_renew).room s m args below meth c 0 0 D (va_A (wB cI cJ b_0 b_1 b_2 b_3 b_4 b_5 b_6 b_7 b_8 b_9 b_10 b_11 b_12 b_13 b_14 b0) s.heap.size) (va_A (wB cI cJ b_0 b_1 b_2 b_3 b_4 b_5 b_6 b_7 b_8 b_9 b_10 b_11 b_12 b_13 b_14 b0) s.heap.size) 7 (MQ below (gQv D (wB cI cJ b_0 b_1 b_2 b_3 b_4 b_5 b_6 b_7 b_8 b_9 b_10 b_11 b_12 b_13 b_14 b0) s.heap.size (wB cI cJ b_0 b_1 b_2 b_3 b_4 b_5 b_6 b_7 b_8 b_9 b_10 b_11 b_12 b_13 b_14 res)) args s 0 0 (va_A (wB cI cJ b_0 b_1 b_2 b_3 b_4 b_5 b_6 b_7 b_8 b_9 b_10 b_11 b_12 b_13 b_14 b0) s.heap.size)) (wB cI cJ b_0 b_1 b_2 b_3 b_4 b_5 b_6 b_7 b_8 b_9 b_10 b_11 b_12 b_13 b_14 b) 138 [(0, .ref b_0), (1, .int v1), (2, .int v2), (3, .int v3), (4, .int v4), (5, .int v5), (6, .int v6)] []) :
    ∀ (n9 : Nat) (b : BS) (v6 : Int32), FX0_renew_L49 v1 v2 v3 v4 v5 k9 n9 b v6 = some res → gG p l e (headSpec wsX0_renew rX0_renew).room s m args below meth c 0 0 D (va_A (wB cI cJ b_0 b_1 b_2 b_3 b_4 b_5 b_6 b_7 b_8 b_9 b_10 b_11 b_12 b_13 b_14 b0) s.heap.size) (va_A (wB cI cJ b_0 b_1 b_2 b_3 b_4 b_5 b_6 b_7 b_8 b_9 b_10 b_11 b_12 b_13 b_14 b0) s.heap.size) 7 (MQ below (gQv D (wB cI cJ b_0 b_1 b_2 b_3 b_4 b_5 b_6 b_7 b_8 b_9 b_10 b_11 b_12 b_13 b_14 b0) s.heap.size (wB cI cJ b_0 b_1 b_2 b_3 b_4 b_5 b_6 b_7 b_8 b_9 b_10 b_11 b_12 b_13 b_14 res)) args s 0 0 (va_A (wB cI cJ b_0 b_1 b_2 b_3 b_4 b_5 b_6 b_7 b_8 b_9 b_10 b_11 b_12 b_13 b_14 b0) s.heap.size)) (wB cI cJ b_0 b_1 b_2 b_3 b_4 b_5 b_6 b_7 b_8 b_9 b_10 b_11 b_12 b_13 b_14 b) 49 [(0, .ref b_0), (1, .int v1), (2, .int v2), (3, .int v3), (4, .int v4), (5, .int v5), (6, .int v6)] [] := by
  intro n9
  induction n9 with
  | zero =>
    intro b v6 hF
    exact absurd hF (by simp [FX0_renew_L49])
  | succ n9 ih9 =>
    intro b v6 hF
    rw [FX0_renew_L49] at hF
    refine g_iload (z := 6) C (tdec DX0_renew 26 rfl) rfl rfl ?_
    refine g_bipush (v := 8) C (tdec DX0_renew 27 rfl) (by decide) rfl ?_
    refine g_icmp_ge (pt := 138) C (tdec DX0_renew 28 rfl) (by decide) rfl (fun h13 => ?_) (fun h13 => ?_)
    · have hF := o_ifp hF h13
      refine g_sub (L' := [(0, .ref b_0), (1, .int v1), (2, .int v2), (3, .int v3), (4, .int v4), (5, .int v5), (6, .int v6)]) [0, 1, 2, 3, 4, 5, 6] rfl ?_
      exact hk9 _ _ hF
    · have hF := o_ifn hF h13
      refine g_iload_n (z := 2) C (tdec DX0_renew 29 rfl) rfl rfl rfl ?_
      refine g_if_le (pt := 138) C (tdec DX0_renew 30 rfl) (by decide) rfl (fun h14 => ?_) (fun h14 => ?_)
      · have hF := o_ifp hF h14
        refine g_sub (L' := [(0, .ref b_0), (1, .int v1), (2, .int v2), (3, .int v3), (4, .int v4), (5, .int v5), (6, .int v6)]) [0, 1, 2, 3, 4, 5, 6] rfl ?_
        exact hk9 _ _ hF
      · have hF := o_ifn hF h14
        refine g_iload (z := 5) C (tdec DX0_renew 31 rfl) rfl rfl ?_
        refine g_iconst (v := (-1)) C (tdec DX0_renew 32 rfl) (by decide) rfl ?_
        refine g_icmp_ne (pt := 90) C (tdec DX0_renew 33 rfl) (by decide) rfl (fun h15 => ?_) (fun h15 => ?_)
        · have hF := o_ifn hF h15
          refine g_aload_n (z := 0) C (tdec DX0_renew 47 rfl) rfl rfl rfl ?_
          refine g_iload (z := 4) C (tdec DX0_renew 48 rfl) rfl rfl ?_
          refine g_bipush (v := 8) C (tdec DX0_renew 49 rfl) (by decide) rfl ?_
          refine g_imul C (tdec DX0_renew 50 rfl) rfl ?_
          refine g_iload (z := 6) C (tdec DX0_renew 51 rfl) rfl rfl ?_
          refine g_iadd C (tdec DX0_renew 52 rfl) rfl ?_
          refine g_aload_n (z := 0) C (tdec DX0_renew 53 rfl) rfl rfl rfl ?_
          refine g_getf (C' := RX0) (T := TX0) (N := 10) (v := .ref b_9) C 0 4 (gIn iw_X0) rfl rfl (by decide) (gMem fl_X0_33) rfl rfl (tdec DX0_renew 54 rfl) rfl ?_
          refine g_iload (z := 5) C (tdec DX0_renew 55 rfl) rfl rfl ?_
          refine g_bipush (v := 8) C (tdec DX0_renew 56 rfl) (by decide) rfl ?_
          refine g_imul C (tdec DX0_renew 57 rfl) rfl ?_
          refine g_iload (z := 6) C (tdec DX0_renew 58 rfl) rfl rfl ?_
          refine g_iadd C (tdec DX0_renew 59 rfl) rfl ?_
          obtain ⟨r16, y17, hF⟩ := o_bind hF
          refine g_callViR (q0 := 9) C (c_X1_at l D cB cI cJ cZ b_9 b_10 y17) rfl rfl (gIV ml_X0_55 im_X1_at sl_X1_at in_X1 cd_X1_at) rfl eX1_at rfl ⟨rfl, rfl⟩ ⟨Nat.le_of_ble_eq_true rfl, Nat.le_of_ble_eq_true rfl⟩ rfl [9, 10] rfl rfl rfl (Nat.le_of_ble_eq_true rfl) (tdec DX0_renew 60 rfl) rfl ?_
          refine g_aload_n (z := 0) C (tdec DX0_renew 61 rfl) rfl rfl rfl ?_
          refine g_getf (C' := RX0) (T := TX0) (N := 10) (v := .ref b_11) C 0 5 (gIn iw_X0) rfl rfl (by decide) (gMem fl_X0_36) rfl rfl (tdec DX0_renew 62 rfl) rfl ?_
          refine g_iload (z := 5) C (tdec DX0_renew 63 rfl) rfl rfl ?_
          refine g_bipush (v := 8) C (tdec DX0_renew 64 rfl) (by decide) rfl ?_
          refine g_imul C (tdec DX0_renew 65 rfl) rfl ?_
          refine g_iload (z := 6) C (tdec DX0_renew 66 rfl) rfl rfl ?_
          refine g_iadd C (tdec DX0_renew 67 rfl) rfl ?_
          obtain ⟨r18, y19, hF⟩ := o_bind hF
          refine g_callViR (q0 := 11) C (c_X1_at l D cB cI cJ cZ b_11 b_12 y19) rfl rfl (gIV ml_X0_55 im_X1_at sl_X1_at in_X1 cd_X1_at) rfl eX1_at rfl ⟨rfl, rfl⟩ ⟨Nat.le_of_ble_eq_true rfl, Nat.le_of_ble_eq_true rfl⟩ rfl [11, 12] rfl rfl rfl (Nat.le_of_ble_eq_true rfl) (tdec DX0_renew 68 rfl) rfl ?_
          obtain ⟨s20, y21, hF⟩ := o_bind hF
          refine g_callVvM (q0 := 0) (W' := wB cI cJ b_0 b_1 b_2 b_3 b_4 b_5 b_6 b_7 b_8 b_9 b_10 b_11 b_12 b_13 b_14 s20) C (c_X0_point l D cB cI cJ cZ b_0 b_1 b_2 b_3 b_4 b_5 b_6 b_7 b_8 b_9 b_10 b_11 b_12 b_13 b_14 y21) rfl rfl (gIV ml_X0_77 im_X0_point sl_X0_point in_X0 cd_X0_point) rfl eX0_point rfl ⟨rfl, rfl⟩ ⟨Nat.le_of_ble_eq_true rfl, Nat.le_of_ble_eq_true rfl⟩ rfl [0, 1, 2, 3, 4, 5, 6, 7, 8, 9, 10, 11, 12, 13, 14] rfl rfl rfl rfl rfl rfl (Nat.le_of_ble_eq_true rfl) (tdec DX0_renew 69 rfl) rfl ?_
          refine g_iinc (z := 6) (v := (v6 + 1)) (L' := [(6, .int (v6 + 1)), (0, .ref b_0), (1, .int v1), (2, .int v2), (3, .int v3), (4, .int v4), (5, .int v5)]) C (tdec DX0_renew 70 rfl) rfl rfl (by decide) rfl rfl ?_
          refine g_goto (pt := 49) C (tdec DX0_renew 71 rfl) (by decide) ?_
          refine g_sub (L' := [(0, .ref b_0), (1, .int v1), (2, .int v2), (3, .int v3), (4, .int v4), (5, .int v5), (6, .int (v6 + 1))]) [1, 2, 3, 4, 5, 6, 0] rfl ?_
          exact ih9 _ _ hF
        · have hF := o_ifp hF h15
          refine g_aload_n (z := 0) C (tdec DX0_renew 34 rfl) rfl rfl rfl ?_
          refine g_iload (z := 4) C (tdec DX0_renew 35 rfl) rfl rfl ?_
          refine g_bipush (v := 8) C (tdec DX0_renew 36 rfl) (by decide) rfl ?_
          refine g_imul C (tdec DX0_renew 37 rfl) rfl ?_
          refine g_iload (z := 6) C (tdec DX0_renew 38 rfl) rfl rfl ?_
          refine g_iadd C (tdec DX0_renew 39 rfl) rfl ?_
          refine g_iconst (v := (-1)) C (tdec DX0_renew 40 rfl) (by decide) rfl ?_
          refine g_aload_n (z := 0) C (tdec DX0_renew 41 rfl) rfl rfl rfl ?_
          refine g_getf (C' := RX0) (T := TX0) (N := 10) (v := .ref b_11) C 0 5 (gIn iw_X0) rfl rfl (by decide) (gMem fl_X0_36) rfl rfl (tdec DX0_renew 42 rfl) rfl ?_
          refine g_iload_n (z := 1) C (tdec DX0_renew 43 rfl) rfl rfl rfl ?_
          obtain ⟨r22, y23, hF⟩ := o_bind hF
          refine g_callViR (q0 := 11) C (c_X1_at l D cB cI cJ cZ b_11 b_12 y23) rfl rfl (gIV ml_X0_55 im_X1_at sl_X1_at in_X1 cd_X1_at) rfl eX1_at rfl ⟨rfl, rfl⟩ ⟨Nat.le_of_ble_eq_true rfl, Nat.le_of_ble_eq_true rfl⟩ rfl [11, 12] rfl rfl rfl (Nat.le_of_ble_eq_true rfl) (tdec DX0_renew 44 rfl) rfl ?_
          obtain ⟨s24, y25, hF⟩ := o_bind hF
          refine g_callVvM (q0 := 0) (W' := wB cI cJ b_0 b_1 b_2 b_3 b_4 b_5 b_6 b_7 b_8 b_9 b_10 b_11 b_12 b_13 b_14 s24) C (c_X0_point l D cB cI cJ cZ b_0 b_1 b_2 b_3 b_4 b_5 b_6 b_7 b_8 b_9 b_10 b_11 b_12 b_13 b_14 y25) rfl rfl (gIV ml_X0_77 im_X0_point sl_X0_point in_X0 cd_X0_point) rfl eX0_point rfl ⟨rfl, rfl⟩ ⟨Nat.le_of_ble_eq_true rfl, Nat.le_of_ble_eq_true rfl⟩ rfl [0, 1, 2, 3, 4, 5, 6, 7, 8, 9, 10, 11, 12, 13, 14] rfl rfl rfl rfl rfl rfl (Nat.le_of_ble_eq_true rfl) (tdec DX0_renew 45 rfl) rfl ?_
          refine g_goto (pt := 132) C (tdec DX0_renew 46 rfl) (by decide) ?_
          refine g_iinc (z := 6) (v := (v6 + 1)) (L' := [(6, .int (v6 + 1)), (0, .ref b_0), (1, .int v1), (2, .int v2), (3, .int v3), (4, .int v4), (5, .int v5)]) C (tdec DX0_renew 70 rfl) rfl rfl (by decide) rfl rfl ?_
          refine g_goto (pt := 49) C (tdec DX0_renew 71 rfl) (by decide) ?_
          refine g_sub (L' := [(0, .ref b_0), (1, .int v1), (2, .int v2), (3, .int v3), (4, .int v4), (5, .int v5), (6, .int (v6 + 1))]) [1, 2, 3, 4, 5, 6, 0] rfl ?_
          exact ih9 _ _ hF
set_option maxHeartbeats 4000000 in
set_option maxRecDepth 100000 in
theorem c_X0_renew (l : Launch) (D : va_G) (cB cI cJ cZ : ClassId) (b_0 b_1 b_2 b_3 b_4 b_5 b_6 b_7 b_8 b_9 b_10 b_11 b_12 b_13 b_14 : Nat) {b0 : BS} {p1 : Int32} {p2 : Int32} {p3 : Int32} {res : BS} (hF : FX0_renew b0 p1 p2 p3 = some res) : gMv l yX0_renew wsX0_renew rX0_renew D (gT cB cI cJ cZ) [.ref b_0, .int p1, .int p2, .int p3] (wB cI cJ b_0 b_1 b_2 b_3 b_4 b_5 b_6 b_7 b_8 b_9 b_10 b_11 b_12 b_13 b_14 b0) (wB cI cJ b_0 b_1 b_2 b_3 b_4 b_5 b_6 b_7 b_8 b_9 b_10 b_11 b_12 b_13 b_14 res) := by
  refine g_enter (own := RX0) (free := (fun sz => va_A (wB cI cJ b_0 b_1 b_2 b_3 b_4 b_5 b_6 b_7 b_8 b_9 b_10 b_11 b_12 b_13 b_14 b0) sz)) (Qc := (fun sz => gQv D (wB cI cJ b_0 b_1 b_2 b_3 b_4 b_5 b_6 b_7 b_8 b_9 b_10 b_11 b_12 b_13 b_14 b0) sz (wB cI cJ b_0 b_1 b_2 b_3 b_4 b_5 b_6 b_7 b_8 b_9 b_10 b_11 b_12 b_13 b_14 res))) (fun sz => va_A (wB cI cJ b_0 b_1 b_2 b_3 b_4 b_5 b_6 b_7 b_8 b_9 b_10 b_11 b_12 b_13 b_14 b0) sz) (fun sz => Or.inr rfl) rfl (by decide) rfl (Nat.le_of_ble_eq_true rfl) rfl ?_
  intro p e s m args below meth c C
  unfold FX0_renew at hF
  refine g_aload_n (z := 0) C (tdec DX0_renew 0 rfl) rfl rfl rfl ?_
  refine g_iload_n (z := 1) C (tdec DX0_renew 1 rfl) rfl rfl rfl ?_
  refine g_iload_n (z := 3) C (tdec DX0_renew 2 rfl) rfl rfl rfl ?_
  obtain ⟨r1, y2, hF⟩ := o_bind hF
  refine g_callViR (q0 := 0) C (c_X0_wantsNewBlock l D cB cI cJ cZ b_0 b_1 b_2 b_3 b_4 b_5 b_6 b_7 b_8 b_9 b_10 b_11 b_12 b_13 b_14 y2) rfl rfl (gIV ml_X0_69 im_X0_wantsNewBlock sl_X0_wantsNewBlock in_X0 cd_X0_wantsNewBlock) rfl eX0_wantsNewBlock rfl ⟨rfl, rfl⟩ ⟨Nat.le_of_ble_eq_true rfl, Nat.le_of_ble_eq_true rfl⟩ rfl [0, 1, 2, 3, 4, 5, 6, 7, 8, 9, 10, 11, 12, 13, 14] rfl rfl rfl (Nat.le_of_ble_eq_true rfl) (tdec DX0_renew 3 rfl) rfl ?_
  refine g_if_ne (pt := 10) C (tdec DX0_renew 4 rfl) (by decide) rfl (fun h3 => ?_) (fun h3 => ?_)
  · have hF := o_ifn hF h3
    refine g_aload_n (z := 0) C (tdec DX0_renew 6 rfl) rfl rfl rfl ?_
    obtain ⟨⟨r4, s5⟩, y6, hF⟩ := o_bind hF
    refine g_callViM (q0 := 0) (W' := wB cI cJ b_0 b_1 b_2 b_3 b_4 b_5 b_6 b_7 b_8 b_9 b_10 b_11 b_12 b_13 b_14 s5) C (c_X0_takeLeastFree l D cB cI cJ cZ b_0 b_1 b_2 b_3 b_4 b_5 b_6 b_7 b_8 b_9 b_10 b_11 b_12 b_13 b_14 y6) rfl rfl (gIV ml_X0_73 im_X0_takeLeastFree sl_X0_takeLeastFree in_X0 cd_X0_takeLeastFree) rfl eX0_takeLeastFree rfl ⟨rfl, rfl⟩ ⟨Nat.le_of_ble_eq_true rfl, Nat.le_of_ble_eq_true rfl⟩ rfl [0, 1, 2, 3, 4, 5, 6, 7, 8, 9, 10, 11, 12, 13, 14] rfl rfl rfl rfl rfl rfl (Nat.le_of_ble_eq_true rfl) (tdec DX0_renew 7 rfl) rfl ?_
    refine g_istore (L' := [(4, .int r4), (0, .ref b_0), (1, .int p1), (2, .int p2), (3, .int p3)]) C (tdec DX0_renew 8 rfl) (by decide) rfl rfl ?_
    refine g_aload_n (z := 1) C (tdec DX0_renew 9 rfl) rfl rfl rfl ?_
    refine g_getf (C' := RX0) (T := TX0) (N := 10) (v := .ref b_1) C 0 0 (gIn iw_X0) rfl rfl (by decide) (gMem fl_X0_14) rfl rfl (tdec DX0_renew 10 rfl) rfl ?_
    refine g_iload (z := 0) C (tdec DX0_renew 11 rfl) rfl rfl ?_
    refine g_iload_n (z := 3) C (tdec DX0_renew 12 rfl) rfl rfl rfl ?_
    obtain ⟨s7, y8, hF⟩ := o_bind hF
    refine g_callVvM (q0 := 1) (W' := wB cI cJ b_0 b_1 b_2 b_3 b_4 b_5 b_6 b_7 b_8 b_9 b_10 b_11 b_12 b_13 b_14 (BS_setlev s5 s7)) C (c_X1_put l D cB cI cJ cZ b_1 b_2 y8) rfl rfl (gIV ml_X0_66 im_X1_put sl_X1_put in_X1 cd_X1_put) rfl eX1_put rfl ⟨rfl, rfl⟩ ⟨Nat.le_of_ble_eq_true rfl, Nat.le_of_ble_eq_true rfl⟩ rfl [1, 2] rfl rfl rfl rfl rfl rfl (Nat.le_of_ble_eq_true rfl) (tdec DX0_renew 13 rfl) rfl ?_
    refine g_aload_n (z := 1) C (tdec DX0_renew 14 rfl) rfl rfl rfl ?_
    refine g_getf (C' := RX0) (T := TX0) (N := 10) (v := .ref b_3) C 0 1 (gIn iw_X0) rfl rfl (by decide) (gMem fl_X0_20) rfl rfl (tdec DX0_renew 15 rfl) rfl ?_
    refine g_iload (z := 0) C (tdec DX0_renew 16 rfl) rfl rfl ?_
    refine g_iload_n (z := 4) C (tdec DX0_renew 17 rfl) rfl rfl rfl ?_
    obtain ⟨s9, y10, hF⟩ := o_bind hF
    refine g_callVvM (q0 := 3) (W' := wB cI cJ b_0 b_1 b_2 b_3 b_4 b_5 b_6 b_7 b_8 b_9 b_10 b_11 b_12 b_13 b_14 (BS_setbob (BS_setlev s5 s7) s9)) C (c_X1_put l D cB cI cJ cZ b_3 b_4 y10) rfl rfl (gIV ml_X0_66 im_X1_put sl_X1_put in_X1 cd_X1_put) rfl eX1_put rfl ⟨rfl, rfl⟩ ⟨Nat.le_of_ble_eq_true rfl, Nat.le_of_ble_eq_true rfl⟩ rfl [3, 4] rfl rfl rfl rfl rfl rfl (Nat.le_of_ble_eq_true rfl) (tdec DX0_renew 18 rfl) rfl ?_
    refine g_aload_n (z := 1) C (tdec DX0_renew 19 rfl) rfl rfl rfl ?_
    refine g_getf (C' := RX0) (T := TX0) (N := 10) (v := .ref b_9) C 0 4 (gIn iw_X0) rfl rfl (by decide) (gMem fl_X0_33) rfl rfl (tdec DX0_renew 20 rfl) rfl ?_
    refine g_iload_n (z := 2) C (tdec DX0_renew 21 rfl) rfl rfl rfl ?_
    obtain ⟨r11, y12, hF⟩ := o_bind hF
    refine g_callViR (q0 := 9) C (c_X1_at l D cB cI cJ cZ b_9 b_10 y12) rfl rfl (gIV ml_X0_55 im_X1_at sl_X1_at in_X1 cd_X1_at) rfl eX1_at rfl ⟨rfl, rfl⟩ ⟨Nat.le_of_ble_eq_true rfl, Nat.le_of_ble_eq_true rfl⟩ rfl [9, 10] rfl rfl rfl (Nat.le_of_ble_eq_true rfl) (tdec DX0_renew 22 rfl) rfl ?_
    refine g_istore (L' := [(5, .int r11), (4, .int r4), (0, .ref b_0), (1, .int p1), (2, .int p2), (3, .int p3)]) C (tdec DX0_renew 23 rfl) (by decide) rfl rfl ?_
    refine g_iconst (v := 0) C (tdec DX0_renew 24 rfl) (by decide) rfl ?_
    refine g_istore (L' := [(6, .int 0), (5, .int r11), (4, .int r4), (0, .ref b_0), (1, .int p1), (2, .int p2), (3, .int p3)]) C (tdec DX0_renew 25 rfl) (by decide) rfl rfl ?_
    refine g_sub (L' := [(0, .ref b_0), (1, .int p1), (2, .int p2), (3, .int p3), (4, .int r4), (5, .int r11), (6, .int 0)]) [3, 4, 5, 6, 2, 1, 0] rfl ?_
    refine c_FX0_renew_L49 C (fun bq26 w6_26 hF => ?_) 100000 _ _ hF
    refine g_aload_n (z := 0) C (tdec DX0_renew 72 rfl) rfl rfl rfl ?_
    refine g_iload_n (z := 1) C (tdec DX0_renew 73 rfl) rfl rfl rfl ?_
    refine g_iload (z := 4) C (tdec DX0_renew 74 rfl) rfl rfl ?_
    refine g_iload_n (z := 3) C (tdec DX0_renew 75 rfl) rfl rfl rfl ?_
    obtain ⟨s27, y28, hF⟩ := o_bind hF
    refine g_callVvM (q0 := 0) (W' := wB cI cJ b_0 b_1 b_2 b_3 b_4 b_5 b_6 b_7 b_8 b_9 b_10 b_11 b_12 b_13 b_14 s27) C (c_X0_point l D cB cI cJ cZ b_0 b_1 b_2 b_3 b_4 b_5 b_6 b_7 b_8 b_9 b_10 b_11 b_12 b_13 b_14 y28) rfl rfl (gIV ml_X0_77 im_X0_point sl_X0_point in_X0 cd_X0_point) rfl eX0_point rfl ⟨rfl, rfl⟩ ⟨Nat.le_of_ble_eq_true rfl, Nat.le_of_ble_eq_true rfl⟩ rfl [0, 1, 2, 3, 4, 5, 6, 7, 8, 9, 10, 11, 12, 13, 14] rfl rfl rfl rfl rfl rfl (Nat.le_of_ble_eq_true rfl) (tdec DX0_renew 76 rfl) rfl ?_
    have hr9 := o_some hF
    subst hr9
    exact g_vret C rfl (tdec DX0_renew 77 rfl)
  · have hF := o_ifp hF h3
    have hr9 := o_some hF
    subst hr9
    exact g_vret C rfl (tdec DX0_renew 5 rfl)
def FX0_settle_L40 (v1 : Int32) (v2 : Int32) (k9 : BS → Int32 → Option (BS)) : Nat → BS → Int32 → Option (BS)
  | 0, _, _ => none
  | n9 + 1, b, v3 =>
    if 8 ≤ v3 then
      k9 b v3
    else
      (FX1_at 600 (BS_lev b) v2).bind fun r6 =>
      if r6 ≤ 0 then
        k9 b v3
      else
        (FX0_point b ((v2 * 8) + v3) (-1) 0).bind fun s9 =>
        FX0_settle_L40 v1 v2 k9 n9 s9 (v3 + 1)
def FX0_settle_L2 (k9 : BS → Int32 → Option (BS)) : Nat → BS → Int32 → Option (BS)
  | 0, _, _ => none
  | n9 + 1, b, v1 =>
    if 600 ≤ v1 then
      k9 b v1
    else
      if (BS_lc b) ≤ 0 then
        k9 b v1
      else
        (FX1_at 600 (BS_loo b) ((BS_lc b) - 1)).bind fun r3 =>
        FX0_settle_L40 v1 r3 (fun bq11 w3_11 =>
          (FX1_put 600 (BS_lev bq11) r3 (-1)).bind fun s12 =>
          FX0_settle_L2 k9 n9 (BS_setfr (BS_setlev bq11 s12) ((BS_fr bq11) + 1)) (v1 + 1)) 100000 (BS_setlc b ((BS_lc b) - 1)) 0
def FX0_settle (b0 : BS) : Option (BS) :=
  FX0_settle_L2 (fun bq14 w1_14 =>
    some bq14) 100000 b0 0
def rX0_settle : Room := { frames := 2, cells := 0, slots := 0, locals := 46 }
set_option maxHeartbeats 4000000 in
set_option maxRecDepth 100000 in
theorem c_FX0_settle_L40 {p : Program} {l : Launch} {e : Env} {s : State} {m : MethodId} {args : Array Value} {below : List Frame} {meth : Method} {c : Code} {D : va_G} {cB cI cJ cZ : ClassId} {b_0 b_1 b_2 b_3 b_4 b_5 b_6 b_7 b_8 b_9 b_10 b_11 b_12 b_13 b_14 : Nat} {b0 : BS} {res : BS} (C : gC p s m args meth c cX0_settle 4 RX0 wsX0_settle D (gT cB cI cJ cZ) none (va_A (wB cI cJ b_0 b_1 b_2 b_3 b_4 b_5 b_6 b_7 b_8 b_9 b_10 b_11 b_12 b_13 b_14 b0) s.heap.size)) {v1 : Int32} {v2 : Int32} {k9 : BS → Int32 → Option (BS)} (hk9 : ∀ (b : BS) (v3 : Int32), k9 b v3 = some res → gG p l e (headSpec wsX0_settle rX0_settle).room s m args below meth c 0 0 D (va_A (wB cI cJ b_0 b_1 b_2 b_3 b_4 b_5 b_6 b_7 b_8 b_9 b_10 b_11 b_12 b_13 b_14 b0) s.heap.size) (va_A (wB cI cJ b_0 b_1 b_2 b_3 b_4 b_5 b_6 b_7 b_8 b_9 b_10 b_11 b_12 b_13 b_14 b0) s.heap.size) 4 (MQ below (gQv D (wB cI cJ b_0 b_1 b_2 b_3 b_4 b_5 b_6 b_7 b_8 b_9 b_10 b_11 b_12 b_13 b_14 b0) s.heap.size (wB cI cJ b_0 b_1 b_2 b_3 b_4 b_5 b_6 b_7 b_8 b_9 b_10 b_11 b_12 b_13 b_14 res)) args s 0 0 (va_A (wB cI cJ b_0 b_1 b_2 b_3 b_4 b_5 b_6 b_7 b_8 b_9 b_10 b_11 b_12 b_13 b_14 b0) s.heap.size)) (wB cI cJ b_0 b_1 b_2 b_3 b_4 b_5 b_6 b_7 b_8 b_9 b_10 b_11 b_12 b_13 b_14 b) 75 [(0, .ref b_0), (1, .int v1), (2, .int v2), (3, .int v3)] []) :
    ∀ (n9 : Nat) (b : BS) (v3 : Int32), FX0_settle_L40 v1 v2 k9 n9 b v3 = some res → gG p l e (headSpec wsX0_settle rX0_settle).room s m args below meth c 0 0 D (va_A (wB cI cJ b_0 b_1 b_2 b_3 b_4 b_5 b_6 b_7 b_8 b_9 b_10 b_11 b_12 b_13 b_14 b0) s.heap.size) (va_A (wB cI cJ b_0 b_1 b_2 b_3 b_4 b_5 b_6 b_7 b_8 b_9 b_10 b_11 b_12 b_13 b_14 b0) s.heap.size) 4 (MQ below (gQv D (wB cI cJ b_0 b_1 b_2 b_3 b_4 b_5 b_6 b_7 b_8 b_9 b_10 b_11 b_12 b_13 b_14 b0) s.heap.size (wB cI cJ b_0 b_1 b_2 b_3 b_4 b_5 b_6 b_7 b_8 b_9 b_10 b_11 b_12 b_13 b_14 res)) args s 0 0 (va_A (wB cI cJ b_0 b_1 b_2 b_3 b_4 b_5 b_6 b_7 b_8 b_9 b_10 b_11 b_12 b_13 b_14 b0) s.heap.size)) (wB cI cJ b_0 b_1 b_2 b_3 b_4 b_5 b_6 b_7 b_8 b_9 b_10 b_11 b_12 b_13 b_14 b) 40 [(0, .ref b_0), (1, .int v1), (2, .int v2), (3, .int v3)] [] := by
  intro n9
  induction n9 with
  | zero =>
    intro b v3 hF
    exact absurd hF (by simp [FX0_settle_L40])
  | succ n9 ih9 =>
    intro b v3 hF
    rw [FX0_settle_L40] at hF
    refine g_iload_n (z := 3) C (tdec DX0_settle 22 rfl) rfl rfl rfl ?_
    refine g_bipush (v := 8) C (tdec DX0_settle 23 rfl) (by decide) rfl ?_
    refine g_icmp_ge (pt := 75) C (tdec DX0_settle 24 rfl) (by decide) rfl (fun h5 => ?_) (fun h5 => ?_)
    · have hF := o_ifp hF h5
      refine g_sub (L' := [(0, .ref b_0), (1, .int v1), (2, .int v2), (3, .int v3)]) [0, 1, 2, 3] rfl ?_
      exact hk9 _ _ hF
    · have hF := o_ifn hF h5
      refine g_aload_n (z := 0) C (tdec DX0_settle 25 rfl) rfl rfl rfl ?_
      refine g_getf (C' := RX0) (T := TX0) (N := 10) (v := .ref b_1) C 0 0 (gIn iw_X0) rfl rfl (by decide) (gMem fl_X0_14) rfl rfl (tdec DX0_settle 26 rfl) rfl ?_
      refine g_iload_n (z := 2) C (tdec DX0_settle 27 rfl) rfl rfl rfl ?_
      obtain ⟨r6, y7, hF⟩ := o_bind hF
      refine g_callViR (q0 := 1) C (c_X1_at l D cB cI cJ cZ b_1 b_2 y7) rfl rfl (gIV ml_X0_55 im_X1_at sl_X1_at in_X1 cd_X1_at) rfl eX1_at rfl ⟨rfl, rfl⟩ ⟨Nat.le_of_ble_eq_true rfl, Nat.le_of_ble_eq_true rfl⟩ rfl [1, 2] rfl rfl rfl (Nat.le_of_ble_eq_true rfl) (tdec DX0_settle 28 rfl) rfl ?_
      refine g_if_le (pt := 75) C (tdec DX0_settle 29 rfl) (by decide) rfl (fun h8 => ?_) (fun h8 => ?_)
      · have hF := o_ifp hF h8
        refine g_sub (L' := [(0, .ref b_0), (1, .int v1), (2, .int v2), (3, .int v3)]) [0, 1, 2, 3] rfl ?_
        exact hk9 _ _ hF
      · have hF := o_ifn hF h8
        refine g_aload_n (z := 0) C (tdec DX0_settle 30 rfl) rfl rfl rfl ?_
        refine g_iload_n (z := 2) C (tdec DX0_settle 31 rfl) rfl rfl rfl ?_
        refine g_bipush (v := 8) C (tdec DX0_settle 32 rfl) (by decide) rfl ?_
        refine g_imul C (tdec DX0_settle 33 rfl) rfl ?_
        refine g_iload_n (z := 3) C (tdec DX0_settle 34 rfl) rfl rfl rfl ?_
        refine g_iadd C (tdec DX0_settle 35 rfl) rfl ?_
        refine g_iconst (v := (-1)) C (tdec DX0_settle 36 rfl) (by decide) rfl ?_
        refine g_iconst (v := 0) C (tdec DX0_settle 37 rfl) (by decide) rfl ?_
        obtain ⟨s9, y10, hF⟩ := o_bind hF
        refine g_callVvM (q0 := 0) (W' := wB cI cJ b_0 b_1 b_2 b_3 b_4 b_5 b_6 b_7 b_8 b_9 b_10 b_11 b_12 b_13 b_14 s9) C (c_X0_point l D cB cI cJ cZ b_0 b_1 b_2 b_3 b_4 b_5 b_6 b_7 b_8 b_9 b_10 b_11 b_12 b_13 b_14 y10) rfl rfl (gIV ml_X0_77 im_X0_point sl_X0_point in_X0 cd_X0_point) rfl eX0_point rfl ⟨rfl, rfl⟩ ⟨Nat.le_of_ble_eq_true rfl, Nat.le_of_ble_eq_true rfl⟩ rfl [0, 1, 2, 3, 4, 5, 6, 7, 8, 9, 10, 11, 12, 13, 14] rfl rfl rfl rfl rfl rfl (Nat.le_of_ble_eq_true rfl) (tdec DX0_settle 38 rfl) rfl ?_
        refine g_iinc (z := 3) (v := (v3 + 1)) (L' := [(3, .int (v3 + 1)), (0, .ref b_0), (1, .int v1), (2, .int v2)]) C (tdec DX0_settle 39 rfl) rfl rfl (by decide) rfl rfl ?_
        refine g_goto (pt := 40) C (tdec DX0_settle 40 rfl) (by decide) ?_
        refine g_sub (L' := [(0, .ref b_0), (1, .int v1), (2, .int v2), (3, .int (v3 + 1))]) [1, 2, 3, 0] rfl ?_
        exact ih9 _ _ hF
set_option maxHeartbeats 4000000 in
set_option maxRecDepth 100000 in
theorem c_FX0_settle_L2 {p : Program} {l : Launch} {e : Env} {s : State} {m : MethodId} {args : Array Value} {below : List Frame} {meth : Method} {c : Code} {D : va_G} {cB cI cJ cZ : ClassId} {b_0 b_1 b_2 b_3 b_4 b_5 b_6 b_7 b_8 b_9 b_10 b_11 b_12 b_13 b_14 : Nat} {b0 : BS} {res : BS} (C : gC p s m args meth c cX0_settle 4 RX0 wsX0_settle D (gT cB cI cJ cZ) none (va_A (wB cI cJ b_0 b_1 b_2 b_3 b_4 b_5 b_6 b_7 b_8 b_9 b_10 b_11 b_12 b_13 b_14 b0) s.heap.size)) {k9 : BS → Int32 → Option (BS)} (hk9 : ∀ (b : BS) (v1 : Int32), k9 b v1 = some res → gG p l e (headSpec wsX0_settle rX0_settle).room s m args below meth c 0 0 D (va_A (wB cI cJ b_0 b_1 b_2 b_3 b_4 b_5 b_6 b_7 b_8 b_9 b_10 b_11 b_12 b_13 b_14 b0) s.heap.size) (va_A (wB cI cJ b_0 b_1 b_2 b_3 b_4 b_5 b_6 b_7 b_8 b_9 b_10 b_11 b_12 b_13 b_14 b0) s.heap.size) 4 (MQ below (gQv D (wB cI cJ b_0 b_1 b_2 b_3 b_4 b_5 b_6 b_7 b_8 b_9 b_10 b_11 b_12 b_13 b_14 b0) s.heap.size (wB cI cJ b_0 b_1 b_2 b_3 b_4 b_5 b_6 b_7 b_8 b_9 b_10 b_11 b_12 b_13 b_14 res)) args s 0 0 (va_A (wB cI cJ b_0 b_1 b_2 b_3 b_4 b_5 b_6 b_7 b_8 b_9 b_10 b_11 b_12 b_13 b_14 b0) s.heap.size)) (wB cI cJ b_0 b_1 b_2 b_3 b_4 b_5 b_6 b_7 b_8 b_9 b_10 b_11 b_12 b_13 b_14 b) 100 [(0, .ref b_0), (1, .int v1)] []) :
    ∀ (n9 : Nat) (b : BS) (v1 : Int32), FX0_settle_L2 k9 n9 b v1 = some res → gG p l e (headSpec wsX0_settle rX0_settle).room s m args below meth c 0 0 D (va_A (wB cI cJ b_0 b_1 b_2 b_3 b_4 b_5 b_6 b_7 b_8 b_9 b_10 b_11 b_12 b_13 b_14 b0) s.heap.size) (va_A (wB cI cJ b_0 b_1 b_2 b_3 b_4 b_5 b_6 b_7 b_8 b_9 b_10 b_11 b_12 b_13 b_14 b0) s.heap.size) 4 (MQ below (gQv D (wB cI cJ b_0 b_1 b_2 b_3 b_4 b_5 b_6 b_7 b_8 b_9 b_10 b_11 b_12 b_13 b_14 b0) s.heap.size (wB cI cJ b_0 b_1 b_2 b_3 b_4 b_5 b_6 b_7 b_8 b_9 b_10 b_11 b_12 b_13 b_14 res)) args s 0 0 (va_A (wB cI cJ b_0 b_1 b_2 b_3 b_4 b_5 b_6 b_7 b_8 b_9 b_10 b_11 b_12 b_13 b_14 b0) s.heap.size)) (wB cI cJ b_0 b_1 b_2 b_3 b_4 b_5 b_6 b_7 b_8 b_9 b_10 b_11 b_12 b_13 b_14 b) 2 [(0, .ref b_0), (1, .int v1)] [] := by
  intro n9
  induction n9 with
  | zero =>
    intro b v1 hF
    exact absurd hF (by simp [FX0_settle_L2])
  | succ n9 ih9 =>
    intro b v1 hF
    rw [FX0_settle_L2] at hF
    refine g_iload_n (z := 1) C (tdec DX0_settle 2 rfl) rfl rfl rfl ?_
    refine g_sipush (v := 600) C (tdec DX0_settle 3 rfl) (by decide) rfl ?_
    refine g_icmp_ge (pt := 100) C (tdec DX0_settle 4 rfl) (by decide) rfl (fun h1 => ?_) (fun h1 => ?_)
    · have hF := o_ifp hF h1
      refine g_sub (L' := [(0, .ref b_0), (1, .int v1)]) [0, 1] rfl ?_
      exact hk9 _ _ hF
    · have hF := o_ifn hF h1
      refine g_aload_n (z := 0) C (tdec DX0_settle 5 rfl) rfl rfl rfl ?_
      refine g_getf (C' := RX0) (T := TX0) (N := 10) (v := .int (BS_lc b)) C 0 7 (gIn iw_X0) rfl rfl (by decide) (gMem fl_X0_45) rfl rfl (tdec DX0_settle 6 rfl) rfl ?_
      refine g_if_le (pt := 100) C (tdec DX0_settle 7 rfl) (by decide) rfl (fun h2 => ?_) (fun h2 => ?_)
      · have hF := o_ifp hF h2
        refine g_sub (L' := [(0, .ref b_0), (1, .int v1)]) [0, 1] rfl ?_
        exact hk9 _ _ hF
      · have hF := o_ifn hF h2
        refine g_aload_n (z := 0) C (tdec DX0_settle 8 rfl) rfl rfl rfl ?_
        refine g_dup C (tdec DX0_settle 9 rfl) rfl rfl ?_
        refine g_getf (C' := RX0) (T := TX0) (N := 10) (v := .int (BS_lc b)) C 0 7 (gIn iw_X0) rfl rfl (by decide) (gMem fl_X0_45) rfl rfl (tdec DX0_settle 10 rfl) rfl ?_
        refine g_iconst (v := 1) C (tdec DX0_settle 11 rfl) (by decide) rfl ?_
        refine g_isub C (tdec DX0_settle 12 rfl) rfl ?_
        refine g_putf (C' := RX0) (T := TX0) (N := 10) (v := .int ((BS_lc b) - 1)) (ws' := wB cI cJ b_0 b_1 b_2 b_3 b_4 b_5 b_6 b_7 b_8 b_9 b_10 b_11 b_12 b_13 b_14 (BS_setlc b ((BS_lc b) - 1))) C 0 7 tyX0 tyX0_ok nmX0 (gIn iw_X0) rfl rfl (by decide) (gMem fl_X0_45) rfl rfl (tyX0_ok 7 (by decide)) rfl rfl (Nat.le_of_ble_eq_true rfl) rfl (tdec DX0_settle 13 rfl) rfl ?_
        refine g_aload_n (z := 0) C (tdec DX0_settle 14 rfl) rfl rfl rfl ?_
        refine g_getf (C' := RX0) (T := TX0) (N := 10) (v := .ref b_13) C 0 6 (gIn iw_X0) rfl rfl (by decide) (gMem fl_X0_39) rfl rfl (tdec DX0_settle 15 rfl) rfl ?_
        refine g_aload_n (z := 0) C (tdec DX0_settle 16 rfl) rfl rfl rfl ?_
        refine g_getf (C' := RX0) (T := TX0) (N := 10) (v := .int ((BS_lc b) - 1)) C 0 7 (gIn iw_X0) rfl rfl (by decide) (gMem fl_X0_45) rfl rfl (tdec DX0_settle 17 rfl) rfl ?_
        obtain ⟨r3, y4, hF⟩ := o_bind hF
        refine g_callViR (q0 := 13) C (c_X1_at l D cB cI cJ cZ b_13 b_14 y4) rfl rfl (gIV ml_X0_55 im_X1_at sl_X1_at in_X1 cd_X1_at) rfl eX1_at rfl ⟨rfl, rfl⟩ ⟨Nat.le_of_ble_eq_true rfl, Nat.le_of_ble_eq_true rfl⟩ rfl [13, 14] rfl rfl rfl (Nat.le_of_ble_eq_true rfl) (tdec DX0_settle 18 rfl) rfl ?_
        refine g_istore_n (L' := [(2, .int r3), (0, .ref b_0), (1, .int v1)]) C (tdec DX0_settle 19 rfl) rfl (by decide) rfl rfl ?_
        refine g_iconst (v := 0) C (tdec DX0_settle 20 rfl) (by decide) rfl ?_
        refine g_istore_n (L' := [(3, .int 0), (2, .int r3), (0, .ref b_0), (1, .int v1)]) C (tdec DX0_settle 21 rfl) rfl (by decide) rfl rfl ?_
        refine g_sub (L' := [(0, .ref b_0), (1, .int v1), (2, .int r3), (3, .int 0)]) [2, 3, 1, 0] rfl ?_
        refine c_FX0_settle_L40 C (fun bq11 w3_11 hF => ?_) 100000 _ _ hF
        refine g_aload_n (z := 0) C (tdec DX0_settle 41 rfl) rfl rfl rfl ?_
        refine g_getf (C' := RX0) (T := TX0) (N := 10) (v := .ref b_1) C 0 0 (gIn iw_X0) rfl rfl (by decide) (gMem fl_X0_14) rfl rfl (tdec DX0_settle 42 rfl) rfl ?_
        refine g_iload_n (z := 2) C (tdec DX0_settle 43 rfl) rfl rfl rfl ?_
        refine g_iconst (v := (-1)) C (tdec DX0_settle 44 rfl) (by decide) rfl ?_
        obtain ⟨s12, y13, hF⟩ := o_bind hF
        refine g_callVvM (q0 := 1) (W' := wB cI cJ b_0 b_1 b_2 b_3 b_4 b_5 b_6 b_7 b_8 b_9 b_10 b_11 b_12 b_13 b_14 (BS_setlev bq11 s12)) C (c_X1_put l D cB cI cJ cZ b_1 b_2 y13) rfl rfl (gIV ml_X0_66 im_X1_put sl_X1_put in_X1 cd_X1_put) rfl eX1_put rfl ⟨rfl, rfl⟩ ⟨Nat.le_of_ble_eq_true rfl, Nat.le_of_ble_eq_true rfl⟩ rfl [1, 2] rfl rfl rfl rfl rfl rfl (Nat.le_of_ble_eq_true rfl) (tdec DX0_settle 45 rfl) rfl ?_
        refine g_aload_n (z := 0) C (tdec DX0_settle 46 rfl) rfl rfl rfl ?_
        refine g_dup C (tdec DX0_settle 47 rfl) rfl rfl ?_
        refine g_getf (C' := RX0) (T := TX0) (N := 10) (v := .int (BS_fr bq11)) C 0 9 (gIn iw_X0) rfl rfl (by decide) (gMem fl_X0_52) rfl rfl (tdec DX0_settle 48 rfl) rfl ?_
        refine g_iconst (v := 1) C (tdec DX0_settle 49 rfl) (by decide) rfl ?_
        refine g_iadd C (tdec DX0_settle 50 rfl) rfl ?_
        refine g_putf (C' := RX0) (T := TX0) (N := 10) (v := .int ((BS_fr bq11) + 1)) (ws' := wB cI cJ b_0 b_1 b_2 b_3 b_4 b_5 b_6 b_7 b_8 b_9 b_10 b_11 b_12 b_13 b_14 (BS_setfr (BS_setlev bq11 s12) ((BS_fr bq11) + 1))) C 0 9 tyX0 tyX0_ok nmX0 (gIn iw_X0) rfl rfl (by decide) (gMem fl_X0_52) rfl rfl (tyX0_ok 9 (by decide)) rfl rfl (Nat.le_of_ble_eq_true rfl) rfl (tdec DX0_settle 51 rfl) rfl ?_
        refine g_iinc (z := 1) (v := (v1 + 1)) (L' := [(1, .int (v1 + 1)), (0, .ref b_0), (2, .int r3), (3, .int w3_11)]) C (tdec DX0_settle 52 rfl) rfl rfl (by decide) rfl rfl ?_
        refine g_goto (pt := 2) C (tdec DX0_settle 53 rfl) (by decide) ?_
        refine g_sub (L' := [(0, .ref b_0), (1, .int (v1 + 1))]) [1, 0] rfl ?_
        exact ih9 _ _ hF
set_option maxHeartbeats 4000000 in
set_option maxRecDepth 100000 in
theorem c_X0_settle (l : Launch) (D : va_G) (cB cI cJ cZ : ClassId) (b_0 b_1 b_2 b_3 b_4 b_5 b_6 b_7 b_8 b_9 b_10 b_11 b_12 b_13 b_14 : Nat) {b0 : BS} {res : BS} (hF : FX0_settle b0 = some res) : gMv l yX0_settle wsX0_settle rX0_settle D (gT cB cI cJ cZ) [.ref b_0] (wB cI cJ b_0 b_1 b_2 b_3 b_4 b_5 b_6 b_7 b_8 b_9 b_10 b_11 b_12 b_13 b_14 b0) (wB cI cJ b_0 b_1 b_2 b_3 b_4 b_5 b_6 b_7 b_8 b_9 b_10 b_11 b_12 b_13 b_14 res) := by
  refine g_enter (own := RX0) (free := (fun sz => va_A (wB cI cJ b_0 b_1 b_2 b_3 b_4 b_5 b_6 b_7 b_8 b_9 b_10 b_11 b_12 b_13 b_14 b0) sz)) (Qc := (fun sz => gQv D (wB cI cJ b_0 b_1 b_2 b_3 b_4 b_5 b_6 b_7 b_8 b_9 b_10 b_11 b_12 b_13 b_14 b0) sz (wB cI cJ b_0 b_1 b_2 b_3 b_4 b_5 b_6 b_7 b_8 b_9 b_10 b_11 b_12 b_13 b_14 res))) (fun sz => va_A (wB cI cJ b_0 b_1 b_2 b_3 b_4 b_5 b_6 b_7 b_8 b_9 b_10 b_11 b_12 b_13 b_14 b0) sz) (fun sz => Or.inr rfl) rfl (by decide) rfl (Nat.le_of_ble_eq_true rfl) rfl ?_
  intro p e s m args below meth c C
  unfold FX0_settle at hF
  refine g_iconst (v := 0) C (tdec DX0_settle 0 rfl) (by decide) rfl ?_
  refine g_istore_n (L' := [(1, .int 0), (0, .ref b_0)]) C (tdec DX0_settle 1 rfl) rfl (by decide) rfl rfl ?_
  refine g_sub (L' := [(0, .ref b_0), (1, .int 0)]) [1, 0] rfl ?_
  refine c_FX0_settle_L2 C (fun bq14 w1_14 hF => ?_) 100000 _ _ hF
  have hr9 := o_some hF
  subst hr9
  exact g_vret C rfl (tdec DX0_settle 54 rfl)
end
section
/-! PART 13.X6: walks, printed by wip/whole/walk.py -/
def FX6_isBusy (v0 : VS) : Option (Int32) :=
  (zok (VS_busy v0)).bind fun z1 =>
  some z1
def rX6_isBusy : Room := { frames := 0, cells := 0, slots := 0, locals := 0 }
set_option maxHeartbeats 4000000 in
set_option maxRecDepth 100000 in
theorem c_X6_isBusy (l : Launch) (D : va_G) (cB cI cJ cZ : ClassId) (v_0 v_1 v_2 v_3 v_4 v_5 v_6 v_7 v_8 v_9 v_10 v_11 v_12 v_13 v_14 v_15 v_16 v_17 v_18 v_19 : Nat) {v0 : VS} {res : Int32} (hF : FX6_isBusy v0 = some res) : gRi l yX6_isBusy wsX6_isBusy rX6_isBusy D (gT cB cI cJ cZ) [.ref v_0] (wV cI cJ v_0 v_1 v_2 v_3 v_4 v_5 v_6 v_7 v_8 v_9 v_10 v_11 v_12 v_13 v_14 v_15 v_16 v_17 v_18 v_19 v0) res := by
  refine g_enter (own := RX6) (free := (fun _ _ => False)) (Qc := (fun sz => gRQi res)) (fun _ _ => True) (fun sz => Or.inl rfl) rfl (by decide) rfl (Nat.le_of_ble_eq_true rfl) rfl ?_
  intro p e s m args below meth c C
  unfold FX6_isBusy at hF
  refine g_aload_n (z := 0) C (tdec DX6_isBusy 0 rfl) rfl rfl rfl ?_
  refine g_getf (C' := RX6) (T := TX6) (N := 6) (v := .int (VS_busy v0)) C 0 5 (gIn iw_X6) rfl rfl (by decide) (gMem fl_X6_45) rfl rfl (tdec DX6_isBusy 1 rfl) rfl ?_
  obtain ⟨z1, y2, hF⟩ := o_bind hF
  have y2 := zok_in y2
  have hr9 := o_some hF
  subst hr9
  exact g_zretR C (by rw [← y2.1]; exact y2.2) y2.1.symm (tdec DX6_isBusy 2 rfl)
def FX6_snapshots (v0 : VS) : Option (Int32) :=
  some (VS_snaps v0)
def rX6_snapshots : Room := { frames := 0, cells := 0, slots := 0, locals := 0 }
set_option maxHeartbeats 4000000 in
set_option maxRecDepth 100000 in
theorem c_X6_snapshots (l : Launch) (D : va_G) (cB cI cJ cZ : ClassId) (v_0 v_1 v_2 v_3 v_4 v_5 v_6 v_7 v_8 v_9 v_10 v_11 v_12 v_13 v_14 v_15 v_16 v_17 v_18 v_19 : Nat) {v0 : VS} {res : Int32} (hF : FX6_snapshots v0 = some res) : gRi l yX6_snapshots wsX6_snapshots rX6_snapshots D (gT cB cI cJ cZ) [.ref v_0] (wV cI cJ v_0 v_1 v_2 v_3 v_4 v_5 v_6 v_7 v_8 v_9 v_10 v_11 v_12 v_13 v_14 v_15 v_16 v_17 v_18 v_19 v0) res := by
  refine g_enter (own := RX6) (free := (fun _ _ => False)) (Qc := (fun sz => gRQi res)) (fun _ _ => True) (fun sz => Or.inl rfl) rfl (by decide) rfl (Nat.le_of_ble_eq_true rfl) rfl ?_
  intro p e s m args below meth c C
  unfold FX6_snapshots at hF
  refine g_aload_n (z := 0) C (tdec DX6_snapshots 0 rfl) rfl rfl rfl ?_
  refine g_getf (C' := RX6) (T := TX6) (N := 6) (v := .int (VS_snaps v0)) C 0 4 (gIn iw_X6) rfl rfl (by decide) (gMem fl_X6_42) rfl rfl (tdec DX6_snapshots 1 rfl) rfl ?_
  have hr9 := o_some hF
  subst hr9
  exact g_iretR C rfl (tdec DX6_snapshots 2 rfl)
def FX6_isLatest (v0 : VS) (p1 : Int64) : Option (Int32) :=
  if (VS_snaps v0) ≤ 0 then
    some 0
  else
    (FX2_at 20 (VS_mk v0) ((VS_snaps v0) - 1)).bind fun r2 =>
    if (lg_cmp r2 p1) = 0 then
      some 1
    else
      some 0
def rX6_isLatest : Room := { frames := 1, cells := 0, slots := 0, locals := 21 }
set_option maxHeartbeats 4000000 in
set_option maxRecDepth 100000 in
theorem c_X6_isLatest (l : Launch) (D : va_G) (cB cI cJ cZ : ClassId) (v_0 v_1 v_2 v_3 v_4 v_5 v_6 v_7 v_8 v_9 v_10 v_11 v_12 v_13 v_14 v_15 v_16 v_17 v_18 v_19 : Nat) {v0 : VS} {p1 : Int64} {res : Int32} (hF : FX6_isLatest v0 p1 = some res) : gRi l yX6_isLatest wsX6_isLatest rX6_isLatest D (gT cB cI cJ cZ) [.ref v_0, .long p1] (wV cI cJ v_0 v_1 v_2 v_3 v_4 v_5 v_6 v_7 v_8 v_9 v_10 v_11 v_12 v_13 v_14 v_15 v_16 v_17 v_18 v_19 v0) res := by
  refine g_enter (own := RX6) (free := (fun _ _ => False)) (Qc := (fun sz => gRQi res)) (fun _ _ => True) (fun sz => Or.inl rfl) rfl (by decide) rfl (Nat.le_of_ble_eq_true rfl) rfl ?_
  intro p e s m args below meth c C
  unfold FX6_isLatest at hF
  refine g_aload_n (z := 0) C (tdec DX6_isLatest 0 rfl) rfl rfl rfl ?_
  refine g_getf (C' := RX6) (T := TX6) (N := 6) (v := .int (VS_snaps v0)) C 0 4 (gIn iw_X6) rfl rfl (by decide) (gMem fl_X6_42) rfl rfl (tdec DX6_isLatest 1 rfl) rfl ?_
  refine g_if_le (pt := 29) C (tdec DX6_isLatest 2 rfl) (by decide) rfl (fun h1 => ?_) (fun h1 => ?_)
  · have hF := o_ifp hF h1
    refine g_iconst (v := 0) C (tdec DX6_isLatest 15 rfl) (by decide) rfl ?_
    have hr9 := o_some hF
    subst hr9
    exact g_zretR C rfl rfl (tdec DX6_isLatest 16 rfl)
  · have hF := o_ifn hF h1
    refine g_aload_n (z := 0) C (tdec DX6_isLatest 3 rfl) rfl rfl rfl ?_
    refine g_getf (C' := RX6) (T := TX6) (N := 6) (v := .ref v_1) C 0 1 (gIn iw_X6) rfl rfl (by decide) (gMem fl_X6_23) rfl rfl (tdec DX6_isLatest 4 rfl) rfl ?_
    refine g_aload_n (z := 0) C (tdec DX6_isLatest 5 rfl) rfl rfl rfl ?_
    refine g_getf (C' := RX6) (T := TX6) (N := 6) (v := .int (VS_snaps v0)) C 0 4 (gIn iw_X6) rfl rfl (by decide) (gMem fl_X6_42) rfl rfl (tdec DX6_isLatest 6 rfl) rfl ?_
    refine g_iconst (v := 1) C (tdec DX6_isLatest 7 rfl) (by decide) rfl ?_
    refine g_isub C (tdec DX6_isLatest 8 rfl) rfl ?_
    obtain ⟨r2, y3, hF⟩ := o_bind hF
    refine g_callVlR (q0 := 1) C (c_X2_at l D cB cI cJ cZ v_1 v_2 y3) rfl rfl (gIV ml_X6_49 im_X2_at sl_X2_at in_X2 cd_X2_at) rfl eX2_at rfl ⟨rfl, rfl⟩ ⟨Nat.le_of_ble_eq_true rfl, Nat.le_of_ble_eq_true rfl⟩ rfl [1, 2] rfl rfl rfl (Nat.le_of_ble_eq_true rfl) (tdec DX6_isLatest 9 rfl) rfl ?_
    refine g_lload_n (z := 1) C (tdec DX6_isLatest 10 rfl) rfl rfl rfl ?_
    refine g_lcmp C (tdec DX6_isLatest 11 rfl) rfl ?_
    refine g_if_ne (pt := 29) C (tdec DX6_isLatest 12 rfl) (by decide) rfl (fun h4 => ?_) (fun h4 => ?_)
    · have hF := o_ifn hF h4
      refine g_iconst (v := 0) C (tdec DX6_isLatest 15 rfl) (by decide) rfl ?_
      have hr9 := o_some hF
      subst hr9
      exact g_zretR C rfl rfl (tdec DX6_isLatest 16 rfl)
    · have hF := o_ifp hF h4
      refine g_iconst (v := 1) C (tdec DX6_isLatest 13 rfl) (by decide) rfl ?_
      refine g_goto (pt := 30) C (tdec DX6_isLatest 14 rfl) (by decide) ?_
      have hr9 := o_some hF
      subst hr9
      exact g_zretR C rfl rfl (tdec DX6_isLatest 16 rfl)
def FX6_isDirty (v0 : VS) : Option (Int32) :=
  if (VS_snaps v0) = 0 then
    (FX0_told (VS_b v0) 4800).bind fun r12 =>
    if r12 = (-1) then
      some 0
    else
      some 1
  else
    (FX0_told (VS_b v0) 4800).bind fun r2 =>
    (FX0_told (VS_b v0) ((4802 + (VS_snaps v0)) - 1)).bind fun r4 =>
    if r2 = r4 then
      (FX0_birth (VS_b v0) 4800).bind fun r7 =>
      (FX0_birth (VS_b v0) ((4802 + (VS_snaps v0)) - 1)).bind fun r9 =>
      if r7 = r9 then
        some 0
      else
        some 1
    else
      some 1
def rX6_isDirty : Room := { frames := 2, cells := 0, slots := 0, locals := 42 }
set_option maxHeartbeats 4000000 in
set_option maxRecDepth 100000 in
theorem c_X6_isDirty (l : Launch) (D : va_G) (cB cI cJ cZ : ClassId) (v_0 v_1 v_2 v_3 v_4 v_5 v_6 v_7 v_8 v_9 v_10 v_11 v_12 v_13 v_14 v_15 v_16 v_17 v_18 v_19 : Nat) {v0 : VS} {res : Int32} (hF : FX6_isDirty v0 = some res) : gRi l yX6_isDirty wsX6_isDirty rX6_isDirty D (gT cB cI cJ cZ) [.ref v_0] (wV cI cJ v_0 v_1 v_2 v_3 v_4 v_5 v_6 v_7 v_8 v_9 v_10 v_11 v_12 v_13 v_14 v_15 v_16 v_17 v_18 v_19 v0) res := by
  refine g_enter (own := RX6) (free := (fun _ _ => False)) (Qc := (fun sz => gRQi res)) (fun _ _ => True) (fun sz => Or.inl rfl) rfl (by decide) rfl (Nat.le_of_ble_eq_true rfl) rfl ?_
  intro p e s m args below meth c C
  unfold FX6_isDirty at hF
  refine g_aload_n (z := 0) C (tdec DX6_isDirty 0 rfl) rfl rfl rfl ?_
  refine g_getf (C' := RX6) (T := TX6) (N := 6) (v := .int (VS_snaps v0)) C 0 4 (gIn iw_X6) rfl rfl (by decide) (gMem fl_X6_42) rfl rfl (tdec DX6_isDirty 1 rfl) rfl ?_
  refine g_if_ne (pt := 27) C (tdec DX6_isDirty 2 rfl) (by decide) rfl (fun h1 => ?_) (fun h1 => ?_)
  · have hF := o_ifn hF h1
    refine g_sipush (v := 4802) C (tdec DX6_isDirty 13 rfl) (by decide) rfl ?_
    refine g_aload_n (z := 0) C (tdec DX6_isDirty 14 rfl) rfl rfl rfl ?_
    refine g_getf (C' := RX6) (T := TX6) (N := 6) (v := .int (VS_snaps v0)) C 0 4 (gIn iw_X6) rfl rfl (by decide) (gMem fl_X6_42) rfl rfl (tdec DX6_isDirty 15 rfl) rfl ?_
    refine g_iadd C (tdec DX6_isDirty 16 rfl) rfl ?_
    refine g_iconst (v := 1) C (tdec DX6_isDirty 17 rfl) (by decide) rfl ?_
    refine g_isub C (tdec DX6_isDirty 18 rfl) rfl ?_
    refine g_istore_n (L' := [(1, .int ((4802 + (VS_snaps v0)) - 1)), (0, .ref v_0)]) C (tdec DX6_isDirty 19 rfl) rfl (by decide) rfl rfl ?_
    refine g_aload_n (z := 1) C (tdec DX6_isDirty 20 rfl) rfl rfl rfl ?_
    refine g_getf (C' := RX6) (T := TX6) (N := 6) (v := .ref v_5) C 0 0 (gIn iw_X6) rfl rfl (by decide) (gMem fl_X6_12) rfl rfl (tdec DX6_isDirty 21 rfl) rfl ?_
    refine g_sipush (v := 4800) C (tdec DX6_isDirty 22 rfl) (by decide) rfl ?_
    obtain ⟨r2, y3, hF⟩ := o_bind hF
    refine g_callViR (q0 := 5) C (c_X0_told l D cB cI cJ cZ v_5 v_6 v_7 v_8 v_9 v_10 v_11 v_12 v_13 v_14 v_15 v_16 v_17 v_18 v_19 y3) rfl rfl (gIV ml_X6_63 im_X0_told sl_X0_told in_X0 cd_X0_told) rfl eX0_told rfl ⟨rfl, rfl⟩ ⟨Nat.le_of_ble_eq_true rfl, Nat.le_of_ble_eq_true rfl⟩ rfl [5, 6, 7, 8, 9, 10, 11, 12, 13, 14, 15, 16, 17, 18, 19] rfl rfl rfl (Nat.le_of_ble_eq_true rfl) (tdec DX6_isDirty 23 rfl) rfl ?_
    refine g_aload_n (z := 1) C (tdec DX6_isDirty 24 rfl) rfl rfl rfl ?_
    refine g_getf (C' := RX6) (T := TX6) (N := 6) (v := .ref v_5) C 0 0 (gIn iw_X6) rfl rfl (by decide) (gMem fl_X6_12) rfl rfl (tdec DX6_isDirty 25 rfl) rfl ?_
    refine g_iload_n (z := 0) C (tdec DX6_isDirty 26 rfl) rfl rfl rfl ?_
    obtain ⟨r4, y5, hF⟩ := o_bind hF
    refine g_callViR (q0 := 5) C (c_X0_told l D cB cI cJ cZ v_5 v_6 v_7 v_8 v_9 v_10 v_11 v_12 v_13 v_14 v_15 v_16 v_17 v_18 v_19 y5) rfl rfl (gIV ml_X6_63 im_X0_told sl_X0_told in_X0 cd_X0_told) rfl eX0_told rfl ⟨rfl, rfl⟩ ⟨Nat.le_of_ble_eq_true rfl, Nat.le_of_ble_eq_true rfl⟩ rfl [5, 6, 7, 8, 9, 10, 11, 12, 13, 14, 15, 16, 17, 18, 19] rfl rfl rfl (Nat.le_of_ble_eq_true rfl) (tdec DX6_isDirty 27 rfl) rfl ?_
    refine g_icmp_ne (pt := 80) C (tdec DX6_isDirty 28 rfl) (by decide) rfl (fun h6 => ?_) (fun h6 => ?_)
    · have hF := o_ifn hF h6
      refine g_iconst (v := 1) C (tdec DX6_isDirty 38 rfl) (by decide) rfl ?_
      refine g_goto (pt := 85) C (tdec DX6_isDirty 39 rfl) (by decide) ?_
      have hr9 := o_some hF
      subst hr9
      exact g_zretR C rfl rfl (tdec DX6_isDirty 41 rfl)
    · have hF := o_ifp hF h6
      refine g_aload_n (z := 1) C (tdec DX6_isDirty 29 rfl) rfl rfl rfl ?_
      refine g_getf (C' := RX6) (T := TX6) (N := 6) (v := .ref v_5) C 0 0 (gIn iw_X6) rfl rfl (by decide) (gMem fl_X6_12) rfl rfl (tdec DX6_isDirty 30 rfl) rfl ?_
      refine g_sipush (v := 4800) C (tdec DX6_isDirty 31 rfl) (by decide) rfl ?_
      obtain ⟨r7, y8, hF⟩ := o_bind hF
      refine g_callViR (q0 := 5) C (c_X0_birth l D cB cI cJ cZ v_5 v_6 v_7 v_8 v_9 v_10 v_11 v_12 v_13 v_14 v_15 v_16 v_17 v_18 v_19 y8) rfl rfl (gIV ml_X6_102 im_X0_birth sl_X0_birth in_X0 cd_X0_birth) rfl eX0_birth rfl ⟨rfl, rfl⟩ ⟨Nat.le_of_ble_eq_true rfl, Nat.le_of_ble_eq_true rfl⟩ rfl [5, 6, 7, 8, 9, 10, 11, 12, 13, 14, 15, 16, 17, 18, 19] rfl rfl rfl (Nat.le_of_ble_eq_true rfl) (tdec DX6_isDirty 32 rfl) rfl ?_
      refine g_aload_n (z := 1) C (tdec DX6_isDirty 33 rfl) rfl rfl rfl ?_
      refine g_getf (C' := RX6) (T := TX6) (N := 6) (v := .ref v_5) C 0 0 (gIn iw_X6) rfl rfl (by decide) (gMem fl_X6_12) rfl rfl (tdec DX6_isDirty 34 rfl) rfl ?_
      refine g_iload_n (z := 0) C (tdec DX6_isDirty 35 rfl) rfl rfl rfl ?_
      obtain ⟨r9, y10, hF⟩ := o_bind hF
      refine g_callViR (q0 := 5) C (c_X0_birth l D cB cI cJ cZ v_5 v_6 v_7 v_8 v_9 v_10 v_11 v_12 v_13 v_14 v_15 v_16 v_17 v_18 v_19 y10) rfl rfl (gIV ml_X6_102 im_X0_birth sl_X0_birth in_X0 cd_X0_birth) rfl eX0_birth rfl ⟨rfl, rfl⟩ ⟨Nat.le_of_ble_eq_true rfl, Nat.le_of_ble_eq_true rfl⟩ rfl [5, 6, 7, 8, 9, 10, 11, 12, 13, 14, 15, 16, 17, 18, 19] rfl rfl rfl (Nat.le_of_ble_eq_true rfl) (tdec DX6_isDirty 36 rfl) rfl ?_
      refine g_icmp_eq (pt := 84) C (tdec DX6_isDirty 37 rfl) (by decide) rfl (fun h11 => ?_) (fun h11 => ?_)
      · have hF := o_ifp hF h11
        refine g_iconst (v := 0) C (tdec DX6_isDirty 40 rfl) (by decide) rfl ?_
        have hr9 := o_some hF
        subst hr9
        exact g_zretR C rfl rfl (tdec DX6_isDirty 41 rfl)
      · have hF := o_ifn hF h11
        refine g_iconst (v := 1) C (tdec DX6_isDirty 38 rfl) (by decide) rfl ?_
        refine g_goto (pt := 85) C (tdec DX6_isDirty 39 rfl) (by decide) ?_
        have hr9 := o_some hF
        subst hr9
        exact g_zretR C rfl rfl (tdec DX6_isDirty 41 rfl)
  · have hF := o_ifp hF h1
    refine g_aload_n (z := 0) C (tdec DX6_isDirty 3 rfl) rfl rfl rfl ?_
    refine g_getf (C' := RX6) (T := TX6) (N := 6) (v := .ref v_5) C 0 0 (gIn iw_X6) rfl rfl (by decide) (gMem fl_X6_12) rfl rfl (tdec DX6_isDirty 4 rfl) rfl ?_
    refine g_sipush (v := 4800) C (tdec DX6_isDirty 5 rfl) (by decide) rfl ?_
    obtain ⟨r12, y13, hF⟩ := o_bind hF
    refine g_callViR (q0 := 5) C (c_X0_told l D cB cI cJ cZ v_5 v_6 v_7 v_8 v_9 v_10 v_11 v_12 v_13 v_14 v_15 v_16 v_17 v_18 v_19 y13) rfl rfl (gIV ml_X6_63 im_X0_told sl_X0_told in_X0 cd_X0_told) rfl eX0_told rfl ⟨rfl, rfl⟩ ⟨Nat.le_of_ble_eq_true rfl, Nat.le_of_ble_eq_true rfl⟩ rfl [5, 6, 7, 8, 9, 10, 11, 12, 13, 14, 15, 16, 17, 18, 19] rfl rfl rfl (Nat.le_of_ble_eq_true rfl) (tdec DX6_isDirty 6 rfl) rfl ?_
    refine g_iconst (v := (-1)) C (tdec DX6_isDirty 7 rfl) (by decide) rfl ?_
    refine g_icmp_eq (pt := 25) C (tdec DX6_isDirty 8 rfl) (by decide) rfl (fun h14 => ?_) (fun h14 => ?_)
    · have hF := o_ifp hF h14
      refine g_iconst (v := 0) C (tdec DX6_isDirty 11 rfl) (by decide) rfl ?_
      have hr9 := o_some hF
      subst hr9
      exact g_zretR C rfl rfl (tdec DX6_isDirty 12 rfl)
    · have hF := o_ifn hF h14
      refine g_iconst (v := 1) C (tdec DX6_isDirty 9 rfl) (by decide) rfl ?_
      refine g_goto (pt := 26) C (tdec DX6_isDirty 10 rfl) (by decide) ?_
      have hr9 := o_some hF
      subst hr9
      exact g_zretR C rfl rfl (tdec DX6_isDirty 12 rfl)
def FX6_hasMark_L2 (v0 : VS) (v1 : Int64) (k9 : Int32 → Option (Int32)) : Nat → Int32 → Option (Int32)
  | 0, _ => none
  | n9 + 1, v3 =>
    if (VS_snaps v0) ≤ v3 then
      k9 v3
    else
      (FX2_at 20 (VS_mk v0) v3).bind fun r2 =>
      if (lg_cmp r2 v1) = 0 then
        some 1
      else
        FX6_hasMark_L2 v0 v1 k9 n9 (v3 + 1)
def FX6_hasMark (v0 : VS) (p1 : Int64) : Option (Int32) :=
  FX6_hasMark_L2 v0 p1 (fun w3_5 =>
    some 0) 100000 0
def rX6_hasMark : Room := { frames := 1, cells := 0, slots := 0, locals := 21 }
set_option maxHeartbeats 4000000 in
set_option maxRecDepth 100000 in
theorem c_FX6_hasMark_L2 {p : Program} {l : Launch} {e : Env} {s : State} {m : MethodId} {args : Array Value} {below : List Frame} {meth : Method} {c : Code} {D : va_G} {cB cI cJ cZ : ClassId} {v_0 v_1 v_2 v_3 v_4 v_5 v_6 v_7 v_8 v_9 v_10 v_11 v_12 v_13 v_14 v_15 v_16 v_17 v_18 v_19 : Nat} {v0 : VS} {res : Int32} (C : gC p s m args meth c cX6_hasMark 4 RX6 wsX6_hasMark D (gT cB cI cJ cZ) (some .boolean) (fun _ => False)) {v1 : Int64} {k9 : Int32 → Option (Int32)} (hk9 : ∀ (v3 : Int32), k9 v3 = some res → gG p l e (headSpec wsX6_hasMark rX6_hasMark).room s m args below meth c 0 0 D (fun _ => True) (fun _ => False) 4 (MQ below (gRQi res) args s 0 0 (fun _ => False)) (wV cI cJ v_0 v_1 v_2 v_3 v_4 v_5 v_6 v_7 v_8 v_9 v_10 v_11 v_12 v_13 v_14 v_15 v_16 v_17 v_18 v_19 v0) 31 [(0, .ref v_0), (1, .long v1), (3, .int v3)] []) :
    ∀ (n9 : Nat) (v3 : Int32), FX6_hasMark_L2 v0 v1 k9 n9 v3 = some res → gG p l e (headSpec wsX6_hasMark rX6_hasMark).room s m args below meth c 0 0 D (fun _ => True) (fun _ => False) 4 (MQ below (gRQi res) args s 0 0 (fun _ => False)) (wV cI cJ v_0 v_1 v_2 v_3 v_4 v_5 v_6 v_7 v_8 v_9 v_10 v_11 v_12 v_13 v_14 v_15 v_16 v_17 v_18 v_19 v0) 2 [(0, .ref v_0), (1, .long v1), (3, .int v3)] [] := by
  intro n9
  induction n9 with
  | zero =>
    intro v3 hF
    exact absurd hF (by simp [FX6_hasMark_L2])
  | succ n9 ih9 =>
    intro v3 hF
    rw [FX6_hasMark_L2] at hF
    refine g_iload_n (z := 2) C (tdec DX6_hasMark 2 rfl) rfl rfl rfl ?_
    refine g_aload_n (z := 0) C (tdec DX6_hasMark 3 rfl) rfl rfl rfl ?_
    refine g_getf (C' := RX6) (T := TX6) (N := 6) (v := .int (VS_snaps v0)) C 0 4 (gIn iw_X6) rfl rfl (by decide) (gMem fl_X6_42) rfl rfl (tdec DX6_hasMark 4 rfl) rfl ?_
    refine g_icmp_ge (pt := 31) C (tdec DX6_hasMark 5 rfl) (by decide) rfl (fun h1 => ?_) (fun h1 => ?_)
    · have hF := o_ifp hF h1
      refine g_sub (L' := [(0, .ref v_0), (1, .long v1), (3, .int v3)]) [0, 1, 2] rfl ?_
      exact hk9 _ hF
    · have hF := o_ifn hF h1
      refine g_aload_n (z := 0) C (tdec DX6_hasMark 6 rfl) rfl rfl rfl ?_
      refine g_getf (C' := RX6) (T := TX6) (N := 6) (v := .ref v_1) C 0 1 (gIn iw_X6) rfl rfl (by decide) (gMem fl_X6_23) rfl rfl (tdec DX6_hasMark 7 rfl) rfl ?_
      refine g_iload_n (z := 2) C (tdec DX6_hasMark 8 rfl) rfl rfl rfl ?_
      obtain ⟨r2, y3, hF⟩ := o_bind hF
      refine g_callVlR (q0 := 1) C (c_X2_at l D cB cI cJ cZ v_1 v_2 y3) rfl rfl (gIV ml_X6_49 im_X2_at sl_X2_at in_X2 cd_X2_at) rfl eX2_at rfl ⟨rfl, rfl⟩ ⟨Nat.le_of_ble_eq_true rfl, Nat.le_of_ble_eq_true rfl⟩ rfl [1, 2] rfl rfl rfl (Nat.le_of_ble_eq_true rfl) (tdec DX6_hasMark 9 rfl) rfl ?_
      refine g_lload_n (z := 1) C (tdec DX6_hasMark 10 rfl) rfl rfl rfl ?_
      refine g_lcmp C (tdec DX6_hasMark 11 rfl) rfl ?_
      refine g_if_ne (pt := 25) C (tdec DX6_hasMark 12 rfl) (by decide) rfl (fun h4 => ?_) (fun h4 => ?_)
      · have hF := o_ifn hF h4
        refine g_iinc (z := 2) (v := (v3 + 1)) (L' := [(3, .int (v3 + 1)), (0, .ref v_0), (1, .long v1)]) C (tdec DX6_hasMark 15 rfl) rfl rfl (by decide) rfl rfl ?_
        refine g_goto (pt := 2) C (tdec DX6_hasMark 16 rfl) (by decide) ?_
        refine g_sub (L' := [(0, .ref v_0), (1, .long v1), (3, .int (v3 + 1))]) [1, 2, 0] rfl ?_
        exact ih9 _ hF
      · have hF := o_ifp hF h4
        refine g_iconst (v := 1) C (tdec DX6_hasMark 13 rfl) (by decide) rfl ?_
        have hr9 := o_some hF
        subst hr9
        exact g_zretR C rfl rfl (tdec DX6_hasMark 14 rfl)
set_option maxHeartbeats 4000000 in
set_option maxRecDepth 100000 in
theorem c_X6_hasMark (l : Launch) (D : va_G) (cB cI cJ cZ : ClassId) (v_0 v_1 v_2 v_3 v_4 v_5 v_6 v_7 v_8 v_9 v_10 v_11 v_12 v_13 v_14 v_15 v_16 v_17 v_18 v_19 : Nat) {v0 : VS} {p1 : Int64} {res : Int32} (hF : FX6_hasMark v0 p1 = some res) : gRi l yX6_hasMark wsX6_hasMark rX6_hasMark D (gT cB cI cJ cZ) [.ref v_0, .long p1] (wV cI cJ v_0 v_1 v_2 v_3 v_4 v_5 v_6 v_7 v_8 v_9 v_10 v_11 v_12 v_13 v_14 v_15 v_16 v_17 v_18 v_19 v0) res := by
  refine g_enter (own := RX6) (free := (fun _ _ => False)) (Qc := (fun sz => gRQi res)) (fun _ _ => True) (fun sz => Or.inl rfl) rfl (by decide) rfl (Nat.le_of_ble_eq_true rfl) rfl ?_
  intro p e s m args below meth c C
  unfold FX6_hasMark at hF
  refine g_iconst (v := 0) C (tdec DX6_hasMark 0 rfl) (by decide) rfl ?_
  refine g_istore_n (L' := [(3, .int 0), (0, .ref v_0), (1, .long p1)]) C (tdec DX6_hasMark 1 rfl) rfl (by decide) rfl rfl ?_
  refine g_sub (L' := [(0, .ref v_0), (1, .long p1), (3, .int 0)]) [1, 2, 0] rfl ?_
  refine c_FX6_hasMark_L2 C (fun w3_5 hF => ?_) 100000 _ hF
  refine g_iconst (v := 0) C (tdec DX6_hasMark 17 rfl) (by decide) rfl ?_
  have hr9 := o_some hF
  subst hr9
  exact g_zretR C rfl rfl (tdec DX6_hasMark 18 rfl)
def FX6_makeHidden (v0 : VS) : Option (VS) :=
  (FX0_told (VS_b v0) 4800).bind fun r1 =>
  (FX0_birth (VS_b v0) 4800).bind fun r3 =>
  (FX0_point (VS_b v0) 4801 r1 r3).bind fun s5 =>
  some (VS_setbusy (VS_setb v0 s5) 1)
def rX6_makeHidden : Room := { frames := 2, cells := 0, slots := 0, locals := 46 }
set_option maxHeartbeats 4000000 in
set_option maxRecDepth 100000 in
theorem c_X6_makeHidden (l : Launch) (D : va_G) (cB cI cJ cZ : ClassId) (v_0 v_1 v_2 v_3 v_4 v_5 v_6 v_7 v_8 v_9 v_10 v_11 v_12 v_13 v_14 v_15 v_16 v_17 v_18 v_19 : Nat) {v0 : VS} {res : VS} (hF : FX6_makeHidden v0 = some res) : gMv l yX6_makeHidden wsX6_makeHidden rX6_makeHidden D (gT cB cI cJ cZ) [.ref v_0] (wV cI cJ v_0 v_1 v_2 v_3 v_4 v_5 v_6 v_7 v_8 v_9 v_10 v_11 v_12 v_13 v_14 v_15 v_16 v_17 v_18 v_19 v0) (wV cI cJ v_0 v_1 v_2 v_3 v_4 v_5 v_6 v_7 v_8 v_9 v_10 v_11 v_12 v_13 v_14 v_15 v_16 v_17 v_18 v_19 res) := by
  refine g_enter (own := RX6) (free := (fun sz => va_A (wV cI cJ v_0 v_1 v_2 v_3 v_4 v_5 v_6 v_7 v_8 v_9 v_10 v_11 v_12 v_13 v_14 v_15 v_16 v_17 v_18 v_19 v0) sz)) (Qc := (fun sz => gQv D (wV cI cJ v_0 v_1 v_2 v_3 v_4 v_5 v_6 v_7 v_8 v_9 v_10 v_11 v_12 v_13 v_14 v_15 v_16 v_17 v_18 v_19 v0) sz (wV cI cJ v_0 v_1 v_2 v_3 v_4 v_5 v_6 v_7 v_8 v_9 v_10 v_11 v_12 v_13 v_14 v_15 v_16 v_17 v_18 v_19 res))) (fun sz => va_A (wV cI cJ v_0 v_1 v_2 v_3 v_4 v_5 v_6 v_7 v_8 v_9 v_10 v_11 v_12 v_13 v_14 v_15 v_16 v_17 v_18 v_19 v0) sz) (fun sz => Or.inr rfl) rfl (by decide) rfl (Nat.le_of_ble_eq_true rfl) rfl ?_
  intro p e s m args below meth c C
  unfold FX6_makeHidden at hF
  refine g_aload_n (z := 0) C (tdec DX6_makeHidden 0 rfl) rfl rfl rfl ?_
  refine g_getf (C' := RX6) (T := TX6) (N := 6) (v := .ref v_5) C 0 0 (gIn iw_X6) rfl rfl (by decide) (gMem fl_X6_12) rfl rfl (tdec DX6_makeHidden 1 rfl) rfl ?_
  refine g_sipush (v := 4801) C (tdec DX6_makeHidden 2 rfl) (by decide) rfl ?_
  refine g_aload_n (z := 0) C (tdec DX6_makeHidden 3 rfl) rfl rfl rfl ?_
  refine g_getf (C' := RX6) (T := TX6) (N := 6) (v := .ref v_5) C 0 0 (gIn iw_X6) rfl rfl (by decide) (gMem fl_X6_12) rfl rfl (tdec DX6_makeHidden 4 rfl) rfl ?_
  refine g_sipush (v := 4800) C (tdec DX6_makeHidden 5 rfl) (by decide) rfl ?_
  obtain ⟨r1, y2, hF⟩ := o_bind hF
  refine g_callViR (q0 := 5) C (c_X0_told l D cB cI cJ cZ v_5 v_6 v_7 v_8 v_9 v_10 v_11 v_12 v_13 v_14 v_15 v_16 v_17 v_18 v_19 y2) rfl rfl (gIV ml_X6_63 im_X0_told sl_X0_told in_X0 cd_X0_told) rfl eX0_told rfl ⟨rfl, rfl⟩ ⟨Nat.le_of_ble_eq_true rfl, Nat.le_of_ble_eq_true rfl⟩ rfl [5, 6, 7, 8, 9, 10, 11, 12, 13, 14, 15, 16, 17, 18, 19] rfl rfl rfl (Nat.le_of_ble_eq_true rfl) (tdec DX6_makeHidden 6 rfl) rfl ?_
  refine g_aload_n (z := 0) C (tdec DX6_makeHidden 7 rfl) rfl rfl rfl ?_
  refine g_getf (C' := RX6) (T := TX6) (N := 6) (v := .ref v_5) C 0 0 (gIn iw_X6) rfl rfl (by decide) (gMem fl_X6_12) rfl rfl (tdec DX6_makeHidden 8 rfl) rfl ?_
  refine g_sipush (v := 4800) C (tdec DX6_makeHidden 9 rfl) (by decide) rfl ?_
  obtain ⟨r3, y4, hF⟩ := o_bind hF
  refine g_callViR (q0 := 5) C (c_X0_birth l D cB cI cJ cZ v_5 v_6 v_7 v_8 v_9 v_10 v_11 v_12 v_13 v_14 v_15 v_16 v_17 v_18 v_19 y4) rfl rfl (gIV ml_X6_102 im_X0_birth sl_X0_birth in_X0 cd_X0_birth) rfl eX0_birth rfl ⟨rfl, rfl⟩ ⟨Nat.le_of_ble_eq_true rfl, Nat.le_of_ble_eq_true rfl⟩ rfl [5, 6, 7, 8, 9, 10, 11, 12, 13, 14, 15, 16, 17, 18, 19] rfl rfl rfl (Nat.le_of_ble_eq_true rfl) (tdec DX6_makeHidden 10 rfl) rfl ?_
  obtain ⟨s5, y6, hF⟩ := o_bind hF
  refine g_callVvM (q0 := 5) (W' := wV cI cJ v_0 v_1 v_2 v_3 v_4 v_5 v_6 v_7 v_8 v_9 v_10 v_11 v_12 v_13 v_14 v_15 v_16 v_17 v_18 v_19 (VS_setb v0 s5)) C (c_X0_point l D cB cI cJ cZ v_5 v_6 v_7 v_8 v_9 v_10 v_11 v_12 v_13 v_14 v_15 v_16 v_17 v_18 v_19 y6) rfl rfl (gIV ml_X6_88 im_X0_point sl_X0_point in_X0 cd_X0_point) rfl eX0_point rfl ⟨rfl, rfl⟩ ⟨Nat.le_of_ble_eq_true rfl, Nat.le_of_ble_eq_true rfl⟩ rfl [5, 6, 7, 8, 9, 10, 11, 12, 13, 14, 15, 16, 17, 18, 19] rfl rfl rfl rfl rfl rfl (Nat.le_of_ble_eq_true rfl) (tdec DX6_makeHidden 11 rfl) rfl ?_
  refine g_aload_n (z := 0) C (tdec DX6_makeHidden 12 rfl) rfl rfl rfl ?_
  refine g_iconst (v := 1) C (tdec DX6_makeHidden 13 rfl) (by decide) rfl ?_
  refine g_putf (C' := RX6) (T := TX6) (N := 6) (v := .int 1) (ws' := wV cI cJ v_0 v_1 v_2 v_3 v_4 v_5 v_6 v_7 v_8 v_9 v_10 v_11 v_12 v_13 v_14 v_15 v_16 v_17 v_18 v_19 (VS_setbusy (VS_setb v0 s5) 1)) C 0 5 tyX6 tyX6_ok nmX6 (gIn iw_X6) rfl rfl (by decide) (gMem fl_X6_45) rfl rfl (tyX6_ok 5 (by decide)) rfl rfl (Nat.le_of_ble_eq_true rfl) rfl (tdec DX6_makeHidden 14 rfl) rfl ?_
  have hr9 := o_some hF
  subst hr9
  exact g_vret C rfl (tdec DX6_makeHidden 15 rfl)
def FX6_newBlocksWanted_L9 (v0 : VS) (v1 : Int32) (v2 : Int32) (v3 : Int32) (k9 : Int32 → Int32 → Int32 → Option (Int32)) : Nat → Int32 → Int32 → Int32 → Option (Int32)
  | 0, _, _, _ => none
  | n9 + 1, v4, v5, v6 =>
    if v6 < v3 then
      k9 v4 v5 v6
    else
      (FX0_wantsNewBlock (VS_b v0) v5 (VS_gen v0)).bind fun r2 =>
      if r2 = 0 then
        (FX0_told (VS_b v0) v5).bind fun r5 =>
        (FX0_slotIn (VS_b v0) r5 v2).bind fun r7 =>
        FX6_newBlocksWanted_L9 v0 v1 v2 v3 k9 n9 v4 r7 (v6 + (-1))
      else
        (FX0_told (VS_b v0) v5).bind fun r9 =>
        (FX0_slotIn (VS_b v0) r9 v2).bind fun r11 =>
        FX6_newBlocksWanted_L9 v0 v1 v2 v3 k9 n9 (v4 + 1) r11 (v6 + (-1))
def FX6_newBlocksWanted (v0 : VS) (p1 : Int32) (p2 : Int32) (p3 : Int32) : Option (Int32) :=
  FX6_newBlocksWanted_L9 v0 p1 p2 p3 (fun w4_13 w5_13 w6_13 =>
    some w4_13) 100000 0 p1 3
def rX6_newBlocksWanted : Room := { frames := 2, cells := 0, slots := 0, locals := 44 }
set_option maxHeartbeats 4000000 in
set_option maxRecDepth 100000 in
theorem c_FX6_newBlocksWanted_L9 {p : Program} {l : Launch} {e : Env} {s : State} {m : MethodId} {args : Array Value} {below : List Frame} {meth : Method} {c : Code} {D : va_G} {cB cI cJ cZ : ClassId} {v_0 v_1 v_2 v_3 v_4 v_5 v_6 v_7 v_8 v_9 v_10 v_11 v_12 v_13 v_14 v_15 v_16 v_17 v_18 v_19 : Nat} {v0 : VS} {res : Int32} (C : gC p s m args meth c cX6_newBlocksWanted 7 RX6 wsX6_newBlocksWanted D (gT cB cI cJ cZ) (some .int) (fun _ => False)) {v1 : Int32} {v2 : Int32} {v3 : Int32} {k9 : Int32 → Int32 → Int32 → Option (Int32)} (hk9 : ∀ (v4 : Int32) (v5 : Int32) (v6 : Int32), k9 v4 v5 v6 = some res → gG p l e (headSpec wsX6_newBlocksWanted rX6_newBlocksWanted).room s m args below meth c 0 0 D (fun _ => True) (fun _ => False) 7 (MQ below (gRQi res) args s 0 0 (fun _ => False)) (wV cI cJ v_0 v_1 v_2 v_3 v_4 v_5 v_6 v_7 v_8 v_9 v_10 v_11 v_12 v_13 v_14 v_15 v_16 v_17 v_18 v_19 v0) 59 [(0, .ref v_0), (1, .int v1), (2, .int v2), (3, .int v3), (4, .int v4), (5, .int v5), (6, .int v6)] []) :
    ∀ (n9 : Nat) (v4 : Int32) (v5 : Int32) (v6 : Int32), FX6_newBlocksWanted_L9 v0 v1 v2 v3 k9 n9 v4 v5 v6 = some res → gG p l e (headSpec wsX6_newBlocksWanted rX6_newBlocksWanted).room s m args below meth c 0 0 D (fun _ => True) (fun _ => False) 7 (MQ below (gRQi res) args s 0 0 (fun _ => False)) (wV cI cJ v_0 v_1 v_2 v_3 v_4 v_5 v_6 v_7 v_8 v_9 v_10 v_11 v_12 v_13 v_14 v_15 v_16 v_17 v_18 v_19 v0) 9 [(0, .ref v_0), (1, .int v1), (2, .int v2), (3, .int v3), (4, .int v4), (5, .int v5), (6, .int v6)] [] := by
  intro n9
  induction n9 with
  | zero =>
    intro v4 v5 v6 hF
    exact absurd hF (by simp [FX6_newBlocksWanted_L9])
  | succ n9 ih9 =>
    intro v4 v5 v6 hF
    rw [FX6_newBlocksWanted_L9] at hF
    refine g_iload (z := 6) C (tdec DX6_newBlocksWanted 6 rfl) rfl rfl ?_
    refine g_iload_n (z := 3) C (tdec DX6_newBlocksWanted 7 rfl) rfl rfl rfl ?_
    refine g_icmp_lt (pt := 59) C (tdec DX6_newBlocksWanted 8 rfl) (by decide) rfl (fun h1 => ?_) (fun h1 => ?_)
    · have hF := o_ifp hF h1
      refine g_sub (L' := [(0, .ref v_0), (1, .int v1), (2, .int v2), (3, .int v3), (4, .int v4), (5, .int v5), (6, .int v6)]) [0, 1, 2, 3, 4, 5, 6] rfl ?_
      exact hk9 _ _ _ hF
    · have hF := o_ifn hF h1
      refine g_aload_n (z := 0) C (tdec DX6_newBlocksWanted 9 rfl) rfl rfl rfl ?_
      refine g_getf (C' := RX6) (T := TX6) (N := 6) (v := .ref v_5) C 0 0 (gIn iw_X6) rfl rfl (by decide) (gMem fl_X6_12) rfl rfl (tdec DX6_newBlocksWanted 10 rfl) rfl ?_
      refine g_iload (z := 5) C (tdec DX6_newBlocksWanted 11 rfl) rfl rfl ?_
      refine g_aload_n (z := 0) C (tdec DX6_newBlocksWanted 12 rfl) rfl rfl rfl ?_
      refine g_getf (C' := RX6) (T := TX6) (N := 6) (v := .int (VS_gen v0)) C 0 3 (gIn iw_X6) rfl rfl (by decide) (gMem fl_X6_38) rfl rfl (tdec DX6_newBlocksWanted 13 rfl) rfl ?_
      obtain ⟨r2, y3, hF⟩ := o_bind hF
      refine g_callViR (q0 := 5) C (c_X0_wantsNewBlock l D cB cI cJ cZ v_5 v_6 v_7 v_8 v_9 v_10 v_11 v_12 v_13 v_14 v_15 v_16 v_17 v_18 v_19 y3) rfl rfl (gIV ml_X6_98 im_X0_wantsNewBlock sl_X0_wantsNewBlock in_X0 cd_X0_wantsNewBlock) rfl eX0_wantsNewBlock rfl ⟨rfl, rfl⟩ ⟨Nat.le_of_ble_eq_true rfl, Nat.le_of_ble_eq_true rfl⟩ rfl [5, 6, 7, 8, 9, 10, 11, 12, 13, 14, 15, 16, 17, 18, 19] rfl rfl rfl (Nat.le_of_ble_eq_true rfl) (tdec DX6_newBlocksWanted 14 rfl) rfl ?_
      refine g_if_eq (pt := 34) C (tdec DX6_newBlocksWanted 15 rfl) (by decide) rfl (fun h4 => ?_) (fun h4 => ?_)
      · have hF := o_ifp hF h4
        refine g_aload_n (z := 0) C (tdec DX6_newBlocksWanted 17 rfl) rfl rfl rfl ?_
        refine g_getf (C' := RX6) (T := TX6) (N := 6) (v := .ref v_5) C 0 0 (gIn iw_X6) rfl rfl (by decide) (gMem fl_X6_12) rfl rfl (tdec DX6_newBlocksWanted 18 rfl) rfl ?_
        refine g_aload_n (z := 0) C (tdec DX6_newBlocksWanted 19 rfl) rfl rfl rfl ?_
        refine g_getf (C' := RX6) (T := TX6) (N := 6) (v := .ref v_5) C 0 0 (gIn iw_X6) rfl rfl (by decide) (gMem fl_X6_12) rfl rfl (tdec DX6_newBlocksWanted 20 rfl) rfl ?_
        refine g_iload (z := 5) C (tdec DX6_newBlocksWanted 21 rfl) rfl rfl ?_
        obtain ⟨r5, y6, hF⟩ := o_bind hF
        refine g_callViR (q0 := 5) C (c_X0_told l D cB cI cJ cZ v_5 v_6 v_7 v_8 v_9 v_10 v_11 v_12 v_13 v_14 v_15 v_16 v_17 v_18 v_19 y6) rfl rfl (gIV ml_X6_63 im_X0_told sl_X0_told in_X0 cd_X0_told) rfl eX0_told rfl ⟨rfl, rfl⟩ ⟨Nat.le_of_ble_eq_true rfl, Nat.le_of_ble_eq_true rfl⟩ rfl [5, 6, 7, 8, 9, 10, 11, 12, 13, 14, 15, 16, 17, 18, 19] rfl rfl rfl (Nat.le_of_ble_eq_true rfl) (tdec DX6_newBlocksWanted 22 rfl) rfl ?_
        refine g_iload_n (z := 2) C (tdec DX6_newBlocksWanted 23 rfl) rfl rfl rfl ?_
        obtain ⟨r7, y8, hF⟩ := o_bind hF
        refine g_callViR (q0 := 5) C (c_X0_slotIn l D cB cI cJ cZ v_5 v_6 v_7 v_8 v_9 v_10 v_11 v_12 v_13 v_14 v_15 v_16 v_17 v_18 v_19 y8) rfl rfl (gIV ml_X6_80 im_X0_slotIn sl_X0_slotIn in_X0 cd_X0_slotIn) rfl eX0_slotIn rfl ⟨rfl, rfl⟩ ⟨Nat.le_of_ble_eq_true rfl, Nat.le_of_ble_eq_true rfl⟩ rfl [5, 6, 7, 8, 9, 10, 11, 12, 13, 14, 15, 16, 17, 18, 19] rfl rfl rfl (Nat.le_of_ble_eq_true rfl) (tdec DX6_newBlocksWanted 24 rfl) rfl ?_
        refine g_istore (L' := [(5, .int r7), (0, .ref v_0), (1, .int v1), (2, .int v2), (3, .int v3), (4, .int v4), (6, .int v6)]) C (tdec DX6_newBlocksWanted 25 rfl) (by decide) rfl rfl ?_
        refine g_iinc (z := 6) (v := (v6 + (-1))) (L' := [(6, .int (v6 + (-1))), (5, .int r7), (0, .ref v_0), (1, .int v1), (2, .int v2), (3, .int v3), (4, .int v4)]) C (tdec DX6_newBlocksWanted 26 rfl) rfl rfl (by decide) rfl rfl ?_
        refine g_goto (pt := 9) C (tdec DX6_newBlocksWanted 27 rfl) (by decide) ?_
        refine g_sub (L' := [(0, .ref v_0), (1, .int v1), (2, .int v2), (3, .int v3), (4, .int v4), (5, .int r7), (6, .int (v6 + (-1)))]) [2, 3, 4, 5, 6, 1, 0] rfl ?_
        exact ih9 _ _ _ hF
      · have hF := o_ifn hF h4
        refine g_iinc (z := 4) (v := (v4 + 1)) (L' := [(4, .int (v4 + 1)), (0, .ref v_0), (1, .int v1), (2, .int v2), (3, .int v3), (5, .int v5), (6, .int v6)]) C (tdec DX6_newBlocksWanted 16 rfl) rfl rfl (by decide) rfl rfl ?_
        refine g_aload_n (z := 1) C (tdec DX6_newBlocksWanted 17 rfl) rfl rfl rfl ?_
        refine g_getf (C' := RX6) (T := TX6) (N := 6) (v := .ref v_5) C 0 0 (gIn iw_X6) rfl rfl (by decide) (gMem fl_X6_12) rfl rfl (tdec DX6_newBlocksWanted 18 rfl) rfl ?_
        refine g_aload_n (z := 1) C (tdec DX6_newBlocksWanted 19 rfl) rfl rfl rfl ?_
        refine g_getf (C' := RX6) (T := TX6) (N := 6) (v := .ref v_5) C 0 0 (gIn iw_X6) rfl rfl (by decide) (gMem fl_X6_12) rfl rfl (tdec DX6_newBlocksWanted 20 rfl) rfl ?_
        refine g_iload (z := 5) C (tdec DX6_newBlocksWanted 21 rfl) rfl rfl ?_
        obtain ⟨r9, y10, hF⟩ := o_bind hF
        refine g_callViR (q0 := 5) C (c_X0_told l D cB cI cJ cZ v_5 v_6 v_7 v_8 v_9 v_10 v_11 v_12 v_13 v_14 v_15 v_16 v_17 v_18 v_19 y10) rfl rfl (gIV ml_X6_63 im_X0_told sl_X0_told in_X0 cd_X0_told) rfl eX0_told rfl ⟨rfl, rfl⟩ ⟨Nat.le_of_ble_eq_true rfl, Nat.le_of_ble_eq_true rfl⟩ rfl [5, 6, 7, 8, 9, 10, 11, 12, 13, 14, 15, 16, 17, 18, 19] rfl rfl rfl (Nat.le_of_ble_eq_true rfl) (tdec DX6_newBlocksWanted 22 rfl) rfl ?_
        refine g_iload_n (z := 3) C (tdec DX6_newBlocksWanted 23 rfl) rfl rfl rfl ?_
        obtain ⟨r11, y12, hF⟩ := o_bind hF
        refine g_callViR (q0 := 5) C (c_X0_slotIn l D cB cI cJ cZ v_5 v_6 v_7 v_8 v_9 v_10 v_11 v_12 v_13 v_14 v_15 v_16 v_17 v_18 v_19 y12) rfl rfl (gIV ml_X6_80 im_X0_slotIn sl_X0_slotIn in_X0 cd_X0_slotIn) rfl eX0_slotIn rfl ⟨rfl, rfl⟩ ⟨Nat.le_of_ble_eq_true rfl, Nat.le_of_ble_eq_true rfl⟩ rfl [5, 6, 7, 8, 9, 10, 11, 12, 13, 14, 15, 16, 17, 18, 19] rfl rfl rfl (Nat.le_of_ble_eq_true rfl) (tdec DX6_newBlocksWanted 24 rfl) rfl ?_
        refine g_istore (L' := [(5, .int r11), (4, .int (v4 + 1)), (0, .ref v_0), (1, .int v1), (2, .int v2), (3, .int v3), (6, .int v6)]) C (tdec DX6_newBlocksWanted 25 rfl) (by decide) rfl rfl ?_
        refine g_iinc (z := 6) (v := (v6 + (-1))) (L' := [(6, .int (v6 + (-1))), (5, .int r11), (4, .int (v4 + 1)), (0, .ref v_0), (1, .int v1), (2, .int v2), (3, .int v3)]) C (tdec DX6_newBlocksWanted 26 rfl) rfl rfl (by decide) rfl rfl ?_
        refine g_goto (pt := 9) C (tdec DX6_newBlocksWanted 27 rfl) (by decide) ?_
        refine g_sub (L' := [(0, .ref v_0), (1, .int v1), (2, .int v2), (3, .int v3), (4, .int (v4 + 1)), (5, .int r11), (6, .int (v6 + (-1)))]) [3, 4, 5, 6, 2, 1, 0] rfl ?_
        exact ih9 _ _ _ hF
set_option maxHeartbeats 4000000 in
set_option maxRecDepth 100000 in
theorem c_X6_newBlocksWanted (l : Launch) (D : va_G) (cB cI cJ cZ : ClassId) (v_0 v_1 v_2 v_3 v_4 v_5 v_6 v_7 v_8 v_9 v_10 v_11 v_12 v_13 v_14 v_15 v_16 v_17 v_18 v_19 : Nat) {v0 : VS} {p1 : Int32} {p2 : Int32} {p3 : Int32} {res : Int32} (hF : FX6_newBlocksWanted v0 p1 p2 p3 = some res) : gRi l yX6_newBlocksWanted wsX6_newBlocksWanted rX6_newBlocksWanted D (gT cB cI cJ cZ) [.ref v_0, .int p1, .int p2, .int p3] (wV cI cJ v_0 v_1 v_2 v_3 v_4 v_5 v_6 v_7 v_8 v_9 v_10 v_11 v_12 v_13 v_14 v_15 v_16 v_17 v_18 v_19 v0) res := by
  refine g_enter (own := RX6) (free := (fun _ _ => False)) (Qc := (fun sz => gRQi res)) (fun _ _ => True) (fun sz => Or.inl rfl) rfl (by decide) rfl (Nat.le_of_ble_eq_true rfl) rfl ?_
  intro p e s m args below meth c C
  unfold FX6_newBlocksWanted at hF
  refine g_iconst (v := 0) C (tdec DX6_newBlocksWanted 0 rfl) (by decide) rfl ?_
  refine g_istore (L' := [(4, .int 0), (0, .ref v_0), (1, .int p1), (2, .int p2), (3, .int p3)]) C (tdec DX6_newBlocksWanted 1 rfl) (by decide) rfl rfl ?_
  refine g_iload_n (z := 2) C (tdec DX6_newBlocksWanted 2 rfl) rfl rfl rfl ?_
  refine g_istore (L' := [(5, .int p1), (4, .int 0), (0, .ref v_0), (1, .int p1), (2, .int p2), (3, .int p3)]) C (tdec DX6_newBlocksWanted 3 rfl) (by decide) rfl rfl ?_
  refine g_iconst (v := 3) C (tdec DX6_newBlocksWanted 4 rfl) (by decide) rfl ?_
  refine g_istore (L' := [(6, .int 3), (5, .int p1), (4, .int 0), (0, .ref v_0), (1, .int p1), (2, .int p2), (3, .int p3)]) C (tdec DX6_newBlocksWanted 5 rfl) (by decide) rfl rfl ?_
  refine g_sub (L' := [(0, .ref v_0), (1, .int p1), (2, .int p2), (3, .int p3), (4, .int 0), (5, .int p1), (6, .int 3)]) [3, 4, 5, 6, 2, 1, 0] rfl ?_
  refine c_FX6_newBlocksWanted_L9 C (fun w4_13 w5_13 w6_13 hF => ?_) 100000 _ _ _ hF
  refine g_iload (z := 4) C (tdec DX6_newBlocksWanted 28 rfl) rfl rfl ?_
  have hr9 := o_some hF
  subst hr9
  exact g_iretR C rfl (tdec DX6_newBlocksWanted 29 rfl)
def FX6_writePlace_L25 (v1 : Int32) (v2 : Int32) (v3 : Int64) (k9 : VS → Int32 → Int32 → Option (Int32 × VS)) : Nat → VS → Int32 → Int32 → Option (Int32 × VS)
  | 0, _, _, _ => none
  | n9 + 1, v, v5, v6 =>
    if v6 ≤ 0 then
      k9 v v5 v6
    else
      (FX0_renew (VS_b v) v5 v6 (VS_gen v)).bind fun s7 =>
      (FX0_told s7 v5).bind fun r9 =>
      (FX0_slotIn s7 r9 v2).bind fun r11 =>
      FX6_writePlace_L25 v1 v2 v3 k9 n9 (VS_setb v s7) r11 (v6 + (-1))
def FX6_writePlace (v0 : VS) (p1 : Int32) (p2 : Int32) (p3 : Int64) : Option (Int32 × VS) :=
  (FX6_newBlocksWanted v0 p1 p2 0).bind fun r1 =>
  (FX0_free (VS_b v0)).bind fun r3 =>
  if r1 ≤ r3 then
    FX6_writePlace_L25 p1 p2 p3 (fun vq13 w5_13 w6_13 =>
      (FX0_renew (VS_b vq13) w5_13 0 (VS_gen vq13)).bind fun s14 =>
      (FX0_told s14 w5_13).bind fun r16 =>
      (FX0_putNumber s14 r16 p3).bind fun s18 =>
      some (1, (VS_setb (VS_setb vq13 s14) s18))) 100000 v0 p1 3
  else
    some (0, v0)
def rX6_writePlace : Room := { frames := 3, cells := 0, slots := 0, locals := 72 }
set_option maxHeartbeats 4000000 in
set_option maxRecDepth 100000 in
theorem c_FX6_writePlace_L25 {p : Program} {l : Launch} {e : Env} {s : State} {m : MethodId} {args : Array Value} {below : List Frame} {meth : Method} {c : Code} {D : va_G} {cB cI cJ cZ : ClassId} {v_0 v_1 v_2 v_3 v_4 v_5 v_6 v_7 v_8 v_9 v_10 v_11 v_12 v_13 v_14 v_15 v_16 v_17 v_18 v_19 : Nat} {v0 : VS} {res : Int32 × VS} (C : gC p s m args meth c cX6_writePlace 7 RX6 wsX6_writePlace D (gT cB cI cJ cZ) (some .boolean) (va_A (wV cI cJ v_0 v_1 v_2 v_3 v_4 v_5 v_6 v_7 v_8 v_9 v_10 v_11 v_12 v_13 v_14 v_15 v_16 v_17 v_18 v_19 v0) s.heap.size)) {v1 : Int32} {v2 : Int32} {v3 : Int64} {k9 : VS → Int32 → Int32 → Option (Int32 × VS)} (hk9 : ∀ (v : VS) (v5 : Int32) (v6 : Int32), k9 v v5 v6 = some res → gG p l e (headSpec wsX6_writePlace rX6_writePlace).room s m args below meth c 0 0 D (va_A (wV cI cJ v_0 v_1 v_2 v_3 v_4 v_5 v_6 v_7 v_8 v_9 v_10 v_11 v_12 v_13 v_14 v_15 v_16 v_17 v_18 v_19 v0) s.heap.size) (va_A (wV cI cJ v_0 v_1 v_2 v_3 v_4 v_5 v_6 v_7 v_8 v_9 v_10 v_11 v_12 v_13 v_14 v_15 v_16 v_17 v_18 v_19 v0) s.heap.size) 7 (MQ below (gQi D (wV cI cJ v_0 v_1 v_2 v_3 v_4 v_5 v_6 v_7 v_8 v_9 v_10 v_11 v_12 v_13 v_14 v_15 v_16 v_17 v_18 v_19 v0) s.heap.size res.1 (wV cI cJ v_0 v_1 v_2 v_3 v_4 v_5 v_6 v_7 v_8 v_9 v_10 v_11 v_12 v_13 v_14 v_15 v_16 v_17 v_18 v_19 res.2)) args s 0 0 (va_A (wV cI cJ v_0 v_1 v_2 v_3 v_4 v_5 v_6 v_7 v_8 v_9 v_10 v_11 v_12 v_13 v_14 v_15 v_16 v_17 v_18 v_19 v0) s.heap.size)) (wV cI cJ v_0 v_1 v_2 v_3 v_4 v_5 v_6 v_7 v_8 v_9 v_10 v_11 v_12 v_13 v_14 v_15 v_16 v_17 v_18 v_19 v) 70 [(0, .ref v_0), (1, .int v1), (2, .int v2), (3, .long v3), (5, .int v5), (6, .int v6)] []) :
    ∀ (n9 : Nat) (v : VS) (v5 : Int32) (v6 : Int32), FX6_writePlace_L25 v1 v2 v3 k9 n9 v v5 v6 = some res → gG p l e (headSpec wsX6_writePlace rX6_writePlace).room s m args below meth c 0 0 D (va_A (wV cI cJ v_0 v_1 v_2 v_3 v_4 v_5 v_6 v_7 v_8 v_9 v_10 v_11 v_12 v_13 v_14 v_15 v_16 v_17 v_18 v_19 v0) s.heap.size) (va_A (wV cI cJ v_0 v_1 v_2 v_3 v_4 v_5 v_6 v_7 v_8 v_9 v_10 v_11 v_12 v_13 v_14 v_15 v_16 v_17 v_18 v_19 v0) s.heap.size) 7 (MQ below (gQi D (wV cI cJ v_0 v_1 v_2 v_3 v_4 v_5 v_6 v_7 v_8 v_9 v_10 v_11 v_12 v_13 v_14 v_15 v_16 v_17 v_18 v_19 v0) s.heap.size res.1 (wV cI cJ v_0 v_1 v_2 v_3 v_4 v_5 v_6 v_7 v_8 v_9 v_10 v_11 v_12 v_13 v_14 v_15 v_16 v_17 v_18 v_19 res.2)) args s 0 0 (va_A (wV cI cJ v_0 v_1 v_2 v_3 v_4 v_5 v_6 v_7 v_8 v_9 v_10 v_11 v_12 v_13 v_14 v_15 v_16 v_17 v_18 v_19 v0) s.heap.size)) (wV cI cJ v_0 v_1 v_2 v_3 v_4 v_5 v_6 v_7 v_8 v_9 v_10 v_11 v_12 v_13 v_14 v_15 v_16 v_17 v_18 v_19 v) 25 [(0, .ref v_0), (1, .int v1), (2, .int v2), (3, .long v3), (5, .int v5), (6, .int v6)] [] := by
  intro n9
  induction n9 with
  | zero =>
    intro v v5 v6 hF
    exact absurd hF (by simp [FX6_writePlace_L25])
  | succ n9 ih9 =>
    intro v v5 v6 hF
    rw [FX6_writePlace_L25] at hF
    refine g_iload (z := 5) C (tdec DX6_writePlace 15 rfl) rfl rfl ?_
    refine g_if_le (pt := 70) C (tdec DX6_writePlace 16 rfl) (by decide) rfl (fun h6 => ?_) (fun h6 => ?_)
    · have hF := o_ifp hF h6
      refine g_sub (L' := [(0, .ref v_0), (1, .int v1), (2, .int v2), (3, .long v3), (5, .int v5), (6, .int v6)]) [0, 1, 2, 3, 4, 5] rfl ?_
      exact hk9 _ _ _ hF
    · have hF := o_ifn hF h6
      refine g_aload_n (z := 0) C (tdec DX6_writePlace 17 rfl) rfl rfl rfl ?_
      refine g_getf (C' := RX6) (T := TX6) (N := 6) (v := .ref v_5) C 0 0 (gIn iw_X6) rfl rfl (by decide) (gMem fl_X6_12) rfl rfl (tdec DX6_writePlace 18 rfl) rfl ?_
      refine g_iload (z := 4) C (tdec DX6_writePlace 19 rfl) rfl rfl ?_
      refine g_iload (z := 5) C (tdec DX6_writePlace 20 rfl) rfl rfl ?_
      refine g_aload_n (z := 0) C (tdec DX6_writePlace 21 rfl) rfl rfl rfl ?_
      refine g_getf (C' := RX6) (T := TX6) (N := 6) (v := .int (VS_gen v)) C 0 3 (gIn iw_X6) rfl rfl (by decide) (gMem fl_X6_38) rfl rfl (tdec DX6_writePlace 22 rfl) rfl ?_
      obtain ⟨s7, y8, hF⟩ := o_bind hF
      refine g_callVvM (q0 := 5) (W' := wV cI cJ v_0 v_1 v_2 v_3 v_4 v_5 v_6 v_7 v_8 v_9 v_10 v_11 v_12 v_13 v_14 v_15 v_16 v_17 v_18 v_19 (VS_setb v s7)) C (c_X0_renew l D cB cI cJ cZ v_5 v_6 v_7 v_8 v_9 v_10 v_11 v_12 v_13 v_14 v_15 v_16 v_17 v_18 v_19 y8) rfl rfl (gIV ml_X6_76 im_X0_renew sl_X0_renew in_X0 cd_X0_renew) rfl eX0_renew rfl ⟨rfl, rfl⟩ ⟨Nat.le_of_ble_eq_true rfl, Nat.le_of_ble_eq_true rfl⟩ rfl [5, 6, 7, 8, 9, 10, 11, 12, 13, 14, 15, 16, 17, 18, 19] rfl rfl rfl rfl rfl rfl (Nat.le_of_ble_eq_true rfl) (tdec DX6_writePlace 23 rfl) rfl ?_
      refine g_aload_n (z := 0) C (tdec DX6_writePlace 24 rfl) rfl rfl rfl ?_
      refine g_getf (C' := RX6) (T := TX6) (N := 6) (v := .ref v_5) C 0 0 (gIn iw_X6) rfl rfl (by decide) (gMem fl_X6_12) rfl rfl (tdec DX6_writePlace 25 rfl) rfl ?_
      refine g_aload_n (z := 0) C (tdec DX6_writePlace 26 rfl) rfl rfl rfl ?_
      refine g_getf (C' := RX6) (T := TX6) (N := 6) (v := .ref v_5) C 0 0 (gIn iw_X6) rfl rfl (by decide) (gMem fl_X6_12) rfl rfl (tdec DX6_writePlace 27 rfl) rfl ?_
      refine g_iload (z := 4) C (tdec DX6_writePlace 28 rfl) rfl rfl ?_
      obtain ⟨r9, y10, hF⟩ := o_bind hF
      refine g_callViR (q0 := 5) C (c_X0_told l D cB cI cJ cZ v_5 v_6 v_7 v_8 v_9 v_10 v_11 v_12 v_13 v_14 v_15 v_16 v_17 v_18 v_19 y10) rfl rfl (gIV ml_X6_63 im_X0_told sl_X0_told in_X0 cd_X0_told) rfl eX0_told rfl ⟨rfl, rfl⟩ ⟨Nat.le_of_ble_eq_true rfl, Nat.le_of_ble_eq_true rfl⟩ rfl [5, 6, 7, 8, 9, 10, 11, 12, 13, 14, 15, 16, 17, 18, 19] rfl rfl rfl (Nat.le_of_ble_eq_true rfl) (tdec DX6_writePlace 29 rfl) rfl ?_
      refine g_iload_n (z := 2) C (tdec DX6_writePlace 30 rfl) rfl rfl rfl ?_
      obtain ⟨r11, y12, hF⟩ := o_bind hF
      refine g_callViR (q0 := 5) C (c_X0_slotIn l D cB cI cJ cZ v_5 v_6 v_7 v_8 v_9 v_10 v_11 v_12 v_13 v_14 v_15 v_16 v_17 v_18 v_19 y12) rfl rfl (gIV ml_X6_80 im_X0_slotIn sl_X0_slotIn in_X0 cd_X0_slotIn) rfl eX0_slotIn rfl ⟨rfl, rfl⟩ ⟨Nat.le_of_ble_eq_true rfl, Nat.le_of_ble_eq_true rfl⟩ rfl [5, 6, 7, 8, 9, 10, 11, 12, 13, 14, 15, 16, 17, 18, 19] rfl rfl rfl (Nat.le_of_ble_eq_true rfl) (tdec DX6_writePlace 31 rfl) rfl ?_
      refine g_istore (L' := [(5, .int r11), (0, .ref v_0), (1, .int v1), (2, .int v2), (3, .long v3), (6, .int v6)]) C (tdec DX6_writePlace 32 rfl) (by decide) rfl rfl ?_
      refine g_iinc (z := 5) (v := (v6 + (-1))) (L' := [(6, .int (v6 + (-1))), (5, .int r11), (0, .ref v_0), (1, .int v1), (2, .int v2), (3, .long v3)]) C (tdec DX6_writePlace 33 rfl) rfl rfl (by decide) rfl rfl ?_
      refine g_goto (pt := 25) C (tdec DX6_writePlace 34 rfl) (by decide) ?_
      refine g_sub (L' := [(0, .ref v_0), (1, .int v1), (2, .int v2), (3, .long v3), (5, .int r11), (6, .int (v6 + (-1)))]) [2, 3, 4, 5, 1, 0] rfl ?_
      exact ih9 _ _ _ hF
set_option maxHeartbeats 4000000 in
set_option maxRecDepth 100000 in
theorem c_X6_writePlace (l : Launch) (D : va_G) (cB cI cJ cZ : ClassId) (v_0 v_1 v_2 v_3 v_4 v_5 v_6 v_7 v_8 v_9 v_10 v_11 v_12 v_13 v_14 v_15 v_16 v_17 v_18 v_19 : Nat) {v0 : VS} {p1 : Int32} {p2 : Int32} {p3 : Int64} {res : Int32 × VS} (hF : FX6_writePlace v0 p1 p2 p3 = some res) : gMi l yX6_writePlace wsX6_writePlace rX6_writePlace D (gT cB cI cJ cZ) [.ref v_0, .int p1, .int p2, .long p3] (wV cI cJ v_0 v_1 v_2 v_3 v_4 v_5 v_6 v_7 v_8 v_9 v_10 v_11 v_12 v_13 v_14 v_15 v_16 v_17 v_18 v_19 v0) res.1 (wV cI cJ v_0 v_1 v_2 v_3 v_4 v_5 v_6 v_7 v_8 v_9 v_10 v_11 v_12 v_13 v_14 v_15 v_16 v_17 v_18 v_19 res.2) := by
  refine g_enter (own := RX6) (free := (fun sz => va_A (wV cI cJ v_0 v_1 v_2 v_3 v_4 v_5 v_6 v_7 v_8 v_9 v_10 v_11 v_12 v_13 v_14 v_15 v_16 v_17 v_18 v_19 v0) sz)) (Qc := (fun sz => gQi D (wV cI cJ v_0 v_1 v_2 v_3 v_4 v_5 v_6 v_7 v_8 v_9 v_10 v_11 v_12 v_13 v_14 v_15 v_16 v_17 v_18 v_19 v0) sz res.1 (wV cI cJ v_0 v_1 v_2 v_3 v_4 v_5 v_6 v_7 v_8 v_9 v_10 v_11 v_12 v_13 v_14 v_15 v_16 v_17 v_18 v_19 res.2))) (fun sz => va_A (wV cI cJ v_0 v_1 v_2 v_3 v_4 v_5 v_6 v_7 v_8 v_9 v_10 v_11 v_12 v_13 v_14 v_15 v_16 v_17 v_18 v_19 v0) sz) (fun sz => Or.inr rfl) rfl (by decide) rfl (Nat.le_of_ble_eq_true rfl) rfl ?_
  intro p e s m args below meth c C
  unfold FX6_writePlace at hF
  refine g_aload_n (z := 0) C (tdec DX6_writePlace 0 rfl) rfl rfl rfl ?_
  refine g_iload_n (z := 1) C (tdec DX6_writePlace 1 rfl) rfl rfl rfl ?_
  refine g_iload_n (z := 2) C (tdec DX6_writePlace 2 rfl) rfl rfl rfl ?_
  refine g_iconst (v := 0) C (tdec DX6_writePlace 3 rfl) (by decide) rfl ?_
  obtain ⟨r1, y2, hF⟩ := o_bind hF
  refine g_callViR (q0 := 0) C (c_X6_newBlocksWanted l D cB cI cJ cZ v_0 v_1 v_2 v_3 v_4 v_5 v_6 v_7 v_8 v_9 v_10 v_11 v_12 v_13 v_14 v_15 v_16 v_17 v_18 v_19 y2) rfl rfl (gIV ml_X6_69 im_X6_newBlocksWanted sl_X6_newBlocksWanted in_X6 cd_X6_newBlocksWanted) rfl eX6_newBlocksWanted rfl ⟨rfl, rfl⟩ ⟨Nat.le_of_ble_eq_true rfl, Nat.le_of_ble_eq_true rfl⟩ rfl [0, 1, 2, 3, 4, 5, 6, 7, 8, 9, 10, 11, 12, 13, 14, 15, 16, 17, 18, 19] rfl rfl rfl (Nat.le_of_ble_eq_true rfl) (tdec DX6_writePlace 4 rfl) rfl ?_
  refine g_aload_n (z := 0) C (tdec DX6_writePlace 5 rfl) rfl rfl rfl ?_
  refine g_getf (C' := RX6) (T := TX6) (N := 6) (v := .ref v_5) C 0 0 (gIn iw_X6) rfl rfl (by decide) (gMem fl_X6_12) rfl rfl (tdec DX6_writePlace 6 rfl) rfl ?_
  obtain ⟨r3, y4, hF⟩ := o_bind hF
  refine g_callViR (q0 := 5) C (c_X0_free l D cB cI cJ cZ v_5 v_6 v_7 v_8 v_9 v_10 v_11 v_12 v_13 v_14 v_15 v_16 v_17 v_18 v_19 y4) rfl rfl (gIV ml_X6_72 im_X0_free sl_X0_free in_X0 cd_X0_free) rfl eX0_free rfl ⟨rfl, rfl⟩ ⟨Nat.le_of_ble_eq_true rfl, Nat.le_of_ble_eq_true rfl⟩ rfl [5, 6, 7, 8, 9, 10, 11, 12, 13, 14, 15, 16, 17, 18, 19] rfl rfl rfl (Nat.le_of_ble_eq_true rfl) (tdec DX6_writePlace 7 rfl) rfl ?_
  refine g_icmp_le (pt := 19) C (tdec DX6_writePlace 8 rfl) (by decide) rfl (fun h5 => ?_) (fun h5 => ?_)
  · have hF := o_ifp hF h5
    refine g_iload_n (z := 1) C (tdec DX6_writePlace 11 rfl) rfl rfl rfl ?_
    refine g_istore (L' := [(5, .int p1), (0, .ref v_0), (1, .int p1), (2, .int p2), (3, .long p3)]) C (tdec DX6_writePlace 12 rfl) (by decide) rfl rfl ?_
    refine g_iconst (v := 3) C (tdec DX6_writePlace 13 rfl) (by decide) rfl ?_
    refine g_istore (L' := [(6, .int 3), (5, .int p1), (0, .ref v_0), (1, .int p1), (2, .int p2), (3, .long p3)]) C (tdec DX6_writePlace 14 rfl) (by decide) rfl rfl ?_
    refine g_sub (L' := [(0, .ref v_0), (1, .int p1), (2, .int p2), (3, .long p3), (5, .int p1), (6, .int 3)]) [2, 3, 4, 5, 1, 0] rfl ?_
    refine c_FX6_writePlace_L25 C (fun vq13 w5_13 w6_13 hF => ?_) 100000 _ _ _ hF
    refine g_aload_n (z := 0) C (tdec DX6_writePlace 35 rfl) rfl rfl rfl ?_
    refine g_getf (C' := RX6) (T := TX6) (N := 6) (v := .ref v_5) C 0 0 (gIn iw_X6) rfl rfl (by decide) (gMem fl_X6_12) rfl rfl (tdec DX6_writePlace 36 rfl) rfl ?_
    refine g_iload (z := 4) C (tdec DX6_writePlace 37 rfl) rfl rfl ?_
    refine g_iconst (v := 0) C (tdec DX6_writePlace 38 rfl) (by decide) rfl ?_
    refine g_aload_n (z := 0) C (tdec DX6_writePlace 39 rfl) rfl rfl rfl ?_
    refine g_getf (C' := RX6) (T := TX6) (N := 6) (v := .int (VS_gen vq13)) C 0 3 (gIn iw_X6) rfl rfl (by decide) (gMem fl_X6_38) rfl rfl (tdec DX6_writePlace 40 rfl) rfl ?_
    obtain ⟨s14, y15, hF⟩ := o_bind hF
    refine g_callVvM (q0 := 5) (W' := wV cI cJ v_0 v_1 v_2 v_3 v_4 v_5 v_6 v_7 v_8 v_9 v_10 v_11 v_12 v_13 v_14 v_15 v_16 v_17 v_18 v_19 (VS_setb vq13 s14)) C (c_X0_renew l D cB cI cJ cZ v_5 v_6 v_7 v_8 v_9 v_10 v_11 v_12 v_13 v_14 v_15 v_16 v_17 v_18 v_19 y15) rfl rfl (gIV ml_X6_76 im_X0_renew sl_X0_renew in_X0 cd_X0_renew) rfl eX0_renew rfl ⟨rfl, rfl⟩ ⟨Nat.le_of_ble_eq_true rfl, Nat.le_of_ble_eq_true rfl⟩ rfl [5, 6, 7, 8, 9, 10, 11, 12, 13, 14, 15, 16, 17, 18, 19] rfl rfl rfl rfl rfl rfl (Nat.le_of_ble_eq_true rfl) (tdec DX6_writePlace 41 rfl) rfl ?_
    refine g_aload_n (z := 0) C (tdec DX6_writePlace 42 rfl) rfl rfl rfl ?_
    refine g_getf (C' := RX6) (T := TX6) (N := 6) (v := .ref v_5) C 0 0 (gIn iw_X6) rfl rfl (by decide) (gMem fl_X6_12) rfl rfl (tdec DX6_writePlace 43 rfl) rfl ?_
    refine g_aload_n (z := 0) C (tdec DX6_writePlace 44 rfl) rfl rfl rfl ?_
    refine g_getf (C' := RX6) (T := TX6) (N := 6) (v := .ref v_5) C 0 0 (gIn iw_X6) rfl rfl (by decide) (gMem fl_X6_12) rfl rfl (tdec DX6_writePlace 45 rfl) rfl ?_
    refine g_iload (z := 4) C (tdec DX6_writePlace 46 rfl) rfl rfl ?_
    obtain ⟨r16, y17, hF⟩ := o_bind hF
    refine g_callViR (q0 := 5) C (c_X0_told l D cB cI cJ cZ v_5 v_6 v_7 v_8 v_9 v_10 v_11 v_12 v_13 v_14 v_15 v_16 v_17 v_18 v_19 y17) rfl rfl (gIV ml_X6_63 im_X0_told sl_X0_told in_X0 cd_X0_told) rfl eX0_told rfl ⟨rfl, rfl⟩ ⟨Nat.le_of_ble_eq_true rfl, Nat.le_of_ble_eq_true rfl⟩ rfl [5, 6, 7, 8, 9, 10, 11, 12, 13, 14, 15, 16, 17, 18, 19] rfl rfl rfl (Nat.le_of_ble_eq_true rfl) (tdec DX6_writePlace 47 rfl) rfl ?_
    refine g_lload_n (z := 3) C (tdec DX6_writePlace 48 rfl) rfl rfl rfl ?_
    obtain ⟨s18, y19, hF⟩ := o_bind hF
    refine g_callVvM (q0 := 5) (W' := wV cI cJ v_0 v_1 v_2 v_3 v_4 v_5 v_6 v_7 v_8 v_9 v_10 v_11 v_12 v_13 v_14 v_15 v_16 v_17 v_18 v_19 (VS_setb (VS_setb vq13 s14) s18)) C (c_X0_putNumber l D cB cI cJ cZ v_5 v_6 v_7 v_8 v_9 v_10 v_11 v_12 v_13 v_14 v_15 v_16 v_17 v_18 v_19 y19) rfl rfl (gIV ml_X6_84 im_X0_putNumber sl_X0_putNumber in_X0 cd_X0_putNumber) rfl eX0_putNumber rfl ⟨rfl, rfl⟩ ⟨Nat.le_of_ble_eq_true rfl, Nat.le_of_ble_eq_true rfl⟩ rfl [5, 6, 7, 8, 9, 10, 11, 12, 13, 14, 15, 16, 17, 18, 19] rfl rfl rfl rfl rfl rfl (Nat.le_of_ble_eq_true rfl) (tdec DX6_writePlace 49 rfl) rfl ?_
    refine g_iconst (v := 1) C (tdec DX6_writePlace 50 rfl) (by decide) rfl ?_
    have hr9 := o_some hF
    subst hr9
    exact g_zret C rfl rfl rfl (tdec DX6_writePlace 51 rfl)
  · have hF := o_ifn hF h5
    refine g_iconst (v := 0) C (tdec DX6_writePlace 9 rfl) (by decide) rfl ?_
    have hr9 := o_some hF
    subst hr9
    exact g_zret C rfl rfl rfl (tdec DX6_writePlace 10 rfl)
def FX6_slotToLevel_L6 (v0 : VS) (v1 : Int32) (v2 : Int32) (v3 : Int32) (k9 : Int32 → Int32 → Option (Int32)) : Nat → Int32 → Int32 → Option (Int32)
  | 0, _, _ => none
  | n9 + 1, v4, v5 =>
    if v5 ≤ v3 then
      k9 v4 v5
    else
      (FX0_told (VS_b v0) v4).bind fun r2 =>
      (FX0_slotIn (VS_b v0) r2 v2).bind fun r4 =>
      FX6_slotToLevel_L6 v0 v1 v2 v3 k9 n9 r4 (v5 + (-1))
def FX6_slotToLevel (v0 : VS) (p1 : Int32) (p2 : Int32) (p3 : Int32) : Option (Int32) :=
  FX6_slotToLevel_L6 v0 p1 p2 p3 (fun w4_6 w5_6 =>
    some w4_6) 100000 p1 3
def rX6_slotToLevel : Room := { frames := 2, cells := 0, slots := 0, locals := 44 }
set_option maxHeartbeats 4000000 in
set_option maxRecDepth 100000 in
theorem c_FX6_slotToLevel_L6 {p : Program} {l : Launch} {e : Env} {s : State} {m : MethodId} {args : Array Value} {below : List Frame} {meth : Method} {c : Code} {D : va_G} {cB cI cJ cZ : ClassId} {v_0 v_1 v_2 v_3 v_4 v_5 v_6 v_7 v_8 v_9 v_10 v_11 v_12 v_13 v_14 v_15 v_16 v_17 v_18 v_19 : Nat} {v0 : VS} {res : Int32} (C : gC p s m args meth c cX6_slotToLevel 6 RX6 wsX6_slotToLevel D (gT cB cI cJ cZ) (some .int) (fun _ => False)) {v1 : Int32} {v2 : Int32} {v3 : Int32} {k9 : Int32 → Int32 → Option (Int32)} (hk9 : ∀ (v4 : Int32) (v5 : Int32), k9 v4 v5 = some res → gG p l e (headSpec wsX6_slotToLevel rX6_slotToLevel).room s m args below meth c 0 0 D (fun _ => True) (fun _ => False) 6 (MQ below (gRQi res) args s 0 0 (fun _ => False)) (wV cI cJ v_0 v_1 v_2 v_3 v_4 v_5 v_6 v_7 v_8 v_9 v_10 v_11 v_12 v_13 v_14 v_15 v_16 v_17 v_18 v_19 v0) 37 [(0, .ref v_0), (1, .int v1), (2, .int v2), (3, .int v3), (4, .int v4), (5, .int v5)] []) :
    ∀ (n9 : Nat) (v4 : Int32) (v5 : Int32), FX6_slotToLevel_L6 v0 v1 v2 v3 k9 n9 v4 v5 = some res → gG p l e (headSpec wsX6_slotToLevel rX6_slotToLevel).room s m args below meth c 0 0 D (fun _ => True) (fun _ => False) 6 (MQ below (gRQi res) args s 0 0 (fun _ => False)) (wV cI cJ v_0 v_1 v_2 v_3 v_4 v_5 v_6 v_7 v_8 v_9 v_10 v_11 v_12 v_13 v_14 v_15 v_16 v_17 v_18 v_19 v0) 6 [(0, .ref v_0), (1, .int v1), (2, .int v2), (3, .int v3), (4, .int v4), (5, .int v5)] [] := by
  intro n9
  induction n9 with
  | zero =>
    intro v4 v5 hF
    exact absurd hF (by simp [FX6_slotToLevel_L6])
  | succ n9 ih9 =>
    intro v4 v5 hF
    rw [FX6_slotToLevel_L6] at hF
    refine g_iload (z := 5) C (tdec DX6_slotToLevel 4 rfl) rfl rfl ?_
    refine g_iload_n (z := 3) C (tdec DX6_slotToLevel 5 rfl) rfl rfl rfl ?_
    refine g_icmp_le (pt := 37) C (tdec DX6_slotToLevel 6 rfl) (by decide) rfl (fun h1 => ?_) (fun h1 => ?_)
    · have hF := o_ifp hF h1
      refine g_sub (L' := [(0, .ref v_0), (1, .int v1), (2, .int v2), (3, .int v3), (4, .int v4), (5, .int v5)]) [0, 1, 2, 3, 4, 5] rfl ?_
      exact hk9 _ _ hF
    · have hF := o_ifn hF h1
      refine g_aload_n (z := 0) C (tdec DX6_slotToLevel 7 rfl) rfl rfl rfl ?_
      refine g_getf (C' := RX6) (T := TX6) (N := 6) (v := .ref v_5) C 0 0 (gIn iw_X6) rfl rfl (by decide) (gMem fl_X6_12) rfl rfl (tdec DX6_slotToLevel 8 rfl) rfl ?_
      refine g_aload_n (z := 0) C (tdec DX6_slotToLevel 9 rfl) rfl rfl rfl ?_
      refine g_getf (C' := RX6) (T := TX6) (N := 6) (v := .ref v_5) C 0 0 (gIn iw_X6) rfl rfl (by decide) (gMem fl_X6_12) rfl rfl (tdec DX6_slotToLevel 10 rfl) rfl ?_
      refine g_iload (z := 4) C (tdec DX6_slotToLevel 11 rfl) rfl rfl ?_
      obtain ⟨r2, y3, hF⟩ := o_bind hF
      refine g_callViR (q0 := 5) C (c_X0_told l D cB cI cJ cZ v_5 v_6 v_7 v_8 v_9 v_10 v_11 v_12 v_13 v_14 v_15 v_16 v_17 v_18 v_19 y3) rfl rfl (gIV ml_X6_63 im_X0_told sl_X0_told in_X0 cd_X0_told) rfl eX0_told rfl ⟨rfl, rfl⟩ ⟨Nat.le_of_ble_eq_true rfl, Nat.le_of_ble_eq_true rfl⟩ rfl [5, 6, 7, 8, 9, 10, 11, 12, 13, 14, 15, 16, 17, 18, 19] rfl rfl rfl (Nat.le_of_ble_eq_true rfl) (tdec DX6_slotToLevel 12 rfl) rfl ?_
      refine g_iload_n (z := 2) C (tdec DX6_slotToLevel 13 rfl) rfl rfl rfl ?_
      obtain ⟨r4, y5, hF⟩ := o_bind hF
      refine g_callViR (q0 := 5) C (c_X0_slotIn l D cB cI cJ cZ v_5 v_6 v_7 v_8 v_9 v_10 v_11 v_12 v_13 v_14 v_15 v_16 v_17 v_18 v_19 y5) rfl rfl (gIV ml_X6_80 im_X0_slotIn sl_X0_slotIn in_X0 cd_X0_slotIn) rfl eX0_slotIn rfl ⟨rfl, rfl⟩ ⟨Nat.le_of_ble_eq_true rfl, Nat.le_of_ble_eq_true rfl⟩ rfl [5, 6, 7, 8, 9, 10, 11, 12, 13, 14, 15, 16, 17, 18, 19] rfl rfl rfl (Nat.le_of_ble_eq_true rfl) (tdec DX6_slotToLevel 14 rfl) rfl ?_
      refine g_istore (L' := [(4, .int r4), (0, .ref v_0), (1, .int v1), (2, .int v2), (3, .int v3), (5, .int v5)]) C (tdec DX6_slotToLevel 15 rfl) (by decide) rfl rfl ?_
      refine g_iinc (z := 5) (v := (v5 + (-1))) (L' := [(5, .int (v5 + (-1))), (4, .int r4), (0, .ref v_0), (1, .int v1), (2, .int v2), (3, .int v3)]) C (tdec DX6_slotToLevel 16 rfl) rfl rfl (by decide) rfl rfl ?_
      refine g_goto (pt := 6) C (tdec DX6_slotToLevel 17 rfl) (by decide) ?_
      refine g_sub (L' := [(0, .ref v_0), (1, .int v1), (2, .int v2), (3, .int v3), (4, .int r4), (5, .int (v5 + (-1)))]) [2, 3, 4, 5, 1, 0] rfl ?_
      exact ih9 _ _ hF
set_option maxHeartbeats 4000000 in
set_option maxRecDepth 100000 in
theorem c_X6_slotToLevel (l : Launch) (D : va_G) (cB cI cJ cZ : ClassId) (v_0 v_1 v_2 v_3 v_4 v_5 v_6 v_7 v_8 v_9 v_10 v_11 v_12 v_13 v_14 v_15 v_16 v_17 v_18 v_19 : Nat) {v0 : VS} {p1 : Int32} {p2 : Int32} {p3 : Int32} {res : Int32} (hF : FX6_slotToLevel v0 p1 p2 p3 = some res) : gRi l yX6_slotToLevel wsX6_slotToLevel rX6_slotToLevel D (gT cB cI cJ cZ) [.ref v_0, .int p1, .int p2, .int p3] (wV cI cJ v_0 v_1 v_2 v_3 v_4 v_5 v_6 v_7 v_8 v_9 v_10 v_11 v_12 v_13 v_14 v_15 v_16 v_17 v_18 v_19 v0) res := by
  refine g_enter (own := RX6) (free := (fun _ _ => False)) (Qc := (fun sz => gRQi res)) (fun _ _ => True) (fun sz => Or.inl rfl) rfl (by decide) rfl (Nat.le_of_ble_eq_true rfl) rfl ?_
  intro p e s m args below meth c C
  unfold FX6_slotToLevel at hF
  refine g_iload_n (z := 1) C (tdec DX6_slotToLevel 0 rfl) rfl rfl rfl ?_
  refine g_istore (L' := [(4, .int p1), (0, .ref v_0), (1, .int p1), (2, .int p2), (3, .int p3)]) C (tdec DX6_slotToLevel 1 rfl) (by decide) rfl rfl ?_
  refine g_iconst (v := 3) C (tdec DX6_slotToLevel 2 rfl) (by decide) rfl ?_
  refine g_istore (L' := [(5, .int 3), (4, .int p1), (0, .ref v_0), (1, .int p1), (2, .int p2), (3, .int p3)]) C (tdec DX6_slotToLevel 3 rfl) (by decide) rfl rfl ?_
  refine g_sub (L' := [(0, .ref v_0), (1, .int p1), (2, .int p2), (3, .int p3), (4, .int p1), (5, .int 3)]) [2, 3, 4, 5, 1, 0] rfl ?_
  refine c_FX6_slotToLevel_L6 C (fun w4_6 w5_6 hF => ?_) 100000 _ _ hF
  refine g_iload (z := 4) C (tdec DX6_slotToLevel 18 rfl) rfl rfl ?_
  have hr9 := o_some hF
  subst hr9
  exact g_iretR C rfl (tdec DX6_slotToLevel 19 rfl)
def FX6_makeHoleIfEmpty (v0 : VS) (p1 : Int32) : Option (VS) :=
  (FX0_told (VS_b v0) p1).bind fun r1 =>
  (FX0_hasOnlyHoles (VS_b v0) r1).bind fun r3 =>
  if r3 = 0 then
    some v0
  else
    (FX0_point (VS_b v0) p1 (-1) (VS_gen v0)).bind fun s6 =>
    some (VS_setb v0 s6)
def rX6_makeHoleIfEmpty : Room := { frames := 2, cells := 0, slots := 0, locals := 46 }
set_option maxHeartbeats 4000000 in
set_option maxRecDepth 100000 in
theorem c_X6_makeHoleIfEmpty (l : Launch) (D : va_G) (cB cI cJ cZ : ClassId) (v_0 v_1 v_2 v_3 v_4 v_5 v_6 v_7 v_8 v_9 v_10 v_11 v_12 v_13 v_14 v_15 v_16 v_17 v_18 v_19 : Nat) {v0 : VS} {p1 : Int32} {res : VS} (hF : FX6_makeHoleIfEmpty v0 p1 = some res) : gMv l yX6_makeHoleIfEmpty wsX6_makeHoleIfEmpty rX6_makeHoleIfEmpty D (gT cB cI cJ cZ) [.ref v_0, .int p1] (wV cI cJ v_0 v_1 v_2 v_3 v_4 v_5 v_6 v_7 v_8 v_9 v_10 v_11 v_12 v_13 v_14 v_15 v_16 v_17 v_18 v_19 v0) (wV cI cJ v_0 v_1 v_2 v_3 v_4 v_5 v_6 v_7 v_8 v_9 v_10 v_11 v_12 v_13 v_14 v_15 v_16 v_17 v_18 v_19 res) := by
  refine g_enter (own := RX6) (free := (fun sz => va_A (wV cI cJ v_0 v_1 v_2 v_3 v_4 v_5 v_6 v_7 v_8 v_9 v_10 v_11 v_12 v_13 v_14 v_15 v_16 v_17 v_18 v_19 v0) sz)) (Qc := (fun sz => gQv D (wV cI cJ v_0 v_1 v_2 v_3 v_4 v_5 v_6 v_7 v_8 v_9 v_10 v_11 v_12 v_13 v_14 v_15 v_16 v_17 v_18 v_19 v0) sz (wV cI cJ v_0 v_1 v_2 v_3 v_4 v_5 v_6 v_7 v_8 v_9 v_10 v_11 v_12 v_13 v_14 v_15 v_16 v_17 v_18 v_19 res))) (fun sz => va_A (wV cI cJ v_0 v_1 v_2 v_3 v_4 v_5 v_6 v_7 v_8 v_9 v_10 v_11 v_12 v_13 v_14 v_15 v_16 v_17 v_18 v_19 v0) sz) (fun sz => Or.inr rfl) rfl (by decide) rfl (Nat.le_of_ble_eq_true rfl) rfl ?_
  intro p e s m args below meth c C
  unfold FX6_makeHoleIfEmpty at hF
  refine g_aload_n (z := 0) C (tdec DX6_makeHoleIfEmpty 0 rfl) rfl rfl rfl ?_
  refine g_getf (C' := RX6) (T := TX6) (N := 6) (v := .ref v_5) C 0 0 (gIn iw_X6) rfl rfl (by decide) (gMem fl_X6_12) rfl rfl (tdec DX6_makeHoleIfEmpty 1 rfl) rfl ?_
  refine g_aload_n (z := 0) C (tdec DX6_makeHoleIfEmpty 2 rfl) rfl rfl rfl ?_
  refine g_getf (C' := RX6) (T := TX6) (N := 6) (v := .ref v_5) C 0 0 (gIn iw_X6) rfl rfl (by decide) (gMem fl_X6_12) rfl rfl (tdec DX6_makeHoleIfEmpty 3 rfl) rfl ?_
  refine g_iload_n (z := 1) C (tdec DX6_makeHoleIfEmpty 4 rfl) rfl rfl rfl ?_
  obtain ⟨r1, y2, hF⟩ := o_bind hF
  refine g_callViR (q0 := 5) C (c_X0_told l D cB cI cJ cZ v_5 v_6 v_7 v_8 v_9 v_10 v_11 v_12 v_13 v_14 v_15 v_16 v_17 v_18 v_19 y2) rfl rfl (gIV ml_X6_63 im_X0_told sl_X0_told in_X0 cd_X0_told) rfl eX0_told rfl ⟨rfl, rfl⟩ ⟨Nat.le_of_ble_eq_true rfl, Nat.le_of_ble_eq_true rfl⟩ rfl [5, 6, 7, 8, 9, 10, 11, 12, 13, 14, 15, 16, 17, 18, 19] rfl rfl rfl (Nat.le_of_ble_eq_true rfl) (tdec DX6_makeHoleIfEmpty 5 rfl) rfl ?_
  obtain ⟨r3, y4, hF⟩ := o_bind hF
  refine g_callViR (q0 := 5) C (c_X0_hasOnlyHoles l D cB cI cJ cZ v_5 v_6 v_7 v_8 v_9 v_10 v_11 v_12 v_13 v_14 v_15 v_16 v_17 v_18 v_19 y4) rfl rfl (gIV ml_X6_94 im_X0_hasOnlyHoles sl_X0_hasOnlyHoles in_X0 cd_X0_hasOnlyHoles) rfl eX0_hasOnlyHoles rfl ⟨rfl, rfl⟩ ⟨Nat.le_of_ble_eq_true rfl, Nat.le_of_ble_eq_true rfl⟩ rfl [5, 6, 7, 8, 9, 10, 11, 12, 13, 14, 15, 16, 17, 18, 19] rfl rfl rfl (Nat.le_of_ble_eq_true rfl) (tdec DX6_makeHoleIfEmpty 6 rfl) rfl ?_
  refine g_if_eq (pt := 31) C (tdec DX6_makeHoleIfEmpty 7 rfl) (by decide) rfl (fun h5 => ?_) (fun h5 => ?_)
  · have hF := o_ifp hF h5
    have hr9 := o_some hF
    subst hr9
    exact g_vret C rfl (tdec DX6_makeHoleIfEmpty 15 rfl)
  · have hF := o_ifn hF h5
    refine g_aload_n (z := 0) C (tdec DX6_makeHoleIfEmpty 8 rfl) rfl rfl rfl ?_
    refine g_getf (C' := RX6) (T := TX6) (N := 6) (v := .ref v_5) C 0 0 (gIn iw_X6) rfl rfl (by decide) (gMem fl_X6_12) rfl rfl (tdec DX6_makeHoleIfEmpty 9 rfl) rfl ?_
    refine g_iload_n (z := 1) C (tdec DX6_makeHoleIfEmpty 10 rfl) rfl rfl rfl ?_
    refine g_iconst (v := (-1)) C (tdec DX6_makeHoleIfEmpty 11 rfl) (by decide) rfl ?_
    refine g_aload_n (z := 0) C (tdec DX6_makeHoleIfEmpty 12 rfl) rfl rfl rfl ?_
    refine g_getf (C' := RX6) (T := TX6) (N := 6) (v := .int (VS_gen v0)) C 0 3 (gIn iw_X6) rfl rfl (by decide) (gMem fl_X6_38) rfl rfl (tdec DX6_makeHoleIfEmpty 13 rfl) rfl ?_
    obtain ⟨s6, y7, hF⟩ := o_bind hF
    refine g_callVvM (q0 := 5) (W' := wV cI cJ v_0 v_1 v_2 v_3 v_4 v_5 v_6 v_7 v_8 v_9 v_10 v_11 v_12 v_13 v_14 v_15 v_16 v_17 v_18 v_19 (VS_setb v0 s6)) C (c_X0_point l D cB cI cJ cZ v_5 v_6 v_7 v_8 v_9 v_10 v_11 v_12 v_13 v_14 v_15 v_16 v_17 v_18 v_19 y7) rfl rfl (gIV ml_X6_88 im_X0_point sl_X0_point in_X0 cd_X0_point) rfl eX0_point rfl ⟨rfl, rfl⟩ ⟨Nat.le_of_ble_eq_true rfl, Nat.le_of_ble_eq_true rfl⟩ rfl [5, 6, 7, 8, 9, 10, 11, 12, 13, 14, 15, 16, 17, 18, 19] rfl rfl rfl rfl rfl rfl (Nat.le_of_ble_eq_true rfl) (tdec DX6_makeHoleIfEmpty 14 rfl) rfl ?_
    have hr9 := o_some hF
    subst hr9
    exact g_vret C rfl (tdec DX6_makeHoleIfEmpty 15 rfl)
def FX6_clearPlace_L44 (v1 : Int32) (v2 : Int32) (k9 : VS → Int32 → Int32 → Option (Int32 × VS)) : Nat → VS → Int32 → Int32 → Option (Int32 × VS)
  | 0, _, _, _ => none
  | n9 + 1, v, v3, v4 =>
    if v4 ≤ 0 then
      k9 v v3 v4
    else
      (FX0_renew (VS_b v) v3 v4 (VS_gen v)).bind fun s12 =>
      (FX0_told s12 v3).bind fun r14 =>
      (FX0_slotIn s12 r14 v2).bind fun r16 =>
      FX6_clearPlace_L44 v1 v2 k9 n9 (VS_setb v s12) r16 (v4 + (-1))
def FX6_clearPlace_L102 (v1 : Int32) (v2 : Int32) (v3 : Int32) (k9 : VS → Int32 → Option (Int32 × VS)) : Nat → VS → Int32 → Option (Int32 × VS)
  | 0, _, _ => none
  | n9 + 1, v, v4 =>
    if 3 < v4 then
      k9 v v4
    else
      (FX6_slotToLevel v v1 v2 v4).bind fun r22 =>
      (FX6_makeHoleIfEmpty v r22).bind fun s24 =>
      FX6_clearPlace_L102 v1 v2 v3 k9 n9 s24 (v4 + 1)
def FX6_clearPlace (v0 : VS) (p1 : Int32) (p2 : Int32) : Option (Int32 × VS) :=
  (FX6_slotToLevel v0 p1 p2 0).bind fun r1 =>
  (FX0_told (VS_b v0) r1).bind fun r3 =>
  if r3 = (-1) then
    some (1, v0)
  else
    (FX6_newBlocksWanted v0 p1 p2 1).bind fun r6 =>
    (FX0_free (VS_b v0)).bind fun r8 =>
    if r6 ≤ r8 then
      FX6_clearPlace_L44 p1 p2 (fun vq18 w3_18 w4_18 =>
        (FX0_point (VS_b vq18) w3_18 (-1) (VS_gen vq18)).bind fun s19 =>
        FX6_clearPlace_L102 p1 p2 w3_18 (fun vq26 w4_26 =>
          some (1, vq26)) 100000 (VS_setb vq18 s19) 1) 100000 v0 p1 3
    else
      some (0, v0)
def rX6_clearPlace : Room := { frames := 3, cells := 0, slots := 0, locals := 72 }
set_option maxHeartbeats 4000000 in
set_option maxRecDepth 100000 in
theorem c_FX6_clearPlace_L44 {p : Program} {l : Launch} {e : Env} {s : State} {m : MethodId} {args : Array Value} {below : List Frame} {meth : Method} {c : Code} {D : va_G} {cB cI cJ cZ : ClassId} {v_0 v_1 v_2 v_3 v_4 v_5 v_6 v_7 v_8 v_9 v_10 v_11 v_12 v_13 v_14 v_15 v_16 v_17 v_18 v_19 : Nat} {v0 : VS} {res : Int32 × VS} (C : gC p s m args meth c cX6_clearPlace 5 RX6 wsX6_clearPlace D (gT cB cI cJ cZ) (some .boolean) (va_A (wV cI cJ v_0 v_1 v_2 v_3 v_4 v_5 v_6 v_7 v_8 v_9 v_10 v_11 v_12 v_13 v_14 v_15 v_16 v_17 v_18 v_19 v0) s.heap.size)) {v1 : Int32} {v2 : Int32} {k9 : VS → Int32 → Int32 → Option (Int32 × VS)} (hk9 : ∀ (v : VS) (v3 : Int32) (v4 : Int32), k9 v v3 v4 = some res → gG p l e (headSpec wsX6_clearPlace rX6_clearPlace).room s m args below meth c 0 0 D (va_A (wV cI cJ v_0 v_1 v_2 v_3 v_4 v_5 v_6 v_7 v_8 v_9 v_10 v_11 v_12 v_13 v_14 v_15 v_16 v_17 v_18 v_19 v0) s.heap.size) (va_A (wV cI cJ v_0 v_1 v_2 v_3 v_4 v_5 v_6 v_7 v_8 v_9 v_10 v_11 v_12 v_13 v_14 v_15 v_16 v_17 v_18 v_19 v0) s.heap.size) 5 (MQ below (gQi D (wV cI cJ v_0 v_1 v_2 v_3 v_4 v_5 v_6 v_7 v_8 v_9 v_10 v_11 v_12 v_13 v_14 v_15 v_16 v_17 v_18 v_19 v0) s.heap.size res.1 (wV cI cJ v_0 v_1 v_2 v_3 v_4 v_5 v_6 v_7 v_8 v_9 v_10 v_11 v_12 v_13 v_14 v_15 v_16 v_17 v_18 v_19 res.2)) args s 0 0 (va_A (wV cI cJ v_0 v_1 v_2 v_3 v_4 v_5 v_6 v_7 v_8 v_9 v_10 v_11 v_12 v_13 v_14 v_15 v_16 v_17 v_18 v_19 v0) s.heap.size)) (wV cI cJ v_0 v_1 v_2 v_3 v_4 v_5 v_6 v_7 v_8 v_9 v_10 v_11 v_12 v_13 v_14 v_15 v_16 v_17 v_18 v_19 v) 86 [(0, .ref v_0), (1, .int v1), (2, .int v2), (3, .int v3), (4, .int v4)] []) :
    ∀ (n9 : Nat) (v : VS) (v3 : Int32) (v4 : Int32), FX6_clearPlace_L44 v1 v2 k9 n9 v v3 v4 = some res → gG p l e (headSpec wsX6_clearPlace rX6_clearPlace).room s m args below meth c 0 0 D (va_A (wV cI cJ v_0 v_1 v_2 v_3 v_4 v_5 v_6 v_7 v_8 v_9 v_10 v_11 v_12 v_13 v_14 v_15 v_16 v_17 v_18 v_19 v0) s.heap.size) (va_A (wV cI cJ v_0 v_1 v_2 v_3 v_4 v_5 v_6 v_7 v_8 v_9 v_10 v_11 v_12 v_13 v_14 v_15 v_16 v_17 v_18 v_19 v0) s.heap.size) 5 (MQ below (gQi D (wV cI cJ v_0 v_1 v_2 v_3 v_4 v_5 v_6 v_7 v_8 v_9 v_10 v_11 v_12 v_13 v_14 v_15 v_16 v_17 v_18 v_19 v0) s.heap.size res.1 (wV cI cJ v_0 v_1 v_2 v_3 v_4 v_5 v_6 v_7 v_8 v_9 v_10 v_11 v_12 v_13 v_14 v_15 v_16 v_17 v_18 v_19 res.2)) args s 0 0 (va_A (wV cI cJ v_0 v_1 v_2 v_3 v_4 v_5 v_6 v_7 v_8 v_9 v_10 v_11 v_12 v_13 v_14 v_15 v_16 v_17 v_18 v_19 v0) s.heap.size)) (wV cI cJ v_0 v_1 v_2 v_3 v_4 v_5 v_6 v_7 v_8 v_9 v_10 v_11 v_12 v_13 v_14 v_15 v_16 v_17 v_18 v_19 v) 44 [(0, .ref v_0), (1, .int v1), (2, .int v2), (3, .int v3), (4, .int v4)] [] := by
  intro n9
  induction n9 with
  | zero =>
    intro v v3 v4 hF
    exact absurd hF (by simp [FX6_clearPlace_L44])
  | succ n9 ih9 =>
    intro v v3 v4 hF
    rw [FX6_clearPlace_L44] at hF
    refine g_iload (z := 4) C (tdec DX6_clearPlace 27 rfl) rfl rfl ?_
    refine g_if_le (pt := 86) C (tdec DX6_clearPlace 28 rfl) (by decide) rfl (fun h11 => ?_) (fun h11 => ?_)
    · have hF := o_ifp hF h11
      refine g_sub (L' := [(0, .ref v_0), (1, .int v1), (2, .int v2), (3, .int v3), (4, .int v4)]) [0, 1, 2, 3, 4] rfl ?_
      exact hk9 _ _ _ hF
    · have hF := o_ifn hF h11
      refine g_aload_n (z := 0) C (tdec DX6_clearPlace 29 rfl) rfl rfl rfl ?_
      refine g_getf (C' := RX6) (T := TX6) (N := 6) (v := .ref v_5) C 0 0 (gIn iw_X6) rfl rfl (by decide) (gMem fl_X6_12) rfl rfl (tdec DX6_clearPlace 30 rfl) rfl ?_
      refine g_iload_n (z := 3) C (tdec DX6_clearPlace 31 rfl) rfl rfl rfl ?_
      refine g_iload (z := 4) C (tdec DX6_clearPlace 32 rfl) rfl rfl ?_
      refine g_aload_n (z := 0) C (tdec DX6_clearPlace 33 rfl) rfl rfl rfl ?_
      refine g_getf (C' := RX6) (T := TX6) (N := 6) (v := .int (VS_gen v)) C 0 3 (gIn iw_X6) rfl rfl (by decide) (gMem fl_X6_38) rfl rfl (tdec DX6_clearPlace 34 rfl) rfl ?_
      obtain ⟨s12, y13, hF⟩ := o_bind hF
      refine g_callVvM (q0 := 5) (W' := wV cI cJ v_0 v_1 v_2 v_3 v_4 v_5 v_6 v_7 v_8 v_9 v_10 v_11 v_12 v_13 v_14 v_15 v_16 v_17 v_18 v_19 (VS_setb v s12)) C (c_X0_renew l D cB cI cJ cZ v_5 v_6 v_7 v_8 v_9 v_10 v_11 v_12 v_13 v_14 v_15 v_16 v_17 v_18 v_19 y13) rfl rfl (gIV ml_X6_76 im_X0_renew sl_X0_renew in_X0 cd_X0_renew) rfl eX0_renew rfl ⟨rfl, rfl⟩ ⟨Nat.le_of_ble_eq_true rfl, Nat.le_of_ble_eq_true rfl⟩ rfl [5, 6, 7, 8, 9, 10, 11, 12, 13, 14, 15, 16, 17, 18, 19] rfl rfl rfl rfl rfl rfl (Nat.le_of_ble_eq_true rfl) (tdec DX6_clearPlace 35 rfl) rfl ?_
      refine g_aload_n (z := 0) C (tdec DX6_clearPlace 36 rfl) rfl rfl rfl ?_
      refine g_getf (C' := RX6) (T := TX6) (N := 6) (v := .ref v_5) C 0 0 (gIn iw_X6) rfl rfl (by decide) (gMem fl_X6_12) rfl rfl (tdec DX6_clearPlace 37 rfl) rfl ?_
      refine g_aload_n (z := 0) C (tdec DX6_clearPlace 38 rfl) rfl rfl rfl ?_
      refine g_getf (C' := RX6) (T := TX6) (N := 6) (v := .ref v_5) C 0 0 (gIn iw_X6) rfl rfl (by decide) (gMem fl_X6_12) rfl rfl (tdec DX6_clearPlace 39 rfl) rfl ?_
      refine g_iload_n (z := 3) C (tdec DX6_clearPlace 40 rfl) rfl rfl rfl ?_
      obtain ⟨r14, y15, hF⟩ := o_bind hF
      refine g_callViR (q0 := 5) C (c_X0_told l D cB cI cJ cZ v_5 v_6 v_7 v_8 v_9 v_10 v_11 v_12 v_13 v_14 v_15 v_16 v_17 v_18 v_19 y15) rfl rfl (gIV ml_X6_63 im_X0_told sl_X0_told in_X0 cd_X0_told) rfl eX0_told rfl ⟨rfl, rfl⟩ ⟨Nat.le_of_ble_eq_true rfl, Nat.le_of_ble_eq_true rfl⟩ rfl [5, 6, 7, 8, 9, 10, 11, 12, 13, 14, 15, 16, 17, 18, 19] rfl rfl rfl (Nat.le_of_ble_eq_true rfl) (tdec DX6_clearPlace 41 rfl) rfl ?_
      refine g_iload_n (z := 2) C (tdec DX6_clearPlace 42 rfl) rfl rfl rfl ?_
      obtain ⟨r16, y17, hF⟩ := o_bind hF
      refine g_callViR (q0 := 5) C (c_X0_slotIn l D cB cI cJ cZ v_5 v_6 v_7 v_8 v_9 v_10 v_11 v_12 v_13 v_14 v_15 v_16 v_17 v_18 v_19 y17) rfl rfl (gIV ml_X6_80 im_X0_slotIn sl_X0_slotIn in_X0 cd_X0_slotIn) rfl eX0_slotIn rfl ⟨rfl, rfl⟩ ⟨Nat.le_of_ble_eq_true rfl, Nat.le_of_ble_eq_true rfl⟩ rfl [5, 6, 7, 8, 9, 10, 11, 12, 13, 14, 15, 16, 17, 18, 19] rfl rfl rfl (Nat.le_of_ble_eq_true rfl) (tdec DX6_clearPlace 43 rfl) rfl ?_
      refine g_istore_n (L' := [(3, .int r16), (0, .ref v_0), (1, .int v1), (2, .int v2), (4, .int v4)]) C (tdec DX6_clearPlace 44 rfl) rfl (by decide) rfl rfl ?_
      refine g_iinc (z := 4) (v := (v4 + (-1))) (L' := [(4, .int (v4 + (-1))), (3, .int r16), (0, .ref v_0), (1, .int v1), (2, .int v2)]) C (tdec DX6_clearPlace 45 rfl) rfl rfl (by decide) rfl rfl ?_
      refine g_goto (pt := 44) C (tdec DX6_clearPlace 46 rfl) (by decide) ?_
      refine g_sub (L' := [(0, .ref v_0), (1, .int v1), (2, .int v2), (3, .int r16), (4, .int (v4 + (-1)))]) [2, 3, 4, 1, 0] rfl ?_
      exact ih9 _ _ _ hF
set_option maxHeartbeats 4000000 in
set_option maxRecDepth 100000 in
theorem c_FX6_clearPlace_L102 {p : Program} {l : Launch} {e : Env} {s : State} {m : MethodId} {args : Array Value} {below : List Frame} {meth : Method} {c : Code} {D : va_G} {cB cI cJ cZ : ClassId} {v_0 v_1 v_2 v_3 v_4 v_5 v_6 v_7 v_8 v_9 v_10 v_11 v_12 v_13 v_14 v_15 v_16 v_17 v_18 v_19 : Nat} {v0 : VS} {res : Int32 × VS} (C : gC p s m args meth c cX6_clearPlace 5 RX6 wsX6_clearPlace D (gT cB cI cJ cZ) (some .boolean) (va_A (wV cI cJ v_0 v_1 v_2 v_3 v_4 v_5 v_6 v_7 v_8 v_9 v_10 v_11 v_12 v_13 v_14 v_15 v_16 v_17 v_18 v_19 v0) s.heap.size)) {v1 : Int32} {v2 : Int32} {v3 : Int32} {k9 : VS → Int32 → Option (Int32 × VS)} (hk9 : ∀ (v : VS) (v4 : Int32), k9 v v4 = some res → gG p l e (headSpec wsX6_clearPlace rX6_clearPlace).room s m args below meth c 0 0 D (va_A (wV cI cJ v_0 v_1 v_2 v_3 v_4 v_5 v_6 v_7 v_8 v_9 v_10 v_11 v_12 v_13 v_14 v_15 v_16 v_17 v_18 v_19 v0) s.heap.size) (va_A (wV cI cJ v_0 v_1 v_2 v_3 v_4 v_5 v_6 v_7 v_8 v_9 v_10 v_11 v_12 v_13 v_14 v_15 v_16 v_17 v_18 v_19 v0) s.heap.size) 5 (MQ below (gQi D (wV cI cJ v_0 v_1 v_2 v_3 v_4 v_5 v_6 v_7 v_8 v_9 v_10 v_11 v_12 v_13 v_14 v_15 v_16 v_17 v_18 v_19 v0) s.heap.size res.1 (wV cI cJ v_0 v_1 v_2 v_3 v_4 v_5 v_6 v_7 v_8 v_9 v_10 v_11 v_12 v_13 v_14 v_15 v_16 v_17 v_18 v_19 res.2)) args s 0 0 (va_A (wV cI cJ v_0 v_1 v_2 v_3 v_4 v_5 v_6 v_7 v_8 v_9 v_10 v_11 v_12 v_13 v_14 v_15 v_16 v_17 v_18 v_19 v0) s.heap.size)) (wV cI cJ v_0 v_1 v_2 v_3 v_4 v_5 v_6 v_7 v_8 v_9 v_10 v_11 v_12 v_13 v_14 v_15 v_16 v_17 v_18 v_19 v) 126 [(0, .ref v_0), (1, .int v1), (2, .int v2), (3, .int v3), (4, .int v4)] []) :
    ∀ (n9 : Nat) (v : VS) (v4 : Int32), FX6_clearPlace_L102 v1 v2 v3 k9 n9 v v4 = some res → gG p l e (headSpec wsX6_clearPlace rX6_clearPlace).room s m args below meth c 0 0 D (va_A (wV cI cJ v_0 v_1 v_2 v_3 v_4 v_5 v_6 v_7 v_8 v_9 v_10 v_11 v_12 v_13 v_14 v_15 v_16 v_17 v_18 v_19 v0) s.heap.size) (va_A (wV cI cJ v_0 v_1 v_2 v_3 v_4 v_5 v_6 v_7 v_8 v_9 v_10 v_11 v_12 v_13 v_14 v_15 v_16 v_17 v_18 v_19 v0) s.heap.size) 5 (MQ below (gQi D (wV cI cJ v_0 v_1 v_2 v_3 v_4 v_5 v_6 v_7 v_8 v_9 v_10 v_11 v_12 v_13 v_14 v_15 v_16 v_17 v_18 v_19 v0) s.heap.size res.1 (wV cI cJ v_0 v_1 v_2 v_3 v_4 v_5 v_6 v_7 v_8 v_9 v_10 v_11 v_12 v_13 v_14 v_15 v_16 v_17 v_18 v_19 res.2)) args s 0 0 (va_A (wV cI cJ v_0 v_1 v_2 v_3 v_4 v_5 v_6 v_7 v_8 v_9 v_10 v_11 v_12 v_13 v_14 v_15 v_16 v_17 v_18 v_19 v0) s.heap.size)) (wV cI cJ v_0 v_1 v_2 v_3 v_4 v_5 v_6 v_7 v_8 v_9 v_10 v_11 v_12 v_13 v_14 v_15 v_16 v_17 v_18 v_19 v) 102 [(0, .ref v_0), (1, .int v1), (2, .int v2), (3, .int v3), (4, .int v4)] [] := by
  intro n9
  induction n9 with
  | zero =>
    intro v v4 hF
    exact absurd hF (by simp [FX6_clearPlace_L102])
  | succ n9 ih9 =>
    intro v v4 hF
    rw [FX6_clearPlace_L102] at hF
    refine g_iload (z := 4) C (tdec DX6_clearPlace 56 rfl) rfl rfl ?_
    refine g_iconst (v := 3) C (tdec DX6_clearPlace 57 rfl) (by decide) rfl ?_
    refine g_icmp_gt (pt := 126) C (tdec DX6_clearPlace 58 rfl) (by decide) rfl (fun h21 => ?_) (fun h21 => ?_)
    · have hF := o_ifp hF h21
      refine g_sub (L' := [(0, .ref v_0), (1, .int v1), (2, .int v2), (3, .int v3), (4, .int v4)]) [0, 1, 2, 3, 4] rfl ?_
      exact hk9 _ _ hF
    · have hF := o_ifn hF h21
      refine g_aload_n (z := 0) C (tdec DX6_clearPlace 59 rfl) rfl rfl rfl ?_
      refine g_aload_n (z := 0) C (tdec DX6_clearPlace 60 rfl) rfl rfl rfl ?_
      refine g_iload_n (z := 1) C (tdec DX6_clearPlace 61 rfl) rfl rfl rfl ?_
      refine g_iload_n (z := 2) C (tdec DX6_clearPlace 62 rfl) rfl rfl rfl ?_
      refine g_iload (z := 4) C (tdec DX6_clearPlace 63 rfl) rfl rfl ?_
      obtain ⟨r22, y23, hF⟩ := o_bind hF
      refine g_callViR (q0 := 0) C (c_X6_slotToLevel l D cB cI cJ cZ v_0 v_1 v_2 v_3 v_4 v_5 v_6 v_7 v_8 v_9 v_10 v_11 v_12 v_13 v_14 v_15 v_16 v_17 v_18 v_19 y23) rfl rfl (gIV ml_X6_59 im_X6_slotToLevel sl_X6_slotToLevel in_X6 cd_X6_slotToLevel) rfl eX6_slotToLevel rfl ⟨rfl, rfl⟩ ⟨Nat.le_of_ble_eq_true rfl, Nat.le_of_ble_eq_true rfl⟩ rfl [0, 1, 2, 3, 4, 5, 6, 7, 8, 9, 10, 11, 12, 13, 14, 15, 16, 17, 18, 19] rfl rfl rfl (Nat.le_of_ble_eq_true rfl) (tdec DX6_clearPlace 64 rfl) rfl ?_
      obtain ⟨s24, y25, hF⟩ := o_bind hF
      refine g_callVvM (q0 := 0) (W' := wV cI cJ v_0 v_1 v_2 v_3 v_4 v_5 v_6 v_7 v_8 v_9 v_10 v_11 v_12 v_13 v_14 v_15 v_16 v_17 v_18 v_19 s24) C (c_X6_makeHoleIfEmpty l D cB cI cJ cZ v_0 v_1 v_2 v_3 v_4 v_5 v_6 v_7 v_8 v_9 v_10 v_11 v_12 v_13 v_14 v_15 v_16 v_17 v_18 v_19 y25) rfl rfl (gIV ml_X6_91 im_X6_makeHoleIfEmpty sl_X6_makeHoleIfEmpty in_X6 cd_X6_makeHoleIfEmpty) rfl eX6_makeHoleIfEmpty rfl ⟨rfl, rfl⟩ ⟨Nat.le_of_ble_eq_true rfl, Nat.le_of_ble_eq_true rfl⟩ rfl [0, 1, 2, 3, 4, 5, 6, 7, 8, 9, 10, 11, 12, 13, 14, 15, 16, 17, 18, 19] rfl rfl rfl rfl rfl rfl (Nat.le_of_ble_eq_true rfl) (tdec DX6_clearPlace 65 rfl) rfl ?_
      refine g_iinc (z := 4) (v := (v4 + 1)) (L' := [(4, .int (v4 + 1)), (0, .ref v_0), (1, .int v1), (2, .int v2), (3, .int v3)]) C (tdec DX6_clearPlace 66 rfl) rfl rfl (by decide) rfl rfl ?_
      refine g_goto (pt := 102) C (tdec DX6_clearPlace 67 rfl) (by decide) ?_
      refine g_sub (L' := [(0, .ref v_0), (1, .int v1), (2, .int v2), (3, .int v3), (4, .int (v4 + 1))]) [1, 2, 3, 4, 0] rfl ?_
      exact ih9 _ _ hF
set_option maxHeartbeats 4000000 in
set_option maxRecDepth 100000 in
theorem c_X6_clearPlace (l : Launch) (D : va_G) (cB cI cJ cZ : ClassId) (v_0 v_1 v_2 v_3 v_4 v_5 v_6 v_7 v_8 v_9 v_10 v_11 v_12 v_13 v_14 v_15 v_16 v_17 v_18 v_19 : Nat) {v0 : VS} {p1 : Int32} {p2 : Int32} {res : Int32 × VS} (hF : FX6_clearPlace v0 p1 p2 = some res) : gMi l yX6_clearPlace wsX6_clearPlace rX6_clearPlace D (gT cB cI cJ cZ) [.ref v_0, .int p1, .int p2] (wV cI cJ v_0 v_1 v_2 v_3 v_4 v_5 v_6 v_7 v_8 v_9 v_10 v_11 v_12 v_13 v_14 v_15 v_16 v_17 v_18 v_19 v0) res.1 (wV cI cJ v_0 v_1 v_2 v_3 v_4 v_5 v_6 v_7 v_8 v_9 v_10 v_11 v_12 v_13 v_14 v_15 v_16 v_17 v_18 v_19 res.2) := by
  refine g_enter (own := RX6) (free := (fun sz => va_A (wV cI cJ v_0 v_1 v_2 v_3 v_4 v_5 v_6 v_7 v_8 v_9 v_10 v_11 v_12 v_13 v_14 v_15 v_16 v_17 v_18 v_19 v0) sz)) (Qc := (fun sz => gQi D (wV cI cJ v_0 v_1 v_2 v_3 v_4 v_5 v_6 v_7 v_8 v_9 v_10 v_11 v_12 v_13 v_14 v_15 v_16 v_17 v_18 v_19 v0) sz res.1 (wV cI cJ v_0 v_1 v_2 v_3 v_4 v_5 v_6 v_7 v_8 v_9 v_10 v_11 v_12 v_13 v_14 v_15 v_16 v_17 v_18 v_19 res.2))) (fun sz => va_A (wV cI cJ v_0 v_1 v_2 v_3 v_4 v_5 v_6 v_7 v_8 v_9 v_10 v_11 v_12 v_13 v_14 v_15 v_16 v_17 v_18 v_19 v0) sz) (fun sz => Or.inr rfl) rfl (by decide) rfl (Nat.le_of_ble_eq_true rfl) rfl ?_
  intro p e s m args below meth c C
  unfold FX6_clearPlace at hF
  refine g_aload_n (z := 0) C (tdec DX6_clearPlace 0 rfl) rfl rfl rfl ?_
  refine g_getf (C' := RX6) (T := TX6) (N := 6) (v := .ref v_5) C 0 0 (gIn iw_X6) rfl rfl (by decide) (gMem fl_X6_12) rfl rfl (tdec DX6_clearPlace 1 rfl) rfl ?_
  refine g_aload_n (z := 0) C (tdec DX6_clearPlace 2 rfl) rfl rfl rfl ?_
  refine g_iload_n (z := 1) C (tdec DX6_clearPlace 3 rfl) rfl rfl rfl ?_
  refine g_iload_n (z := 2) C (tdec DX6_clearPlace 4 rfl) rfl rfl rfl ?_
  refine g_iconst (v := 0) C (tdec DX6_clearPlace 5 rfl) (by decide) rfl ?_
  obtain ⟨r1, y2, hF⟩ := o_bind hF
  refine g_callViR (q0 := 0) C (c_X6_slotToLevel l D cB cI cJ cZ v_0 v_1 v_2 v_3 v_4 v_5 v_6 v_7 v_8 v_9 v_10 v_11 v_12 v_13 v_14 v_15 v_16 v_17 v_18 v_19 y2) rfl rfl (gIV ml_X6_59 im_X6_slotToLevel sl_X6_slotToLevel in_X6 cd_X6_slotToLevel) rfl eX6_slotToLevel rfl ⟨rfl, rfl⟩ ⟨Nat.le_of_ble_eq_true rfl, Nat.le_of_ble_eq_true rfl⟩ rfl [0, 1, 2, 3, 4, 5, 6, 7, 8, 9, 10, 11, 12, 13, 14, 15, 16, 17, 18, 19] rfl rfl rfl (Nat.le_of_ble_eq_true rfl) (tdec DX6_clearPlace 6 rfl) rfl ?_
  obtain ⟨r3, y4, hF⟩ := o_bind hF
  refine g_callViR (q0 := 5) C (c_X0_told l D cB cI cJ cZ v_5 v_6 v_7 v_8 v_9 v_10 v_11 v_12 v_13 v_14 v_15 v_16 v_17 v_18 v_19 y4) rfl rfl (gIV ml_X6_63 im_X0_told sl_X0_told in_X0 cd_X0_told) rfl eX0_told rfl ⟨rfl, rfl⟩ ⟨Nat.le_of_ble_eq_true rfl, Nat.le_of_ble_eq_true rfl⟩ rfl [5, 6, 7, 8, 9, 10, 11, 12, 13, 14, 15, 16, 17, 18, 19] rfl rfl rfl (Nat.le_of_ble_eq_true rfl) (tdec DX6_clearPlace 7 rfl) rfl ?_
  refine g_iconst (v := (-1)) C (tdec DX6_clearPlace 8 rfl) (by decide) rfl ?_
  refine g_icmp_ne (pt := 20) C (tdec DX6_clearPlace 9 rfl) (by decide) rfl (fun h5 => ?_) (fun h5 => ?_)
  · have hF := o_ifn hF h5
    refine g_aload_n (z := 0) C (tdec DX6_clearPlace 12 rfl) rfl rfl rfl ?_
    refine g_iload_n (z := 1) C (tdec DX6_clearPlace 13 rfl) rfl rfl rfl ?_
    refine g_iload_n (z := 2) C (tdec DX6_clearPlace 14 rfl) rfl rfl rfl ?_
    refine g_iconst (v := 1) C (tdec DX6_clearPlace 15 rfl) (by decide) rfl ?_
    obtain ⟨r6, y7, hF⟩ := o_bind hF
    refine g_callViR (q0 := 0) C (c_X6_newBlocksWanted l D cB cI cJ cZ v_0 v_1 v_2 v_3 v_4 v_5 v_6 v_7 v_8 v_9 v_10 v_11 v_12 v_13 v_14 v_15 v_16 v_17 v_18 v_19 y7) rfl rfl (gIV ml_X6_69 im_X6_newBlocksWanted sl_X6_newBlocksWanted in_X6 cd_X6_newBlocksWanted) rfl eX6_newBlocksWanted rfl ⟨rfl, rfl⟩ ⟨Nat.le_of_ble_eq_true rfl, Nat.le_of_ble_eq_true rfl⟩ rfl [0, 1, 2, 3, 4, 5, 6, 7, 8, 9, 10, 11, 12, 13, 14, 15, 16, 17, 18, 19] rfl rfl rfl (Nat.le_of_ble_eq_true rfl) (tdec DX6_clearPlace 16 rfl) rfl ?_
    refine g_aload_n (z := 0) C (tdec DX6_clearPlace 17 rfl) rfl rfl rfl ?_
    refine g_getf (C' := RX6) (T := TX6) (N := 6) (v := .ref v_5) C 0 0 (gIn iw_X6) rfl rfl (by decide) (gMem fl_X6_12) rfl rfl (tdec DX6_clearPlace 18 rfl) rfl ?_
    obtain ⟨r8, y9, hF⟩ := o_bind hF
    refine g_callViR (q0 := 5) C (c_X0_free l D cB cI cJ cZ v_5 v_6 v_7 v_8 v_9 v_10 v_11 v_12 v_13 v_14 v_15 v_16 v_17 v_18 v_19 y9) rfl rfl (gIV ml_X6_72 im_X0_free sl_X0_free in_X0 cd_X0_free) rfl eX0_free rfl ⟨rfl, rfl⟩ ⟨Nat.le_of_ble_eq_true rfl, Nat.le_of_ble_eq_true rfl⟩ rfl [5, 6, 7, 8, 9, 10, 11, 12, 13, 14, 15, 16, 17, 18, 19] rfl rfl rfl (Nat.le_of_ble_eq_true rfl) (tdec DX6_clearPlace 19 rfl) rfl ?_
    refine g_icmp_le (pt := 39) C (tdec DX6_clearPlace 20 rfl) (by decide) rfl (fun h10 => ?_) (fun h10 => ?_)
    · have hF := o_ifp hF h10
      refine g_iload_n (z := 1) C (tdec DX6_clearPlace 23 rfl) rfl rfl rfl ?_
      refine g_istore_n (L' := [(3, .int p1), (0, .ref v_0), (1, .int p1), (2, .int p2)]) C (tdec DX6_clearPlace 24 rfl) rfl (by decide) rfl rfl ?_
      refine g_iconst (v := 3) C (tdec DX6_clearPlace 25 rfl) (by decide) rfl ?_
      refine g_istore (L' := [(4, .int 3), (3, .int p1), (0, .ref v_0), (1, .int p1), (2, .int p2)]) C (tdec DX6_clearPlace 26 rfl) (by decide) rfl rfl ?_
      refine g_sub (L' := [(0, .ref v_0), (1, .int p1), (2, .int p2), (3, .int p1), (4, .int 3)]) [2, 3, 4, 1, 0] rfl ?_
      refine c_FX6_clearPlace_L44 C (fun vq18 w3_18 w4_18 hF => ?_) 100000 _ _ _ hF
      refine g_aload_n (z := 0) C (tdec DX6_clearPlace 47 rfl) rfl rfl rfl ?_
      refine g_getf (C' := RX6) (T := TX6) (N := 6) (v := .ref v_5) C 0 0 (gIn iw_X6) rfl rfl (by decide) (gMem fl_X6_12) rfl rfl (tdec DX6_clearPlace 48 rfl) rfl ?_
      refine g_iload_n (z := 3) C (tdec DX6_clearPlace 49 rfl) rfl rfl rfl ?_
      refine g_iconst (v := (-1)) C (tdec DX6_clearPlace 50 rfl) (by decide) rfl ?_
      refine g_aload_n (z := 0) C (tdec DX6_clearPlace 51 rfl) rfl rfl rfl ?_
      refine g_getf (C' := RX6) (T := TX6) (N := 6) (v := .int (VS_gen vq18)) C 0 3 (gIn iw_X6) rfl rfl (by decide) (gMem fl_X6_38) rfl rfl (tdec DX6_clearPlace 52 rfl) rfl ?_
      obtain ⟨s19, y20, hF⟩ := o_bind hF
      refine g_callVvM (q0 := 5) (W' := wV cI cJ v_0 v_1 v_2 v_3 v_4 v_5 v_6 v_7 v_8 v_9 v_10 v_11 v_12 v_13 v_14 v_15 v_16 v_17 v_18 v_19 (VS_setb vq18 s19)) C (c_X0_point l D cB cI cJ cZ v_5 v_6 v_7 v_8 v_9 v_10 v_11 v_12 v_13 v_14 v_15 v_16 v_17 v_18 v_19 y20) rfl rfl (gIV ml_X6_88 im_X0_point sl_X0_point in_X0 cd_X0_point) rfl eX0_point rfl ⟨rfl, rfl⟩ ⟨Nat.le_of_ble_eq_true rfl, Nat.le_of_ble_eq_true rfl⟩ rfl [5, 6, 7, 8, 9, 10, 11, 12, 13, 14, 15, 16, 17, 18, 19] rfl rfl rfl rfl rfl rfl (Nat.le_of_ble_eq_true rfl) (tdec DX6_clearPlace 53 rfl) rfl ?_
      refine g_iconst (v := 1) C (tdec DX6_clearPlace 54 rfl) (by decide) rfl ?_
      refine g_istore (L' := [(4, .int 1), (0, .ref v_0), (1, .int p1), (2, .int p2), (3, .int w3_18)]) C (tdec DX6_clearPlace 55 rfl) (by decide) rfl rfl ?_
      refine g_sub (L' := [(0, .ref v_0), (1, .int p1), (2, .int p2), (3, .int w3_18), (4, .int 1)]) [1, 2, 3, 4, 0] rfl ?_
      refine c_FX6_clearPlace_L102 C (fun vq26 w4_26 hF => ?_) 100000 _ _ hF
      refine g_iconst (v := 1) C (tdec DX6_clearPlace 68 rfl) (by decide) rfl ?_
      have hr9 := o_some hF
      subst hr9
      exact g_zret C rfl rfl rfl (tdec DX6_clearPlace 69 rfl)
    · have hF := o_ifn hF h10
      refine g_iconst (v := 0) C (tdec DX6_clearPlace 21 rfl) (by decide) rfl ?_
      have hr9 := o_some hF
      subst hr9
      exact g_zret C rfl rfl rfl (tdec DX6_clearPlace 22 rfl)
  · have hF := o_ifp hF h5
    refine g_iconst (v := 1) C (tdec DX6_clearPlace 10 rfl) (by decide) rfl ?_
    have hr9 := o_some hF
    subst hr9
    exact g_zret C rfl rfl rfl (tdec DX6_clearPlace 11 rfl)
def FX6_keepLive (v0 : VS) (p1 : Int64) : Option (Int32 × VS) :=
  (FX0_told (VS_b v0) 4800).bind fun r1 =>
  (FX0_birth (VS_b v0) 4800).bind fun r3 =>
  (FX0_point (VS_b v0) (4802 + (VS_snaps v0)) r1 r3).bind fun s5 =>
  (FX2_put 20 (VS_mk v0) (VS_snaps v0) p1).bind fun s7 =>
  (FX1_put 20 (VS_gn v0) (VS_snaps v0) (VS_gen v0)).bind fun s9 =>
  some ((VS_snaps v0), (VS_setgen (VS_setsnaps (VS_setgn (VS_setmk (VS_setb v0 s5) s7) s9) ((VS_snaps v0) + 1)) ((VS_gen v0) + 1)))
def rX6_keepLive : Room := { frames := 2, cells := 0, slots := 0, locals := 46 }
set_option maxHeartbeats 4000000 in
set_option maxRecDepth 100000 in
theorem c_X6_keepLive (l : Launch) (D : va_G) (cB cI cJ cZ : ClassId) (v_0 v_1 v_2 v_3 v_4 v_5 v_6 v_7 v_8 v_9 v_10 v_11 v_12 v_13 v_14 v_15 v_16 v_17 v_18 v_19 : Nat) {v0 : VS} {p1 : Int64} {res : Int32 × VS} (hF : FX6_keepLive v0 p1 = some res) : gMi l yX6_keepLive wsX6_keepLive rX6_keepLive D (gT cB cI cJ cZ) [.ref v_0, .long p1] (wV cI cJ v_0 v_1 v_2 v_3 v_4 v_5 v_6 v_7 v_8 v_9 v_10 v_11 v_12 v_13 v_14 v_15 v_16 v_17 v_18 v_19 v0) res.1 (wV cI cJ v_0 v_1 v_2 v_3 v_4 v_5 v_6 v_7 v_8 v_9 v_10 v_11 v_12 v_13 v_14 v_15 v_16 v_17 v_18 v_19 res.2) := by
  refine g_enter (own := RX6) (free := (fun sz => va_A (wV cI cJ v_0 v_1 v_2 v_3 v_4 v_5 v_6 v_7 v_8 v_9 v_10 v_11 v_12 v_13 v_14 v_15 v_16 v_17 v_18 v_19 v0) sz)) (Qc := (fun sz => gQi D (wV cI cJ v_0 v_1 v_2 v_3 v_4 v_5 v_6 v_7 v_8 v_9 v_10 v_11 v_12 v_13 v_14 v_15 v_16 v_17 v_18 v_19 v0) sz res.1 (wV cI cJ v_0 v_1 v_2 v_3 v_4 v_5 v_6 v_7 v_8 v_9 v_10 v_11 v_12 v_13 v_14 v_15 v_16 v_17 v_18 v_19 res.2))) (fun sz => va_A (wV cI cJ v_0 v_1 v_2 v_3 v_4 v_5 v_6 v_7 v_8 v_9 v_10 v_11 v_12 v_13 v_14 v_15 v_16 v_17 v_18 v_19 v0) sz) (fun sz => Or.inr rfl) rfl (by decide) rfl (Nat.le_of_ble_eq_true rfl) rfl ?_
  intro p e s m args below meth c C
  unfold FX6_keepLive at hF
  refine g_aload_n (z := 0) C (tdec DX6_keepLive 0 rfl) rfl rfl rfl ?_
  refine g_getf (C' := RX6) (T := TX6) (N := 6) (v := .int (VS_snaps v0)) C 0 4 (gIn iw_X6) rfl rfl (by decide) (gMem fl_X6_42) rfl rfl (tdec DX6_keepLive 1 rfl) rfl ?_
  refine g_istore_n (L' := [(3, .int (VS_snaps v0)), (0, .ref v_0), (1, .long p1)]) C (tdec DX6_keepLive 2 rfl) rfl (by decide) rfl rfl ?_
  refine g_aload_n (z := 1) C (tdec DX6_keepLive 3 rfl) rfl rfl rfl ?_
  refine g_getf (C' := RX6) (T := TX6) (N := 6) (v := .ref v_5) C 0 0 (gIn iw_X6) rfl rfl (by decide) (gMem fl_X6_12) rfl rfl (tdec DX6_keepLive 4 rfl) rfl ?_
  refine g_sipush (v := 4802) C (tdec DX6_keepLive 5 rfl) (by decide) rfl ?_
  refine g_iload_n (z := 0) C (tdec DX6_keepLive 6 rfl) rfl rfl rfl ?_
  refine g_iadd C (tdec DX6_keepLive 7 rfl) rfl ?_
  refine g_aload_n (z := 1) C (tdec DX6_keepLive 8 rfl) rfl rfl rfl ?_
  refine g_getf (C' := RX6) (T := TX6) (N := 6) (v := .ref v_5) C 0 0 (gIn iw_X6) rfl rfl (by decide) (gMem fl_X6_12) rfl rfl (tdec DX6_keepLive 9 rfl) rfl ?_
  refine g_sipush (v := 4800) C (tdec DX6_keepLive 10 rfl) (by decide) rfl ?_
  obtain ⟨r1, y2, hF⟩ := o_bind hF
  refine g_callViR (q0 := 5) C (c_X0_told l D cB cI cJ cZ v_5 v_6 v_7 v_8 v_9 v_10 v_11 v_12 v_13 v_14 v_15 v_16 v_17 v_18 v_19 y2) rfl rfl (gIV ml_X6_63 im_X0_told sl_X0_told in_X0 cd_X0_told) rfl eX0_told rfl ⟨rfl, rfl⟩ ⟨Nat.le_of_ble_eq_true rfl, Nat.le_of_ble_eq_true rfl⟩ rfl [5, 6, 7, 8, 9, 10, 11, 12, 13, 14, 15, 16, 17, 18, 19] rfl rfl rfl (Nat.le_of_ble_eq_true rfl) (tdec DX6_keepLive 11 rfl) rfl ?_
  refine g_aload_n (z := 1) C (tdec DX6_keepLive 12 rfl) rfl rfl rfl ?_
  refine g_getf (C' := RX6) (T := TX6) (N := 6) (v := .ref v_5) C 0 0 (gIn iw_X6) rfl rfl (by decide) (gMem fl_X6_12) rfl rfl (tdec DX6_keepLive 13 rfl) rfl ?_
  refine g_sipush (v := 4800) C (tdec DX6_keepLive 14 rfl) (by decide) rfl ?_
  obtain ⟨r3, y4, hF⟩ := o_bind hF
  refine g_callViR (q0 := 5) C (c_X0_birth l D cB cI cJ cZ v_5 v_6 v_7 v_8 v_9 v_10 v_11 v_12 v_13 v_14 v_15 v_16 v_17 v_18 v_19 y4) rfl rfl (gIV ml_X6_102 im_X0_birth sl_X0_birth in_X0 cd_X0_birth) rfl eX0_birth rfl ⟨rfl, rfl⟩ ⟨Nat.le_of_ble_eq_true rfl, Nat.le_of_ble_eq_true rfl⟩ rfl [5, 6, 7, 8, 9, 10, 11, 12, 13, 14, 15, 16, 17, 18, 19] rfl rfl rfl (Nat.le_of_ble_eq_true rfl) (tdec DX6_keepLive 15 rfl) rfl ?_
  obtain ⟨s5, y6, hF⟩ := o_bind hF
  refine g_callVvM (q0 := 5) (W' := wV cI cJ v_0 v_1 v_2 v_3 v_4 v_5 v_6 v_7 v_8 v_9 v_10 v_11 v_12 v_13 v_14 v_15 v_16 v_17 v_18 v_19 (VS_setb v0 s5)) C (c_X0_point l D cB cI cJ cZ v_5 v_6 v_7 v_8 v_9 v_10 v_11 v_12 v_13 v_14 v_15 v_16 v_17 v_18 v_19 y6) rfl rfl (gIV ml_X6_88 im_X0_point sl_X0_point in_X0 cd_X0_point) rfl eX0_point rfl ⟨rfl, rfl⟩ ⟨Nat.le_of_ble_eq_true rfl, Nat.le_of_ble_eq_true rfl⟩ rfl [5, 6, 7, 8, 9, 10, 11, 12, 13, 14, 15, 16, 17, 18, 19] rfl rfl rfl rfl rfl rfl (Nat.le_of_ble_eq_true rfl) (tdec DX6_keepLive 16 rfl) rfl ?_
  refine g_aload_n (z := 1) C (tdec DX6_keepLive 17 rfl) rfl rfl rfl ?_
  refine g_getf (C' := RX6) (T := TX6) (N := 6) (v := .ref v_1) C 0 1 (gIn iw_X6) rfl rfl (by decide) (gMem fl_X6_23) rfl rfl (tdec DX6_keepLive 18 rfl) rfl ?_
  refine g_iload_n (z := 0) C (tdec DX6_keepLive 19 rfl) rfl rfl rfl ?_
  refine g_lload_n (z := 2) C (tdec DX6_keepLive 20 rfl) rfl rfl rfl ?_
  obtain ⟨s7, y8, hF⟩ := o_bind hF
  refine g_callVvM (q0 := 1) (W' := wV cI cJ v_0 v_1 v_2 v_3 v_4 v_5 v_6 v_7 v_8 v_9 v_10 v_11 v_12 v_13 v_14 v_15 v_16 v_17 v_18 v_19 (VS_setmk (VS_setb v0 s5) s7)) C (c_X2_put l D cB cI cJ cZ v_1 v_2 y8) rfl rfl (gIV ml_X6_105 im_X2_put sl_X2_put in_X2 cd_X2_put) rfl eX2_put rfl ⟨rfl, rfl⟩ ⟨Nat.le_of_ble_eq_true rfl, Nat.le_of_ble_eq_true rfl⟩ rfl [1, 2] rfl rfl rfl rfl rfl rfl (Nat.le_of_ble_eq_true rfl) (tdec DX6_keepLive 21 rfl) rfl ?_
  refine g_aload_n (z := 1) C (tdec DX6_keepLive 22 rfl) rfl rfl rfl ?_
  refine g_getf (C' := RX6) (T := TX6) (N := 6) (v := .ref v_3) C 0 2 (gIn iw_X6) rfl rfl (by decide) (gMem fl_X6_30) rfl rfl (tdec DX6_keepLive 23 rfl) rfl ?_
  refine g_iload_n (z := 0) C (tdec DX6_keepLive 24 rfl) rfl rfl rfl ?_
  refine g_aload_n (z := 1) C (tdec DX6_keepLive 25 rfl) rfl rfl rfl ?_
  refine g_getf (C' := RX6) (T := TX6) (N := 6) (v := .int (VS_gen v0)) C 0 3 (gIn iw_X6) rfl rfl (by decide) (gMem fl_X6_38) rfl rfl (tdec DX6_keepLive 26 rfl) rfl ?_
  obtain ⟨s9, y10, hF⟩ := o_bind hF
  refine g_callVvM (q0 := 3) (W' := wV cI cJ v_0 v_1 v_2 v_3 v_4 v_5 v_6 v_7 v_8 v_9 v_10 v_11 v_12 v_13 v_14 v_15 v_16 v_17 v_18 v_19 (VS_setgn (VS_setmk (VS_setb v0 s5) s7) s9)) C (c_X1_put l D cB cI cJ cZ v_3 v_4 y10) rfl rfl (gIV ml_X6_108 im_X1_put sl_X1_put in_X1 cd_X1_put) rfl eX1_put rfl ⟨rfl, rfl⟩ ⟨Nat.le_of_ble_eq_true rfl, Nat.le_of_ble_eq_true rfl⟩ rfl [3, 4] rfl rfl rfl rfl rfl rfl (Nat.le_of_ble_eq_true rfl) (tdec DX6_keepLive 27 rfl) rfl ?_
  refine g_aload_n (z := 1) C (tdec DX6_keepLive 28 rfl) rfl rfl rfl ?_
  refine g_dup C (tdec DX6_keepLive 29 rfl) rfl rfl ?_
  refine g_getf (C' := RX6) (T := TX6) (N := 6) (v := .int (VS_snaps v0)) C 0 4 (gIn iw_X6) rfl rfl (by decide) (gMem fl_X6_42) rfl rfl (tdec DX6_keepLive 30 rfl) rfl ?_
  refine g_iconst (v := 1) C (tdec DX6_keepLive 31 rfl) (by decide) rfl ?_
  refine g_iadd C (tdec DX6_keepLive 32 rfl) rfl ?_
  refine g_putf (C' := RX6) (T := TX6) (N := 6) (v := .int ((VS_snaps v0) + 1)) (ws' := wV cI cJ v_0 v_1 v_2 v_3 v_4 v_5 v_6 v_7 v_8 v_9 v_10 v_11 v_12 v_13 v_14 v_15 v_16 v_17 v_18 v_19 (VS_setsnaps (VS_setgn (VS_setmk (VS_setb v0 s5) s7) s9) ((VS_snaps v0) + 1))) C 0 4 tyX6 tyX6_ok nmX6 (gIn iw_X6) rfl rfl (by decide) (gMem fl_X6_42) rfl rfl (tyX6_ok 4 (by decide)) rfl rfl (Nat.le_of_ble_eq_true rfl) rfl (tdec DX6_keepLive 33 rfl) rfl ?_
  refine g_aload_n (z := 1) C (tdec DX6_keepLive 34 rfl) rfl rfl rfl ?_
  refine g_dup C (tdec DX6_keepLive 35 rfl) rfl rfl ?_
  refine g_getf (C' := RX6) (T := TX6) (N := 6) (v := .int (VS_gen v0)) C 0 3 (gIn iw_X6) rfl rfl (by decide) (gMem fl_X6_38) rfl rfl (tdec DX6_keepLive 36 rfl) rfl ?_
  refine g_iconst (v := 1) C (tdec DX6_keepLive 37 rfl) (by decide) rfl ?_
  refine g_iadd C (tdec DX6_keepLive 38 rfl) rfl ?_
  refine g_putf (C' := RX6) (T := TX6) (N := 6) (v := .int ((VS_gen v0) + 1)) (ws' := wV cI cJ v_0 v_1 v_2 v_3 v_4 v_5 v_6 v_7 v_8 v_9 v_10 v_11 v_12 v_13 v_14 v_15 v_16 v_17 v_18 v_19 (VS_setgen (VS_setsnaps (VS_setgn (VS_setmk (VS_setb v0 s5) s7) s9) ((VS_snaps v0) + 1)) ((VS_gen v0) + 1))) C 0 3 tyX6 tyX6_ok nmX6 (gIn iw_X6) rfl rfl (by decide) (gMem fl_X6_38) rfl rfl (tyX6_ok 3 (by decide)) rfl rfl (Nat.le_of_ble_eq_true rfl) rfl (tdec DX6_keepLive 39 rfl) rfl ?_
  refine g_iload_n (z := 0) C (tdec DX6_keepLive 40 rfl) rfl rfl rfl ?_
  have hr9 := o_some hF
  subst hr9
  exact g_iret C rfl rfl (tdec DX6_keepLive 41 rfl)
def FX6_keepHidden (v0 : VS) (p1 : Int64) : Option (VS) :=
  (FX0_told (VS_b v0) 4801).bind fun r1 =>
  (FX0_birth (VS_b v0) 4801).bind fun r3 =>
  (FX0_point (VS_b v0) 4800 r1 r3).bind fun s5 =>
  (FX6_keepLive (VS_setb v0 s5) p1).bind fun (r7, s8) =>
  (FX0_point (VS_b s8) 4801 (-1) 0).bind fun s10 =>
  some (VS_setbusy (VS_setb s8 s10) 0)
def rX6_keepHidden : Room := { frames := 3, cells := 0, slots := 0, locals := 69 }
set_option maxHeartbeats 4000000 in
set_option maxRecDepth 100000 in
theorem c_X6_keepHidden (l : Launch) (D : va_G) (cB cI cJ cZ : ClassId) (v_0 v_1 v_2 v_3 v_4 v_5 v_6 v_7 v_8 v_9 v_10 v_11 v_12 v_13 v_14 v_15 v_16 v_17 v_18 v_19 : Nat) {v0 : VS} {p1 : Int64} {res : VS} (hF : FX6_keepHidden v0 p1 = some res) : gMv l yX6_keepHidden wsX6_keepHidden rX6_keepHidden D (gT cB cI cJ cZ) [.ref v_0, .long p1] (wV cI cJ v_0 v_1 v_2 v_3 v_4 v_5 v_6 v_7 v_8 v_9 v_10 v_11 v_12 v_13 v_14 v_15 v_16 v_17 v_18 v_19 v0) (wV cI cJ v_0 v_1 v_2 v_3 v_4 v_5 v_6 v_7 v_8 v_9 v_10 v_11 v_12 v_13 v_14 v_15 v_16 v_17 v_18 v_19 res) := by
  refine g_enter (own := RX6) (free := (fun sz => va_A (wV cI cJ v_0 v_1 v_2 v_3 v_4 v_5 v_6 v_7 v_8 v_9 v_10 v_11 v_12 v_13 v_14 v_15 v_16 v_17 v_18 v_19 v0) sz)) (Qc := (fun sz => gQv D (wV cI cJ v_0 v_1 v_2 v_3 v_4 v_5 v_6 v_7 v_8 v_9 v_10 v_11 v_12 v_13 v_14 v_15 v_16 v_17 v_18 v_19 v0) sz (wV cI cJ v_0 v_1 v_2 v_3 v_4 v_5 v_6 v_7 v_8 v_9 v_10 v_11 v_12 v_13 v_14 v_15 v_16 v_17 v_18 v_19 res))) (fun sz => va_A (wV cI cJ v_0 v_1 v_2 v_3 v_4 v_5 v_6 v_7 v_8 v_9 v_10 v_11 v_12 v_13 v_14 v_15 v_16 v_17 v_18 v_19 v0) sz) (fun sz => Or.inr rfl) rfl (by decide) rfl (Nat.le_of_ble_eq_true rfl) rfl ?_
  intro p e s m args below meth c C
  unfold FX6_keepHidden at hF
  refine g_aload_n (z := 0) C (tdec DX6_keepHidden 0 rfl) rfl rfl rfl ?_
  refine g_getf (C' := RX6) (T := TX6) (N := 6) (v := .ref v_5) C 0 0 (gIn iw_X6) rfl rfl (by decide) (gMem fl_X6_12) rfl rfl (tdec DX6_keepHidden 1 rfl) rfl ?_
  refine g_sipush (v := 4800) C (tdec DX6_keepHidden 2 rfl) (by decide) rfl ?_
  refine g_aload_n (z := 0) C (tdec DX6_keepHidden 3 rfl) rfl rfl rfl ?_
  refine g_getf (C' := RX6) (T := TX6) (N := 6) (v := .ref v_5) C 0 0 (gIn iw_X6) rfl rfl (by decide) (gMem fl_X6_12) rfl rfl (tdec DX6_keepHidden 4 rfl) rfl ?_
  refine g_sipush (v := 4801) C (tdec DX6_keepHidden 5 rfl) (by decide) rfl ?_
  obtain ⟨r1, y2, hF⟩ := o_bind hF
  refine g_callViR (q0 := 5) C (c_X0_told l D cB cI cJ cZ v_5 v_6 v_7 v_8 v_9 v_10 v_11 v_12 v_13 v_14 v_15 v_16 v_17 v_18 v_19 y2) rfl rfl (gIV ml_X6_63 im_X0_told sl_X0_told in_X0 cd_X0_told) rfl eX0_told rfl ⟨rfl, rfl⟩ ⟨Nat.le_of_ble_eq_true rfl, Nat.le_of_ble_eq_true rfl⟩ rfl [5, 6, 7, 8, 9, 10, 11, 12, 13, 14, 15, 16, 17, 18, 19] rfl rfl rfl (Nat.le_of_ble_eq_true rfl) (tdec DX6_keepHidden 6 rfl) rfl ?_
  refine g_aload_n (z := 0) C (tdec DX6_keepHidden 7 rfl) rfl rfl rfl ?_
  refine g_getf (C' := RX6) (T := TX6) (N := 6) (v := .ref v_5) C 0 0 (gIn iw_X6) rfl rfl (by decide) (gMem fl_X6_12) rfl rfl (tdec DX6_keepHidden 8 rfl) rfl ?_
  refine g_sipush (v := 4801) C (tdec DX6_keepHidden 9 rfl) (by decide) rfl ?_
  obtain ⟨r3, y4, hF⟩ := o_bind hF
  refine g_callViR (q0 := 5) C (c_X0_birth l D cB cI cJ cZ v_5 v_6 v_7 v_8 v_9 v_10 v_11 v_12 v_13 v_14 v_15 v_16 v_17 v_18 v_19 y4) rfl rfl (gIV ml_X6_102 im_X0_birth sl_X0_birth in_X0 cd_X0_birth) rfl eX0_birth rfl ⟨rfl, rfl⟩ ⟨Nat.le_of_ble_eq_true rfl, Nat.le_of_ble_eq_true rfl⟩ rfl [5, 6, 7, 8, 9, 10, 11, 12, 13, 14, 15, 16, 17, 18, 19] rfl rfl rfl (Nat.le_of_ble_eq_true rfl) (tdec DX6_keepHidden 10 rfl) rfl ?_
  obtain ⟨s5, y6, hF⟩ := o_bind hF
  refine g_callVvM (q0 := 5) (W' := wV cI cJ v_0 v_1 v_2 v_3 v_4 v_5 v_6 v_7 v_8 v_9 v_10 v_11 v_12 v_13 v_14 v_15 v_16 v_17 v_18 v_19 (VS_setb v0 s5)) C (c_X0_point l D cB cI cJ cZ v_5 v_6 v_7 v_8 v_9 v_10 v_11 v_12 v_13 v_14 v_15 v_16 v_17 v_18 v_19 y6) rfl rfl (gIV ml_X6_88 im_X0_point sl_X0_point in_X0 cd_X0_point) rfl eX0_point rfl ⟨rfl, rfl⟩ ⟨Nat.le_of_ble_eq_true rfl, Nat.le_of_ble_eq_true rfl⟩ rfl [5, 6, 7, 8, 9, 10, 11, 12, 13, 14, 15, 16, 17, 18, 19] rfl rfl rfl rfl rfl rfl (Nat.le_of_ble_eq_true rfl) (tdec DX6_keepHidden 11 rfl) rfl ?_
  refine g_aload_n (z := 0) C (tdec DX6_keepHidden 12 rfl) rfl rfl rfl ?_
  refine g_lload_n (z := 1) C (tdec DX6_keepHidden 13 rfl) rfl rfl rfl ?_
  obtain ⟨⟨r7, s8⟩, y9, hF⟩ := o_bind hF
  refine g_callViM (q0 := 0) (W' := wV cI cJ v_0 v_1 v_2 v_3 v_4 v_5 v_6 v_7 v_8 v_9 v_10 v_11 v_12 v_13 v_14 v_15 v_16 v_17 v_18 v_19 s8) C (c_X6_keepLive l D cB cI cJ cZ v_0 v_1 v_2 v_3 v_4 v_5 v_6 v_7 v_8 v_9 v_10 v_11 v_12 v_13 v_14 v_15 v_16 v_17 v_18 v_19 y9) rfl rfl (gIV ml_X6_111 im_X6_keepLive sl_X6_keepLive in_X6 cd_X6_keepLive) rfl eX6_keepLive rfl ⟨rfl, rfl⟩ ⟨Nat.le_of_ble_eq_true rfl, Nat.le_of_ble_eq_true rfl⟩ rfl [0, 1, 2, 3, 4, 5, 6, 7, 8, 9, 10, 11, 12, 13, 14, 15, 16, 17, 18, 19] rfl rfl rfl rfl rfl rfl (Nat.le_of_ble_eq_true rfl) (tdec DX6_keepHidden 14 rfl) rfl ?_
  refine g_pop C (tdec DX6_keepHidden 15 rfl) rfl rfl ?_
  refine g_aload_n (z := 0) C (tdec DX6_keepHidden 16 rfl) rfl rfl rfl ?_
  refine g_getf (C' := RX6) (T := TX6) (N := 6) (v := .ref v_5) C 0 0 (gIn iw_X6) rfl rfl (by decide) (gMem fl_X6_12) rfl rfl (tdec DX6_keepHidden 17 rfl) rfl ?_
  refine g_sipush (v := 4801) C (tdec DX6_keepHidden 18 rfl) (by decide) rfl ?_
  refine g_iconst (v := (-1)) C (tdec DX6_keepHidden 19 rfl) (by decide) rfl ?_
  refine g_iconst (v := 0) C (tdec DX6_keepHidden 20 rfl) (by decide) rfl ?_
  obtain ⟨s10, y11, hF⟩ := o_bind hF
  refine g_callVvM (q0 := 5) (W' := wV cI cJ v_0 v_1 v_2 v_3 v_4 v_5 v_6 v_7 v_8 v_9 v_10 v_11 v_12 v_13 v_14 v_15 v_16 v_17 v_18 v_19 (VS_setb s8 s10)) C (c_X0_point l D cB cI cJ cZ v_5 v_6 v_7 v_8 v_9 v_10 v_11 v_12 v_13 v_14 v_15 v_16 v_17 v_18 v_19 y11) rfl rfl (gIV ml_X6_88 im_X0_point sl_X0_point in_X0 cd_X0_point) rfl eX0_point rfl ⟨rfl, rfl⟩ ⟨Nat.le_of_ble_eq_true rfl, Nat.le_of_ble_eq_true rfl⟩ rfl [5, 6, 7, 8, 9, 10, 11, 12, 13, 14, 15, 16, 17, 18, 19] rfl rfl rfl rfl rfl rfl (Nat.le_of_ble_eq_true rfl) (tdec DX6_keepHidden 21 rfl) rfl ?_
  refine g_aload_n (z := 0) C (tdec DX6_keepHidden 22 rfl) rfl rfl rfl ?_
  refine g_iconst (v := 0) C (tdec DX6_keepHidden 23 rfl) (by decide) rfl ?_
  refine g_putf (C' := RX6) (T := TX6) (N := 6) (v := .int 0) (ws' := wV cI cJ v_0 v_1 v_2 v_3 v_4 v_5 v_6 v_7 v_8 v_9 v_10 v_11 v_12 v_13 v_14 v_15 v_16 v_17 v_18 v_19 (VS_setbusy (VS_setb s8 s10) 0)) C 0 5 tyX6 tyX6_ok nmX6 (gIn iw_X6) rfl rfl (by decide) (gMem fl_X6_45) rfl rfl (tyX6_ok 5 (by decide)) rfl rfl (Nat.le_of_ble_eq_true rfl) rfl (tdec DX6_keepHidden 24 rfl) rfl ?_
  have hr9 := o_some hF
  subst hr9
  exact g_vret C rfl (tdec DX6_keepHidden 25 rfl)
def FX6_settle (v0 : VS) : Option (VS) :=
  (FX0_settle (VS_b v0)).bind fun s1 =>
  some (VS_setb v0 s1)
def rX6_settle : Room := { frames := 3, cells := 0, slots := 0, locals := 69 }
set_option maxHeartbeats 4000000 in
set_option maxRecDepth 100000 in
theorem c_X6_settle (l : Launch) (D : va_G) (cB cI cJ cZ : ClassId) (v_0 v_1 v_2 v_3 v_4 v_5 v_6 v_7 v_8 v_9 v_10 v_11 v_12 v_13 v_14 v_15 v_16 v_17 v_18 v_19 : Nat) {v0 : VS} {res : VS} (hF : FX6_settle v0 = some res) : gMv l yX6_settle wsX6_settle rX6_settle D (gT cB cI cJ cZ) [.ref v_0] (wV cI cJ v_0 v_1 v_2 v_3 v_4 v_5 v_6 v_7 v_8 v_9 v_10 v_11 v_12 v_13 v_14 v_15 v_16 v_17 v_18 v_19 v0) (wV cI cJ v_0 v_1 v_2 v_3 v_4 v_5 v_6 v_7 v_8 v_9 v_10 v_11 v_12 v_13 v_14 v_15 v_16 v_17 v_18 v_19 res) := by
  refine g_enter (own := RX6) (free := (fun sz => va_A (wV cI cJ v_0 v_1 v_2 v_3 v_4 v_5 v_6 v_7 v_8 v_9 v_10 v_11 v_12 v_13 v_14 v_15 v_16 v_17 v_18 v_19 v0) sz)) (Qc := (fun sz => gQv D (wV cI cJ v_0 v_1 v_2 v_3 v_4 v_5 v_6 v_7 v_8 v_9 v_10 v_11 v_12 v_13 v_14 v_15 v_16 v_17 v_18 v_19 v0) sz (wV cI cJ v_0 v_1 v_2 v_3 v_4 v_5 v_6 v_7 v_8 v_9 v_10 v_11 v_12 v_13 v_14 v_15 v_16 v_17 v_18 v_19 res))) (fun sz => va_A (wV cI cJ v_0 v_1 v_2 v_3 v_4 v_5 v_6 v_7 v_8 v_9 v_10 v_11 v_12 v_13 v_14 v_15 v_16 v_17 v_18 v_19 v0) sz) (fun sz => Or.inr rfl) rfl (by decide) rfl (Nat.le_of_ble_eq_true rfl) rfl ?_
  intro p e s m args below meth c C
  unfold FX6_settle at hF
  refine g_aload_n (z := 0) C (tdec DX6_settle 0 rfl) rfl rfl rfl ?_
  refine g_getf (C' := RX6) (T := TX6) (N := 6) (v := .ref v_5) C 0 0 (gIn iw_X6) rfl rfl (by decide) (gMem fl_X6_12) rfl rfl (tdec DX6_settle 1 rfl) rfl ?_
  obtain ⟨s1, y2, hF⟩ := o_bind hF
  refine g_callVvM (q0 := 5) (W' := wV cI cJ v_0 v_1 v_2 v_3 v_4 v_5 v_6 v_7 v_8 v_9 v_10 v_11 v_12 v_13 v_14 v_15 v_16 v_17 v_18 v_19 (VS_setb v0 s1)) C (c_X0_settle l D cB cI cJ cZ v_5 v_6 v_7 v_8 v_9 v_10 v_11 v_12 v_13 v_14 v_15 v_16 v_17 v_18 v_19 y2) rfl rfl (gIV ml_X6_56 im_X0_settle sl_X0_settle in_X0 cd_X0_settle) rfl eX0_settle rfl ⟨rfl, rfl⟩ ⟨Nat.le_of_ble_eq_true rfl, Nat.le_of_ble_eq_true rfl⟩ rfl [5, 6, 7, 8, 9, 10, 11, 12, 13, 14, 15, 16, 17, 18, 19] rfl rfl rfl rfl rfl rfl (Nat.le_of_ble_eq_true rfl) (tdec DX6_settle 2 rfl) rfl ?_
  have hr9 := o_some hF
  subst hr9
  exact g_vret C rfl (tdec DX6_settle 3 rfl)
def FX6_dropHidden (v0 : VS) : Option (VS) :=
  (FX0_point (VS_b v0) 4801 (-1) 0).bind fun s1 =>
  (FX0_settle s1).bind fun s3 =>
  some (VS_setbusy (VS_setb (VS_setb v0 s1) s3) 0)
def rX6_dropHidden : Room := { frames := 3, cells := 0, slots := 0, locals := 69 }
set_option maxHeartbeats 4000000 in
set_option maxRecDepth 100000 in
theorem c_X6_dropHidden (l : Launch) (D : va_G) (cB cI cJ cZ : ClassId) (v_0 v_1 v_2 v_3 v_4 v_5 v_6 v_7 v_8 v_9 v_10 v_11 v_12 v_13 v_14 v_15 v_16 v_17 v_18 v_19 : Nat) {v0 : VS} {res : VS} (hF : FX6_dropHidden v0 = some res) : gMv l yX6_dropHidden wsX6_dropHidden rX6_dropHidden D (gT cB cI cJ cZ) [.ref v_0] (wV cI cJ v_0 v_1 v_2 v_3 v_4 v_5 v_6 v_7 v_8 v_9 v_10 v_11 v_12 v_13 v_14 v_15 v_16 v_17 v_18 v_19 v0) (wV cI cJ v_0 v_1 v_2 v_3 v_4 v_5 v_6 v_7 v_8 v_9 v_10 v_11 v_12 v_13 v_14 v_15 v_16 v_17 v_18 v_19 res) := by
  refine g_enter (own := RX6) (free := (fun sz => va_A (wV cI cJ v_0 v_1 v_2 v_3 v_4 v_5 v_6 v_7 v_8 v_9 v_10 v_11 v_12 v_13 v_14 v_15 v_16 v_17 v_18 v_19 v0) sz)) (Qc := (fun sz => gQv D (wV cI cJ v_0 v_1 v_2 v_3 v_4 v_5 v_6 v_7 v_8 v_9 v_10 v_11 v_12 v_13 v_14 v_15 v_16 v_17 v_18 v_19 v0) sz (wV cI cJ v_0 v_1 v_2 v_3 v_4 v_5 v_6 v_7 v_8 v_9 v_10 v_11 v_12 v_13 v_14 v_15 v_16 v_17 v_18 v_19 res))) (fun sz => va_A (wV cI cJ v_0 v_1 v_2 v_3 v_4 v_5 v_6 v_7 v_8 v_9 v_10 v_11 v_12 v_13 v_14 v_15 v_16 v_17 v_18 v_19 v0) sz) (fun sz => Or.inr rfl) rfl (by decide) rfl (Nat.le_of_ble_eq_true rfl) rfl ?_
  intro p e s m args below meth c C
  unfold FX6_dropHidden at hF
  refine g_aload_n (z := 0) C (tdec DX6_dropHidden 0 rfl) rfl rfl rfl ?_
  refine g_getf (C' := RX6) (T := TX6) (N := 6) (v := .ref v_5) C 0 0 (gIn iw_X6) rfl rfl (by decide) (gMem fl_X6_12) rfl rfl (tdec DX6_dropHidden 1 rfl) rfl ?_
  refine g_sipush (v := 4801) C (tdec DX6_dropHidden 2 rfl) (by decide) rfl ?_
  refine g_iconst (v := (-1)) C (tdec DX6_dropHidden 3 rfl) (by decide) rfl ?_
  refine g_iconst (v := 0) C (tdec DX6_dropHidden 4 rfl) (by decide) rfl ?_
  obtain ⟨s1, y2, hF⟩ := o_bind hF
  refine g_callVvM (q0 := 5) (W' := wV cI cJ v_0 v_1 v_2 v_3 v_4 v_5 v_6 v_7 v_8 v_9 v_10 v_11 v_12 v_13 v_14 v_15 v_16 v_17 v_18 v_19 (VS_setb v0 s1)) C (c_X0_point l D cB cI cJ cZ v_5 v_6 v_7 v_8 v_9 v_10 v_11 v_12 v_13 v_14 v_15 v_16 v_17 v_18 v_19 y2) rfl rfl (gIV ml_X6_88 im_X0_point sl_X0_point in_X0 cd_X0_point) rfl eX0_point rfl ⟨rfl, rfl⟩ ⟨Nat.le_of_ble_eq_true rfl, Nat.le_of_ble_eq_true rfl⟩ rfl [5, 6, 7, 8, 9, 10, 11, 12, 13, 14, 15, 16, 17, 18, 19] rfl rfl rfl rfl rfl rfl (Nat.le_of_ble_eq_true rfl) (tdec DX6_dropHidden 5 rfl) rfl ?_
  refine g_aload_n (z := 0) C (tdec DX6_dropHidden 6 rfl) rfl rfl rfl ?_
  refine g_getf (C' := RX6) (T := TX6) (N := 6) (v := .ref v_5) C 0 0 (gIn iw_X6) rfl rfl (by decide) (gMem fl_X6_12) rfl rfl (tdec DX6_dropHidden 7 rfl) rfl ?_
  obtain ⟨s3, y4, hF⟩ := o_bind hF
  refine g_callVvM (q0 := 5) (W' := wV cI cJ v_0 v_1 v_2 v_3 v_4 v_5 v_6 v_7 v_8 v_9 v_10 v_11 v_12 v_13 v_14 v_15 v_16 v_17 v_18 v_19 (VS_setb (VS_setb v0 s1) s3)) C (c_X0_settle l D cB cI cJ cZ v_5 v_6 v_7 v_8 v_9 v_10 v_11 v_12 v_13 v_14 v_15 v_16 v_17 v_18 v_19 y4) rfl rfl (gIV ml_X6_56 im_X0_settle sl_X0_settle in_X0 cd_X0_settle) rfl eX0_settle rfl ⟨rfl, rfl⟩ ⟨Nat.le_of_ble_eq_true rfl, Nat.le_of_ble_eq_true rfl⟩ rfl [5, 6, 7, 8, 9, 10, 11, 12, 13, 14, 15, 16, 17, 18, 19] rfl rfl rfl rfl rfl rfl (Nat.le_of_ble_eq_true rfl) (tdec DX6_dropHidden 8 rfl) rfl ?_
  refine g_aload_n (z := 0) C (tdec DX6_dropHidden 9 rfl) rfl rfl rfl ?_
  refine g_iconst (v := 0) C (tdec DX6_dropHidden 10 rfl) (by decide) rfl ?_
  refine g_putf (C' := RX6) (T := TX6) (N := 6) (v := .int 0) (ws' := wV cI cJ v_0 v_1 v_2 v_3 v_4 v_5 v_6 v_7 v_8 v_9 v_10 v_11 v_12 v_13 v_14 v_15 v_16 v_17 v_18 v_19 (VS_setbusy (VS_setb (VS_setb v0 s1) s3) 0)) C 0 5 tyX6 tyX6_ok nmX6 (gIn iw_X6) rfl rfl (by decide) (gMem fl_X6_45) rfl rfl (tyX6_ok 5 (by decide)) rfl rfl (Nat.le_of_ble_eq_true rfl) rfl (tdec DX6_dropHidden 11 rfl) rfl ?_
  have hr9 := o_some hF
  subst hr9
  exact g_vret C rfl (tdec DX6_dropHidden 12 rfl)
def FX6_generationOf (v0 : VS) (p1 : Int32) : Option (Int32) :=
  (FX1_at 20 (VS_gn v0) p1).bind fun r1 =>
  some r1
def rX6_generationOf : Room := { frames := 1, cells := 0, slots := 0, locals := 21 }
set_option maxHeartbeats 4000000 in
set_option maxRecDepth 100000 in
theorem c_X6_generationOf (l : Launch) (D : va_G) (cB cI cJ cZ : ClassId) (v_0 v_1 v_2 v_3 v_4 v_5 v_6 v_7 v_8 v_9 v_10 v_11 v_12 v_13 v_14 v_15 v_16 v_17 v_18 v_19 : Nat) {v0 : VS} {p1 : Int32} {res : Int32} (hF : FX6_generationOf v0 p1 = some res) : gRi l yX6_generationOf wsX6_generationOf rX6_generationOf D (gT cB cI cJ cZ) [.ref v_0, .int p1] (wV cI cJ v_0 v_1 v_2 v_3 v_4 v_5 v_6 v_7 v_8 v_9 v_10 v_11 v_12 v_13 v_14 v_15 v_16 v_17 v_18 v_19 v0) res := by
  refine g_enter (own := RX6) (free := (fun _ _ => False)) (Qc := (fun sz => gRQi res)) (fun _ _ => True) (fun sz => Or.inl rfl) rfl (by decide) rfl (Nat.le_of_ble_eq_true rfl) rfl ?_
  intro p e s m args below meth c C
  unfold FX6_generationOf at hF
  refine g_aload_n (z := 0) C (tdec DX6_generationOf 0 rfl) rfl rfl rfl ?_
  refine g_getf (C' := RX6) (T := TX6) (N := 6) (v := .ref v_3) C 0 2 (gIn iw_X6) rfl rfl (by decide) (gMem fl_X6_30) rfl rfl (tdec DX6_generationOf 1 rfl) rfl ?_
  refine g_iload_n (z := 1) C (tdec DX6_generationOf 2 rfl) rfl rfl rfl ?_
  obtain ⟨r1, y2, hF⟩ := o_bind hF
  refine g_callViR (q0 := 3) C (c_X1_at l D cB cI cJ cZ v_3 v_4 y2) rfl rfl (gIV ml_X6_53 im_X1_at sl_X1_at in_X1 cd_X1_at) rfl eX1_at rfl ⟨rfl, rfl⟩ ⟨Nat.le_of_ble_eq_true rfl, Nat.le_of_ble_eq_true rfl⟩ rfl [3, 4] rfl rfl rfl (Nat.le_of_ble_eq_true rfl) (tdec DX6_generationOf 3 rfl) rfl ?_
  have hr9 := o_some hF
  subst hr9
  exact g_iretR C rfl (tdec DX6_generationOf 4 rfl)
def FX6_markOf (v0 : VS) (p1 : Int32) : Option (Int64) :=
  (FX2_at 20 (VS_mk v0) p1).bind fun r1 =>
  some r1
def rX6_markOf : Room := { frames := 1, cells := 0, slots := 0, locals := 21 }
set_option maxHeartbeats 4000000 in
set_option maxRecDepth 100000 in
theorem c_X6_markOf (l : Launch) (D : va_G) (cB cI cJ cZ : ClassId) (v_0 v_1 v_2 v_3 v_4 v_5 v_6 v_7 v_8 v_9 v_10 v_11 v_12 v_13 v_14 v_15 v_16 v_17 v_18 v_19 : Nat) {v0 : VS} {p1 : Int32} {res : Int64} (hF : FX6_markOf v0 p1 = some res) : gRl l yX6_markOf wsX6_markOf rX6_markOf D (gT cB cI cJ cZ) [.ref v_0, .int p1] (wV cI cJ v_0 v_1 v_2 v_3 v_4 v_5 v_6 v_7 v_8 v_9 v_10 v_11 v_12 v_13 v_14 v_15 v_16 v_17 v_18 v_19 v0) res := by
  refine g_enter (own := RX6) (free := (fun _ _ => False)) (Qc := (fun sz => gRQl res)) (fun _ _ => True) (fun sz => Or.inl rfl) rfl (by decide) rfl (Nat.le_of_ble_eq_true rfl) rfl ?_
  intro p e s m args below meth c C
  unfold FX6_markOf at hF
  refine g_aload_n (z := 0) C (tdec DX6_markOf 0 rfl) rfl rfl rfl ?_
  refine g_getf (C' := RX6) (T := TX6) (N := 6) (v := .ref v_1) C 0 1 (gIn iw_X6) rfl rfl (by decide) (gMem fl_X6_23) rfl rfl (tdec DX6_markOf 1 rfl) rfl ?_
  refine g_iload_n (z := 1) C (tdec DX6_markOf 2 rfl) rfl rfl rfl ?_
  obtain ⟨r1, y2, hF⟩ := o_bind hF
  refine g_callVlR (q0 := 1) C (c_X2_at l D cB cI cJ cZ v_1 v_2 y2) rfl rfl (gIV ml_X6_49 im_X2_at sl_X2_at in_X2 cd_X2_at) rfl eX2_at rfl ⟨rfl, rfl⟩ ⟨Nat.le_of_ble_eq_true rfl, Nat.le_of_ble_eq_true rfl⟩ rfl [1, 2] rfl rfl rfl (Nat.le_of_ble_eq_true rfl) (tdec DX6_markOf 3 rfl) rfl ?_
  have hr9 := o_some hF
  subst hr9
  exact g_lretR C rfl (tdec DX6_markOf 4 rfl)
def FX6_blocks (v0 : VS) : Option (Option Nat) :=
  some (some 0)
def rX6_blocks : Room := { frames := 0, cells := 0, slots := 0, locals := 0 }
set_option maxHeartbeats 4000000 in
set_option maxRecDepth 100000 in
theorem c_X6_blocks (l : Launch) (D : va_G) (cB cI cJ cZ : ClassId) (v_0 v_1 v_2 v_3 v_4 v_5 v_6 v_7 v_8 v_9 v_10 v_11 v_12 v_13 v_14 v_15 v_16 v_17 v_18 v_19 : Nat) {v0 : VS} {res : Option Nat} (hF : FX6_blocks v0 = some res) : gRq l yX6_blocks wsX6_blocks rX6_blocks D (gT cB cI cJ cZ) [.ref v_0] (wV cI cJ v_0 v_1 v_2 v_3 v_4 v_5 v_6 v_7 v_8 v_9 v_10 v_11 v_12 v_13 v_14 v_15 v_16 v_17 v_18 v_19 v0) (res.map fun _ => v_5) := by
  refine g_enter (own := RX6) (free := (fun _ _ => False)) (Qc := (fun sz => gRQq (res.map fun _ => v_5))) (fun _ _ => True) (fun sz => Or.inl rfl) rfl (by decide) rfl (Nat.le_of_ble_eq_true rfl) rfl ?_
  intro p e s m args below meth c C
  unfold FX6_blocks at hF
  refine g_aload_n (z := 0) C (tdec DX6_blocks 0 rfl) rfl rfl rfl ?_
  refine g_getf (C' := RX6) (T := TX6) (N := 6) (v := .ref v_5) C 0 0 (gIn iw_X6) rfl rfl (by decide) (gMem fl_X6_12) rfl rfl (tdec DX6_blocks 1 rfl) rfl ?_
  have hr9 := o_some hF
  subst hr9
  exact g_aretR C rfl (tdec DX6_blocks 2 rfl)
def FX6_startAnew (v0 : VS) (p1 : Int32) : Option (VS) :=
  (FX0_startAnew (VS_b v0) p1).bind fun s1 =>
  some (VS_setbusy (VS_setsnaps (VS_setgen (VS_setb v0 s1) 1) 0) 0)
def rX6_startAnew : Room := { frames := 3, cells := 0, slots := 0, locals := 65 }
set_option maxHeartbeats 4000000 in
set_option maxRecDepth 100000 in
theorem c_X6_startAnew (l : Launch) (D : va_G) (cB cI cJ cZ : ClassId) (v_0 v_1 v_2 v_3 v_4 v_5 v_6 v_7 v_8 v_9 v_10 v_11 v_12 v_13 v_14 v_15 v_16 v_17 v_18 v_19 : Nat) {v0 : VS} {p1 : Int32} {res : VS} (hF : FX6_startAnew v0 p1 = some res) : gMv l yX6_startAnew wsX6_startAnew rX6_startAnew D (gT cB cI cJ cZ) [.ref v_0, .int p1] (wV cI cJ v_0 v_1 v_2 v_3 v_4 v_5 v_6 v_7 v_8 v_9 v_10 v_11 v_12 v_13 v_14 v_15 v_16 v_17 v_18 v_19 v0) (wV cI cJ v_0 v_1 v_2 v_3 v_4 v_5 v_6 v_7 v_8 v_9 v_10 v_11 v_12 v_13 v_14 v_15 v_16 v_17 v_18 v_19 res) := by
  refine g_enter (own := RX6) (free := (fun sz => va_A (wV cI cJ v_0 v_1 v_2 v_3 v_4 v_5 v_6 v_7 v_8 v_9 v_10 v_11 v_12 v_13 v_14 v_15 v_16 v_17 v_18 v_19 v0) sz)) (Qc := (fun sz => gQv D (wV cI cJ v_0 v_1 v_2 v_3 v_4 v_5 v_6 v_7 v_8 v_9 v_10 v_11 v_12 v_13 v_14 v_15 v_16 v_17 v_18 v_19 v0) sz (wV cI cJ v_0 v_1 v_2 v_3 v_4 v_5 v_6 v_7 v_8 v_9 v_10 v_11 v_12 v_13 v_14 v_15 v_16 v_17 v_18 v_19 res))) (fun sz => va_A (wV cI cJ v_0 v_1 v_2 v_3 v_4 v_5 v_6 v_7 v_8 v_9 v_10 v_11 v_12 v_13 v_14 v_15 v_16 v_17 v_18 v_19 v0) sz) (fun sz => Or.inr rfl) rfl (by decide) rfl (Nat.le_of_ble_eq_true rfl) rfl ?_
  intro p e s m args below meth c C
  unfold FX6_startAnew at hF
  refine g_aload_n (z := 0) C (tdec DX6_startAnew 0 rfl) rfl rfl rfl ?_
  refine g_getf (C' := RX6) (T := TX6) (N := 6) (v := .ref v_5) C 0 0 (gIn iw_X6) rfl rfl (by decide) (gMem fl_X6_12) rfl rfl (tdec DX6_startAnew 1 rfl) rfl ?_
  refine g_iload_n (z := 1) C (tdec DX6_startAnew 2 rfl) rfl rfl rfl ?_
  obtain ⟨s1, y2, hF⟩ := o_bind hF
  refine g_callVvM (q0 := 5) (W' := wV cI cJ v_0 v_1 v_2 v_3 v_4 v_5 v_6 v_7 v_8 v_9 v_10 v_11 v_12 v_13 v_14 v_15 v_16 v_17 v_18 v_19 (VS_setb v0 s1)) C (c_X0_startAnew l D cB cI cJ cZ v_5 v_6 v_7 v_8 v_9 v_10 v_11 v_12 v_13 v_14 v_15 v_16 v_17 v_18 v_19 y2) rfl rfl (gIV ml_X6_37 im_X0_startAnew sl_X0_startAnew in_X0 cd_X0_startAnew) rfl eX0_startAnew rfl ⟨rfl, rfl⟩ ⟨Nat.le_of_ble_eq_true rfl, Nat.le_of_ble_eq_true rfl⟩ rfl [5, 6, 7, 8, 9, 10, 11, 12, 13, 14, 15, 16, 17, 18, 19] rfl rfl rfl rfl rfl rfl (Nat.le_of_ble_eq_true rfl) (tdec DX6_startAnew 3 rfl) rfl ?_
  refine g_aload_n (z := 0) C (tdec DX6_startAnew 4 rfl) rfl rfl rfl ?_
  refine g_iconst (v := 1) C (tdec DX6_startAnew 5 rfl) (by decide) rfl ?_
  refine g_putf (C' := RX6) (T := TX6) (N := 6) (v := .int 1) (ws' := wV cI cJ v_0 v_1 v_2 v_3 v_4 v_5 v_6 v_7 v_8 v_9 v_10 v_11 v_12 v_13 v_14 v_15 v_16 v_17 v_18 v_19 (VS_setgen (VS_setb v0 s1) 1)) C 0 3 tyX6 tyX6_ok nmX6 (gIn iw_X6) rfl rfl (by decide) (gMem fl_X6_38) rfl rfl (tyX6_ok 3 (by decide)) rfl rfl (Nat.le_of_ble_eq_true rfl) rfl (tdec DX6_startAnew 6 rfl) rfl ?_
  refine g_aload_n (z := 0) C (tdec DX6_startAnew 7 rfl) rfl rfl rfl ?_
  refine g_iconst (v := 0) C (tdec DX6_startAnew 8 rfl) (by decide) rfl ?_
  refine g_putf (C' := RX6) (T := TX6) (N := 6) (v := .int 0) (ws' := wV cI cJ v_0 v_1 v_2 v_3 v_4 v_5 v_6 v_7 v_8 v_9 v_10 v_11 v_12 v_13 v_14 v_15 v_16 v_17 v_18 v_19 (VS_setsnaps (VS_setgen (VS_setb v0 s1) 1) 0)) C 0 4 tyX6 tyX6_ok nmX6 (gIn iw_X6) rfl rfl (by decide) (gMem fl_X6_42) rfl rfl (tyX6_ok 4 (by decide)) rfl rfl (Nat.le_of_ble_eq_true rfl) rfl (tdec DX6_startAnew 9 rfl) rfl ?_
  refine g_aload_n (z := 0) C (tdec DX6_startAnew 10 rfl) rfl rfl rfl ?_
  refine g_iconst (v := 0) C (tdec DX6_startAnew 11 rfl) (by decide) rfl ?_
  refine g_putf (C' := RX6) (T := TX6) (N := 6) (v := .int 0) (ws' := wV cI cJ v_0 v_1 v_2 v_3 v_4 v_5 v_6 v_7 v_8 v_9 v_10 v_11 v_12 v_13 v_14 v_15 v_16 v_17 v_18 v_19 (VS_setbusy (VS_setsnaps (VS_setgen (VS_setb v0 s1) 1) 0) 0)) C 0 5 tyX6 tyX6_ok nmX6 (gIn iw_X6) rfl rfl (by decide) (gMem fl_X6_45) rfl rfl (tyX6_ok 5 (by decide)) rfl rfl (Nat.le_of_ble_eq_true rfl) rfl (tdec DX6_startAnew 12 rfl) rfl ?_
  have hr9 := o_some hF
  subst hr9
  exact g_vret C rfl (tdec DX6_startAnew 13 rfl)
def FX6_generation (v0 : VS) : Option (Int32) :=
  some (VS_gen v0)
def rX6_generation : Room := { frames := 0, cells := 0, slots := 0, locals := 0 }
set_option maxHeartbeats 4000000 in
set_option maxRecDepth 100000 in
theorem c_X6_generation (l : Launch) (D : va_G) (cB cI cJ cZ : ClassId) (v_0 v_1 v_2 v_3 v_4 v_5 v_6 v_7 v_8 v_9 v_10 v_11 v_12 v_13 v_14 v_15 v_16 v_17 v_18 v_19 : Nat) {v0 : VS} {res : Int32} (hF : FX6_generation v0 = some res) : gRi l yX6_generation wsX6_generation rX6_generation D (gT cB cI cJ cZ) [.ref v_0] (wV cI cJ v_0 v_1 v_2 v_3 v_4 v_5 v_6 v_7 v_8 v_9 v_10 v_11 v_12 v_13 v_14 v_15 v_16 v_17 v_18 v_19 v0) res := by
  refine g_enter (own := RX6) (free := (fun _ _ => False)) (Qc := (fun sz => gRQi res)) (fun _ _ => True) (fun sz => Or.inl rfl) rfl (by decide) rfl (Nat.le_of_ble_eq_true rfl) rfl ?_
  intro p e s m args below meth c C
  unfold FX6_generation at hF
  refine g_aload_n (z := 0) C (tdec DX6_generation 0 rfl) rfl rfl rfl ?_
  refine g_getf (C' := RX6) (T := TX6) (N := 6) (v := .int (VS_gen v0)) C 0 3 (gIn iw_X6) rfl rfl (by decide) (gMem fl_X6_38) rfl rfl (tdec DX6_generation 1 rfl) rfl ?_
  have hr9 := o_some hF
  subst hr9
  exact g_iretR C rfl (tdec DX6_generation 2 rfl)
def FX6_hasSnapshot (v0 : VS) (p1 : Int32) : Option (Int32) :=
  if p1 < 0 then
    some 0
  else
    if (VS_snaps v0) ≤ p1 then
      some 0
    else
      some 1
def rX6_hasSnapshot : Room := { frames := 0, cells := 0, slots := 0, locals := 0 }
set_option maxHeartbeats 4000000 in
set_option maxRecDepth 100000 in
theorem c_X6_hasSnapshot (l : Launch) (D : va_G) (cB cI cJ cZ : ClassId) (v_0 v_1 v_2 v_3 v_4 v_5 v_6 v_7 v_8 v_9 v_10 v_11 v_12 v_13 v_14 v_15 v_16 v_17 v_18 v_19 : Nat) {v0 : VS} {p1 : Int32} {res : Int32} (hF : FX6_hasSnapshot v0 p1 = some res) : gRi l yX6_hasSnapshot wsX6_hasSnapshot rX6_hasSnapshot D (gT cB cI cJ cZ) [.ref v_0, .int p1] (wV cI cJ v_0 v_1 v_2 v_3 v_4 v_5 v_6 v_7 v_8 v_9 v_10 v_11 v_12 v_13 v_14 v_15 v_16 v_17 v_18 v_19 v0) res := by
  refine g_enter (own := RX6) (free := (fun _ _ => False)) (Qc := (fun sz => gRQi res)) (fun _ _ => True) (fun sz => Or.inl rfl) rfl (by decide) rfl (Nat.le_of_ble_eq_true rfl) rfl ?_
  intro p e s m args below meth c C
  unfold FX6_hasSnapshot at hF
  refine g_iload_n (z := 1) C (tdec DX6_hasSnapshot 0 rfl) rfl rfl rfl ?_
  refine g_if_lt (pt := 16) C (tdec DX6_hasSnapshot 1 rfl) (by decide) rfl (fun h1 => ?_) (fun h1 => ?_)
  · have hF := o_ifp hF h1
    refine g_iconst (v := 0) C (tdec DX6_hasSnapshot 8 rfl) (by decide) rfl ?_
    have hr9 := o_some hF
    subst hr9
    exact g_zretR C rfl rfl (tdec DX6_hasSnapshot 9 rfl)
  · have hF := o_ifn hF h1
    refine g_iload_n (z := 1) C (tdec DX6_hasSnapshot 2 rfl) rfl rfl rfl ?_
    refine g_aload_n (z := 0) C (tdec DX6_hasSnapshot 3 rfl) rfl rfl rfl ?_
    refine g_getf (C' := RX6) (T := TX6) (N := 6) (v := .int (VS_snaps v0)) C 0 4 (gIn iw_X6) rfl rfl (by decide) (gMem fl_X6_42) rfl rfl (tdec DX6_hasSnapshot 4 rfl) rfl ?_
    refine g_icmp_ge (pt := 16) C (tdec DX6_hasSnapshot 5 rfl) (by decide) rfl (fun h2 => ?_) (fun h2 => ?_)
    · have hF := o_ifp hF h2
      refine g_iconst (v := 0) C (tdec DX6_hasSnapshot 8 rfl) (by decide) rfl ?_
      have hr9 := o_some hF
      subst hr9
      exact g_zretR C rfl rfl (tdec DX6_hasSnapshot 9 rfl)
    · have hF := o_ifn hF h2
      refine g_iconst (v := 1) C (tdec DX6_hasSnapshot 6 rfl) (by decide) rfl ?_
      refine g_goto (pt := 17) C (tdec DX6_hasSnapshot 7 rfl) (by decide) ?_
      have hr9 := o_some hF
      subst hr9
      exact g_zretR C rfl rfl (tdec DX6_hasSnapshot 9 rfl)
def FX6_readPlace (v0 : VS) (p1 : Int32) (p2 : Int32) : Option (Int64) :=
  (FX6_slotToLevel v0 p1 p2 0).bind fun r1 =>
  (FX0_told (VS_b v0) r1).bind fun r3 =>
  if r3 = (-1) then
    some 0
  else
    (FX0_number (VS_b v0) r3).bind fun r6 =>
    some r6
def rX6_readPlace : Room := { frames := 3, cells := 0, slots := 0, locals := 69 }
set_option maxHeartbeats 4000000 in
set_option maxRecDepth 100000 in
theorem c_X6_readPlace (l : Launch) (D : va_G) (cB cI cJ cZ : ClassId) (v_0 v_1 v_2 v_3 v_4 v_5 v_6 v_7 v_8 v_9 v_10 v_11 v_12 v_13 v_14 v_15 v_16 v_17 v_18 v_19 : Nat) {v0 : VS} {p1 : Int32} {p2 : Int32} {res : Int64} (hF : FX6_readPlace v0 p1 p2 = some res) : gRl l yX6_readPlace wsX6_readPlace rX6_readPlace D (gT cB cI cJ cZ) [.ref v_0, .int p1, .int p2] (wV cI cJ v_0 v_1 v_2 v_3 v_4 v_5 v_6 v_7 v_8 v_9 v_10 v_11 v_12 v_13 v_14 v_15 v_16 v_17 v_18 v_19 v0) res := by
  refine g_enter (own := RX6) (free := (fun _ _ => False)) (Qc := (fun sz => gRQl res)) (fun _ _ => True) (fun sz => Or.inl rfl) rfl (by decide) rfl (Nat.le_of_ble_eq_true rfl) rfl ?_
  intro p e s m args below meth c C
  unfold FX6_readPlace at hF
  refine g_aload_n (z := 0) C (tdec DX6_readPlace 0 rfl) rfl rfl rfl ?_
  refine g_getf (C' := RX6) (T := TX6) (N := 6) (v := .ref v_5) C 0 0 (gIn iw_X6) rfl rfl (by decide) (gMem fl_X6_12) rfl rfl (tdec DX6_readPlace 1 rfl) rfl ?_
  refine g_aload_n (z := 0) C (tdec DX6_readPlace 2 rfl) rfl rfl rfl ?_
  refine g_iload_n (z := 1) C (tdec DX6_readPlace 3 rfl) rfl rfl rfl ?_
  refine g_iload_n (z := 2) C (tdec DX6_readPlace 4 rfl) rfl rfl rfl ?_
  refine g_iconst (v := 0) C (tdec DX6_readPlace 5 rfl) (by decide) rfl ?_
  obtain ⟨r1, y2, hF⟩ := o_bind hF
  refine g_callViR (q0 := 0) C (c_X6_slotToLevel l D cB cI cJ cZ v_0 v_1 v_2 v_3 v_4 v_5 v_6 v_7 v_8 v_9 v_10 v_11 v_12 v_13 v_14 v_15 v_16 v_17 v_18 v_19 y2) rfl rfl (gIV ml_X6_59 im_X6_slotToLevel sl_X6_slotToLevel in_X6 cd_X6_slotToLevel) rfl eX6_slotToLevel rfl ⟨rfl, rfl⟩ ⟨Nat.le_of_ble_eq_true rfl, Nat.le_of_ble_eq_true rfl⟩ rfl [0, 1, 2, 3, 4, 5, 6, 7, 8, 9, 10, 11, 12, 13, 14, 15, 16, 17, 18, 19] rfl rfl rfl (Nat.le_of_ble_eq_true rfl) (tdec DX6_readPlace 6 rfl) rfl ?_
  obtain ⟨r3, y4, hF⟩ := o_bind hF
  refine g_callViR (q0 := 5) C (c_X0_told l D cB cI cJ cZ v_5 v_6 v_7 v_8 v_9 v_10 v_11 v_12 v_13 v_14 v_15 v_16 v_17 v_18 v_19 y4) rfl rfl (gIV ml_X6_63 im_X0_told sl_X0_told in_X0 cd_X0_told) rfl eX0_told rfl ⟨rfl, rfl⟩ ⟨Nat.le_of_ble_eq_true rfl, Nat.le_of_ble_eq_true rfl⟩ rfl [5, 6, 7, 8, 9, 10, 11, 12, 13, 14, 15, 16, 17, 18, 19] rfl rfl rfl (Nat.le_of_ble_eq_true rfl) (tdec DX6_readPlace 7 rfl) rfl ?_
  refine g_istore_n (L' := [(3, .int r3), (0, .ref v_0), (1, .int p1), (2, .int p2)]) C (tdec DX6_readPlace 8 rfl) rfl (by decide) rfl rfl ?_
  refine g_iload_n (z := 0) C (tdec DX6_readPlace 9 rfl) rfl rfl rfl ?_
  refine g_iconst (v := (-1)) C (tdec DX6_readPlace 10 rfl) (by decide) rfl ?_
  refine g_icmp_ne (pt := 24) C (tdec DX6_readPlace 11 rfl) (by decide) rfl (fun h5 => ?_) (fun h5 => ?_)
  · have hF := o_ifn hF h5
    refine g_aload_n (z := 1) C (tdec DX6_readPlace 14 rfl) rfl rfl rfl ?_
    refine g_getf (C' := RX6) (T := TX6) (N := 6) (v := .ref v_5) C 0 0 (gIn iw_X6) rfl rfl (by decide) (gMem fl_X6_12) rfl rfl (tdec DX6_readPlace 15 rfl) rfl ?_
    refine g_iload_n (z := 0) C (tdec DX6_readPlace 16 rfl) rfl rfl rfl ?_
    obtain ⟨r6, y7, hF⟩ := o_bind hF
    refine g_callVlR (q0 := 5) C (c_X0_number l D cB cI cJ cZ v_5 v_6 v_7 v_8 v_9 v_10 v_11 v_12 v_13 v_14 v_15 v_16 v_17 v_18 v_19 y7) rfl rfl (gIV ml_X6_66 im_X0_number sl_X0_number in_X0 cd_X0_number) rfl eX0_number rfl ⟨rfl, rfl⟩ ⟨Nat.le_of_ble_eq_true rfl, Nat.le_of_ble_eq_true rfl⟩ rfl [5, 6, 7, 8, 9, 10, 11, 12, 13, 14, 15, 16, 17, 18, 19] rfl rfl rfl (Nat.le_of_ble_eq_true rfl) (tdec DX6_readPlace 17 rfl) rfl ?_
    have hr9 := o_some hF
    subst hr9
    exact g_lretR C rfl (tdec DX6_readPlace 18 rfl)
  · have hF := o_ifp hF h5
    refine g_lconst (v := 0) C (tdec DX6_readPlace 12 rfl) (by decide) rfl ?_
    refine g_goto (pt := 32) C (tdec DX6_readPlace 13 rfl) (by decide) ?_
    have hr9 := o_some hF
    subst hr9
    exact g_lretR C rfl (tdec DX6_readPlace 18 rfl)
def FX6_dropSnapshot_L12 (v1 : Int32) (k9 : VS → Int32 → Option (Int32 × VS)) : Nat → VS → Int32 → Option (Int32 × VS)
  | 0, _, _ => none
  | n9 + 1, v, v2 =>
    if (VS_snaps v) ≤ v2 then
      k9 v v2
    else
      (FX0_told (VS_b v) ((4802 + v2) + 1)).bind fun r2 =>
      (FX0_birth (VS_b v) ((4802 + v2) + 1)).bind fun r4 =>
      (FX0_point (VS_b v) (((4802 + v2) + 1) - 1) r2 r4).bind fun s6 =>
      (FX2_at 20 (VS_mk v) (v2 + 1)).bind fun r8 =>
      (FX2_put 20 (VS_mk v) v2 r8).bind fun s10 =>
      (FX1_at 20 (VS_gn v) (v2 + 1)).bind fun r12 =>
      (FX1_put 20 (VS_gn v) v2 r12).bind fun s14 =>
      FX6_dropSnapshot_L12 v1 k9 n9 (VS_setgn (VS_setmk (VS_setb v s6) s10) s14) (v2 + 1)
def FX6_dropSnapshot (v0 : VS) (p1 : Int32) : Option (Int32 × VS) :=
  FX6_dropSnapshot_L12 p1 (fun vq16 w2_16 =>
    (FX0_point (VS_b vq16) (4802 + (VS_snaps vq16)) (-1) 0).bind fun s17 =>
    (FX0_settle s17).bind fun s19 =>
    some ((VS_snaps vq16), (VS_setb (VS_setb vq16 s17) s19))) 100000 (VS_setsnaps v0 ((VS_snaps v0) - 1)) p1
def rX6_dropSnapshot : Room := { frames := 3, cells := 0, slots := 0, locals := 69 }
set_option maxHeartbeats 4000000 in
set_option maxRecDepth 100000 in
theorem c_FX6_dropSnapshot_L12 {p : Program} {l : Launch} {e : Env} {s : State} {m : MethodId} {args : Array Value} {below : List Frame} {meth : Method} {c : Code} {D : va_G} {cB cI cJ cZ : ClassId} {v_0 v_1 v_2 v_3 v_4 v_5 v_6 v_7 v_8 v_9 v_10 v_11 v_12 v_13 v_14 v_15 v_16 v_17 v_18 v_19 : Nat} {v0 : VS} {res : Int32 × VS} (C : gC p s m args meth c cX6_dropSnapshot 4 RX6 wsX6_dropSnapshot D (gT cB cI cJ cZ) (some .int) (va_A (wV cI cJ v_0 v_1 v_2 v_3 v_4 v_5 v_6 v_7 v_8 v_9 v_10 v_11 v_12 v_13 v_14 v_15 v_16 v_17 v_18 v_19 v0) s.heap.size)) {v1 : Int32} {k9 : VS → Int32 → Option (Int32 × VS)} (hk9 : ∀ (v : VS) (v2 : Int32), k9 v v2 = some res → gG p l e (headSpec wsX6_dropSnapshot rX6_dropSnapshot).room s m args below meth c 0 0 D (va_A (wV cI cJ v_0 v_1 v_2 v_3 v_4 v_5 v_6 v_7 v_8 v_9 v_10 v_11 v_12 v_13 v_14 v_15 v_16 v_17 v_18 v_19 v0) s.heap.size) (va_A (wV cI cJ v_0 v_1 v_2 v_3 v_4 v_5 v_6 v_7 v_8 v_9 v_10 v_11 v_12 v_13 v_14 v_15 v_16 v_17 v_18 v_19 v0) s.heap.size) 4 (MQ below (gQi D (wV cI cJ v_0 v_1 v_2 v_3 v_4 v_5 v_6 v_7 v_8 v_9 v_10 v_11 v_12 v_13 v_14 v_15 v_16 v_17 v_18 v_19 v0) s.heap.size res.1 (wV cI cJ v_0 v_1 v_2 v_3 v_4 v_5 v_6 v_7 v_8 v_9 v_10 v_11 v_12 v_13 v_14 v_15 v_16 v_17 v_18 v_19 res.2)) args s 0 0 (va_A (wV cI cJ v_0 v_1 v_2 v_3 v_4 v_5 v_6 v_7 v_8 v_9 v_10 v_11 v_12 v_13 v_14 v_15 v_16 v_17 v_18 v_19 v0) s.heap.size)) (wV cI cJ v_0 v_1 v_2 v_3 v_4 v_5 v_6 v_7 v_8 v_9 v_10 v_11 v_12 v_13 v_14 v_15 v_16 v_17 v_18 v_19 v) 96 [(0, .ref v_0), (1, .int v1), (2, .int v2)] []) :
    ∀ (n9 : Nat) (v : VS) (v2 : Int32), FX6_dropSnapshot_L12 v1 k9 n9 v v2 = some res → gG p l e (headSpec wsX6_dropSnapshot rX6_dropSnapshot).room s m args below meth c 0 0 D (va_A (wV cI cJ v_0 v_1 v_2 v_3 v_4 v_5 v_6 v_7 v_8 v_9 v_10 v_11 v_12 v_13 v_14 v_15 v_16 v_17 v_18 v_19 v0) s.heap.size) (va_A (wV cI cJ v_0 v_1 v_2 v_3 v_4 v_5 v_6 v_7 v_8 v_9 v_10 v_11 v_12 v_13 v_14 v_15 v_16 v_17 v_18 v_19 v0) s.heap.size) 4 (MQ below (gQi D (wV cI cJ v_0 v_1 v_2 v_3 v_4 v_5 v_6 v_7 v_8 v_9 v_10 v_11 v_12 v_13 v_14 v_15 v_16 v_17 v_18 v_19 v0) s.heap.size res.1 (wV cI cJ v_0 v_1 v_2 v_3 v_4 v_5 v_6 v_7 v_8 v_9 v_10 v_11 v_12 v_13 v_14 v_15 v_16 v_17 v_18 v_19 res.2)) args s 0 0 (va_A (wV cI cJ v_0 v_1 v_2 v_3 v_4 v_5 v_6 v_7 v_8 v_9 v_10 v_11 v_12 v_13 v_14 v_15 v_16 v_17 v_18 v_19 v0) s.heap.size)) (wV cI cJ v_0 v_1 v_2 v_3 v_4 v_5 v_6 v_7 v_8 v_9 v_10 v_11 v_12 v_13 v_14 v_15 v_16 v_17 v_18 v_19 v) 12 [(0, .ref v_0), (1, .int v1), (2, .int v2)] [] := by
  intro n9
  induction n9 with
  | zero =>
    intro v v2 hF
    exact absurd hF (by simp [FX6_dropSnapshot_L12])
  | succ n9 ih9 =>
    intro v v2 hF
    rw [FX6_dropSnapshot_L12] at hF
    refine g_iload_n (z := 2) C (tdec DX6_dropSnapshot 8 rfl) rfl rfl rfl ?_
    refine g_aload_n (z := 0) C (tdec DX6_dropSnapshot 9 rfl) rfl rfl rfl ?_
    refine g_getf (C' := RX6) (T := TX6) (N := 6) (v := .int (VS_snaps v)) C 0 4 (gIn iw_X6) rfl rfl (by decide) (gMem fl_X6_42) rfl rfl (tdec DX6_dropSnapshot 10 rfl) rfl ?_
    refine g_icmp_ge (pt := 96) C (tdec DX6_dropSnapshot 11 rfl) (by decide) rfl (fun h1 => ?_) (fun h1 => ?_)
    · have hF := o_ifp hF h1
      refine g_sub (L' := [(0, .ref v_0), (1, .int v1), (2, .int v2)]) [0, 1, 2] rfl ?_
      exact hk9 _ _ hF
    · have hF := o_ifn hF h1
      refine g_sipush (v := 4802) C (tdec DX6_dropSnapshot 12 rfl) (by decide) rfl ?_
      refine g_iload_n (z := 2) C (tdec DX6_dropSnapshot 13 rfl) rfl rfl rfl ?_
      refine g_iadd C (tdec DX6_dropSnapshot 14 rfl) rfl ?_
      refine g_iconst (v := 1) C (tdec DX6_dropSnapshot 15 rfl) (by decide) rfl ?_
      refine g_iadd C (tdec DX6_dropSnapshot 16 rfl) rfl ?_
      refine g_istore_n (L' := [(3, .int ((4802 + v2) + 1)), (0, .ref v_0), (1, .int v1), (2, .int v2)]) C (tdec DX6_dropSnapshot 17 rfl) rfl (by decide) rfl rfl ?_
      refine g_aload_n (z := 1) C (tdec DX6_dropSnapshot 18 rfl) rfl rfl rfl ?_
      refine g_getf (C' := RX6) (T := TX6) (N := 6) (v := .ref v_5) C 0 0 (gIn iw_X6) rfl rfl (by decide) (gMem fl_X6_12) rfl rfl (tdec DX6_dropSnapshot 19 rfl) rfl ?_
      refine g_iload_n (z := 0) C (tdec DX6_dropSnapshot 20 rfl) rfl rfl rfl ?_
      refine g_iconst (v := 1) C (tdec DX6_dropSnapshot 21 rfl) (by decide) rfl ?_
      refine g_isub C (tdec DX6_dropSnapshot 22 rfl) rfl ?_
      refine g_aload_n (z := 1) C (tdec DX6_dropSnapshot 23 rfl) rfl rfl rfl ?_
      refine g_getf (C' := RX6) (T := TX6) (N := 6) (v := .ref v_5) C 0 0 (gIn iw_X6) rfl rfl (by decide) (gMem fl_X6_12) rfl rfl (tdec DX6_dropSnapshot 24 rfl) rfl ?_
      refine g_iload_n (z := 0) C (tdec DX6_dropSnapshot 25 rfl) rfl rfl rfl ?_
      obtain ⟨r2, y3, hF⟩ := o_bind hF
      refine g_callViR (q0 := 5) C (c_X0_told l D cB cI cJ cZ v_5 v_6 v_7 v_8 v_9 v_10 v_11 v_12 v_13 v_14 v_15 v_16 v_17 v_18 v_19 y3) rfl rfl (gIV ml_X6_63 im_X0_told sl_X0_told in_X0 cd_X0_told) rfl eX0_told rfl ⟨rfl, rfl⟩ ⟨Nat.le_of_ble_eq_true rfl, Nat.le_of_ble_eq_true rfl⟩ rfl [5, 6, 7, 8, 9, 10, 11, 12, 13, 14, 15, 16, 17, 18, 19] rfl rfl rfl (Nat.le_of_ble_eq_true rfl) (tdec DX6_dropSnapshot 26 rfl) rfl ?_
      refine g_aload_n (z := 1) C (tdec DX6_dropSnapshot 27 rfl) rfl rfl rfl ?_
      refine g_getf (C' := RX6) (T := TX6) (N := 6) (v := .ref v_5) C 0 0 (gIn iw_X6) rfl rfl (by decide) (gMem fl_X6_12) rfl rfl (tdec DX6_dropSnapshot 28 rfl) rfl ?_
      refine g_iload_n (z := 0) C (tdec DX6_dropSnapshot 29 rfl) rfl rfl rfl ?_
      obtain ⟨r4, y5, hF⟩ := o_bind hF
      refine g_callViR (q0 := 5) C (c_X0_birth l D cB cI cJ cZ v_5 v_6 v_7 v_8 v_9 v_10 v_11 v_12 v_13 v_14 v_15 v_16 v_17 v_18 v_19 y5) rfl rfl (gIV ml_X6_102 im_X0_birth sl_X0_birth in_X0 cd_X0_birth) rfl eX0_birth rfl ⟨rfl, rfl⟩ ⟨Nat.le_of_ble_eq_true rfl, Nat.le_of_ble_eq_true rfl⟩ rfl [5, 6, 7, 8, 9, 10, 11, 12, 13, 14, 15, 16, 17, 18, 19] rfl rfl rfl (Nat.le_of_ble_eq_true rfl) (tdec DX6_dropSnapshot 30 rfl) rfl ?_
      obtain ⟨s6, y7, hF⟩ := o_bind hF
      refine g_callVvM (q0 := 5) (W' := wV cI cJ v_0 v_1 v_2 v_3 v_4 v_5 v_6 v_7 v_8 v_9 v_10 v_11 v_12 v_13 v_14 v_15 v_16 v_17 v_18 v_19 (VS_setb v s6)) C (c_X0_point l D cB cI cJ cZ v_5 v_6 v_7 v_8 v_9 v_10 v_11 v_12 v_13 v_14 v_15 v_16 v_17 v_18 v_19 y7) rfl rfl (gIV ml_X6_88 im_X0_point sl_X0_point in_X0 cd_X0_point) rfl eX0_point rfl ⟨rfl, rfl⟩ ⟨Nat.le_of_ble_eq_true rfl, Nat.le_of_ble_eq_true rfl⟩ rfl [5, 6, 7, 8, 9, 10, 11, 12, 13, 14, 15, 16, 17, 18, 19] rfl rfl rfl rfl rfl rfl (Nat.le_of_ble_eq_true rfl) (tdec DX6_dropSnapshot 31 rfl) rfl ?_
      refine g_aload_n (z := 1) C (tdec DX6_dropSnapshot 32 rfl) rfl rfl rfl ?_
      refine g_getf (C' := RX6) (T := TX6) (N := 6) (v := .ref v_1) C 0 1 (gIn iw_X6) rfl rfl (by decide) (gMem fl_X6_23) rfl rfl (tdec DX6_dropSnapshot 33 rfl) rfl ?_
      refine g_iload_n (z := 3) C (tdec DX6_dropSnapshot 34 rfl) rfl rfl rfl ?_
      refine g_aload_n (z := 1) C (tdec DX6_dropSnapshot 35 rfl) rfl rfl rfl ?_
      refine g_getf (C' := RX6) (T := TX6) (N := 6) (v := .ref v_1) C 0 1 (gIn iw_X6) rfl rfl (by decide) (gMem fl_X6_23) rfl rfl (tdec DX6_dropSnapshot 36 rfl) rfl ?_
      refine g_iload_n (z := 3) C (tdec DX6_dropSnapshot 37 rfl) rfl rfl rfl ?_
      refine g_iconst (v := 1) C (tdec DX6_dropSnapshot 38 rfl) (by decide) rfl ?_
      refine g_iadd C (tdec DX6_dropSnapshot 39 rfl) rfl ?_
      obtain ⟨r8, y9, hF⟩ := o_bind hF
      refine g_callVlR (q0 := 1) C (c_X2_at l D cB cI cJ cZ v_1 v_2 y9) rfl rfl (gIV ml_X6_49 im_X2_at sl_X2_at in_X2 cd_X2_at) rfl eX2_at rfl ⟨rfl, rfl⟩ ⟨Nat.le_of_ble_eq_true rfl, Nat.le_of_ble_eq_true rfl⟩ rfl [1, 2] rfl rfl rfl (Nat.le_of_ble_eq_true rfl) (tdec DX6_dropSnapshot 40 rfl) rfl ?_
      obtain ⟨s10, y11, hF⟩ := o_bind hF
      refine g_callVvM (q0 := 1) (W' := wV cI cJ v_0 v_1 v_2 v_3 v_4 v_5 v_6 v_7 v_8 v_9 v_10 v_11 v_12 v_13 v_14 v_15 v_16 v_17 v_18 v_19 (VS_setmk (VS_setb v s6) s10)) C (c_X2_put l D cB cI cJ cZ v_1 v_2 y11) rfl rfl (gIV ml_X6_105 im_X2_put sl_X2_put in_X2 cd_X2_put) rfl eX2_put rfl ⟨rfl, rfl⟩ ⟨Nat.le_of_ble_eq_true rfl, Nat.le_of_ble_eq_true rfl⟩ rfl [1, 2] rfl rfl rfl rfl rfl rfl (Nat.le_of_ble_eq_true rfl) (tdec DX6_dropSnapshot 41 rfl) rfl ?_
      refine g_aload_n (z := 1) C (tdec DX6_dropSnapshot 42 rfl) rfl rfl rfl ?_
      refine g_getf (C' := RX6) (T := TX6) (N := 6) (v := .ref v_3) C 0 2 (gIn iw_X6) rfl rfl (by decide) (gMem fl_X6_30) rfl rfl (tdec DX6_dropSnapshot 43 rfl) rfl ?_
      refine g_iload_n (z := 3) C (tdec DX6_dropSnapshot 44 rfl) rfl rfl rfl ?_
      refine g_aload_n (z := 1) C (tdec DX6_dropSnapshot 45 rfl) rfl rfl rfl ?_
      refine g_getf (C' := RX6) (T := TX6) (N := 6) (v := .ref v_3) C 0 2 (gIn iw_X6) rfl rfl (by decide) (gMem fl_X6_30) rfl rfl (tdec DX6_dropSnapshot 46 rfl) rfl ?_
      refine g_iload_n (z := 3) C (tdec DX6_dropSnapshot 47 rfl) rfl rfl rfl ?_
      refine g_iconst (v := 1) C (tdec DX6_dropSnapshot 48 rfl) (by decide) rfl ?_
      refine g_iadd C (tdec DX6_dropSnapshot 49 rfl) rfl ?_
      obtain ⟨r12, y13, hF⟩ := o_bind hF
      refine g_callViR (q0 := 3) C (c_X1_at l D cB cI cJ cZ v_3 v_4 y13) rfl rfl (gIV ml_X6_53 im_X1_at sl_X1_at in_X1 cd_X1_at) rfl eX1_at rfl ⟨rfl, rfl⟩ ⟨Nat.le_of_ble_eq_true rfl, Nat.le_of_ble_eq_true rfl⟩ rfl [3, 4] rfl rfl rfl (Nat.le_of_ble_eq_true rfl) (tdec DX6_dropSnapshot 50 rfl) rfl ?_
      obtain ⟨s14, y15, hF⟩ := o_bind hF
      refine g_callVvM (q0 := 3) (W' := wV cI cJ v_0 v_1 v_2 v_3 v_4 v_5 v_6 v_7 v_8 v_9 v_10 v_11 v_12 v_13 v_14 v_15 v_16 v_17 v_18 v_19 (VS_setgn (VS_setmk (VS_setb v s6) s10) s14)) C (c_X1_put l D cB cI cJ cZ v_3 v_4 y15) rfl rfl (gIV ml_X6_108 im_X1_put sl_X1_put in_X1 cd_X1_put) rfl eX1_put rfl ⟨rfl, rfl⟩ ⟨Nat.le_of_ble_eq_true rfl, Nat.le_of_ble_eq_true rfl⟩ rfl [3, 4] rfl rfl rfl rfl rfl rfl (Nat.le_of_ble_eq_true rfl) (tdec DX6_dropSnapshot 51 rfl) rfl ?_
      refine g_iinc (z := 3) (v := (v2 + 1)) (L' := [(2, .int (v2 + 1)), (3, .int ((4802 + v2) + 1)), (0, .ref v_0), (1, .int v1)]) C (tdec DX6_dropSnapshot 52 rfl) rfl rfl (by decide) rfl rfl ?_
      refine g_goto (pt := 12) C (tdec DX6_dropSnapshot 53 rfl) (by decide) ?_
      refine g_sub (L' := [(0, .ref v_0), (1, .int v1), (2, .int (v2 + 1))]) [2, 3, 0] rfl ?_
      exact ih9 _ _ hF
set_option maxHeartbeats 4000000 in
set_option maxRecDepth 100000 in
theorem c_X6_dropSnapshot (l : Launch) (D : va_G) (cB cI cJ cZ : ClassId) (v_0 v_1 v_2 v_3 v_4 v_5 v_6 v_7 v_8 v_9 v_10 v_11 v_12 v_13 v_14 v_15 v_16 v_17 v_18 v_19 : Nat) {v0 : VS} {p1 : Int32} {res : Int32 × VS} (hF : FX6_dropSnapshot v0 p1 = some res) : gMi l yX6_dropSnapshot wsX6_dropSnapshot rX6_dropSnapshot D (gT cB cI cJ cZ) [.ref v_0, .int p1] (wV cI cJ v_0 v_1 v_2 v_3 v_4 v_5 v_6 v_7 v_8 v_9 v_10 v_11 v_12 v_13 v_14 v_15 v_16 v_17 v_18 v_19 v0) res.1 (wV cI cJ v_0 v_1 v_2 v_3 v_4 v_5 v_6 v_7 v_8 v_9 v_10 v_11 v_12 v_13 v_14 v_15 v_16 v_17 v_18 v_19 res.2) := by
  refine g_enter (own := RX6) (free := (fun sz => va_A (wV cI cJ v_0 v_1 v_2 v_3 v_4 v_5 v_6 v_7 v_8 v_9 v_10 v_11 v_12 v_13 v_14 v_15 v_16 v_17 v_18 v_19 v0) sz)) (Qc := (fun sz => gQi D (wV cI cJ v_0 v_1 v_2 v_3 v_4 v_5 v_6 v_7 v_8 v_9 v_10 v_11 v_12 v_13 v_14 v_15 v_16 v_17 v_18 v_19 v0) sz res.1 (wV cI cJ v_0 v_1 v_2 v_3 v_4 v_5 v_6 v_7 v_8 v_9 v_10 v_11 v_12 v_13 v_14 v_15 v_16 v_17 v_18 v_19 res.2))) (fun sz => va_A (wV cI cJ v_0 v_1 v_2 v_3 v_4 v_5 v_6 v_7 v_8 v_9 v_10 v_11 v_12 v_13 v_14 v_15 v_16 v_17 v_18 v_19 v0) sz) (fun sz => Or.inr rfl) rfl (by decide) rfl (Nat.le_of_ble_eq_true rfl) rfl ?_
  intro p e s m args below meth c C
  unfold FX6_dropSnapshot at hF
  refine g_aload_n (z := 0) C (tdec DX6_dropSnapshot 0 rfl) rfl rfl rfl ?_
  refine g_dup C (tdec DX6_dropSnapshot 1 rfl) rfl rfl ?_
  refine g_getf (C' := RX6) (T := TX6) (N := 6) (v := .int (VS_snaps v0)) C 0 4 (gIn iw_X6) rfl rfl (by decide) (gMem fl_X6_42) rfl rfl (tdec DX6_dropSnapshot 2 rfl) rfl ?_
  refine g_iconst (v := 1) C (tdec DX6_dropSnapshot 3 rfl) (by decide) rfl ?_
  refine g_isub C (tdec DX6_dropSnapshot 4 rfl) rfl ?_
  refine g_putf (C' := RX6) (T := TX6) (N := 6) (v := .int ((VS_snaps v0) - 1)) (ws' := wV cI cJ v_0 v_1 v_2 v_3 v_4 v_5 v_6 v_7 v_8 v_9 v_10 v_11 v_12 v_13 v_14 v_15 v_16 v_17 v_18 v_19 (VS_setsnaps v0 ((VS_snaps v0) - 1))) C 0 4 tyX6 tyX6_ok nmX6 (gIn iw_X6) rfl rfl (by decide) (gMem fl_X6_42) rfl rfl (tyX6_ok 4 (by decide)) rfl rfl (Nat.le_of_ble_eq_true rfl) rfl (tdec DX6_dropSnapshot 5 rfl) rfl ?_
  refine g_iload_n (z := 1) C (tdec DX6_dropSnapshot 6 rfl) rfl rfl rfl ?_
  refine g_istore_n (L' := [(2, .int p1), (0, .ref v_0), (1, .int p1)]) C (tdec DX6_dropSnapshot 7 rfl) rfl (by decide) rfl rfl ?_
  refine g_sub (L' := [(0, .ref v_0), (1, .int p1), (2, .int p1)]) [1, 2, 0] rfl ?_
  refine c_FX6_dropSnapshot_L12 C (fun vq16 w2_16 hF => ?_) 100000 _ _ hF
  refine g_aload_n (z := 0) C (tdec DX6_dropSnapshot 54 rfl) rfl rfl rfl ?_
  refine g_getf (C' := RX6) (T := TX6) (N := 6) (v := .ref v_5) C 0 0 (gIn iw_X6) rfl rfl (by decide) (gMem fl_X6_12) rfl rfl (tdec DX6_dropSnapshot 55 rfl) rfl ?_
  refine g_sipush (v := 4802) C (tdec DX6_dropSnapshot 56 rfl) (by decide) rfl ?_
  refine g_aload_n (z := 0) C (tdec DX6_dropSnapshot 57 rfl) rfl rfl rfl ?_
  refine g_getf (C' := RX6) (T := TX6) (N := 6) (v := .int (VS_snaps vq16)) C 0 4 (gIn iw_X6) rfl rfl (by decide) (gMem fl_X6_42) rfl rfl (tdec DX6_dropSnapshot 58 rfl) rfl ?_
  refine g_iadd C (tdec DX6_dropSnapshot 59 rfl) rfl ?_
  refine g_iconst (v := (-1)) C (tdec DX6_dropSnapshot 60 rfl) (by decide) rfl ?_
  refine g_iconst (v := 0) C (tdec DX6_dropSnapshot 61 rfl) (by decide) rfl ?_
  obtain ⟨s17, y18, hF⟩ := o_bind hF
  refine g_callVvM (q0 := 5) (W' := wV cI cJ v_0 v_1 v_2 v_3 v_4 v_5 v_6 v_7 v_8 v_9 v_10 v_11 v_12 v_13 v_14 v_15 v_16 v_17 v_18 v_19 (VS_setb vq16 s17)) C (c_X0_point l D cB cI cJ cZ v_5 v_6 v_7 v_8 v_9 v_10 v_11 v_12 v_13 v_14 v_15 v_16 v_17 v_18 v_19 y18) rfl rfl (gIV ml_X6_88 im_X0_point sl_X0_point in_X0 cd_X0_point) rfl eX0_point rfl ⟨rfl, rfl⟩ ⟨Nat.le_of_ble_eq_true rfl, Nat.le_of_ble_eq_true rfl⟩ rfl [5, 6, 7, 8, 9, 10, 11, 12, 13, 14, 15, 16, 17, 18, 19] rfl rfl rfl rfl rfl rfl (Nat.le_of_ble_eq_true rfl) (tdec DX6_dropSnapshot 62 rfl) rfl ?_
  refine g_aload_n (z := 0) C (tdec DX6_dropSnapshot 63 rfl) rfl rfl rfl ?_
  refine g_getf (C' := RX6) (T := TX6) (N := 6) (v := .ref v_5) C 0 0 (gIn iw_X6) rfl rfl (by decide) (gMem fl_X6_12) rfl rfl (tdec DX6_dropSnapshot 64 rfl) rfl ?_
  obtain ⟨s19, y20, hF⟩ := o_bind hF
  refine g_callVvM (q0 := 5) (W' := wV cI cJ v_0 v_1 v_2 v_3 v_4 v_5 v_6 v_7 v_8 v_9 v_10 v_11 v_12 v_13 v_14 v_15 v_16 v_17 v_18 v_19 (VS_setb (VS_setb vq16 s17) s19)) C (c_X0_settle l D cB cI cJ cZ v_5 v_6 v_7 v_8 v_9 v_10 v_11 v_12 v_13 v_14 v_15 v_16 v_17 v_18 v_19 y20) rfl rfl (gIV ml_X6_56 im_X0_settle sl_X0_settle in_X0 cd_X0_settle) rfl eX0_settle rfl ⟨rfl, rfl⟩ ⟨Nat.le_of_ble_eq_true rfl, Nat.le_of_ble_eq_true rfl⟩ rfl [5, 6, 7, 8, 9, 10, 11, 12, 13, 14, 15, 16, 17, 18, 19] rfl rfl rfl rfl rfl rfl (Nat.le_of_ble_eq_true rfl) (tdec DX6_dropSnapshot 65 rfl) rfl ?_
  refine g_aload_n (z := 0) C (tdec DX6_dropSnapshot 66 rfl) rfl rfl rfl ?_
  refine g_getf (C' := RX6) (T := TX6) (N := 6) (v := .int (VS_snaps vq16)) C 0 4 (gIn iw_X6) rfl rfl (by decide) (gMem fl_X6_42) rfl rfl (tdec DX6_dropSnapshot 67 rfl) rfl ?_
  have hr9 := o_some hF
  subst hr9
  exact g_iret C rfl rfl (tdec DX6_dropSnapshot 68 rfl)
def FX6_returnToLatest (v0 : VS) : Option (Int32 × VS) :=
  (FX0_told (VS_b v0) ((4802 + (VS_snaps v0)) - 1)).bind fun r1 =>
  (FX0_birth (VS_b v0) ((4802 + (VS_snaps v0)) - 1)).bind fun r3 =>
  (FX0_point (VS_b v0) 4800 r1 r3).bind fun s5 =>
  (FX0_settle s5).bind fun s7 =>
  some (((VS_snaps v0) - 1), (VS_setb (VS_setb v0 s5) s7))
def rX6_returnToLatest : Room := { frames := 3, cells := 0, slots := 0, locals := 69 }
set_option maxHeartbeats 4000000 in
set_option maxRecDepth 100000 in
theorem c_X6_returnToLatest (l : Launch) (D : va_G) (cB cI cJ cZ : ClassId) (v_0 v_1 v_2 v_3 v_4 v_5 v_6 v_7 v_8 v_9 v_10 v_11 v_12 v_13 v_14 v_15 v_16 v_17 v_18 v_19 : Nat) {v0 : VS} {res : Int32 × VS} (hF : FX6_returnToLatest v0 = some res) : gMi l yX6_returnToLatest wsX6_returnToLatest rX6_returnToLatest D (gT cB cI cJ cZ) [.ref v_0] (wV cI cJ v_0 v_1 v_2 v_3 v_4 v_5 v_6 v_7 v_8 v_9 v_10 v_11 v_12 v_13 v_14 v_15 v_16 v_17 v_18 v_19 v0) res.1 (wV cI cJ v_0 v_1 v_2 v_3 v_4 v_5 v_6 v_7 v_8 v_9 v_10 v_11 v_12 v_13 v_14 v_15 v_16 v_17 v_18 v_19 res.2) := by
  refine g_enter (own := RX6) (free := (fun sz => va_A (wV cI cJ v_0 v_1 v_2 v_3 v_4 v_5 v_6 v_7 v_8 v_9 v_10 v_11 v_12 v_13 v_14 v_15 v_16 v_17 v_18 v_19 v0) sz)) (Qc := (fun sz => gQi D (wV cI cJ v_0 v_1 v_2 v_3 v_4 v_5 v_6 v_7 v_8 v_9 v_10 v_11 v_12 v_13 v_14 v_15 v_16 v_17 v_18 v_19 v0) sz res.1 (wV cI cJ v_0 v_1 v_2 v_3 v_4 v_5 v_6 v_7 v_8 v_9 v_10 v_11 v_12 v_13 v_14 v_15 v_16 v_17 v_18 v_19 res.2))) (fun sz => va_A (wV cI cJ v_0 v_1 v_2 v_3 v_4 v_5 v_6 v_7 v_8 v_9 v_10 v_11 v_12 v_13 v_14 v_15 v_16 v_17 v_18 v_19 v0) sz) (fun sz => Or.inr rfl) rfl (by decide) rfl (Nat.le_of_ble_eq_true rfl) rfl ?_
  intro p e s m args below meth c C
  unfold FX6_returnToLatest at hF
  refine g_sipush (v := 4802) C (tdec DX6_returnToLatest 0 rfl) (by decide) rfl ?_
  refine g_aload_n (z := 0) C (tdec DX6_returnToLatest 1 rfl) rfl rfl rfl ?_
  refine g_getf (C' := RX6) (T := TX6) (N := 6) (v := .int (VS_snaps v0)) C 0 4 (gIn iw_X6) rfl rfl (by decide) (gMem fl_X6_42) rfl rfl (tdec DX6_returnToLatest 2 rfl) rfl ?_
  refine g_iadd C (tdec DX6_returnToLatest 3 rfl) rfl ?_
  refine g_iconst (v := 1) C (tdec DX6_returnToLatest 4 rfl) (by decide) rfl ?_
  refine g_isub C (tdec DX6_returnToLatest 5 rfl) rfl ?_
  refine g_istore_n (L' := [(1, .int ((4802 + (VS_snaps v0)) - 1)), (0, .ref v_0)]) C (tdec DX6_returnToLatest 6 rfl) rfl (by decide) rfl rfl ?_
  refine g_aload_n (z := 1) C (tdec DX6_returnToLatest 7 rfl) rfl rfl rfl ?_
  refine g_getf (C' := RX6) (T := TX6) (N := 6) (v := .ref v_5) C 0 0 (gIn iw_X6) rfl rfl (by decide) (gMem fl_X6_12) rfl rfl (tdec DX6_returnToLatest 8 rfl) rfl ?_
  refine g_sipush (v := 4800) C (tdec DX6_returnToLatest 9 rfl) (by decide) rfl ?_
  refine g_aload_n (z := 1) C (tdec DX6_returnToLatest 10 rfl) rfl rfl rfl ?_
  refine g_getf (C' := RX6) (T := TX6) (N := 6) (v := .ref v_5) C 0 0 (gIn iw_X6) rfl rfl (by decide) (gMem fl_X6_12) rfl rfl (tdec DX6_returnToLatest 11 rfl) rfl ?_
  refine g_iload_n (z := 0) C (tdec DX6_returnToLatest 12 rfl) rfl rfl rfl ?_
  obtain ⟨r1, y2, hF⟩ := o_bind hF
  refine g_callViR (q0 := 5) C (c_X0_told l D cB cI cJ cZ v_5 v_6 v_7 v_8 v_9 v_10 v_11 v_12 v_13 v_14 v_15 v_16 v_17 v_18 v_19 y2) rfl rfl (gIV ml_X6_63 im_X0_told sl_X0_told in_X0 cd_X0_told) rfl eX0_told rfl ⟨rfl, rfl⟩ ⟨Nat.le_of_ble_eq_true rfl, Nat.le_of_ble_eq_true rfl⟩ rfl [5, 6, 7, 8, 9, 10, 11, 12, 13, 14, 15, 16, 17, 18, 19] rfl rfl rfl (Nat.le_of_ble_eq_true rfl) (tdec DX6_returnToLatest 13 rfl) rfl ?_
  refine g_aload_n (z := 1) C (tdec DX6_returnToLatest 14 rfl) rfl rfl rfl ?_
  refine g_getf (C' := RX6) (T := TX6) (N := 6) (v := .ref v_5) C 0 0 (gIn iw_X6) rfl rfl (by decide) (gMem fl_X6_12) rfl rfl (tdec DX6_returnToLatest 15 rfl) rfl ?_
  refine g_iload_n (z := 0) C (tdec DX6_returnToLatest 16 rfl) rfl rfl rfl ?_
  obtain ⟨r3, y4, hF⟩ := o_bind hF
  refine g_callViR (q0 := 5) C (c_X0_birth l D cB cI cJ cZ v_5 v_6 v_7 v_8 v_9 v_10 v_11 v_12 v_13 v_14 v_15 v_16 v_17 v_18 v_19 y4) rfl rfl (gIV ml_X6_102 im_X0_birth sl_X0_birth in_X0 cd_X0_birth) rfl eX0_birth rfl ⟨rfl, rfl⟩ ⟨Nat.le_of_ble_eq_true rfl, Nat.le_of_ble_eq_true rfl⟩ rfl [5, 6, 7, 8, 9, 10, 11, 12, 13, 14, 15, 16, 17, 18, 19] rfl rfl rfl (Nat.le_of_ble_eq_true rfl) (tdec DX6_returnToLatest 17 rfl) rfl ?_
  obtain ⟨s5, y6, hF⟩ := o_bind hF
  refine g_callVvM (q0 := 5) (W' := wV cI cJ v_0 v_1 v_2 v_3 v_4 v_5 v_6 v_7 v_8 v_9 v_10 v_11 v_12 v_13 v_14 v_15 v_16 v_17 v_18 v_19 (VS_setb v0 s5)) C (c_X0_point l D cB cI cJ cZ v_5 v_6 v_7 v_8 v_9 v_10 v_11 v_12 v_13 v_14 v_15 v_16 v_17 v_18 v_19 y6) rfl rfl (gIV ml_X6_88 im_X0_point sl_X0_point in_X0 cd_X0_point) rfl eX0_point rfl ⟨rfl, rfl⟩ ⟨Nat.le_of_ble_eq_true rfl, Nat.le_of_ble_eq_true rfl⟩ rfl [5, 6, 7, 8, 9, 10, 11, 12, 13, 14, 15, 16, 17, 18, 19] rfl rfl rfl rfl rfl rfl (Nat.le_of_ble_eq_true rfl) (tdec DX6_returnToLatest 18 rfl) rfl ?_
  refine g_aload_n (z := 1) C (tdec DX6_returnToLatest 19 rfl) rfl rfl rfl ?_
  refine g_getf (C' := RX6) (T := TX6) (N := 6) (v := .ref v_5) C 0 0 (gIn iw_X6) rfl rfl (by decide) (gMem fl_X6_12) rfl rfl (tdec DX6_returnToLatest 20 rfl) rfl ?_
  obtain ⟨s7, y8, hF⟩ := o_bind hF
  refine g_callVvM (q0 := 5) (W' := wV cI cJ v_0 v_1 v_2 v_3 v_4 v_5 v_6 v_7 v_8 v_9 v_10 v_11 v_12 v_13 v_14 v_15 v_16 v_17 v_18 v_19 (VS_setb (VS_setb v0 s5) s7)) C (c_X0_settle l D cB cI cJ cZ v_5 v_6 v_7 v_8 v_9 v_10 v_11 v_12 v_13 v_14 v_15 v_16 v_17 v_18 v_19 y8) rfl rfl (gIV ml_X6_56 im_X0_settle sl_X0_settle in_X0 cd_X0_settle) rfl eX0_settle rfl ⟨rfl, rfl⟩ ⟨Nat.le_of_ble_eq_true rfl, Nat.le_of_ble_eq_true rfl⟩ rfl [5, 6, 7, 8, 9, 10, 11, 12, 13, 14, 15, 16, 17, 18, 19] rfl rfl rfl rfl rfl rfl (Nat.le_of_ble_eq_true rfl) (tdec DX6_returnToLatest 21 rfl) rfl ?_
  refine g_aload_n (z := 1) C (tdec DX6_returnToLatest 22 rfl) rfl rfl rfl ?_
  refine g_getf (C' := RX6) (T := TX6) (N := 6) (v := .int (VS_snaps v0)) C 0 4 (gIn iw_X6) rfl rfl (by decide) (gMem fl_X6_42) rfl rfl (tdec DX6_returnToLatest 23 rfl) rfl ?_
  refine g_iconst (v := 1) C (tdec DX6_returnToLatest 24 rfl) (by decide) rfl ?_
  refine g_isub C (tdec DX6_returnToLatest 25 rfl) rfl ?_
  have hr9 := o_some hF
  subst hr9
  exact g_iret C rfl rfl (tdec DX6_returnToLatest 26 rfl)
end
section
/-! PART 14.X3: walks, printed by wip/whole/walk.py -/
def FX3_received (r0 : RC) : Option (Int32) :=
  some (RC_rec r0)
def rX3_received : Room := { frames := 0, cells := 0, slots := 0, locals := 0 }
set_option maxHeartbeats 4000000 in
set_option maxRecDepth 100000 in
theorem c_X3_received (l : Launch) (D : va_G) (cB cI cJ cZ : ClassId) (r_0 r_xV r_xSB : Nat) {r0 : RC} {res : Int32} (hF : FX3_received r0 = some res) : gRi l yX3_received wsX3_received rX3_received D (gT cB cI cJ cZ) [.ref r_0] (wRC r_0 r_xV r_xSB r0) res := by
  refine g_enter (own := RX3) (free := (fun _ _ => False)) (Qc := (fun sz => gRQi res)) (fun _ _ => True) (fun sz => Or.inl rfl) rfl (by decide) rfl (Nat.le_of_ble_eq_true rfl) rfl ?_
  intro p e s m args below meth c C
  unfold FX3_received at hF
  refine g_aload_n (z := 0) C (tdec DX3_received 0 rfl) rfl rfl rfl ?_
  refine g_getf (C' := RX3) (T := TX3) (N := 5) (v := .int (RC_rec r0)) C 0 3 (gIn iw_X3) rfl rfl (by decide) (gMem fl_X3_19) rfl rfl (tdec DX3_received 1 rfl) rfl ?_
  have hr9 := o_some hF
  subst hr9
  exact g_iretR C rfl (tdec DX3_received 2 rfl)
def FX3_forget (r0 : RC) : Option (RC) :=
  some (RC_setrec r0 0)
def rX3_forget : Room := { frames := 0, cells := 0, slots := 0, locals := 0 }
set_option maxHeartbeats 4000000 in
set_option maxRecDepth 100000 in
theorem c_X3_forget (l : Launch) (D : va_G) (cB cI cJ cZ : ClassId) (r_0 r_xV r_xSB : Nat) {r0 : RC} {res : RC} (hF : FX3_forget r0 = some res) : gMv l yX3_forget wsX3_forget rX3_forget D (gT cB cI cJ cZ) [.ref r_0] (wRC r_0 r_xV r_xSB r0) (wRC r_0 r_xV r_xSB res) := by
  refine g_enter (own := RX3) (free := (fun sz => va_A (wRC r_0 r_xV r_xSB r0) sz)) (Qc := (fun sz => gQv D (wRC r_0 r_xV r_xSB r0) sz (wRC r_0 r_xV r_xSB res))) (fun sz => va_A (wRC r_0 r_xV r_xSB r0) sz) (fun sz => Or.inr rfl) rfl (by decide) rfl (Nat.le_of_ble_eq_true rfl) rfl ?_
  intro p e s m args below meth c C
  unfold FX3_forget at hF
  refine g_aload_n (z := 0) C (tdec DX3_forget 0 rfl) rfl rfl rfl ?_
  refine g_iconst (v := 0) C (tdec DX3_forget 1 rfl) (by decide) rfl ?_
  refine g_putf (C' := RX3) (T := TX3) (N := 5) (v := .int 0) (ws' := wRC r_0 r_xV r_xSB (RC_setrec r0 0)) C 0 3 tyX3 tyX3_ok nmX3 (gIn iw_X3) rfl rfl (by decide) (gMem fl_X3_19) rfl rfl (tyX3_ok 3 (by decide)) rfl rfl (Nat.le_of_ble_eq_true rfl) rfl (tdec DX3_forget 2 rfl) rfl ?_
  have hr9 := o_some hF
  subst hr9
  exact g_vret C rfl (tdec DX3_forget 3 rfl)
def FX3_takeBegin (r0 : RC) (v0 : VS) (sb0 : SB) : Option (Int32 × RC × VS) :=
  (FX6_isBusy v0).bind fun r1 =>
  if r1 = 0 then
    (FX5_at sb0 0).bind fun r4 =>
    if r4 = 1 then
      (FX5_isWhole sb0 0 25).bind fun r7 =>
      if r7 = 0 then
        some (1, r0, v0)
      else
        (FX5_numberAt sb0 1 8).bind fun r10 =>
        (FX5_numberAt sb0 9 8).bind fun r12 =>
        if (lg_cmp r10 0) = 0 then
          (FX6_snapshots v0).bind fun r26 =>
          if r26 ≤ 0 then
            (FX6_isDirty v0).bind fun r29 =>
            if r29 = 0 then
              (FX6_hasMark v0 r12).bind fun r32 =>
              if r32 = 0 then
                (FX6_makeHidden v0).bind fun s35 =>
                some (0, (RC_settgt (RC_setrec (RC_setpos r0 25) 0) r12), s35)
              else
                some (4, r0, v0)
            else
              some (3, r0, v0)
          else
            some (2, r0, v0)
        else
          (FX6_isLatest v0 r10).bind fun r15 =>
          if r15 = 0 then
            some (2, r0, v0)
          else
            (FX6_isDirty v0).bind fun r18 =>
            if r18 = 0 then
              (FX6_hasMark v0 r12).bind fun r21 =>
              if r21 = 0 then
                (FX6_makeHidden v0).bind fun s24 =>
                some (0, (RC_settgt (RC_setrec (RC_setpos r0 25) 0) r12), s24)
              else
                some (4, r0, v0)
            else
              some (3, r0, v0)
    else
      some (1, r0, v0)
  else
    some (6, r0, v0)
def rX3_takeBegin : Room := { frames := 3, cells := 0, slots := 0, locals := 69 }
set_option maxHeartbeats 4000000 in
set_option maxRecDepth 100000 in
theorem c_X3_takeBegin (l : Launch) (D : va_G) (cB cI cJ cZ : ClassId) (r_0 v_0 v_1 v_2 v_3 v_4 v_5 v_6 v_7 v_8 v_9 v_10 v_11 v_12 v_13 v_14 v_15 v_16 v_17 v_18 v_19 sb_0 sb_1 : Nat) {r0 : RC} {v0 : VS} {sb0 : SB} {res : Int32 × RC × VS} (hF : FX3_takeBegin r0 v0 sb0 = some res) : gMi l yX3_takeBegin wsX3_takeBegin rX3_takeBegin D (gT cB cI cJ cZ) [.ref r_0] ((wRC r_0 v_0 sb_0 r0) ++ (wV cI cJ v_0 v_1 v_2 v_3 v_4 v_5 v_6 v_7 v_8 v_9 v_10 v_11 v_12 v_13 v_14 v_15 v_16 v_17 v_18 v_19 v0) ++ (wSB cB sb_0 sb_1 sb0)) res.1 ((wRC r_0 v_0 sb_0 res.1) ++ (wV cI cJ v_0 v_1 v_2 v_3 v_4 v_5 v_6 v_7 v_8 v_9 v_10 v_11 v_12 v_13 v_14 v_15 v_16 v_17 v_18 v_19 res.2.2) ++ (wSB cB sb_0 sb_1 sb0)) := by
  refine g_enter (own := RX3) (free := (fun sz => va_A ((wRC r_0 v_0 sb_0 r0) ++ (wV cI cJ v_0 v_1 v_2 v_3 v_4 v_5 v_6 v_7 v_8 v_9 v_10 v_11 v_12 v_13 v_14 v_15 v_16 v_17 v_18 v_19 v0) ++ (wSB cB sb_0 sb_1 sb0)) sz)) (Qc := (fun sz => gQi D ((wRC r_0 v_0 sb_0 r0) ++ (wV cI cJ v_0 v_1 v_2 v_3 v_4 v_5 v_6 v_7 v_8 v_9 v_10 v_11 v_12 v_13 v_14 v_15 v_16 v_17 v_18 v_19 v0) ++ (wSB cB sb_0 sb_1 sb0)) sz res.1 ((wRC r_0 v_0 sb_0 res.1) ++ (wV cI cJ v_0 v_1 v_2 v_3 v_4 v_5 v_6 v_7 v_8 v_9 v_10 v_11 v_12 v_13 v_14 v_15 v_16 v_17 v_18 v_19 res.2.2) ++ (wSB cB sb_0 sb_1 sb0)))) (fun sz => va_A ((wRC r_0 v_0 sb_0 r0) ++ (wV cI cJ v_0 v_1 v_2 v_3 v_4 v_5 v_6 v_7 v_8 v_9 v_10 v_11 v_12 v_13 v_14 v_15 v_16 v_17 v_18 v_19 v0) ++ (wSB cB sb_0 sb_1 sb0)) sz) (fun sz => Or.inr rfl) rfl (by decide) rfl (Nat.le_of_ble_eq_true rfl) rfl ?_
  intro p e s m args below meth c C
  unfold FX3_takeBegin at hF
  refine g_aload_n (z := 0) C (tdec DX3_takeBegin 0 rfl) rfl rfl rfl ?_
  refine g_getf (C' := RX3) (T := TX3) (N := 5) (v := .ref v_0) C 0 0 (gIn iw_X3) rfl rfl (by decide) (gMem fl_X3_9) rfl rfl (tdec DX3_takeBegin 1 rfl) rfl ?_
  obtain ⟨r1, y2, hF⟩ := o_bind hF
  refine g_callViR (q0 := 1) C (c_X6_isBusy l D cB cI cJ cZ v_0 v_1 v_2 v_3 v_4 v_5 v_6 v_7 v_8 v_9 v_10 v_11 v_12 v_13 v_14 v_15 v_16 v_17 v_18 v_19 y2) rfl rfl (gIV ml_X3_23 im_X6_isBusy sl_X6_isBusy in_X6 cd_X6_isBusy) rfl eX6_isBusy rfl ⟨rfl, rfl⟩ ⟨Nat.le_of_ble_eq_true rfl, Nat.le_of_ble_eq_true rfl⟩ rfl [1, 2, 3, 4, 5, 6, 7, 8, 9, 10, 11, 12, 13, 14, 15, 16, 17, 18, 19, 20] rfl rfl rfl (Nat.le_of_ble_eq_true rfl) (tdec DX3_takeBegin 2 rfl) rfl ?_
  refine g_if_eq (pt := 13) C (tdec DX3_takeBegin 3 rfl) (by decide) rfl (fun h3 => ?_) (fun h3 => ?_)
  · have hF := o_ifp hF h3
    refine g_aload_n (z := 0) C (tdec DX3_takeBegin 6 rfl) rfl rfl rfl ?_
    refine g_getf (C' := RX3) (T := TX3) (N := 5) (v := .ref sb_0) C 0 1 (gIn iw_X3) rfl rfl (by decide) (gMem fl_X3_15) rfl rfl (tdec DX3_takeBegin 7 rfl) rfl ?_
    refine g_iconst (v := 0) C (tdec DX3_takeBegin 8 rfl) (by decide) rfl ?_
    obtain ⟨r4, y5, hF⟩ := o_bind hF
    refine g_callViR (q0 := 21) C (c_X5_at l D cB cI cJ cZ sb_0 sb_1 y5) rfl rfl (gIV ml_X3_29 im_X5_at sl_X5_at in_X5 cd_X5_at) rfl eX5_at rfl ⟨rfl, rfl⟩ ⟨Nat.le_of_ble_eq_true rfl, Nat.le_of_ble_eq_true rfl⟩ rfl [21, 22] rfl rfl rfl (Nat.le_of_ble_eq_true rfl) (tdec DX3_takeBegin 9 rfl) rfl ?_
    refine g_iconst (v := 1) C (tdec DX3_takeBegin 10 rfl) (by decide) rfl ?_
    refine g_icmp_ne (pt := 38) C (tdec DX3_takeBegin 11 rfl) (by decide) rfl (fun h6 => ?_) (fun h6 => ?_)
    · have hF := o_ifn hF h6
      refine g_iconst (v := 1) C (tdec DX3_takeBegin 18 rfl) (by decide) rfl ?_
      have hr9 := o_some hF
      subst hr9
      exact g_iret C rfl rfl (tdec DX3_takeBegin 19 rfl)
    · have hF := o_ifp hF h6
      refine g_aload_n (z := 0) C (tdec DX3_takeBegin 12 rfl) rfl rfl rfl ?_
      refine g_getf (C' := RX3) (T := TX3) (N := 5) (v := .ref sb_0) C 0 1 (gIn iw_X3) rfl rfl (by decide) (gMem fl_X3_15) rfl rfl (tdec DX3_takeBegin 13 rfl) rfl ?_
      refine g_iconst (v := 0) C (tdec DX3_takeBegin 14 rfl) (by decide) rfl ?_
      refine g_bipush (v := 25) C (tdec DX3_takeBegin 15 rfl) (by decide) rfl ?_
      obtain ⟨r7, y8, hF⟩ := o_bind hF
      refine g_callViR (q0 := 21) C (c_X5_isWhole l D cB cI cJ cZ sb_0 sb_1 y8) rfl rfl (gIV ml_X3_35 im_X5_isWhole sl_X5_isWhole in_X5 cd_X5_isWhole) rfl eX5_isWhole rfl ⟨rfl, rfl⟩ ⟨Nat.le_of_ble_eq_true rfl, Nat.le_of_ble_eq_true rfl⟩ rfl [21, 22] rfl rfl rfl (Nat.le_of_ble_eq_true rfl) (tdec DX3_takeBegin 16 rfl) rfl ?_
      refine g_if_ne (pt := 40) C (tdec DX3_takeBegin 17 rfl) (by decide) rfl (fun h9 => ?_) (fun h9 => ?_)
      · have hF := o_ifn hF h9
        refine g_aload_n (z := 0) C (tdec DX3_takeBegin 20 rfl) rfl rfl rfl ?_
        refine g_getf (C' := RX3) (T := TX3) (N := 5) (v := .ref sb_0) C 0 1 (gIn iw_X3) rfl rfl (by decide) (gMem fl_X3_15) rfl rfl (tdec DX3_takeBegin 21 rfl) rfl ?_
        refine g_iconst (v := 1) C (tdec DX3_takeBegin 22 rfl) (by decide) rfl ?_
        refine g_bipush (v := 8) C (tdec DX3_takeBegin 23 rfl) (by decide) rfl ?_
        obtain ⟨r10, y11, hF⟩ := o_bind hF
        refine g_callVlR (q0 := 21) C (c_X5_numberAt l D cB cI cJ cZ sb_0 sb_1 y11) rfl rfl (gIV ml_X3_39 im_X5_numberAt sl_X5_numberAt in_X5 cd_X5_numberAt) rfl eX5_numberAt rfl ⟨rfl, rfl⟩ ⟨Nat.le_of_ble_eq_true rfl, Nat.le_of_ble_eq_true rfl⟩ rfl [21, 22] rfl rfl rfl (Nat.le_of_ble_eq_true rfl) (tdec DX3_takeBegin 24 rfl) rfl ?_
        refine g_lstore_n (L' := [(1, .long r10), (0, .ref r_0)]) C (tdec DX3_takeBegin 25 rfl) rfl (by decide) rfl rfl ?_
        refine g_aload_n (z := 1) C (tdec DX3_takeBegin 26 rfl) rfl rfl rfl ?_
        refine g_getf (C' := RX3) (T := TX3) (N := 5) (v := .ref sb_0) C 0 1 (gIn iw_X3) rfl rfl (by decide) (gMem fl_X3_15) rfl rfl (tdec DX3_takeBegin 27 rfl) rfl ?_
        refine g_bipush (v := 9) C (tdec DX3_takeBegin 28 rfl) (by decide) rfl ?_
        refine g_bipush (v := 8) C (tdec DX3_takeBegin 29 rfl) (by decide) rfl ?_
        obtain ⟨r12, y13, hF⟩ := o_bind hF
        refine g_callVlR (q0 := 21) C (c_X5_numberAt l D cB cI cJ cZ sb_0 sb_1 y13) rfl rfl (gIV ml_X3_39 im_X5_numberAt sl_X5_numberAt in_X5 cd_X5_numberAt) rfl eX5_numberAt rfl ⟨rfl, rfl⟩ ⟨Nat.le_of_ble_eq_true rfl, Nat.le_of_ble_eq_true rfl⟩ rfl [21, 22] rfl rfl rfl (Nat.le_of_ble_eq_true rfl) (tdec DX3_takeBegin 30 rfl) rfl ?_
        refine g_lstore_n (L' := [(3, .long r12), (1, .long r10), (0, .ref r_0)]) C (tdec DX3_takeBegin 31 rfl) rfl (by decide) rfl rfl ?_
        refine g_lload_n (z := 1) C (tdec DX3_takeBegin 32 rfl) rfl rfl rfl ?_
        refine g_lconst (v := 0) C (tdec DX3_takeBegin 33 rfl) (by decide) rfl ?_
        refine g_lcmp C (tdec DX3_takeBegin 34 rfl) rfl ?_
        refine g_if_ne (pt := 82) C (tdec DX3_takeBegin 35 rfl) (by decide) rfl (fun h14 => ?_) (fun h14 => ?_)
        · have hF := o_ifn hF h14
          refine g_aload_n (z := 2) C (tdec DX3_takeBegin 41 rfl) rfl rfl rfl ?_
          refine g_getf (C' := RX3) (T := TX3) (N := 5) (v := .ref v_0) C 0 0 (gIn iw_X3) rfl rfl (by decide) (gMem fl_X3_9) rfl rfl (tdec DX3_takeBegin 42 rfl) rfl ?_
          refine g_lload_n (z := 1) C (tdec DX3_takeBegin 43 rfl) rfl rfl rfl ?_
          obtain ⟨r15, y16, hF⟩ := o_bind hF
          refine g_callViR (q0 := 1) C (c_X6_isLatest l D cB cI cJ cZ v_0 v_1 v_2 v_3 v_4 v_5 v_6 v_7 v_8 v_9 v_10 v_11 v_12 v_13 v_14 v_15 v_16 v_17 v_18 v_19 y16) rfl rfl (gIV ml_X3_47 im_X6_isLatest sl_X6_isLatest in_X6 cd_X6_isLatest) rfl eX6_isLatest rfl ⟨rfl, rfl⟩ ⟨Nat.le_of_ble_eq_true rfl, Nat.le_of_ble_eq_true rfl⟩ rfl [1, 2, 3, 4, 5, 6, 7, 8, 9, 10, 11, 12, 13, 14, 15, 16, 17, 18, 19, 20] rfl rfl rfl (Nat.le_of_ble_eq_true rfl) (tdec DX3_takeBegin 44 rfl) rfl ?_
          refine g_if_ne (pt := 95) C (tdec DX3_takeBegin 45 rfl) (by decide) rfl (fun h17 => ?_) (fun h17 => ?_)
          · have hF := o_ifn hF h17
            refine g_aload_n (z := 2) C (tdec DX3_takeBegin 48 rfl) rfl rfl rfl ?_
            refine g_getf (C' := RX3) (T := TX3) (N := 5) (v := .ref v_0) C 0 0 (gIn iw_X3) rfl rfl (by decide) (gMem fl_X3_9) rfl rfl (tdec DX3_takeBegin 49 rfl) rfl ?_
            obtain ⟨r18, y19, hF⟩ := o_bind hF
            refine g_callViR (q0 := 1) C (c_X6_isDirty l D cB cI cJ cZ v_0 v_1 v_2 v_3 v_4 v_5 v_6 v_7 v_8 v_9 v_10 v_11 v_12 v_13 v_14 v_15 v_16 v_17 v_18 v_19 y19) rfl rfl (gIV ml_X3_51 im_X6_isDirty sl_X6_isDirty in_X6 cd_X6_isDirty) rfl eX6_isDirty rfl ⟨rfl, rfl⟩ ⟨Nat.le_of_ble_eq_true rfl, Nat.le_of_ble_eq_true rfl⟩ rfl [1, 2, 3, 4, 5, 6, 7, 8, 9, 10, 11, 12, 13, 14, 15, 16, 17, 18, 19, 20] rfl rfl rfl (Nat.le_of_ble_eq_true rfl) (tdec DX3_takeBegin 50 rfl) rfl ?_
            refine g_if_eq (pt := 107) C (tdec DX3_takeBegin 51 rfl) (by decide) rfl (fun h20 => ?_) (fun h20 => ?_)
            · have hF := o_ifp hF h20
              refine g_aload_n (z := 2) C (tdec DX3_takeBegin 54 rfl) rfl rfl rfl ?_
              refine g_getf (C' := RX3) (T := TX3) (N := 5) (v := .ref v_0) C 0 0 (gIn iw_X3) rfl rfl (by decide) (gMem fl_X3_9) rfl rfl (tdec DX3_takeBegin 55 rfl) rfl ?_
              refine g_lload_n (z := 0) C (tdec DX3_takeBegin 56 rfl) rfl rfl rfl ?_
              obtain ⟨r21, y22, hF⟩ := o_bind hF
              refine g_callViR (q0 := 1) C (c_X6_hasMark l D cB cI cJ cZ v_0 v_1 v_2 v_3 v_4 v_5 v_6 v_7 v_8 v_9 v_10 v_11 v_12 v_13 v_14 v_15 v_16 v_17 v_18 v_19 y22) rfl rfl (gIV ml_X3_54 im_X6_hasMark sl_X6_hasMark in_X6 cd_X6_hasMark) rfl eX6_hasMark rfl ⟨rfl, rfl⟩ ⟨Nat.le_of_ble_eq_true rfl, Nat.le_of_ble_eq_true rfl⟩ rfl [1, 2, 3, 4, 5, 6, 7, 8, 9, 10, 11, 12, 13, 14, 15, 16, 17, 18, 19, 20] rfl rfl rfl (Nat.le_of_ble_eq_true rfl) (tdec DX3_takeBegin 57 rfl) rfl ?_
              refine g_if_eq (pt := 120) C (tdec DX3_takeBegin 58 rfl) (by decide) rfl (fun h23 => ?_) (fun h23 => ?_)
              · have hF := o_ifp hF h23
                refine g_aload_n (z := 2) C (tdec DX3_takeBegin 61 rfl) rfl rfl rfl ?_
                refine g_getf (C' := RX3) (T := TX3) (N := 5) (v := .ref v_0) C 0 0 (gIn iw_X3) rfl rfl (by decide) (gMem fl_X3_9) rfl rfl (tdec DX3_takeBegin 62 rfl) rfl ?_
                obtain ⟨s24, y25, hF⟩ := o_bind hF
                refine g_callVvM (q0 := 1) (W' := (wRC r_0 v_0 sb_0 r0) ++ (wV cI cJ v_0 v_1 v_2 v_3 v_4 v_5 v_6 v_7 v_8 v_9 v_10 v_11 v_12 v_13 v_14 v_15 v_16 v_17 v_18 v_19 s24) ++ (wSB cB sb_0 sb_1 sb0)) C (c_X6_makeHidden l D cB cI cJ cZ v_0 v_1 v_2 v_3 v_4 v_5 v_6 v_7 v_8 v_9 v_10 v_11 v_12 v_13 v_14 v_15 v_16 v_17 v_18 v_19 y25) rfl rfl (gIV ml_X3_57 im_X6_makeHidden sl_X6_makeHidden in_X6 cd_X6_makeHidden) rfl eX6_makeHidden rfl ⟨rfl, rfl⟩ ⟨Nat.le_of_ble_eq_true rfl, Nat.le_of_ble_eq_true rfl⟩ rfl [1, 2, 3, 4, 5, 6, 7, 8, 9, 10, 11, 12, 13, 14, 15, 16, 17, 18, 19, 20] rfl rfl rfl rfl rfl rfl (Nat.le_of_ble_eq_true rfl) (tdec DX3_takeBegin 63 rfl) rfl ?_
                refine g_aload_n (z := 2) C (tdec DX3_takeBegin 64 rfl) rfl rfl rfl ?_
                refine g_bipush (v := 25) C (tdec DX3_takeBegin 65 rfl) (by decide) rfl ?_
                refine g_putf (C' := RX3) (T := TX3) (N := 5) (v := .int 25) (ws' := (wRC r_0 v_0 sb_0 (RC_setpos r0 25)) ++ (wV cI cJ v_0 v_1 v_2 v_3 v_4 v_5 v_6 v_7 v_8 v_9 v_10 v_11 v_12 v_13 v_14 v_15 v_16 v_17 v_18 v_19 s24) ++ (wSB cB sb_0 sb_1 sb0)) C 0 2 tyX3 tyX3_ok nmX3 (gIn iw_X3) rfl rfl (by decide) (gMem fl_X3_60) rfl rfl (tyX3_ok 2 (by decide)) rfl rfl (Nat.le_of_ble_eq_true rfl) rfl (tdec DX3_takeBegin 66 rfl) rfl ?_
                refine g_aload_n (z := 2) C (tdec DX3_takeBegin 67 rfl) rfl rfl rfl ?_
                refine g_iconst (v := 0) C (tdec DX3_takeBegin 68 rfl) (by decide) rfl ?_
                refine g_putf (C' := RX3) (T := TX3) (N := 5) (v := .int 0) (ws' := (wRC r_0 v_0 sb_0 (RC_setrec (RC_setpos r0 25) 0)) ++ (wV cI cJ v_0 v_1 v_2 v_3 v_4 v_5 v_6 v_7 v_8 v_9 v_10 v_11 v_12 v_13 v_14 v_15 v_16 v_17 v_18 v_19 s24) ++ (wSB cB sb_0 sb_1 sb0)) C 0 3 tyX3 tyX3_ok nmX3 (gIn iw_X3) rfl rfl (by decide) (gMem fl_X3_19) rfl rfl (tyX3_ok 3 (by decide)) rfl rfl (Nat.le_of_ble_eq_true rfl) rfl (tdec DX3_takeBegin 69 rfl) rfl ?_
                refine g_aload_n (z := 2) C (tdec DX3_takeBegin 70 rfl) rfl rfl rfl ?_
                refine g_lload_n (z := 0) C (tdec DX3_takeBegin 71 rfl) rfl rfl rfl ?_
                refine g_putf (C' := RX3) (T := TX3) (N := 5) (v := .long r12) (ws' := (wRC r_0 v_0 sb_0 (RC_settgt (RC_setrec (RC_setpos r0 25) 0) r12)) ++ (wV cI cJ v_0 v_1 v_2 v_3 v_4 v_5 v_6 v_7 v_8 v_9 v_10 v_11 v_12 v_13 v_14 v_15 v_16 v_17 v_18 v_19 s24) ++ (wSB cB sb_0 sb_1 sb0)) C 0 4 tyX3 tyX3_ok nmX3 (gIn iw_X3) rfl rfl (by decide) (gMem fl_X3_63) rfl rfl (tyX3_ok 4 (by decide)) rfl rfl (Nat.le_of_ble_eq_true rfl) rfl (tdec DX3_takeBegin 72 rfl) rfl ?_
                refine g_iconst (v := 0) C (tdec DX3_takeBegin 73 rfl) (by decide) rfl ?_
                have hr9 := o_some hF
                subst hr9
                exact g_iret C rfl rfl (tdec DX3_takeBegin 74 rfl)
              · have hF := o_ifn hF h23
                refine g_iconst (v := 4) C (tdec DX3_takeBegin 59 rfl) (by decide) rfl ?_
                have hr9 := o_some hF
                subst hr9
                exact g_iret C rfl rfl (tdec DX3_takeBegin 60 rfl)
            · have hF := o_ifn hF h20
              refine g_iconst (v := 3) C (tdec DX3_takeBegin 52 rfl) (by decide) rfl ?_
              have hr9 := o_some hF
              subst hr9
              exact g_iret C rfl rfl (tdec DX3_takeBegin 53 rfl)
          · have hF := o_ifp hF h17
            refine g_iconst (v := 2) C (tdec DX3_takeBegin 46 rfl) (by decide) rfl ?_
            have hr9 := o_some hF
            subst hr9
            exact g_iret C rfl rfl (tdec DX3_takeBegin 47 rfl)
        · have hF := o_ifp hF h14
          refine g_aload_n (z := 2) C (tdec DX3_takeBegin 36 rfl) rfl rfl rfl ?_
          refine g_getf (C' := RX3) (T := TX3) (N := 5) (v := .ref v_0) C 0 0 (gIn iw_X3) rfl rfl (by decide) (gMem fl_X3_9) rfl rfl (tdec DX3_takeBegin 37 rfl) rfl ?_
          obtain ⟨r26, y27, hF⟩ := o_bind hF
          refine g_callViR (q0 := 1) C (c_X6_snapshots l D cB cI cJ cZ v_0 v_1 v_2 v_3 v_4 v_5 v_6 v_7 v_8 v_9 v_10 v_11 v_12 v_13 v_14 v_15 v_16 v_17 v_18 v_19 y27) rfl rfl (gIV ml_X3_43 im_X6_snapshots sl_X6_snapshots in_X6 cd_X6_snapshots) rfl eX6_snapshots rfl ⟨rfl, rfl⟩ ⟨Nat.le_of_ble_eq_true rfl, Nat.le_of_ble_eq_true rfl⟩ rfl [1, 2, 3, 4, 5, 6, 7, 8, 9, 10, 11, 12, 13, 14, 15, 16, 17, 18, 19, 20] rfl rfl rfl (Nat.le_of_ble_eq_true rfl) (tdec DX3_takeBegin 38 rfl) rfl ?_
          refine g_if_le (pt := 95) C (tdec DX3_takeBegin 39 rfl) (by decide) rfl (fun h28 => ?_) (fun h28 => ?_)
          · have hF := o_ifp hF h28
            refine g_aload_n (z := 2) C (tdec DX3_takeBegin 48 rfl) rfl rfl rfl ?_
            refine g_getf (C' := RX3) (T := TX3) (N := 5) (v := .ref v_0) C 0 0 (gIn iw_X3) rfl rfl (by decide) (gMem fl_X3_9) rfl rfl (tdec DX3_takeBegin 49 rfl) rfl ?_
            obtain ⟨r29, y30, hF⟩ := o_bind hF
            refine g_callViR (q0 := 1) C (c_X6_isDirty l D cB cI cJ cZ v_0 v_1 v_2 v_3 v_4 v_5 v_6 v_7 v_8 v_9 v_10 v_11 v_12 v_13 v_14 v_15 v_16 v_17 v_18 v_19 y30) rfl rfl (gIV ml_X3_51 im_X6_isDirty sl_X6_isDirty in_X6 cd_X6_isDirty) rfl eX6_isDirty rfl ⟨rfl, rfl⟩ ⟨Nat.le_of_ble_eq_true rfl, Nat.le_of_ble_eq_true rfl⟩ rfl [1, 2, 3, 4, 5, 6, 7, 8, 9, 10, 11, 12, 13, 14, 15, 16, 17, 18, 19, 20] rfl rfl rfl (Nat.le_of_ble_eq_true rfl) (tdec DX3_takeBegin 50 rfl) rfl ?_
            refine g_if_eq (pt := 107) C (tdec DX3_takeBegin 51 rfl) (by decide) rfl (fun h31 => ?_) (fun h31 => ?_)
            · have hF := o_ifp hF h31
              refine g_aload_n (z := 2) C (tdec DX3_takeBegin 54 rfl) rfl rfl rfl ?_
              refine g_getf (C' := RX3) (T := TX3) (N := 5) (v := .ref v_0) C 0 0 (gIn iw_X3) rfl rfl (by decide) (gMem fl_X3_9) rfl rfl (tdec DX3_takeBegin 55 rfl) rfl ?_
              refine g_lload_n (z := 0) C (tdec DX3_takeBegin 56 rfl) rfl rfl rfl ?_
              obtain ⟨r32, y33, hF⟩ := o_bind hF
              refine g_callViR (q0 := 1) C (c_X6_hasMark l D cB cI cJ cZ v_0 v_1 v_2 v_3 v_4 v_5 v_6 v_7 v_8 v_9 v_10 v_11 v_12 v_13 v_14 v_15 v_16 v_17 v_18 v_19 y33) rfl rfl (gIV ml_X3_54 im_X6_hasMark sl_X6_hasMark in_X6 cd_X6_hasMark) rfl eX6_hasMark rfl ⟨rfl, rfl⟩ ⟨Nat.le_of_ble_eq_true rfl, Nat.le_of_ble_eq_true rfl⟩ rfl [1, 2, 3, 4, 5, 6, 7, 8, 9, 10, 11, 12, 13, 14, 15, 16, 17, 18, 19, 20] rfl rfl rfl (Nat.le_of_ble_eq_true rfl) (tdec DX3_takeBegin 57 rfl) rfl ?_
              refine g_if_eq (pt := 120) C (tdec DX3_takeBegin 58 rfl) (by decide) rfl (fun h34 => ?_) (fun h34 => ?_)
              · have hF := o_ifp hF h34
                refine g_aload_n (z := 2) C (tdec DX3_takeBegin 61 rfl) rfl rfl rfl ?_
                refine g_getf (C' := RX3) (T := TX3) (N := 5) (v := .ref v_0) C 0 0 (gIn iw_X3) rfl rfl (by decide) (gMem fl_X3_9) rfl rfl (tdec DX3_takeBegin 62 rfl) rfl ?_
                obtain ⟨s35, y36, hF⟩ := o_bind hF
                refine g_callVvM (q0 := 1) (W' := (wRC r_0 v_0 sb_0 r0) ++ (wV cI cJ v_0 v_1 v_2 v_3 v_4 v_5 v_6 v_7 v_8 v_9 v_10 v_11 v_12 v_13 v_14 v_15 v_16 v_17 v_18 v_19 s35) ++ (wSB cB sb_0 sb_1 sb0)) C (c_X6_makeHidden l D cB cI cJ cZ v_0 v_1 v_2 v_3 v_4 v_5 v_6 v_7 v_8 v_9 v_10 v_11 v_12 v_13 v_14 v_15 v_16 v_17 v_18 v_19 y36) rfl rfl (gIV ml_X3_57 im_X6_makeHidden sl_X6_makeHidden in_X6 cd_X6_makeHidden) rfl eX6_makeHidden rfl ⟨rfl, rfl⟩ ⟨Nat.le_of_ble_eq_true rfl, Nat.le_of_ble_eq_true rfl⟩ rfl [1, 2, 3, 4, 5, 6, 7, 8, 9, 10, 11, 12, 13, 14, 15, 16, 17, 18, 19, 20] rfl rfl rfl rfl rfl rfl (Nat.le_of_ble_eq_true rfl) (tdec DX3_takeBegin 63 rfl) rfl ?_
                refine g_aload_n (z := 2) C (tdec DX3_takeBegin 64 rfl) rfl rfl rfl ?_
                refine g_bipush (v := 25) C (tdec DX3_takeBegin 65 rfl) (by decide) rfl ?_
                refine g_putf (C' := RX3) (T := TX3) (N := 5) (v := .int 25) (ws' := (wRC r_0 v_0 sb_0 (RC_setpos r0 25)) ++ (wV cI cJ v_0 v_1 v_2 v_3 v_4 v_5 v_6 v_7 v_8 v_9 v_10 v_11 v_12 v_13 v_14 v_15 v_16 v_17 v_18 v_19 s35) ++ (wSB cB sb_0 sb_1 sb0)) C 0 2 tyX3 tyX3_ok nmX3 (gIn iw_X3) rfl rfl (by decide) (gMem fl_X3_60) rfl rfl (tyX3_ok 2 (by decide)) rfl rfl (Nat.le_of_ble_eq_true rfl) rfl (tdec DX3_takeBegin 66 rfl) rfl ?_
                refine g_aload_n (z := 2) C (tdec DX3_takeBegin 67 rfl) rfl rfl rfl ?_
                refine g_iconst (v := 0) C (tdec DX3_takeBegin 68 rfl) (by decide) rfl ?_
                refine g_putf (C' := RX3) (T := TX3) (N := 5) (v := .int 0) (ws' := (wRC r_0 v_0 sb_0 (RC_setrec (RC_setpos r0 25) 0)) ++ (wV cI cJ v_0 v_1 v_2 v_3 v_4 v_5 v_6 v_7 v_8 v_9 v_10 v_11 v_12 v_13 v_14 v_15 v_16 v_17 v_18 v_19 s35) ++ (wSB cB sb_0 sb_1 sb0)) C 0 3 tyX3 tyX3_ok nmX3 (gIn iw_X3) rfl rfl (by decide) (gMem fl_X3_19) rfl rfl (tyX3_ok 3 (by decide)) rfl rfl (Nat.le_of_ble_eq_true rfl) rfl (tdec DX3_takeBegin 69 rfl) rfl ?_
                refine g_aload_n (z := 2) C (tdec DX3_takeBegin 70 rfl) rfl rfl rfl ?_
                refine g_lload_n (z := 0) C (tdec DX3_takeBegin 71 rfl) rfl rfl rfl ?_
                refine g_putf (C' := RX3) (T := TX3) (N := 5) (v := .long r12) (ws' := (wRC r_0 v_0 sb_0 (RC_settgt (RC_setrec (RC_setpos r0 25) 0) r12)) ++ (wV cI cJ v_0 v_1 v_2 v_3 v_4 v_5 v_6 v_7 v_8 v_9 v_10 v_11 v_12 v_13 v_14 v_15 v_16 v_17 v_18 v_19 s35) ++ (wSB cB sb_0 sb_1 sb0)) C 0 4 tyX3 tyX3_ok nmX3 (gIn iw_X3) rfl rfl (by decide) (gMem fl_X3_63) rfl rfl (tyX3_ok 4 (by decide)) rfl rfl (Nat.le_of_ble_eq_true rfl) rfl (tdec DX3_takeBegin 72 rfl) rfl ?_
                refine g_iconst (v := 0) C (tdec DX3_takeBegin 73 rfl) (by decide) rfl ?_
                have hr9 := o_some hF
                subst hr9
                exact g_iret C rfl rfl (tdec DX3_takeBegin 74 rfl)
              · have hF := o_ifn hF h34
                refine g_iconst (v := 4) C (tdec DX3_takeBegin 59 rfl) (by decide) rfl ?_
                have hr9 := o_some hF
                subst hr9
                exact g_iret C rfl rfl (tdec DX3_takeBegin 60 rfl)
            · have hF := o_ifn hF h31
              refine g_iconst (v := 3) C (tdec DX3_takeBegin 52 rfl) (by decide) rfl ?_
              have hr9 := o_some hF
              subst hr9
              exact g_iret C rfl rfl (tdec DX3_takeBegin 53 rfl)
          · have hF := o_ifn hF h28
            refine g_goto (pt := 93) C (tdec DX3_takeBegin 40 rfl) (by decide) ?_
            refine g_iconst (v := 2) C (tdec DX3_takeBegin 46 rfl) (by decide) rfl ?_
            have hr9 := o_some hF
            subst hr9
            exact g_iret C rfl rfl (tdec DX3_takeBegin 47 rfl)
      · have hF := o_ifp hF h9
        refine g_iconst (v := 1) C (tdec DX3_takeBegin 18 rfl) (by decide) rfl ?_
        have hr9 := o_some hF
        subst hr9
        exact g_iret C rfl rfl (tdec DX3_takeBegin 19 rfl)
  · have hF := o_ifn hF h3
    refine g_bipush (v := 6) C (tdec DX3_takeBegin 4 rfl) (by decide) rfl ?_
    have hr9 := o_some hF
    subst hr9
    exact g_iret C rfl rfl (tdec DX3_takeBegin 5 rfl)
def FX3_sizeOf (p0 : Int32) : Option (Int32) :=
  if p0 = 2 then
    some 19
  else
    if p0 = 3 then
      some 13
    else
      if p0 = 4 then
        some 13
      else
        some 0
def rX3_sizeOf : Room := { frames := 0, cells := 0, slots := 0, locals := 0 }
set_option maxHeartbeats 4000000 in
set_option maxRecDepth 100000 in
theorem c_X3_sizeOf (l : Launch) (D : va_G) (cB cI cJ cZ : ClassId) {p0 : Int32} {res : Int32} (hF : FX3_sizeOf p0 = some res) : gRi l yX3_sizeOf wsX3_sizeOf rX3_sizeOf D (gT cB cI cJ cZ) [.int p0] ([]) res := by
  refine g_enter (own := RX3) (free := (fun _ _ => False)) (Qc := (fun sz => gRQi res)) (fun _ _ => True) (fun sz => Or.inl rfl) rfl (by decide) rfl (Nat.le_of_ble_eq_true rfl) rfl ?_
  intro p e s m args below meth c C
  unfold FX3_sizeOf at hF
  refine g_iload_n (z := 0) C (tdec DX3_sizeOf 0 rfl) rfl rfl rfl ?_
  by_cases h1 : p0 = 2
  · have hF := o_ifp hF h1
    refine g_switchIn (pt := 28) (2) C (tdec DX3_sizeOf 1 rfl) h1 (by decide) (by decide) (by decide) rfl (by decide) ?_
    refine g_bipush (v := 19) C (tdec DX3_sizeOf 2 rfl) (by decide) rfl ?_
    have hr9 := o_some hF
    subst hr9
    exact g_iretR C rfl (tdec DX3_sizeOf 3 rfl)
  · have hF := o_ifn hF h1
    by_cases h2 : p0 = 3
    · have hF := o_ifp hF h2
      refine g_switchIn (pt := 31) (3) C (tdec DX3_sizeOf 1 rfl) h2 (by decide) (by decide) (by decide) rfl (by decide) ?_
      refine g_bipush (v := 13) C (tdec DX3_sizeOf 4 rfl) (by decide) rfl ?_
      have hr9 := o_some hF
      subst hr9
      exact g_iretR C rfl (tdec DX3_sizeOf 5 rfl)
    · have hF := o_ifn hF h2
      by_cases h3 : p0 = 4
      · have hF := o_ifp hF h3
        refine g_switchIn (pt := 34) (4) C (tdec DX3_sizeOf 1 rfl) h3 (by decide) (by decide) (by decide) rfl (by decide) ?_
        refine g_bipush (v := 13) C (tdec DX3_sizeOf 6 rfl) (by decide) rfl ?_
        have hr9 := o_some hF
        subst hr9
        exact g_iretR C rfl (tdec DX3_sizeOf 7 rfl)
      · have hF := o_ifn hF h3
        refine g_switchOut (pt := 37) C (tdec DX3_sizeOf 1 rfl) (sw_out3 2 h1 h2 h3) (by decide) ?_
        refine g_iconst (v := 0) C (tdec DX3_sizeOf 8 rfl) (by decide) rfl ?_
        have hr9 := o_some hF
        subst hr9
        exact g_iretR C rfl (tdec DX3_sizeOf 9 rfl)
def FX7_isPlace (p0 : Int32) : Option (Int32) :=
  if p0 < 0 then
    some 0
  else
    if 512 ≤ p0 then
      some 0
    else
      some 1
def rX7_isPlace : Room := { frames := 0, cells := 0, slots := 0, locals := 0 }
set_option maxHeartbeats 4000000 in
set_option maxRecDepth 100000 in
theorem c_X7_isPlace (l : Launch) (D : va_G) (cB cI cJ cZ : ClassId) {p0 : Int32} {res : Int32} (hF : FX7_isPlace p0 = some res) : gRi l yX7_isPlace wsX7_isPlace rX7_isPlace D (gT cB cI cJ cZ) [.int p0] ([]) res := by
  refine g_enter (own := RX7) (free := (fun _ _ => False)) (Qc := (fun sz => gRQi res)) (fun _ _ => True) (fun sz => Or.inl rfl) rfl (by decide) rfl (Nat.le_of_ble_eq_true rfl) rfl ?_
  intro p e s m args below meth c C
  unfold FX7_isPlace at hF
  refine g_iload_n (z := 0) C (tdec DX7_isPlace 0 rfl) rfl rfl rfl ?_
  refine g_if_lt (pt := 15) C (tdec DX7_isPlace 1 rfl) (by decide) rfl (fun h1 => ?_) (fun h1 => ?_)
  · have hF := o_ifp hF h1
    refine g_iconst (v := 0) C (tdec DX7_isPlace 7 rfl) (by decide) rfl ?_
    have hr9 := o_some hF
    subst hr9
    exact g_zretR C rfl rfl (tdec DX7_isPlace 8 rfl)
  · have hF := o_ifn hF h1
    refine g_iload_n (z := 0) C (tdec DX7_isPlace 2 rfl) rfl rfl rfl ?_
    refine g_sipush (v := 512) C (tdec DX7_isPlace 3 rfl) (by decide) rfl ?_
    refine g_icmp_ge (pt := 15) C (tdec DX7_isPlace 4 rfl) (by decide) rfl (fun h2 => ?_) (fun h2 => ?_)
    · have hF := o_ifp hF h2
      refine g_iconst (v := 0) C (tdec DX7_isPlace 7 rfl) (by decide) rfl ?_
      have hr9 := o_some hF
      subst hr9
      exact g_zretR C rfl rfl (tdec DX7_isPlace 8 rfl)
    · have hF := o_ifn hF h2
      refine g_iconst (v := 1) C (tdec DX7_isPlace 5 rfl) (by decide) rfl ?_
      refine g_goto (pt := 16) C (tdec DX7_isPlace 6 rfl) (by decide) ?_
      have hr9 := o_some hF
      subst hr9
      exact g_zretR C rfl rfl (tdec DX7_isPlace 8 rfl)
def FX3_takeWrite (r0 : RC) (v0 : VS) (sb0 : SB) : Option (Int32 × VS) :=
  (FX5_numberAt sb0 ((RC_pos r0) + 1) 2).bind fun r1 =>
  (FX7_isPlace ((r1 : Int64).toInt32)).bind fun r3 =>
  if r3 = 0 then
    some (1, v0)
  else
    (FX5_numberAt sb0 ((RC_pos r0) + 3) 8).bind fun r6 =>
    (FX6_writePlace v0 4801 ((r1 : Int64).toInt32) r6).bind fun (r8, s9) =>
    if r8 = 0 then
      some (5, s9)
    else
      some (7, s9)
def rX3_takeWrite : Room := { frames := 4, cells := 0, slots := 0, locals := 98 }
set_option maxHeartbeats 4000000 in
set_option maxRecDepth 100000 in
theorem c_X3_takeWrite (l : Launch) (D : va_G) (cB cI cJ cZ : ClassId) (r_0 v_0 v_1 v_2 v_3 v_4 v_5 v_6 v_7 v_8 v_9 v_10 v_11 v_12 v_13 v_14 v_15 v_16 v_17 v_18 v_19 sb_0 sb_1 : Nat) {r0 : RC} {v0 : VS} {sb0 : SB} {res : Int32 × VS} (hF : FX3_takeWrite r0 v0 sb0 = some res) : gMi l yX3_takeWrite wsX3_takeWrite rX3_takeWrite D (gT cB cI cJ cZ) [.ref r_0] ((wRC r_0 v_0 sb_0 r0) ++ (wV cI cJ v_0 v_1 v_2 v_3 v_4 v_5 v_6 v_7 v_8 v_9 v_10 v_11 v_12 v_13 v_14 v_15 v_16 v_17 v_18 v_19 v0) ++ (wSB cB sb_0 sb_1 sb0)) res.1 ((wRC r_0 v_0 sb_0 r0) ++ (wV cI cJ v_0 v_1 v_2 v_3 v_4 v_5 v_6 v_7 v_8 v_9 v_10 v_11 v_12 v_13 v_14 v_15 v_16 v_17 v_18 v_19 res.2) ++ (wSB cB sb_0 sb_1 sb0)) := by
  refine g_enter (own := RX3) (free := (fun sz => va_A ((wRC r_0 v_0 sb_0 r0) ++ (wV cI cJ v_0 v_1 v_2 v_3 v_4 v_5 v_6 v_7 v_8 v_9 v_10 v_11 v_12 v_13 v_14 v_15 v_16 v_17 v_18 v_19 v0) ++ (wSB cB sb_0 sb_1 sb0)) sz)) (Qc := (fun sz => gQi D ((wRC r_0 v_0 sb_0 r0) ++ (wV cI cJ v_0 v_1 v_2 v_3 v_4 v_5 v_6 v_7 v_8 v_9 v_10 v_11 v_12 v_13 v_14 v_15 v_16 v_17 v_18 v_19 v0) ++ (wSB cB sb_0 sb_1 sb0)) sz res.1 ((wRC r_0 v_0 sb_0 r0) ++ (wV cI cJ v_0 v_1 v_2 v_3 v_4 v_5 v_6 v_7 v_8 v_9 v_10 v_11 v_12 v_13 v_14 v_15 v_16 v_17 v_18 v_19 res.2) ++ (wSB cB sb_0 sb_1 sb0)))) (fun sz => va_A ((wRC r_0 v_0 sb_0 r0) ++ (wV cI cJ v_0 v_1 v_2 v_3 v_4 v_5 v_6 v_7 v_8 v_9 v_10 v_11 v_12 v_13 v_14 v_15 v_16 v_17 v_18 v_19 v0) ++ (wSB cB sb_0 sb_1 sb0)) sz) (fun sz => Or.inr rfl) rfl (by decide) rfl (Nat.le_of_ble_eq_true rfl) rfl ?_
  intro p e s m args below meth c C
  unfold FX3_takeWrite at hF
  refine g_aload_n (z := 0) C (tdec DX3_takeWrite 0 rfl) rfl rfl rfl ?_
  refine g_getf (C' := RX3) (T := TX3) (N := 5) (v := .ref sb_0) C 0 1 (gIn iw_X3) rfl rfl (by decide) (gMem fl_X3_15) rfl rfl (tdec DX3_takeWrite 1 rfl) rfl ?_
  refine g_aload_n (z := 0) C (tdec DX3_takeWrite 2 rfl) rfl rfl rfl ?_
  refine g_getf (C' := RX3) (T := TX3) (N := 5) (v := .int (RC_pos r0)) C 0 2 (gIn iw_X3) rfl rfl (by decide) (gMem fl_X3_60) rfl rfl (tdec DX3_takeWrite 3 rfl) rfl ?_
  refine g_iconst (v := 1) C (tdec DX3_takeWrite 4 rfl) (by decide) rfl ?_
  refine g_iadd C (tdec DX3_takeWrite 5 rfl) rfl ?_
  refine g_iconst (v := 2) C (tdec DX3_takeWrite 6 rfl) (by decide) rfl ?_
  obtain ⟨r1, y2, hF⟩ := o_bind hF
  refine g_callVlR (q0 := 21) C (c_X5_numberAt l D cB cI cJ cZ sb_0 sb_1 y2) rfl rfl (gIV ml_X3_39 im_X5_numberAt sl_X5_numberAt in_X5 cd_X5_numberAt) rfl eX5_numberAt rfl ⟨rfl, rfl⟩ ⟨Nat.le_of_ble_eq_true rfl, Nat.le_of_ble_eq_true rfl⟩ rfl [21, 22] rfl rfl rfl (Nat.le_of_ble_eq_true rfl) (tdec DX3_takeWrite 7 rfl) rfl ?_
  refine g_l2i C (tdec DX3_takeWrite 8 rfl) rfl ?_
  refine g_istore_n (L' := [(1, .int ((r1 : Int64).toInt32)), (0, .ref r_0)]) C (tdec DX3_takeWrite 9 rfl) rfl (by decide) rfl rfl ?_
  refine g_iload_n (z := 0) C (tdec DX3_takeWrite 10 rfl) rfl rfl rfl ?_
  obtain ⟨r3, y4, hF⟩ := o_bind hF
  refine g_callSNiR C (c_X7_isPlace l D cB cI cJ cZ y4) C.2.2.2.2.2.2.2.2.1 (gGood (gSelf cd_X7_isPlace)) eX7_isPlace (gMem st_X7_isPlace) (gMem in_X7) rfl ⟨rfl, rfl⟩ ⟨Nat.le_of_ble_eq_true rfl, Nat.le_of_ble_eq_true rfl⟩ rfl [] rfl rfl rfl (Nat.le_of_ble_eq_true rfl) (tdec DX3_takeWrite 11 rfl) rfl ?_
  refine g_if_ne (pt := 25) C (tdec DX3_takeWrite 12 rfl) (by decide) rfl (fun h5 => ?_) (fun h5 => ?_)
  · have hF := o_ifn hF h5
    refine g_aload_n (z := 1) C (tdec DX3_takeWrite 15 rfl) rfl rfl rfl ?_
    refine g_getf (C' := RX3) (T := TX3) (N := 5) (v := .ref v_0) C 0 0 (gIn iw_X3) rfl rfl (by decide) (gMem fl_X3_9) rfl rfl (tdec DX3_takeWrite 16 rfl) rfl ?_
    refine g_sipush (v := 4801) C (tdec DX3_takeWrite 17 rfl) (by decide) rfl ?_
    refine g_iload_n (z := 0) C (tdec DX3_takeWrite 18 rfl) rfl rfl rfl ?_
    refine g_aload_n (z := 1) C (tdec DX3_takeWrite 19 rfl) rfl rfl rfl ?_
    refine g_getf (C' := RX3) (T := TX3) (N := 5) (v := .ref sb_0) C 0 1 (gIn iw_X3) rfl rfl (by decide) (gMem fl_X3_15) rfl rfl (tdec DX3_takeWrite 20 rfl) rfl ?_
    refine g_aload_n (z := 1) C (tdec DX3_takeWrite 21 rfl) rfl rfl rfl ?_
    refine g_getf (C' := RX3) (T := TX3) (N := 5) (v := .int (RC_pos r0)) C 0 2 (gIn iw_X3) rfl rfl (by decide) (gMem fl_X3_60) rfl rfl (tdec DX3_takeWrite 22 rfl) rfl ?_
    refine g_iconst (v := 3) C (tdec DX3_takeWrite 23 rfl) (by decide) rfl ?_
    refine g_iadd C (tdec DX3_takeWrite 24 rfl) rfl ?_
    refine g_bipush (v := 8) C (tdec DX3_takeWrite 25 rfl) (by decide) rfl ?_
    obtain ⟨r6, y7, hF⟩ := o_bind hF
    refine g_callVlR (q0 := 21) C (c_X5_numberAt l D cB cI cJ cZ sb_0 sb_1 y7) rfl rfl (gIV ml_X3_39 im_X5_numberAt sl_X5_numberAt in_X5 cd_X5_numberAt) rfl eX5_numberAt rfl ⟨rfl, rfl⟩ ⟨Nat.le_of_ble_eq_true rfl, Nat.le_of_ble_eq_true rfl⟩ rfl [21, 22] rfl rfl rfl (Nat.le_of_ble_eq_true rfl) (tdec DX3_takeWrite 26 rfl) rfl ?_
    obtain ⟨⟨r8, s9⟩, y10, hF⟩ := o_bind hF
    refine g_callViM (q0 := 1) (W' := (wRC r_0 v_0 sb_0 r0) ++ (wV cI cJ v_0 v_1 v_2 v_3 v_4 v_5 v_6 v_7 v_8 v_9 v_10 v_11 v_12 v_13 v_14 v_15 v_16 v_17 v_18 v_19 s9) ++ (wSB cB sb_0 sb_1 sb0)) C (c_X6_writePlace l D cB cI cJ cZ v_0 v_1 v_2 v_3 v_4 v_5 v_6 v_7 v_8 v_9 v_10 v_11 v_12 v_13 v_14 v_15 v_16 v_17 v_18 v_19 y10) rfl rfl (gIV ml_X3_92 im_X6_writePlace sl_X6_writePlace in_X6 cd_X6_writePlace) rfl eX6_writePlace rfl ⟨rfl, rfl⟩ ⟨Nat.le_of_ble_eq_true rfl, Nat.le_of_ble_eq_true rfl⟩ rfl [1, 2, 3, 4, 5, 6, 7, 8, 9, 10, 11, 12, 13, 14, 15, 16, 17, 18, 19, 20] rfl rfl rfl rfl rfl rfl (Nat.le_of_ble_eq_true rfl) (tdec DX3_takeWrite 27 rfl) rfl ?_
    refine g_if_eq (pt := 59) C (tdec DX3_takeWrite 28 rfl) (by decide) rfl (fun h11 => ?_) (fun h11 => ?_)
    · have hF := o_ifp hF h11
      refine g_iconst (v := 5) C (tdec DX3_takeWrite 31 rfl) (by decide) rfl ?_
      have hr9 := o_some hF
      subst hr9
      exact g_iret C rfl rfl (tdec DX3_takeWrite 32 rfl)
    · have hF := o_ifn hF h11
      refine g_bipush (v := 7) C (tdec DX3_takeWrite 29 rfl) (by decide) rfl ?_
      refine g_goto (pt := 60) C (tdec DX3_takeWrite 30 rfl) (by decide) ?_
      have hr9 := o_some hF
      subst hr9
      exact g_iret C rfl rfl (tdec DX3_takeWrite 32 rfl)
  · have hF := o_ifp hF h5
    refine g_iconst (v := 1) C (tdec DX3_takeWrite 13 rfl) (by decide) rfl ?_
    have hr9 := o_some hF
    subst hr9
    exact g_iret C rfl rfl (tdec DX3_takeWrite 14 rfl)
def FX3_takeClear_L57 (r0 : RC) (sb0 : SB) (v1 : Int32) (v2 : Int32) (k9 : VS → Int32 → Option (Int32 × VS)) : Nat → VS → Int32 → Option (Int32 × VS)
  | 0, _, _ => none
  | n9 + 1, v, v3 =>
    if v2 ≤ v3 then
      k9 v v3
    else
      (FX6_clearPlace v 4801 (v1 + v3)).bind fun (r11, s12) =>
      if r11 = 0 then
        some (5, s12)
      else
        FX3_takeClear_L57 r0 sb0 v1 v2 k9 n9 s12 (v3 + 1)
def FX3_takeClear (r0 : RC) (v0 : VS) (sb0 : SB) : Option (Int32 × VS) :=
  (FX5_numberAt sb0 ((RC_pos r0) + 1) 2).bind fun r1 =>
  (FX5_numberAt sb0 ((RC_pos r0) + 3) 2).bind fun r3 =>
  (FX7_isPlace ((r1 : Int64).toInt32)).bind fun r5 =>
  if r5 = 0 then
    some (1, v0)
  else
    if ((r3 : Int64).toInt32) < 1 then
      some (1, v0)
    else
      if (((r1 : Int64).toInt32) + ((r3 : Int64).toInt32)) ≤ 512 then
        FX3_takeClear_L57 r0 sb0 ((r1 : Int64).toInt32) ((r3 : Int64).toInt32) (fun vq15 w3_15 =>
          some (7, vq15)) 100000 v0 0
      else
        some (1, v0)
def rX3_takeClear : Room := { frames := 4, cells := 0, slots := 0, locals := 96 }
set_option maxHeartbeats 4000000 in
set_option maxRecDepth 100000 in
theorem c_FX3_takeClear_L57 {p : Program} {l : Launch} {e : Env} {s : State} {m : MethodId} {args : Array Value} {below : List Frame} {meth : Method} {c : Code} {D : va_G} {cB cI cJ cZ : ClassId} {r_0 v_0 v_1 v_2 v_3 v_4 v_5 v_6 v_7 v_8 v_9 v_10 v_11 v_12 v_13 v_14 v_15 v_16 v_17 v_18 v_19 sb_0 sb_1 : Nat} {r0 : RC} {v0 : VS} {sb0 : SB} {res : Int32 × VS} (C : gC p s m args meth c cX3_takeClear 4 RX3 wsX3_takeClear D (gT cB cI cJ cZ) (some .int) (va_A ((wRC r_0 v_0 sb_0 r0) ++ (wV cI cJ v_0 v_1 v_2 v_3 v_4 v_5 v_6 v_7 v_8 v_9 v_10 v_11 v_12 v_13 v_14 v_15 v_16 v_17 v_18 v_19 v0) ++ (wSB cB sb_0 sb_1 sb0)) s.heap.size)) {v1 : Int32} {v2 : Int32} {k9 : VS → Int32 → Option (Int32 × VS)} (hk9 : ∀ (v : VS) (v3 : Int32), k9 v v3 = some res → gG p l e (headSpec wsX3_takeClear rX3_takeClear).room s m args below meth c 0 0 D (va_A ((wRC r_0 v_0 sb_0 r0) ++ (wV cI cJ v_0 v_1 v_2 v_3 v_4 v_5 v_6 v_7 v_8 v_9 v_10 v_11 v_12 v_13 v_14 v_15 v_16 v_17 v_18 v_19 v0) ++ (wSB cB sb_0 sb_1 sb0)) s.heap.size) (va_A ((wRC r_0 v_0 sb_0 r0) ++ (wV cI cJ v_0 v_1 v_2 v_3 v_4 v_5 v_6 v_7 v_8 v_9 v_10 v_11 v_12 v_13 v_14 v_15 v_16 v_17 v_18 v_19 v0) ++ (wSB cB sb_0 sb_1 sb0)) s.heap.size) 4 (MQ below (gQi D ((wRC r_0 v_0 sb_0 r0) ++ (wV cI cJ v_0 v_1 v_2 v_3 v_4 v_5 v_6 v_7 v_8 v_9 v_10 v_11 v_12 v_13 v_14 v_15 v_16 v_17 v_18 v_19 v0) ++ (wSB cB sb_0 sb_1 sb0)) s.heap.size res.1 ((wRC r_0 v_0 sb_0 r0) ++ (wV cI cJ v_0 v_1 v_2 v_3 v_4 v_5 v_6 v_7 v_8 v_9 v_10 v_11 v_12 v_13 v_14 v_15 v_16 v_17 v_18 v_19 res.2) ++ (wSB cB sb_0 sb_1 sb0))) args s 0 0 (va_A ((wRC r_0 v_0 sb_0 r0) ++ (wV cI cJ v_0 v_1 v_2 v_3 v_4 v_5 v_6 v_7 v_8 v_9 v_10 v_11 v_12 v_13 v_14 v_15 v_16 v_17 v_18 v_19 v0) ++ (wSB cB sb_0 sb_1 sb0)) s.heap.size)) ((wRC r_0 v_0 sb_0 r0) ++ (wV cI cJ v_0 v_1 v_2 v_3 v_4 v_5 v_6 v_7 v_8 v_9 v_10 v_11 v_12 v_13 v_14 v_15 v_16 v_17 v_18 v_19 v) ++ (wSB cB sb_0 sb_1 sb0)) 86 [(0, .ref r_0), (1, .int v1), (2, .int v2), (3, .int v3)] []) :
    ∀ (n9 : Nat) (v : VS) (v3 : Int32), FX3_takeClear_L57 r0 sb0 v1 v2 k9 n9 v v3 = some res → gG p l e (headSpec wsX3_takeClear rX3_takeClear).room s m args below meth c 0 0 D (va_A ((wRC r_0 v_0 sb_0 r0) ++ (wV cI cJ v_0 v_1 v_2 v_3 v_4 v_5 v_6 v_7 v_8 v_9 v_10 v_11 v_12 v_13 v_14 v_15 v_16 v_17 v_18 v_19 v0) ++ (wSB cB sb_0 sb_1 sb0)) s.heap.size) (va_A ((wRC r_0 v_0 sb_0 r0) ++ (wV cI cJ v_0 v_1 v_2 v_3 v_4 v_5 v_6 v_7 v_8 v_9 v_10 v_11 v_12 v_13 v_14 v_15 v_16 v_17 v_18 v_19 v0) ++ (wSB cB sb_0 sb_1 sb0)) s.heap.size) 4 (MQ below (gQi D ((wRC r_0 v_0 sb_0 r0) ++ (wV cI cJ v_0 v_1 v_2 v_3 v_4 v_5 v_6 v_7 v_8 v_9 v_10 v_11 v_12 v_13 v_14 v_15 v_16 v_17 v_18 v_19 v0) ++ (wSB cB sb_0 sb_1 sb0)) s.heap.size res.1 ((wRC r_0 v_0 sb_0 r0) ++ (wV cI cJ v_0 v_1 v_2 v_3 v_4 v_5 v_6 v_7 v_8 v_9 v_10 v_11 v_12 v_13 v_14 v_15 v_16 v_17 v_18 v_19 res.2) ++ (wSB cB sb_0 sb_1 sb0))) args s 0 0 (va_A ((wRC r_0 v_0 sb_0 r0) ++ (wV cI cJ v_0 v_1 v_2 v_3 v_4 v_5 v_6 v_7 v_8 v_9 v_10 v_11 v_12 v_13 v_14 v_15 v_16 v_17 v_18 v_19 v0) ++ (wSB cB sb_0 sb_1 sb0)) s.heap.size)) ((wRC r_0 v_0 sb_0 r0) ++ (wV cI cJ v_0 v_1 v_2 v_3 v_4 v_5 v_6 v_7 v_8 v_9 v_10 v_11 v_12 v_13 v_14 v_15 v_16 v_17 v_18 v_19 v) ++ (wSB cB sb_0 sb_1 sb0)) 57 [(0, .ref r_0), (1, .int v1), (2, .int v2), (3, .int v3)] [] := by
  intro n9
  induction n9 with
  | zero =>
    intro v v3 hF
    exact absurd hF (by simp [FX3_takeClear_L57])
  | succ n9 ih9 =>
    intro v v3 hF
    rw [FX3_takeClear_L57] at hF
    refine g_iload_n (z := 3) C (tdec DX3_takeClear 35 rfl) rfl rfl rfl ?_
    refine g_iload_n (z := 2) C (tdec DX3_takeClear 36 rfl) rfl rfl rfl ?_
    refine g_icmp_ge (pt := 86) C (tdec DX3_takeClear 37 rfl) (by decide) rfl (fun h10 => ?_) (fun h10 => ?_)
    · have hF := o_ifp hF h10
      refine g_sub (L' := [(0, .ref r_0), (1, .int v1), (2, .int v2), (3, .int v3)]) [0, 1, 2, 3] rfl ?_
      exact hk9 _ _ hF
    · have hF := o_ifn hF h10
      refine g_aload_n (z := 0) C (tdec DX3_takeClear 38 rfl) rfl rfl rfl ?_
      refine g_getf (C' := RX3) (T := TX3) (N := 5) (v := .ref v_0) C 0 0 (gIn iw_X3) rfl rfl (by decide) (gMem fl_X3_9) rfl rfl (tdec DX3_takeClear 39 rfl) rfl ?_
      refine g_sipush (v := 4801) C (tdec DX3_takeClear 40 rfl) (by decide) rfl ?_
      refine g_iload_n (z := 1) C (tdec DX3_takeClear 41 rfl) rfl rfl rfl ?_
      refine g_iload_n (z := 3) C (tdec DX3_takeClear 42 rfl) rfl rfl rfl ?_
      refine g_iadd C (tdec DX3_takeClear 43 rfl) rfl ?_
      obtain ⟨⟨r11, s12⟩, y13, hF⟩ := o_bind hF
      refine g_callViM (q0 := 1) (W' := (wRC r_0 v_0 sb_0 r0) ++ (wV cI cJ v_0 v_1 v_2 v_3 v_4 v_5 v_6 v_7 v_8 v_9 v_10 v_11 v_12 v_13 v_14 v_15 v_16 v_17 v_18 v_19 s12) ++ (wSB cB sb_0 sb_1 sb0)) C (c_X6_clearPlace l D cB cI cJ cZ v_0 v_1 v_2 v_3 v_4 v_5 v_6 v_7 v_8 v_9 v_10 v_11 v_12 v_13 v_14 v_15 v_16 v_17 v_18 v_19 y13) rfl rfl (gIV ml_X3_96 im_X6_clearPlace sl_X6_clearPlace in_X6 cd_X6_clearPlace) rfl eX6_clearPlace rfl ⟨rfl, rfl⟩ ⟨Nat.le_of_ble_eq_true rfl, Nat.le_of_ble_eq_true rfl⟩ rfl [1, 2, 3, 4, 5, 6, 7, 8, 9, 10, 11, 12, 13, 14, 15, 16, 17, 18, 19, 20] rfl rfl rfl rfl rfl rfl (Nat.le_of_ble_eq_true rfl) (tdec DX3_takeClear 44 rfl) rfl ?_
      refine g_if_ne (pt := 80) C (tdec DX3_takeClear 45 rfl) (by decide) rfl (fun h14 => ?_) (fun h14 => ?_)
      · have hF := o_ifn hF h14
        refine g_iinc (z := 3) (v := (v3 + 1)) (L' := [(3, .int (v3 + 1)), (0, .ref r_0), (1, .int v1), (2, .int v2)]) C (tdec DX3_takeClear 48 rfl) rfl rfl (by decide) rfl rfl ?_
        refine g_goto (pt := 57) C (tdec DX3_takeClear 49 rfl) (by decide) ?_
        refine g_sub (L' := [(0, .ref r_0), (1, .int v1), (2, .int v2), (3, .int (v3 + 1))]) [1, 2, 3, 0] rfl ?_
        exact ih9 _ _ hF
      · have hF := o_ifp hF h14
        refine g_iconst (v := 5) C (tdec DX3_takeClear 46 rfl) (by decide) rfl ?_
        have hr9 := o_some hF
        subst hr9
        exact g_iret C rfl rfl (tdec DX3_takeClear 47 rfl)
set_option maxHeartbeats 4000000 in
set_option maxRecDepth 100000 in
theorem c_X3_takeClear (l : Launch) (D : va_G) (cB cI cJ cZ : ClassId) (r_0 v_0 v_1 v_2 v_3 v_4 v_5 v_6 v_7 v_8 v_9 v_10 v_11 v_12 v_13 v_14 v_15 v_16 v_17 v_18 v_19 sb_0 sb_1 : Nat) {r0 : RC} {v0 : VS} {sb0 : SB} {res : Int32 × VS} (hF : FX3_takeClear r0 v0 sb0 = some res) : gMi l yX3_takeClear wsX3_takeClear rX3_takeClear D (gT cB cI cJ cZ) [.ref r_0] ((wRC r_0 v_0 sb_0 r0) ++ (wV cI cJ v_0 v_1 v_2 v_3 v_4 v_5 v_6 v_7 v_8 v_9 v_10 v_11 v_12 v_13 v_14 v_15 v_16 v_17 v_18 v_19 v0) ++ (wSB cB sb_0 sb_1 sb0)) res.1 ((wRC r_0 v_0 sb_0 r0) ++ (wV cI cJ v_0 v_1 v_2 v_3 v_4 v_5 v_6 v_7 v_8 v_9 v_10 v_11 v_12 v_13 v_14 v_15 v_16 v_17 v_18 v_19 res.2) ++ (wSB cB sb_0 sb_1 sb0)) := by
  refine g_enter (own := RX3) (free := (fun sz => va_A ((wRC r_0 v_0 sb_0 r0) ++ (wV cI cJ v_0 v_1 v_2 v_3 v_4 v_5 v_6 v_7 v_8 v_9 v_10 v_11 v_12 v_13 v_14 v_15 v_16 v_17 v_18 v_19 v0) ++ (wSB cB sb_0 sb_1 sb0)) sz)) (Qc := (fun sz => gQi D ((wRC r_0 v_0 sb_0 r0) ++ (wV cI cJ v_0 v_1 v_2 v_3 v_4 v_5 v_6 v_7 v_8 v_9 v_10 v_11 v_12 v_13 v_14 v_15 v_16 v_17 v_18 v_19 v0) ++ (wSB cB sb_0 sb_1 sb0)) sz res.1 ((wRC r_0 v_0 sb_0 r0) ++ (wV cI cJ v_0 v_1 v_2 v_3 v_4 v_5 v_6 v_7 v_8 v_9 v_10 v_11 v_12 v_13 v_14 v_15 v_16 v_17 v_18 v_19 res.2) ++ (wSB cB sb_0 sb_1 sb0)))) (fun sz => va_A ((wRC r_0 v_0 sb_0 r0) ++ (wV cI cJ v_0 v_1 v_2 v_3 v_4 v_5 v_6 v_7 v_8 v_9 v_10 v_11 v_12 v_13 v_14 v_15 v_16 v_17 v_18 v_19 v0) ++ (wSB cB sb_0 sb_1 sb0)) sz) (fun sz => Or.inr rfl) rfl (by decide) rfl (Nat.le_of_ble_eq_true rfl) rfl ?_
  intro p e s m args below meth c C
  unfold FX3_takeClear at hF
  refine g_aload_n (z := 0) C (tdec DX3_takeClear 0 rfl) rfl rfl rfl ?_
  refine g_getf (C' := RX3) (T := TX3) (N := 5) (v := .ref sb_0) C 0 1 (gIn iw_X3) rfl rfl (by decide) (gMem fl_X3_15) rfl rfl (tdec DX3_takeClear 1 rfl) rfl ?_
  refine g_aload_n (z := 0) C (tdec DX3_takeClear 2 rfl) rfl rfl rfl ?_
  refine g_getf (C' := RX3) (T := TX3) (N := 5) (v := .int (RC_pos r0)) C 0 2 (gIn iw_X3) rfl rfl (by decide) (gMem fl_X3_60) rfl rfl (tdec DX3_takeClear 3 rfl) rfl ?_
  refine g_iconst (v := 1) C (tdec DX3_takeClear 4 rfl) (by decide) rfl ?_
  refine g_iadd C (tdec DX3_takeClear 5 rfl) rfl ?_
  refine g_iconst (v := 2) C (tdec DX3_takeClear 6 rfl) (by decide) rfl ?_
  obtain ⟨r1, y2, hF⟩ := o_bind hF
  refine g_callVlR (q0 := 21) C (c_X5_numberAt l D cB cI cJ cZ sb_0 sb_1 y2) rfl rfl (gIV ml_X3_39 im_X5_numberAt sl_X5_numberAt in_X5 cd_X5_numberAt) rfl eX5_numberAt rfl ⟨rfl, rfl⟩ ⟨Nat.le_of_ble_eq_true rfl, Nat.le_of_ble_eq_true rfl⟩ rfl [21, 22] rfl rfl rfl (Nat.le_of_ble_eq_true rfl) (tdec DX3_takeClear 7 rfl) rfl ?_
  refine g_l2i C (tdec DX3_takeClear 8 rfl) rfl ?_
  refine g_istore_n (L' := [(1, .int ((r1 : Int64).toInt32)), (0, .ref r_0)]) C (tdec DX3_takeClear 9 rfl) rfl (by decide) rfl rfl ?_
  refine g_aload_n (z := 1) C (tdec DX3_takeClear 10 rfl) rfl rfl rfl ?_
  refine g_getf (C' := RX3) (T := TX3) (N := 5) (v := .ref sb_0) C 0 1 (gIn iw_X3) rfl rfl (by decide) (gMem fl_X3_15) rfl rfl (tdec DX3_takeClear 11 rfl) rfl ?_
  refine g_aload_n (z := 1) C (tdec DX3_takeClear 12 rfl) rfl rfl rfl ?_
  refine g_getf (C' := RX3) (T := TX3) (N := 5) (v := .int (RC_pos r0)) C 0 2 (gIn iw_X3) rfl rfl (by decide) (gMem fl_X3_60) rfl rfl (tdec DX3_takeClear 13 rfl) rfl ?_
  refine g_iconst (v := 3) C (tdec DX3_takeClear 14 rfl) (by decide) rfl ?_
  refine g_iadd C (tdec DX3_takeClear 15 rfl) rfl ?_
  refine g_iconst (v := 2) C (tdec DX3_takeClear 16 rfl) (by decide) rfl ?_
  obtain ⟨r3, y4, hF⟩ := o_bind hF
  refine g_callVlR (q0 := 21) C (c_X5_numberAt l D cB cI cJ cZ sb_0 sb_1 y4) rfl rfl (gIV ml_X3_39 im_X5_numberAt sl_X5_numberAt in_X5 cd_X5_numberAt) rfl eX5_numberAt rfl ⟨rfl, rfl⟩ ⟨Nat.le_of_ble_eq_true rfl, Nat.le_of_ble_eq_true rfl⟩ rfl [21, 22] rfl rfl rfl (Nat.le_of_ble_eq_true rfl) (tdec DX3_takeClear 17 rfl) rfl ?_
  refine g_l2i C (tdec DX3_takeClear 18 rfl) rfl ?_
  refine g_istore_n (L' := [(2, .int ((r3 : Int64).toInt32)), (1, .int ((r1 : Int64).toInt32)), (0, .ref r_0)]) C (tdec DX3_takeClear 19 rfl) rfl (by decide) rfl rfl ?_
  refine g_iload_n (z := 1) C (tdec DX3_takeClear 20 rfl) rfl rfl rfl ?_
  obtain ⟨r5, y6, hF⟩ := o_bind hF
  refine g_callSNiR C (c_X7_isPlace l D cB cI cJ cZ y6) C.2.2.2.2.2.2.2.2.1 (gGood (gSelf cd_X7_isPlace)) eX7_isPlace (gMem st_X7_isPlace) (gMem in_X7) rfl ⟨rfl, rfl⟩ ⟨Nat.le_of_ble_eq_true rfl, Nat.le_of_ble_eq_true rfl⟩ rfl [] rfl rfl rfl (Nat.le_of_ble_eq_true rfl) (tdec DX3_takeClear 21 rfl) rfl ?_
  refine g_if_eq (pt := 53) C (tdec DX3_takeClear 22 rfl) (by decide) rfl (fun h7 => ?_) (fun h7 => ?_)
  · have hF := o_ifp hF h7
    refine g_iconst (v := 1) C (tdec DX3_takeClear 31 rfl) (by decide) rfl ?_
    have hr9 := o_some hF
    subst hr9
    exact g_iret C rfl rfl (tdec DX3_takeClear 32 rfl)
  · have hF := o_ifn hF h7
    refine g_iload_n (z := 0) C (tdec DX3_takeClear 23 rfl) rfl rfl rfl ?_
    refine g_iconst (v := 1) C (tdec DX3_takeClear 24 rfl) (by decide) rfl ?_
    refine g_icmp_lt (pt := 53) C (tdec DX3_takeClear 25 rfl) (by decide) rfl (fun h8 => ?_) (fun h8 => ?_)
    · have hF := o_ifp hF h8
      refine g_iconst (v := 1) C (tdec DX3_takeClear 31 rfl) (by decide) rfl ?_
      have hr9 := o_some hF
      subst hr9
      exact g_iret C rfl rfl (tdec DX3_takeClear 32 rfl)
    · have hF := o_ifn hF h8
      refine g_iload_n (z := 1) C (tdec DX3_takeClear 26 rfl) rfl rfl rfl ?_
      refine g_iload_n (z := 0) C (tdec DX3_takeClear 27 rfl) rfl rfl rfl ?_
      refine g_iadd C (tdec DX3_takeClear 28 rfl) rfl ?_
      refine g_sipush (v := 512) C (tdec DX3_takeClear 29 rfl) (by decide) rfl ?_
      refine g_icmp_le (pt := 55) C (tdec DX3_takeClear 30 rfl) (by decide) rfl (fun h9 => ?_) (fun h9 => ?_)
      · have hF := o_ifp hF h9
        refine g_iconst (v := 0) C (tdec DX3_takeClear 33 rfl) (by decide) rfl ?_
        refine g_istore_n (L' := [(3, .int 0), (2, .int ((r3 : Int64).toInt32)), (1, .int ((r1 : Int64).toInt32)), (0, .ref r_0)]) C (tdec DX3_takeClear 34 rfl) rfl (by decide) rfl rfl ?_
        refine g_sub (L' := [(0, .ref r_0), (1, .int ((r1 : Int64).toInt32)), (2, .int ((r3 : Int64).toInt32)), (3, .int 0)]) [3, 2, 1, 0] rfl ?_
        refine c_FX3_takeClear_L57 C (fun vq15 w3_15 hF => ?_) 100000 _ _ hF
        refine g_bipush (v := 7) C (tdec DX3_takeClear 50 rfl) (by decide) rfl ?_
        have hr9 := o_some hF
        subst hr9
        exact g_iret C rfl rfl (tdec DX3_takeClear 51 rfl)
      · have hF := o_ifn hF h9
        refine g_iconst (v := 1) C (tdec DX3_takeClear 31 rfl) (by decide) rfl ?_
        have hr9 := o_some hF
        subst hr9
        exact g_iret C rfl rfl (tdec DX3_takeClear 32 rfl)
def FX3_takeEnd (r0 : RC) (v0 : VS) (sb0 : SB) : Option (Int32 × VS) :=
  (FX5_numberAt sb0 ((RC_pos r0) + 1) 4).bind fun r1 =>
  if (lg_cmp r1 (1 + (((RC_rec r0) : Int32).toInt64))) = 0 then
    (FX5_length sb0).bind fun r4 =>
    if ((RC_pos r0) + 13) = r4 then
      (FX6_snapshots v0).bind fun r7 =>
      if r7 < 20 then
        (FX6_keepHidden v0 (RC_tgt r0)).bind fun s10 =>
        some (0, s10)
      else
        some (5, v0)
    else
      some (1, v0)
  else
    some (1, v0)
def rX3_takeEnd : Room := { frames := 4, cells := 0, slots := 0, locals := 91 }
set_option maxHeartbeats 4000000 in
set_option maxRecDepth 100000 in
theorem c_X3_takeEnd (l : Launch) (D : va_G) (cB cI cJ cZ : ClassId) (r_0 v_0 v_1 v_2 v_3 v_4 v_5 v_6 v_7 v_8 v_9 v_10 v_11 v_12 v_13 v_14 v_15 v_16 v_17 v_18 v_19 sb_0 sb_1 : Nat) {r0 : RC} {v0 : VS} {sb0 : SB} {res : Int32 × VS} (hF : FX3_takeEnd r0 v0 sb0 = some res) : gMi l yX3_takeEnd wsX3_takeEnd rX3_takeEnd D (gT cB cI cJ cZ) [.ref r_0] ((wRC r_0 v_0 sb_0 r0) ++ (wV cI cJ v_0 v_1 v_2 v_3 v_4 v_5 v_6 v_7 v_8 v_9 v_10 v_11 v_12 v_13 v_14 v_15 v_16 v_17 v_18 v_19 v0) ++ (wSB cB sb_0 sb_1 sb0)) res.1 ((wRC r_0 v_0 sb_0 r0) ++ (wV cI cJ v_0 v_1 v_2 v_3 v_4 v_5 v_6 v_7 v_8 v_9 v_10 v_11 v_12 v_13 v_14 v_15 v_16 v_17 v_18 v_19 res.2) ++ (wSB cB sb_0 sb_1 sb0)) := by
  refine g_enter (own := RX3) (free := (fun sz => va_A ((wRC r_0 v_0 sb_0 r0) ++ (wV cI cJ v_0 v_1 v_2 v_3 v_4 v_5 v_6 v_7 v_8 v_9 v_10 v_11 v_12 v_13 v_14 v_15 v_16 v_17 v_18 v_19 v0) ++ (wSB cB sb_0 sb_1 sb0)) sz)) (Qc := (fun sz => gQi D ((wRC r_0 v_0 sb_0 r0) ++ (wV cI cJ v_0 v_1 v_2 v_3 v_4 v_5 v_6 v_7 v_8 v_9 v_10 v_11 v_12 v_13 v_14 v_15 v_16 v_17 v_18 v_19 v0) ++ (wSB cB sb_0 sb_1 sb0)) sz res.1 ((wRC r_0 v_0 sb_0 r0) ++ (wV cI cJ v_0 v_1 v_2 v_3 v_4 v_5 v_6 v_7 v_8 v_9 v_10 v_11 v_12 v_13 v_14 v_15 v_16 v_17 v_18 v_19 res.2) ++ (wSB cB sb_0 sb_1 sb0)))) (fun sz => va_A ((wRC r_0 v_0 sb_0 r0) ++ (wV cI cJ v_0 v_1 v_2 v_3 v_4 v_5 v_6 v_7 v_8 v_9 v_10 v_11 v_12 v_13 v_14 v_15 v_16 v_17 v_18 v_19 v0) ++ (wSB cB sb_0 sb_1 sb0)) sz) (fun sz => Or.inr rfl) rfl (by decide) rfl (Nat.le_of_ble_eq_true rfl) rfl ?_
  intro p e s m args below meth c C
  unfold FX3_takeEnd at hF
  refine g_aload_n (z := 0) C (tdec DX3_takeEnd 0 rfl) rfl rfl rfl ?_
  refine g_getf (C' := RX3) (T := TX3) (N := 5) (v := .ref sb_0) C 0 1 (gIn iw_X3) rfl rfl (by decide) (gMem fl_X3_15) rfl rfl (tdec DX3_takeEnd 1 rfl) rfl ?_
  refine g_aload_n (z := 0) C (tdec DX3_takeEnd 2 rfl) rfl rfl rfl ?_
  refine g_getf (C' := RX3) (T := TX3) (N := 5) (v := .int (RC_pos r0)) C 0 2 (gIn iw_X3) rfl rfl (by decide) (gMem fl_X3_60) rfl rfl (tdec DX3_takeEnd 3 rfl) rfl ?_
  refine g_iconst (v := 1) C (tdec DX3_takeEnd 4 rfl) (by decide) rfl ?_
  refine g_iadd C (tdec DX3_takeEnd 5 rfl) rfl ?_
  refine g_iconst (v := 4) C (tdec DX3_takeEnd 6 rfl) (by decide) rfl ?_
  obtain ⟨r1, y2, hF⟩ := o_bind hF
  refine g_callVlR (q0 := 21) C (c_X5_numberAt l D cB cI cJ cZ sb_0 sb_1 y2) rfl rfl (gIV ml_X3_39 im_X5_numberAt sl_X5_numberAt in_X5 cd_X5_numberAt) rfl eX5_numberAt rfl ⟨rfl, rfl⟩ ⟨Nat.le_of_ble_eq_true rfl, Nat.le_of_ble_eq_true rfl⟩ rfl [21, 22] rfl rfl rfl (Nat.le_of_ble_eq_true rfl) (tdec DX3_takeEnd 7 rfl) rfl ?_
  refine g_lconst (v := 1) C (tdec DX3_takeEnd 8 rfl) (by decide) rfl ?_
  refine g_aload_n (z := 0) C (tdec DX3_takeEnd 9 rfl) rfl rfl rfl ?_
  refine g_getf (C' := RX3) (T := TX3) (N := 5) (v := .int (RC_rec r0)) C 0 3 (gIn iw_X3) rfl rfl (by decide) (gMem fl_X3_19) rfl rfl (tdec DX3_takeEnd 10 rfl) rfl ?_
  refine g_i2l C (tdec DX3_takeEnd 11 rfl) rfl ?_
  refine g_ladd C (tdec DX3_takeEnd 12 rfl) rfl ?_
  refine g_lcmp C (tdec DX3_takeEnd 13 rfl) rfl ?_
  refine g_if_ne (pt := 42) C (tdec DX3_takeEnd 14 rfl) (by decide) rfl (fun h3 => ?_) (fun h3 => ?_)
  · have hF := o_ifn hF h3
    refine g_iconst (v := 1) C (tdec DX3_takeEnd 23 rfl) (by decide) rfl ?_
    have hr9 := o_some hF
    subst hr9
    exact g_iret C rfl rfl (tdec DX3_takeEnd 24 rfl)
  · have hF := o_ifp hF h3
    refine g_aload_n (z := 0) C (tdec DX3_takeEnd 15 rfl) rfl rfl rfl ?_
    refine g_getf (C' := RX3) (T := TX3) (N := 5) (v := .int (RC_pos r0)) C 0 2 (gIn iw_X3) rfl rfl (by decide) (gMem fl_X3_60) rfl rfl (tdec DX3_takeEnd 16 rfl) rfl ?_
    refine g_bipush (v := 13) C (tdec DX3_takeEnd 17 rfl) (by decide) rfl ?_
    refine g_iadd C (tdec DX3_takeEnd 18 rfl) rfl ?_
    refine g_aload_n (z := 0) C (tdec DX3_takeEnd 19 rfl) rfl rfl rfl ?_
    refine g_getf (C' := RX3) (T := TX3) (N := 5) (v := .ref sb_0) C 0 1 (gIn iw_X3) rfl rfl (by decide) (gMem fl_X3_15) rfl rfl (tdec DX3_takeEnd 20 rfl) rfl ?_
    obtain ⟨r4, y5, hF⟩ := o_bind hF
    refine g_callViR (q0 := 21) C (c_X5_length l D cB cI cJ cZ sb_0 sb_1 y5) rfl rfl (gIV ml_X3_99 im_X5_length sl_X5_length in_X5 cd_X5_length) rfl eX5_length rfl ⟨rfl, rfl⟩ ⟨Nat.le_of_ble_eq_true rfl, Nat.le_of_ble_eq_true rfl⟩ rfl [21, 22] rfl rfl rfl (Nat.le_of_ble_eq_true rfl) (tdec DX3_takeEnd 21 rfl) rfl ?_
    refine g_icmp_eq (pt := 44) C (tdec DX3_takeEnd 22 rfl) (by decide) rfl (fun h6 => ?_) (fun h6 => ?_)
    · have hF := o_ifp hF h6
      refine g_aload_n (z := 0) C (tdec DX3_takeEnd 25 rfl) rfl rfl rfl ?_
      refine g_getf (C' := RX3) (T := TX3) (N := 5) (v := .ref v_0) C 0 0 (gIn iw_X3) rfl rfl (by decide) (gMem fl_X3_9) rfl rfl (tdec DX3_takeEnd 26 rfl) rfl ?_
      obtain ⟨r7, y8, hF⟩ := o_bind hF
      refine g_callViR (q0 := 1) C (c_X6_snapshots l D cB cI cJ cZ v_0 v_1 v_2 v_3 v_4 v_5 v_6 v_7 v_8 v_9 v_10 v_11 v_12 v_13 v_14 v_15 v_16 v_17 v_18 v_19 y8) rfl rfl (gIV ml_X3_43 im_X6_snapshots sl_X6_snapshots in_X6 cd_X6_snapshots) rfl eX6_snapshots rfl ⟨rfl, rfl⟩ ⟨Nat.le_of_ble_eq_true rfl, Nat.le_of_ble_eq_true rfl⟩ rfl [1, 2, 3, 4, 5, 6, 7, 8, 9, 10, 11, 12, 13, 14, 15, 16, 17, 18, 19, 20] rfl rfl rfl (Nat.le_of_ble_eq_true rfl) (tdec DX3_takeEnd 27 rfl) rfl ?_
      refine g_bipush (v := 20) C (tdec DX3_takeEnd 28 rfl) (by decide) rfl ?_
      refine g_icmp_lt (pt := 58) C (tdec DX3_takeEnd 29 rfl) (by decide) rfl (fun h9 => ?_) (fun h9 => ?_)
      · have hF := o_ifp hF h9
        refine g_aload_n (z := 0) C (tdec DX3_takeEnd 32 rfl) rfl rfl rfl ?_
        refine g_getf (C' := RX3) (T := TX3) (N := 5) (v := .ref v_0) C 0 0 (gIn iw_X3) rfl rfl (by decide) (gMem fl_X3_9) rfl rfl (tdec DX3_takeEnd 33 rfl) rfl ?_
        refine g_aload_n (z := 0) C (tdec DX3_takeEnd 34 rfl) rfl rfl rfl ?_
        refine g_getf (C' := RX3) (T := TX3) (N := 5) (v := .long (RC_tgt r0)) C 0 4 (gIn iw_X3) rfl rfl (by decide) (gMem fl_X3_63) rfl rfl (tdec DX3_takeEnd 35 rfl) rfl ?_
        obtain ⟨s10, y11, hF⟩ := o_bind hF
        refine g_callVvM (q0 := 1) (W' := (wRC r_0 v_0 sb_0 r0) ++ (wV cI cJ v_0 v_1 v_2 v_3 v_4 v_5 v_6 v_7 v_8 v_9 v_10 v_11 v_12 v_13 v_14 v_15 v_16 v_17 v_18 v_19 s10) ++ (wSB cB sb_0 sb_1 sb0)) C (c_X6_keepHidden l D cB cI cJ cZ v_0 v_1 v_2 v_3 v_4 v_5 v_6 v_7 v_8 v_9 v_10 v_11 v_12 v_13 v_14 v_15 v_16 v_17 v_18 v_19 y11) rfl rfl (gIV ml_X3_102 im_X6_keepHidden sl_X6_keepHidden in_X6 cd_X6_keepHidden) rfl eX6_keepHidden rfl ⟨rfl, rfl⟩ ⟨Nat.le_of_ble_eq_true rfl, Nat.le_of_ble_eq_true rfl⟩ rfl [1, 2, 3, 4, 5, 6, 7, 8, 9, 10, 11, 12, 13, 14, 15, 16, 17, 18, 19, 20] rfl rfl rfl rfl rfl rfl (Nat.le_of_ble_eq_true rfl) (tdec DX3_takeEnd 36 rfl) rfl ?_
        refine g_iconst (v := 0) C (tdec DX3_takeEnd 37 rfl) (by decide) rfl ?_
        have hr9 := o_some hF
        subst hr9
        exact g_iret C rfl rfl (tdec DX3_takeEnd 38 rfl)
      · have hF := o_ifn hF h9
        refine g_iconst (v := 5) C (tdec DX3_takeEnd 30 rfl) (by decide) rfl ?_
        have hr9 := o_some hF
        subst hr9
        exact g_iret C rfl rfl (tdec DX3_takeEnd 31 rfl)
    · have hF := o_ifn hF h6
      refine g_iconst (v := 1) C (tdec DX3_takeEnd 23 rfl) (by decide) rfl ?_
      have hr9 := o_some hF
      subst hr9
      exact g_iret C rfl rfl (tdec DX3_takeEnd 24 rfl)
def FX3_takeRecord (r0 : RC) (v0 : VS) (sb0 : SB) : Option (Int32 × RC × VS) :=
  (FX5_at sb0 (RC_pos r0)).bind fun r1 =>
  (FX3_sizeOf r1).bind fun r3 =>
  (FX5_isWhole sb0 (RC_pos r0) r3).bind fun r5 =>
  if r5 = 0 then
    some (1, r0, v0)
  else
    if r1 = 2 then
      (FX3_takeWrite r0 v0 sb0).bind fun (r20, s21) =>
      if r20 = 7 then
        some (r20, (RC_setrec (RC_setpos r0 ((RC_pos r0) + r3)) ((RC_rec r0) + 1)), s21)
      else
        if r20 = 0 then
          some (r20, (RC_setrec (RC_setpos r0 ((RC_pos r0) + r3)) ((RC_rec r0) + 1)), s21)
        else
          some (r20, r0, s21)
    else
      if r1 = 3 then
        (FX3_takeClear r0 v0 sb0).bind fun (r15, s16) =>
        if r15 = 7 then
          some (r15, (RC_setrec (RC_setpos r0 ((RC_pos r0) + r3)) ((RC_rec r0) + 1)), s16)
        else
          if r15 = 0 then
            some (r15, (RC_setrec (RC_setpos r0 ((RC_pos r0) + r3)) ((RC_rec r0) + 1)), s16)
          else
            some (r15, r0, s16)
      else
        (FX3_takeEnd r0 v0 sb0).bind fun (r10, s11) =>
        if r10 = 7 then
          some (r10, (RC_setrec (RC_setpos r0 ((RC_pos r0) + r3)) ((RC_rec r0) + 1)), s11)
        else
          if r10 = 0 then
            some (r10, (RC_setrec (RC_setpos r0 ((RC_pos r0) + r3)) ((RC_rec r0) + 1)), s11)
          else
            some (r10, r0, s11)
def rX3_takeRecord : Room := { frames := 5, cells := 0, slots := 0, locals := 119 }
set_option maxHeartbeats 4000000 in
set_option maxRecDepth 100000 in
theorem c_X3_takeRecord (l : Launch) (D : va_G) (cB cI cJ cZ : ClassId) (r_0 v_0 v_1 v_2 v_3 v_4 v_5 v_6 v_7 v_8 v_9 v_10 v_11 v_12 v_13 v_14 v_15 v_16 v_17 v_18 v_19 sb_0 sb_1 : Nat) {r0 : RC} {v0 : VS} {sb0 : SB} {res : Int32 × RC × VS} (hF : FX3_takeRecord r0 v0 sb0 = some res) : gMi l yX3_takeRecord wsX3_takeRecord rX3_takeRecord D (gT cB cI cJ cZ) [.ref r_0] ((wRC r_0 v_0 sb_0 r0) ++ (wV cI cJ v_0 v_1 v_2 v_3 v_4 v_5 v_6 v_7 v_8 v_9 v_10 v_11 v_12 v_13 v_14 v_15 v_16 v_17 v_18 v_19 v0) ++ (wSB cB sb_0 sb_1 sb0)) res.1 ((wRC r_0 v_0 sb_0 res.1) ++ (wV cI cJ v_0 v_1 v_2 v_3 v_4 v_5 v_6 v_7 v_8 v_9 v_10 v_11 v_12 v_13 v_14 v_15 v_16 v_17 v_18 v_19 res.2.2) ++ (wSB cB sb_0 sb_1 sb0)) := by
  refine g_enter (own := RX3) (free := (fun sz => va_A ((wRC r_0 v_0 sb_0 r0) ++ (wV cI cJ v_0 v_1 v_2 v_3 v_4 v_5 v_6 v_7 v_8 v_9 v_10 v_11 v_12 v_13 v_14 v_15 v_16 v_17 v_18 v_19 v0) ++ (wSB cB sb_0 sb_1 sb0)) sz)) (Qc := (fun sz => gQi D ((wRC r_0 v_0 sb_0 r0) ++ (wV cI cJ v_0 v_1 v_2 v_3 v_4 v_5 v_6 v_7 v_8 v_9 v_10 v_11 v_12 v_13 v_14 v_15 v_16 v_17 v_18 v_19 v0) ++ (wSB cB sb_0 sb_1 sb0)) sz res.1 ((wRC r_0 v_0 sb_0 res.1) ++ (wV cI cJ v_0 v_1 v_2 v_3 v_4 v_5 v_6 v_7 v_8 v_9 v_10 v_11 v_12 v_13 v_14 v_15 v_16 v_17 v_18 v_19 res.2.2) ++ (wSB cB sb_0 sb_1 sb0)))) (fun sz => va_A ((wRC r_0 v_0 sb_0 r0) ++ (wV cI cJ v_0 v_1 v_2 v_3 v_4 v_5 v_6 v_7 v_8 v_9 v_10 v_11 v_12 v_13 v_14 v_15 v_16 v_17 v_18 v_19 v0) ++ (wSB cB sb_0 sb_1 sb0)) sz) (fun sz => Or.inr rfl) rfl (by decide) rfl (Nat.le_of_ble_eq_true rfl) rfl ?_
  intro p e s m args below meth c C
  unfold FX3_takeRecord at hF
  refine g_aload_n (z := 0) C (tdec DX3_takeRecord 0 rfl) rfl rfl rfl ?_
  refine g_getf (C' := RX3) (T := TX3) (N := 5) (v := .ref sb_0) C 0 1 (gIn iw_X3) rfl rfl (by decide) (gMem fl_X3_15) rfl rfl (tdec DX3_takeRecord 1 rfl) rfl ?_
  refine g_aload_n (z := 0) C (tdec DX3_takeRecord 2 rfl) rfl rfl rfl ?_
  refine g_getf (C' := RX3) (T := TX3) (N := 5) (v := .int (RC_pos r0)) C 0 2 (gIn iw_X3) rfl rfl (by decide) (gMem fl_X3_60) rfl rfl (tdec DX3_takeRecord 3 rfl) rfl ?_
  obtain ⟨r1, y2, hF⟩ := o_bind hF
  refine g_callViR (q0 := 21) C (c_X5_at l D cB cI cJ cZ sb_0 sb_1 y2) rfl rfl (gIV ml_X3_29 im_X5_at sl_X5_at in_X5 cd_X5_at) rfl eX5_at rfl ⟨rfl, rfl⟩ ⟨Nat.le_of_ble_eq_true rfl, Nat.le_of_ble_eq_true rfl⟩ rfl [21, 22] rfl rfl rfl (Nat.le_of_ble_eq_true rfl) (tdec DX3_takeRecord 4 rfl) rfl ?_
  refine g_istore_n (L' := [(1, .int r1), (0, .ref r_0)]) C (tdec DX3_takeRecord 5 rfl) rfl (by decide) rfl rfl ?_
  refine g_iload_n (z := 0) C (tdec DX3_takeRecord 6 rfl) rfl rfl rfl ?_
  obtain ⟨r3, y4, hF⟩ := o_bind hF
  refine g_callSiR C (c_X3_sizeOf l D cB cI cJ cZ y4) (gIS ml_X3_76 st_X3_sizeOf in_X3 cd_X3_sizeOf) eX3_sizeOf rfl ⟨rfl, rfl⟩ ⟨Nat.le_of_ble_eq_true rfl, Nat.le_of_ble_eq_true rfl⟩ rfl [] rfl rfl rfl (Nat.le_of_ble_eq_true rfl) (tdec DX3_takeRecord 7 rfl) rfl ?_
  refine g_istore_n (L' := [(2, .int r3), (1, .int r1), (0, .ref r_0)]) C (tdec DX3_takeRecord 8 rfl) rfl (by decide) rfl rfl ?_
  refine g_aload_n (z := 2) C (tdec DX3_takeRecord 9 rfl) rfl rfl rfl ?_
  refine g_getf (C' := RX3) (T := TX3) (N := 5) (v := .ref sb_0) C 0 1 (gIn iw_X3) rfl rfl (by decide) (gMem fl_X3_15) rfl rfl (tdec DX3_takeRecord 10 rfl) rfl ?_
  refine g_aload_n (z := 2) C (tdec DX3_takeRecord 11 rfl) rfl rfl rfl ?_
  refine g_getf (C' := RX3) (T := TX3) (N := 5) (v := .int (RC_pos r0)) C 0 2 (gIn iw_X3) rfl rfl (by decide) (gMem fl_X3_60) rfl rfl (tdec DX3_takeRecord 12 rfl) rfl ?_
  refine g_iload_n (z := 0) C (tdec DX3_takeRecord 13 rfl) rfl rfl rfl ?_
  obtain ⟨r5, y6, hF⟩ := o_bind hF
  refine g_callViR (q0 := 21) C (c_X5_isWhole l D cB cI cJ cZ sb_0 sb_1 y6) rfl rfl (gIV ml_X3_35 im_X5_isWhole sl_X5_isWhole in_X5 cd_X5_isWhole) rfl eX5_isWhole rfl ⟨rfl, rfl⟩ ⟨Nat.le_of_ble_eq_true rfl, Nat.le_of_ble_eq_true rfl⟩ rfl [21, 22] rfl rfl rfl (Nat.le_of_ble_eq_true rfl) (tdec DX3_takeRecord 14 rfl) rfl ?_
  refine g_if_ne (pt := 34) C (tdec DX3_takeRecord 15 rfl) (by decide) rfl (fun h7 => ?_) (fun h7 => ?_)
  · have hF := o_ifn hF h7
    refine g_iload_n (z := 1) C (tdec DX3_takeRecord 18 rfl) rfl rfl rfl ?_
    refine g_iconst (v := 2) C (tdec DX3_takeRecord 19 rfl) (by decide) rfl ?_
    refine g_icmp_ne (pt := 46) C (tdec DX3_takeRecord 20 rfl) (by decide) rfl (fun h8 => ?_) (fun h8 => ?_)
    · have hF := o_ifn hF h8
      refine g_iload_n (z := 1) C (tdec DX3_takeRecord 24 rfl) rfl rfl rfl ?_
      refine g_iconst (v := 3) C (tdec DX3_takeRecord 25 rfl) (by decide) rfl ?_
      refine g_icmp_ne (pt := 58) C (tdec DX3_takeRecord 26 rfl) (by decide) rfl (fun h9 => ?_) (fun h9 => ?_)
      · have hF := o_ifn hF h9
        refine g_aload_n (z := 2) C (tdec DX3_takeRecord 30 rfl) rfl rfl rfl ?_
        obtain ⟨⟨r10, s11⟩, y12, hF⟩ := o_bind hF
        refine g_callViM (q0 := 0) (W' := (wRC r_0 v_0 sb_0 r0) ++ (wV cI cJ v_0 v_1 v_2 v_3 v_4 v_5 v_6 v_7 v_8 v_9 v_10 v_11 v_12 v_13 v_14 v_15 v_16 v_17 v_18 v_19 s11) ++ (wSB cB sb_0 sb_1 sb0)) C (c_X3_takeEnd l D cB cI cJ cZ r_0 v_0 v_1 v_2 v_3 v_4 v_5 v_6 v_7 v_8 v_9 v_10 v_11 v_12 v_13 v_14 v_15 v_16 v_17 v_18 v_19 sb_0 sb_1 y12) rfl rfl (gIV ml_X3_85 im_X3_takeEnd sl_X3_takeEnd in_X3 cd_X3_takeEnd) rfl eX3_takeEnd rfl ⟨rfl, rfl⟩ ⟨Nat.le_of_ble_eq_true rfl, Nat.le_of_ble_eq_true rfl⟩ rfl [0, 1, 2, 3, 4, 5, 6, 7, 8, 9, 10, 11, 12, 13, 14, 15, 16, 17, 18, 19, 20, 21, 22] rfl rfl rfl rfl rfl rfl (Nat.le_of_ble_eq_true rfl) (tdec DX3_takeRecord 31 rfl) rfl ?_
        refine g_istore_n (L' := [(3, .int r10), (2, .int r3), (1, .int r1), (0, .ref r_0)]) C (tdec DX3_takeRecord 32 rfl) rfl (by decide) rfl rfl ?_
        refine g_iload_n (z := 0) C (tdec DX3_takeRecord 33 rfl) rfl rfl rfl ?_
        refine g_bipush (v := 7) C (tdec DX3_takeRecord 34 rfl) (by decide) rfl ?_
        refine g_icmp_eq (pt := 73) C (tdec DX3_takeRecord 35 rfl) (by decide) rfl (fun h13 => ?_) (fun h13 => ?_)
        · have hF := o_ifp hF h13
          refine g_aload_n (z := 3) C (tdec DX3_takeRecord 38 rfl) rfl rfl rfl ?_
          refine g_dup C (tdec DX3_takeRecord 39 rfl) rfl rfl ?_
          refine g_getf (C' := RX3) (T := TX3) (N := 5) (v := .int (RC_pos r0)) C 0 2 (gIn iw_X3) rfl rfl (by decide) (gMem fl_X3_60) rfl rfl (tdec DX3_takeRecord 40 rfl) rfl ?_
          refine g_iload_n (z := 1) C (tdec DX3_takeRecord 41 rfl) rfl rfl rfl ?_
          refine g_iadd C (tdec DX3_takeRecord 42 rfl) rfl ?_
          refine g_putf (C' := RX3) (T := TX3) (N := 5) (v := .int ((RC_pos r0) + r3)) (ws' := (wRC r_0 v_0 sb_0 (RC_setpos r0 ((RC_pos r0) + r3))) ++ (wV cI cJ v_0 v_1 v_2 v_3 v_4 v_5 v_6 v_7 v_8 v_9 v_10 v_11 v_12 v_13 v_14 v_15 v_16 v_17 v_18 v_19 s11) ++ (wSB cB sb_0 sb_1 sb0)) C 0 2 tyX3 tyX3_ok nmX3 (gIn iw_X3) rfl rfl (by decide) (gMem fl_X3_60) rfl rfl (tyX3_ok 2 (by decide)) rfl rfl (Nat.le_of_ble_eq_true rfl) rfl (tdec DX3_takeRecord 43 rfl) rfl ?_
          refine g_aload_n (z := 3) C (tdec DX3_takeRecord 44 rfl) rfl rfl rfl ?_
          refine g_dup C (tdec DX3_takeRecord 45 rfl) rfl rfl ?_
          refine g_getf (C' := RX3) (T := TX3) (N := 5) (v := .int (RC_rec r0)) C 0 3 (gIn iw_X3) rfl rfl (by decide) (gMem fl_X3_19) rfl rfl (tdec DX3_takeRecord 46 rfl) rfl ?_
          refine g_iconst (v := 1) C (tdec DX3_takeRecord 47 rfl) (by decide) rfl ?_
          refine g_iadd C (tdec DX3_takeRecord 48 rfl) rfl ?_
          refine g_putf (C' := RX3) (T := TX3) (N := 5) (v := .int ((RC_rec r0) + 1)) (ws' := (wRC r_0 v_0 sb_0 (RC_setrec (RC_setpos r0 ((RC_pos r0) + r3)) ((RC_rec r0) + 1))) ++ (wV cI cJ v_0 v_1 v_2 v_3 v_4 v_5 v_6 v_7 v_8 v_9 v_10 v_11 v_12 v_13 v_14 v_15 v_16 v_17 v_18 v_19 s11) ++ (wSB cB sb_0 sb_1 sb0)) C 0 3 tyX3 tyX3_ok nmX3 (gIn iw_X3) rfl rfl (by decide) (gMem fl_X3_19) rfl rfl (tyX3_ok 3 (by decide)) rfl rfl (Nat.le_of_ble_eq_true rfl) rfl (tdec DX3_takeRecord 49 rfl) rfl ?_
          refine g_iload_n (z := 0) C (tdec DX3_takeRecord 50 rfl) rfl rfl rfl ?_
          have hr9 := o_some hF
          subst hr9
          exact g_iret C rfl rfl (tdec DX3_takeRecord 51 rfl)
        · have hF := o_ifn hF h13
          refine g_iload_n (z := 0) C (tdec DX3_takeRecord 36 rfl) rfl rfl rfl ?_
          refine g_if_ne (pt := 93) C (tdec DX3_takeRecord 37 rfl) (by decide) rfl (fun h14 => ?_) (fun h14 => ?_)
          · have hF := o_ifn hF h14
            refine g_iload_n (z := 0) C (tdec DX3_takeRecord 50 rfl) rfl rfl rfl ?_
            have hr9 := o_some hF
            subst hr9
            exact g_iret C rfl rfl (tdec DX3_takeRecord 51 rfl)
          · have hF := o_ifp hF h14
            refine g_aload_n (z := 3) C (tdec DX3_takeRecord 38 rfl) rfl rfl rfl ?_
            refine g_dup C (tdec DX3_takeRecord 39 rfl) rfl rfl ?_
            refine g_getf (C' := RX3) (T := TX3) (N := 5) (v := .int (RC_pos r0)) C 0 2 (gIn iw_X3) rfl rfl (by decide) (gMem fl_X3_60) rfl rfl (tdec DX3_takeRecord 40 rfl) rfl ?_
            refine g_iload_n (z := 1) C (tdec DX3_takeRecord 41 rfl) rfl rfl rfl ?_
            refine g_iadd C (tdec DX3_takeRecord 42 rfl) rfl ?_
            refine g_putf (C' := RX3) (T := TX3) (N := 5) (v := .int ((RC_pos r0) + r3)) (ws' := (wRC r_0 v_0 sb_0 (RC_setpos r0 ((RC_pos r0) + r3))) ++ (wV cI cJ v_0 v_1 v_2 v_3 v_4 v_5 v_6 v_7 v_8 v_9 v_10 v_11 v_12 v_13 v_14 v_15 v_16 v_17 v_18 v_19 s11) ++ (wSB cB sb_0 sb_1 sb0)) C 0 2 tyX3 tyX3_ok nmX3 (gIn iw_X3) rfl rfl (by decide) (gMem fl_X3_60) rfl rfl (tyX3_ok 2 (by decide)) rfl rfl (Nat.le_of_ble_eq_true rfl) rfl (tdec DX3_takeRecord 43 rfl) rfl ?_
            refine g_aload_n (z := 3) C (tdec DX3_takeRecord 44 rfl) rfl rfl rfl ?_
            refine g_dup C (tdec DX3_takeRecord 45 rfl) rfl rfl ?_
            refine g_getf (C' := RX3) (T := TX3) (N := 5) (v := .int (RC_rec r0)) C 0 3 (gIn iw_X3) rfl rfl (by decide) (gMem fl_X3_19) rfl rfl (tdec DX3_takeRecord 46 rfl) rfl ?_
            refine g_iconst (v := 1) C (tdec DX3_takeRecord 47 rfl) (by decide) rfl ?_
            refine g_iadd C (tdec DX3_takeRecord 48 rfl) rfl ?_
            refine g_putf (C' := RX3) (T := TX3) (N := 5) (v := .int ((RC_rec r0) + 1)) (ws' := (wRC r_0 v_0 sb_0 (RC_setrec (RC_setpos r0 ((RC_pos r0) + r3)) ((RC_rec r0) + 1))) ++ (wV cI cJ v_0 v_1 v_2 v_3 v_4 v_5 v_6 v_7 v_8 v_9 v_10 v_11 v_12 v_13 v_14 v_15 v_16 v_17 v_18 v_19 s11) ++ (wSB cB sb_0 sb_1 sb0)) C 0 3 tyX3 tyX3_ok nmX3 (gIn iw_X3) rfl rfl (by decide) (gMem fl_X3_19) rfl rfl (tyX3_ok 3 (by decide)) rfl rfl (Nat.le_of_ble_eq_true rfl) rfl (tdec DX3_takeRecord 49 rfl) rfl ?_
            refine g_iload_n (z := 0) C (tdec DX3_takeRecord 50 rfl) rfl rfl rfl ?_
            have hr9 := o_some hF
            subst hr9
            exact g_iret C rfl rfl (tdec DX3_takeRecord 51 rfl)
      · have hF := o_ifp hF h9
        refine g_aload_n (z := 2) C (tdec DX3_takeRecord 27 rfl) rfl rfl rfl ?_
        obtain ⟨⟨r15, s16⟩, y17, hF⟩ := o_bind hF
        refine g_callViM (q0 := 0) (W' := (wRC r_0 v_0 sb_0 r0) ++ (wV cI cJ v_0 v_1 v_2 v_3 v_4 v_5 v_6 v_7 v_8 v_9 v_10 v_11 v_12 v_13 v_14 v_15 v_16 v_17 v_18 v_19 s16) ++ (wSB cB sb_0 sb_1 sb0)) C (c_X3_takeClear l D cB cI cJ cZ r_0 v_0 v_1 v_2 v_3 v_4 v_5 v_6 v_7 v_8 v_9 v_10 v_11 v_12 v_13 v_14 v_15 v_16 v_17 v_18 v_19 sb_0 sb_1 y17) rfl rfl (gIV ml_X3_82 im_X3_takeClear sl_X3_takeClear in_X3 cd_X3_takeClear) rfl eX3_takeClear rfl ⟨rfl, rfl⟩ ⟨Nat.le_of_ble_eq_true rfl, Nat.le_of_ble_eq_true rfl⟩ rfl [0, 1, 2, 3, 4, 5, 6, 7, 8, 9, 10, 11, 12, 13, 14, 15, 16, 17, 18, 19, 20, 21, 22] rfl rfl rfl rfl rfl rfl (Nat.le_of_ble_eq_true rfl) (tdec DX3_takeRecord 28 rfl) rfl ?_
        refine g_goto (pt := 62) C (tdec DX3_takeRecord 29 rfl) (by decide) ?_
        refine g_istore_n (L' := [(3, .int r15), (2, .int r3), (1, .int r1), (0, .ref r_0)]) C (tdec DX3_takeRecord 32 rfl) rfl (by decide) rfl rfl ?_
        refine g_iload_n (z := 0) C (tdec DX3_takeRecord 33 rfl) rfl rfl rfl ?_
        refine g_bipush (v := 7) C (tdec DX3_takeRecord 34 rfl) (by decide) rfl ?_
        refine g_icmp_eq (pt := 73) C (tdec DX3_takeRecord 35 rfl) (by decide) rfl (fun h18 => ?_) (fun h18 => ?_)
        · have hF := o_ifp hF h18
          refine g_aload_n (z := 3) C (tdec DX3_takeRecord 38 rfl) rfl rfl rfl ?_
          refine g_dup C (tdec DX3_takeRecord 39 rfl) rfl rfl ?_
          refine g_getf (C' := RX3) (T := TX3) (N := 5) (v := .int (RC_pos r0)) C 0 2 (gIn iw_X3) rfl rfl (by decide) (gMem fl_X3_60) rfl rfl (tdec DX3_takeRecord 40 rfl) rfl ?_
          refine g_iload_n (z := 1) C (tdec DX3_takeRecord 41 rfl) rfl rfl rfl ?_
          refine g_iadd C (tdec DX3_takeRecord 42 rfl) rfl ?_
          refine g_putf (C' := RX3) (T := TX3) (N := 5) (v := .int ((RC_pos r0) + r3)) (ws' := (wRC r_0 v_0 sb_0 (RC_setpos r0 ((RC_pos r0) + r3))) ++ (wV cI cJ v_0 v_1 v_2 v_3 v_4 v_5 v_6 v_7 v_8 v_9 v_10 v_11 v_12 v_13 v_14 v_15 v_16 v_17 v_18 v_19 s16) ++ (wSB cB sb_0 sb_1 sb0)) C 0 2 tyX3 tyX3_ok nmX3 (gIn iw_X3) rfl rfl (by decide) (gMem fl_X3_60) rfl rfl (tyX3_ok 2 (by decide)) rfl rfl (Nat.le_of_ble_eq_true rfl) rfl (tdec DX3_takeRecord 43 rfl) rfl ?_
          refine g_aload_n (z := 3) C (tdec DX3_takeRecord 44 rfl) rfl rfl rfl ?_
          refine g_dup C (tdec DX3_takeRecord 45 rfl) rfl rfl ?_
          refine g_getf (C' := RX3) (T := TX3) (N := 5) (v := .int (RC_rec r0)) C 0 3 (gIn iw_X3) rfl rfl (by decide) (gMem fl_X3_19) rfl rfl (tdec DX3_takeRecord 46 rfl) rfl ?_
          refine g_iconst (v := 1) C (tdec DX3_takeRecord 47 rfl) (by decide) rfl ?_
          refine g_iadd C (tdec DX3_takeRecord 48 rfl) rfl ?_
          refine g_putf (C' := RX3) (T := TX3) (N := 5) (v := .int ((RC_rec r0) + 1)) (ws' := (wRC r_0 v_0 sb_0 (RC_setrec (RC_setpos r0 ((RC_pos r0) + r3)) ((RC_rec r0) + 1))) ++ (wV cI cJ v_0 v_1 v_2 v_3 v_4 v_5 v_6 v_7 v_8 v_9 v_10 v_11 v_12 v_13 v_14 v_15 v_16 v_17 v_18 v_19 s16) ++ (wSB cB sb_0 sb_1 sb0)) C 0 3 tyX3 tyX3_ok nmX3 (gIn iw_X3) rfl rfl (by decide) (gMem fl_X3_19) rfl rfl (tyX3_ok 3 (by decide)) rfl rfl (Nat.le_of_ble_eq_true rfl) rfl (tdec DX3_takeRecord 49 rfl) rfl ?_
          refine g_iload_n (z := 0) C (tdec DX3_takeRecord 50 rfl) rfl rfl rfl ?_
          have hr9 := o_some hF
          subst hr9
          exact g_iret C rfl rfl (tdec DX3_takeRecord 51 rfl)
        · have hF := o_ifn hF h18
          refine g_iload_n (z := 0) C (tdec DX3_takeRecord 36 rfl) rfl rfl rfl ?_
          refine g_if_ne (pt := 93) C (tdec DX3_takeRecord 37 rfl) (by decide) rfl (fun h19 => ?_) (fun h19 => ?_)
          · have hF := o_ifn hF h19
            refine g_iload_n (z := 0) C (tdec DX3_takeRecord 50 rfl) rfl rfl rfl ?_
            have hr9 := o_some hF
            subst hr9
            exact g_iret C rfl rfl (tdec DX3_takeRecord 51 rfl)
          · have hF := o_ifp hF h19
            refine g_aload_n (z := 3) C (tdec DX3_takeRecord 38 rfl) rfl rfl rfl ?_
            refine g_dup C (tdec DX3_takeRecord 39 rfl) rfl rfl ?_
            refine g_getf (C' := RX3) (T := TX3) (N := 5) (v := .int (RC_pos r0)) C 0 2 (gIn iw_X3) rfl rfl (by decide) (gMem fl_X3_60) rfl rfl (tdec DX3_takeRecord 40 rfl) rfl ?_
            refine g_iload_n (z := 1) C (tdec DX3_takeRecord 41 rfl) rfl rfl rfl ?_
            refine g_iadd C (tdec DX3_takeRecord 42 rfl) rfl ?_
            refine g_putf (C' := RX3) (T := TX3) (N := 5) (v := .int ((RC_pos r0) + r3)) (ws' := (wRC r_0 v_0 sb_0 (RC_setpos r0 ((RC_pos r0) + r3))) ++ (wV cI cJ v_0 v_1 v_2 v_3 v_4 v_5 v_6 v_7 v_8 v_9 v_10 v_11 v_12 v_13 v_14 v_15 v_16 v_17 v_18 v_19 s16) ++ (wSB cB sb_0 sb_1 sb0)) C 0 2 tyX3 tyX3_ok nmX3 (gIn iw_X3) rfl rfl (by decide) (gMem fl_X3_60) rfl rfl (tyX3_ok 2 (by decide)) rfl rfl (Nat.le_of_ble_eq_true rfl) rfl (tdec DX3_takeRecord 43 rfl) rfl ?_
            refine g_aload_n (z := 3) C (tdec DX3_takeRecord 44 rfl) rfl rfl rfl ?_
            refine g_dup C (tdec DX3_takeRecord 45 rfl) rfl rfl ?_
            refine g_getf (C' := RX3) (T := TX3) (N := 5) (v := .int (RC_rec r0)) C 0 3 (gIn iw_X3) rfl rfl (by decide) (gMem fl_X3_19) rfl rfl (tdec DX3_takeRecord 46 rfl) rfl ?_
            refine g_iconst (v := 1) C (tdec DX3_takeRecord 47 rfl) (by decide) rfl ?_
            refine g_iadd C (tdec DX3_takeRecord 48 rfl) rfl ?_
            refine g_putf (C' := RX3) (T := TX3) (N := 5) (v := .int ((RC_rec r0) + 1)) (ws' := (wRC r_0 v_0 sb_0 (RC_setrec (RC_setpos r0 ((RC_pos r0) + r3)) ((RC_rec r0) + 1))) ++ (wV cI cJ v_0 v_1 v_2 v_3 v_4 v_5 v_6 v_7 v_8 v_9 v_10 v_11 v_12 v_13 v_14 v_15 v_16 v_17 v_18 v_19 s16) ++ (wSB cB sb_0 sb_1 sb0)) C 0 3 tyX3 tyX3_ok nmX3 (gIn iw_X3) rfl rfl (by decide) (gMem fl_X3_19) rfl rfl (tyX3_ok 3 (by decide)) rfl rfl (Nat.le_of_ble_eq_true rfl) rfl (tdec DX3_takeRecord 49 rfl) rfl ?_
            refine g_iload_n (z := 0) C (tdec DX3_takeRecord 50 rfl) rfl rfl rfl ?_
            have hr9 := o_some hF
            subst hr9
            exact g_iret C rfl rfl (tdec DX3_takeRecord 51 rfl)
    · have hF := o_ifp hF h8
      refine g_aload_n (z := 2) C (tdec DX3_takeRecord 21 rfl) rfl rfl rfl ?_
      obtain ⟨⟨r20, s21⟩, y22, hF⟩ := o_bind hF
      refine g_callViM (q0 := 0) (W' := (wRC r_0 v_0 sb_0 r0) ++ (wV cI cJ v_0 v_1 v_2 v_3 v_4 v_5 v_6 v_7 v_8 v_9 v_10 v_11 v_12 v_13 v_14 v_15 v_16 v_17 v_18 v_19 s21) ++ (wSB cB sb_0 sb_1 sb0)) C (c_X3_takeWrite l D cB cI cJ cZ r_0 v_0 v_1 v_2 v_3 v_4 v_5 v_6 v_7 v_8 v_9 v_10 v_11 v_12 v_13 v_14 v_15 v_16 v_17 v_18 v_19 sb_0 sb_1 y22) rfl rfl (gIV ml_X3_79 im_X3_takeWrite sl_X3_takeWrite in_X3 cd_X3_takeWrite) rfl eX3_takeWrite rfl ⟨rfl, rfl⟩ ⟨Nat.le_of_ble_eq_true rfl, Nat.le_of_ble_eq_true rfl⟩ rfl [0, 1, 2, 3, 4, 5, 6, 7, 8, 9, 10, 11, 12, 13, 14, 15, 16, 17, 18, 19, 20, 21, 22] rfl rfl rfl rfl rfl rfl (Nat.le_of_ble_eq_true rfl) (tdec DX3_takeRecord 22 rfl) rfl ?_
      refine g_goto (pt := 62) C (tdec DX3_takeRecord 23 rfl) (by decide) ?_
      refine g_istore_n (L' := [(3, .int r20), (2, .int r3), (1, .int r1), (0, .ref r_0)]) C (tdec DX3_takeRecord 32 rfl) rfl (by decide) rfl rfl ?_
      refine g_iload_n (z := 0) C (tdec DX3_takeRecord 33 rfl) rfl rfl rfl ?_
      refine g_bipush (v := 7) C (tdec DX3_takeRecord 34 rfl) (by decide) rfl ?_
      refine g_icmp_eq (pt := 73) C (tdec DX3_takeRecord 35 rfl) (by decide) rfl (fun h23 => ?_) (fun h23 => ?_)
      · have hF := o_ifp hF h23
        refine g_aload_n (z := 3) C (tdec DX3_takeRecord 38 rfl) rfl rfl rfl ?_
        refine g_dup C (tdec DX3_takeRecord 39 rfl) rfl rfl ?_
        refine g_getf (C' := RX3) (T := TX3) (N := 5) (v := .int (RC_pos r0)) C 0 2 (gIn iw_X3) rfl rfl (by decide) (gMem fl_X3_60) rfl rfl (tdec DX3_takeRecord 40 rfl) rfl ?_
        refine g_iload_n (z := 1) C (tdec DX3_takeRecord 41 rfl) rfl rfl rfl ?_
        refine g_iadd C (tdec DX3_takeRecord 42 rfl) rfl ?_
        refine g_putf (C' := RX3) (T := TX3) (N := 5) (v := .int ((RC_pos r0) + r3)) (ws' := (wRC r_0 v_0 sb_0 (RC_setpos r0 ((RC_pos r0) + r3))) ++ (wV cI cJ v_0 v_1 v_2 v_3 v_4 v_5 v_6 v_7 v_8 v_9 v_10 v_11 v_12 v_13 v_14 v_15 v_16 v_17 v_18 v_19 s21) ++ (wSB cB sb_0 sb_1 sb0)) C 0 2 tyX3 tyX3_ok nmX3 (gIn iw_X3) rfl rfl (by decide) (gMem fl_X3_60) rfl rfl (tyX3_ok 2 (by decide)) rfl rfl (Nat.le_of_ble_eq_true rfl) rfl (tdec DX3_takeRecord 43 rfl) rfl ?_
        refine g_aload_n (z := 3) C (tdec DX3_takeRecord 44 rfl) rfl rfl rfl ?_
        refine g_dup C (tdec DX3_takeRecord 45 rfl) rfl rfl ?_
        refine g_getf (C' := RX3) (T := TX3) (N := 5) (v := .int (RC_rec r0)) C 0 3 (gIn iw_X3) rfl rfl (by decide) (gMem fl_X3_19) rfl rfl (tdec DX3_takeRecord 46 rfl) rfl ?_
        refine g_iconst (v := 1) C (tdec DX3_takeRecord 47 rfl) (by decide) rfl ?_
        refine g_iadd C (tdec DX3_takeRecord 48 rfl) rfl ?_
        refine g_putf (C' := RX3) (T := TX3) (N := 5) (v := .int ((RC_rec r0) + 1)) (ws' := (wRC r_0 v_0 sb_0 (RC_setrec (RC_setpos r0 ((RC_pos r0) + r3)) ((RC_rec r0) + 1))) ++ (wV cI cJ v_0 v_1 v_2 v_3 v_4 v_5 v_6 v_7 v_8 v_9 v_10 v_11 v_12 v_13 v_14 v_15 v_16 v_17 v_18 v_19 s21) ++ (wSB cB sb_0 sb_1 sb0)) C 0 3 tyX3 tyX3_ok nmX3 (gIn iw_X3) rfl rfl (by decide) (gMem fl_X3_19) rfl rfl (tyX3_ok 3 (by decide)) rfl rfl (Nat.le_of_ble_eq_true rfl) rfl (tdec DX3_takeRecord 49 rfl) rfl ?_
        refine g_iload_n (z := 0) C (tdec DX3_takeRecord 50 rfl) rfl rfl rfl ?_
        have hr9 := o_some hF
        subst hr9
        exact g_iret C rfl rfl (tdec DX3_takeRecord 51 rfl)
      · have hF := o_ifn hF h23
        refine g_iload_n (z := 0) C (tdec DX3_takeRecord 36 rfl) rfl rfl rfl ?_
        refine g_if_ne (pt := 93) C (tdec DX3_takeRecord 37 rfl) (by decide) rfl (fun h24 => ?_) (fun h24 => ?_)
        · have hF := o_ifn hF h24
          refine g_iload_n (z := 0) C (tdec DX3_takeRecord 50 rfl) rfl rfl rfl ?_
          have hr9 := o_some hF
          subst hr9
          exact g_iret C rfl rfl (tdec DX3_takeRecord 51 rfl)
        · have hF := o_ifp hF h24
          refine g_aload_n (z := 3) C (tdec DX3_takeRecord 38 rfl) rfl rfl rfl ?_
          refine g_dup C (tdec DX3_takeRecord 39 rfl) rfl rfl ?_
          refine g_getf (C' := RX3) (T := TX3) (N := 5) (v := .int (RC_pos r0)) C 0 2 (gIn iw_X3) rfl rfl (by decide) (gMem fl_X3_60) rfl rfl (tdec DX3_takeRecord 40 rfl) rfl ?_
          refine g_iload_n (z := 1) C (tdec DX3_takeRecord 41 rfl) rfl rfl rfl ?_
          refine g_iadd C (tdec DX3_takeRecord 42 rfl) rfl ?_
          refine g_putf (C' := RX3) (T := TX3) (N := 5) (v := .int ((RC_pos r0) + r3)) (ws' := (wRC r_0 v_0 sb_0 (RC_setpos r0 ((RC_pos r0) + r3))) ++ (wV cI cJ v_0 v_1 v_2 v_3 v_4 v_5 v_6 v_7 v_8 v_9 v_10 v_11 v_12 v_13 v_14 v_15 v_16 v_17 v_18 v_19 s21) ++ (wSB cB sb_0 sb_1 sb0)) C 0 2 tyX3 tyX3_ok nmX3 (gIn iw_X3) rfl rfl (by decide) (gMem fl_X3_60) rfl rfl (tyX3_ok 2 (by decide)) rfl rfl (Nat.le_of_ble_eq_true rfl) rfl (tdec DX3_takeRecord 43 rfl) rfl ?_
          refine g_aload_n (z := 3) C (tdec DX3_takeRecord 44 rfl) rfl rfl rfl ?_
          refine g_dup C (tdec DX3_takeRecord 45 rfl) rfl rfl ?_
          refine g_getf (C' := RX3) (T := TX3) (N := 5) (v := .int (RC_rec r0)) C 0 3 (gIn iw_X3) rfl rfl (by decide) (gMem fl_X3_19) rfl rfl (tdec DX3_takeRecord 46 rfl) rfl ?_
          refine g_iconst (v := 1) C (tdec DX3_takeRecord 47 rfl) (by decide) rfl ?_
          refine g_iadd C (tdec DX3_takeRecord 48 rfl) rfl ?_
          refine g_putf (C' := RX3) (T := TX3) (N := 5) (v := .int ((RC_rec r0) + 1)) (ws' := (wRC r_0 v_0 sb_0 (RC_setrec (RC_setpos r0 ((RC_pos r0) + r3)) ((RC_rec r0) + 1))) ++ (wV cI cJ v_0 v_1 v_2 v_3 v_4 v_5 v_6 v_7 v_8 v_9 v_10 v_11 v_12 v_13 v_14 v_15 v_16 v_17 v_18 v_19 s21) ++ (wSB cB sb_0 sb_1 sb0)) C 0 3 tyX3 tyX3_ok nmX3 (gIn iw_X3) rfl rfl (by decide) (gMem fl_X3_19) rfl rfl (tyX3_ok 3 (by decide)) rfl rfl (Nat.le_of_ble_eq_true rfl) rfl (tdec DX3_takeRecord 49 rfl) rfl ?_
          refine g_iload_n (z := 0) C (tdec DX3_takeRecord 50 rfl) rfl rfl rfl ?_
          have hr9 := o_some hF
          subst hr9
          exact g_iret C rfl rfl (tdec DX3_takeRecord 51 rfl)
  · have hF := o_ifp hF h7
    refine g_iconst (v := 1) C (tdec DX3_takeRecord 16 rfl) (by decide) rfl ?_
    have hr9 := o_some hF
    subst hr9
    exact g_iret C rfl rfl (tdec DX3_takeRecord 17 rfl)
def FX3_takeRecords_L5 (sb0 : SB) (v1 : Int32) (k9 : RC → VS → Int32 → Int32 → Option (Int32 × RC × VS)) : Nat → RC → VS → Int32 → Int32 → Option (Int32 × RC × VS)
  | 0, _, _, _, _ => none
  | n9 + 1, r, v, v2, v3 =>
    if v1 ≤ v3 then
      k9 r v v2 v3
    else
      if v2 = 7 then
        (FX3_takeRecord r v sb0).bind fun (r3, s4, s5) =>
        (FX6_settle s5).bind fun s7 =>
        FX3_takeRecords_L5 sb0 v1 k9 n9 s4 s7 r3 (v3 + 1)
      else
        k9 r v v2 v3
def FX3_takeRecords (r0 : RC) (v0 : VS) (sb0 : SB) (p1 : Int32) : Option (Int32 × RC × VS) :=
  FX3_takeRecords_L5 sb0 p1 (fun rq9 vq9 w2_9 w3_9 =>
    if w2_9 = 1 then
      (FX6_dropHidden vq9).bind fun s11 =>
      some (w2_9, rq9, s11)
    else
      if w2_9 = 5 then
        (FX6_dropHidden vq9).bind fun s14 =>
        some (w2_9, rq9, s14)
      else
        some (w2_9, rq9, vq9)) 100000 r0 v0 7 0
def rX3_takeRecords : Room := { frames := 6, cells := 0, slots := 0, locals := 142 }
set_option maxHeartbeats 4000000 in
set_option maxRecDepth 100000 in
theorem c_FX3_takeRecords_L5 {p : Program} {l : Launch} {e : Env} {s : State} {m : MethodId} {args : Array Value} {below : List Frame} {meth : Method} {c : Code} {D : va_G} {cB cI cJ cZ : ClassId} {r_0 v_0 v_1 v_2 v_3 v_4 v_5 v_6 v_7 v_8 v_9 v_10 v_11 v_12 v_13 v_14 v_15 v_16 v_17 v_18 v_19 sb_0 sb_1 : Nat} {r0 : RC} {v0 : VS} {sb0 : SB} {res : Int32 × RC × VS} (C : gC p s m args meth c cX3_takeRecords 4 RX3 wsX3_takeRecords D (gT cB cI cJ cZ) (some .int) (va_A ((wRC r_0 v_0 sb_0 r0) ++ (wV cI cJ v_0 v_1 v_2 v_3 v_4 v_5 v_6 v_7 v_8 v_9 v_10 v_11 v_12 v_13 v_14 v_15 v_16 v_17 v_18 v_19 v0) ++ (wSB cB sb_0 sb_1 sb0)) s.heap.size)) {v1 : Int32} {k9 : RC → VS → Int32 → Int32 → Option (Int32 × RC × VS)} (hk9 : ∀ (r : RC) (v : VS) (v2 : Int32) (v3 : Int32), k9 r v v2 v3 = some res → gG p l e (headSpec wsX3_takeRecords rX3_takeRecords).room s m args below meth c 0 0 D (va_A ((wRC r_0 v_0 sb_0 r0) ++ (wV cI cJ v_0 v_1 v_2 v_3 v_4 v_5 v_6 v_7 v_8 v_9 v_10 v_11 v_12 v_13 v_14 v_15 v_16 v_17 v_18 v_19 v0) ++ (wSB cB sb_0 sb_1 sb0)) s.heap.size) (va_A ((wRC r_0 v_0 sb_0 r0) ++ (wV cI cJ v_0 v_1 v_2 v_3 v_4 v_5 v_6 v_7 v_8 v_9 v_10 v_11 v_12 v_13 v_14 v_15 v_16 v_17 v_18 v_19 v0) ++ (wSB cB sb_0 sb_1 sb0)) s.heap.size) 4 (MQ below (gQi D ((wRC r_0 v_0 sb_0 r0) ++ (wV cI cJ v_0 v_1 v_2 v_3 v_4 v_5 v_6 v_7 v_8 v_9 v_10 v_11 v_12 v_13 v_14 v_15 v_16 v_17 v_18 v_19 v0) ++ (wSB cB sb_0 sb_1 sb0)) s.heap.size res.1 ((wRC r_0 v_0 sb_0 res.1) ++ (wV cI cJ v_0 v_1 v_2 v_3 v_4 v_5 v_6 v_7 v_8 v_9 v_10 v_11 v_12 v_13 v_14 v_15 v_16 v_17 v_18 v_19 res.2.2) ++ (wSB cB sb_0 sb_1 sb0))) args s 0 0 (va_A ((wRC r_0 v_0 sb_0 r0) ++ (wV cI cJ v_0 v_1 v_2 v_3 v_4 v_5 v_6 v_7 v_8 v_9 v_10 v_11 v_12 v_13 v_14 v_15 v_16 v_17 v_18 v_19 v0) ++ (wSB cB sb_0 sb_1 sb0)) s.heap.size)) ((wRC r_0 v_0 sb_0 r) ++ (wV cI cJ v_0 v_1 v_2 v_3 v_4 v_5 v_6 v_7 v_8 v_9 v_10 v_11 v_12 v_13 v_14 v_15 v_16 v_17 v_18 v_19 v) ++ (wSB cB sb_0 sb_1 sb0)) 34 [(0, .ref r_0), (1, .int v1), (2, .int v2), (3, .int v3)] []) :
    ∀ (n9 : Nat) (r : RC) (v : VS) (v2 : Int32) (v3 : Int32), FX3_takeRecords_L5 sb0 v1 k9 n9 r v v2 v3 = some res → gG p l e (headSpec wsX3_takeRecords rX3_takeRecords).room s m args below meth c 0 0 D (va_A ((wRC r_0 v_0 sb_0 r0) ++ (wV cI cJ v_0 v_1 v_2 v_3 v_4 v_5 v_6 v_7 v_8 v_9 v_10 v_11 v_12 v_13 v_14 v_15 v_16 v_17 v_18 v_19 v0) ++ (wSB cB sb_0 sb_1 sb0)) s.heap.size) (va_A ((wRC r_0 v_0 sb_0 r0) ++ (wV cI cJ v_0 v_1 v_2 v_3 v_4 v_5 v_6 v_7 v_8 v_9 v_10 v_11 v_12 v_13 v_14 v_15 v_16 v_17 v_18 v_19 v0) ++ (wSB cB sb_0 sb_1 sb0)) s.heap.size) 4 (MQ below (gQi D ((wRC r_0 v_0 sb_0 r0) ++ (wV cI cJ v_0 v_1 v_2 v_3 v_4 v_5 v_6 v_7 v_8 v_9 v_10 v_11 v_12 v_13 v_14 v_15 v_16 v_17 v_18 v_19 v0) ++ (wSB cB sb_0 sb_1 sb0)) s.heap.size res.1 ((wRC r_0 v_0 sb_0 res.1) ++ (wV cI cJ v_0 v_1 v_2 v_3 v_4 v_5 v_6 v_7 v_8 v_9 v_10 v_11 v_12 v_13 v_14 v_15 v_16 v_17 v_18 v_19 res.2.2) ++ (wSB cB sb_0 sb_1 sb0))) args s 0 0 (va_A ((wRC r_0 v_0 sb_0 r0) ++ (wV cI cJ v_0 v_1 v_2 v_3 v_4 v_5 v_6 v_7 v_8 v_9 v_10 v_11 v_12 v_13 v_14 v_15 v_16 v_17 v_18 v_19 v0) ++ (wSB cB sb_0 sb_1 sb0)) s.heap.size)) ((wRC r_0 v_0 sb_0 r) ++ (wV cI cJ v_0 v_1 v_2 v_3 v_4 v_5 v_6 v_7 v_8 v_9 v_10 v_11 v_12 v_13 v_14 v_15 v_16 v_17 v_18 v_19 v) ++ (wSB cB sb_0 sb_1 sb0)) 5 [(0, .ref r_0), (1, .int v1), (2, .int v2), (3, .int v3)] [] := by
  intro n9
  induction n9 with
  | zero =>
    intro r v v2 v3 hF
    exact absurd hF (by simp [FX3_takeRecords_L5])
  | succ n9 ih9 =>
    intro r v v2 v3 hF
    rw [FX3_takeRecords_L5] at hF
    refine g_iload_n (z := 3) C (tdec DX3_takeRecords 4 rfl) rfl rfl rfl ?_
    refine g_iload_n (z := 1) C (tdec DX3_takeRecords 5 rfl) rfl rfl rfl ?_
    refine g_icmp_ge (pt := 34) C (tdec DX3_takeRecords 6 rfl) (by decide) rfl (fun h1 => ?_) (fun h1 => ?_)
    · have hF := o_ifp hF h1
      refine g_sub (L' := [(0, .ref r_0), (1, .int v1), (2, .int v2), (3, .int v3)]) [0, 1, 2, 3] rfl ?_
      exact hk9 _ _ _ _ hF
    · have hF := o_ifn hF h1
      refine g_iload_n (z := 2) C (tdec DX3_takeRecords 7 rfl) rfl rfl rfl ?_
      refine g_bipush (v := 7) C (tdec DX3_takeRecords 8 rfl) (by decide) rfl ?_
      refine g_icmp_ne (pt := 34) C (tdec DX3_takeRecords 9 rfl) (by decide) rfl (fun h2 => ?_) (fun h2 => ?_)
      · have hF := o_ifn hF h2
        refine g_sub (L' := [(0, .ref r_0), (1, .int v1), (2, .int v2), (3, .int v3)]) [0, 1, 2, 3] rfl ?_
        exact hk9 _ _ _ _ hF
      · have hF := o_ifp hF h2
        refine g_aload_n (z := 0) C (tdec DX3_takeRecords 10 rfl) rfl rfl rfl ?_
        obtain ⟨⟨r3, s4, s5⟩, y6, hF⟩ := o_bind hF
        refine g_callViM (q0 := 0) (W' := (wRC r_0 v_0 sb_0 s4) ++ (wV cI cJ v_0 v_1 v_2 v_3 v_4 v_5 v_6 v_7 v_8 v_9 v_10 v_11 v_12 v_13 v_14 v_15 v_16 v_17 v_18 v_19 s5) ++ (wSB cB sb_0 sb_1 sb0)) C (c_X3_takeRecord l D cB cI cJ cZ r_0 v_0 v_1 v_2 v_3 v_4 v_5 v_6 v_7 v_8 v_9 v_10 v_11 v_12 v_13 v_14 v_15 v_16 v_17 v_18 v_19 sb_0 sb_1 y6) rfl rfl (gIV ml_X3_67 im_X3_takeRecord sl_X3_takeRecord in_X3 cd_X3_takeRecord) rfl eX3_takeRecord rfl ⟨rfl, rfl⟩ ⟨Nat.le_of_ble_eq_true rfl, Nat.le_of_ble_eq_true rfl⟩ rfl [0, 1, 2, 3, 4, 5, 6, 7, 8, 9, 10, 11, 12, 13, 14, 15, 16, 17, 18, 19, 20, 21, 22] rfl rfl rfl rfl rfl rfl (Nat.le_of_ble_eq_true rfl) (tdec DX3_takeRecords 11 rfl) rfl ?_
        refine g_istore_n (L' := [(2, .int r3), (0, .ref r_0), (1, .int v1), (3, .int v3)]) C (tdec DX3_takeRecords 12 rfl) rfl (by decide) rfl rfl ?_
        refine g_aload_n (z := 1) C (tdec DX3_takeRecords 13 rfl) rfl rfl rfl ?_
        refine g_getf (C' := RX3) (T := TX3) (N := 5) (v := .ref v_0) C 0 0 (gIn iw_X3) rfl rfl (by decide) (gMem fl_X3_9) rfl rfl (tdec DX3_takeRecords 14 rfl) rfl ?_
        obtain ⟨s7, y8, hF⟩ := o_bind hF
        refine g_callVvM (q0 := 1) (W' := (wRC r_0 v_0 sb_0 s4) ++ (wV cI cJ v_0 v_1 v_2 v_3 v_4 v_5 v_6 v_7 v_8 v_9 v_10 v_11 v_12 v_13 v_14 v_15 v_16 v_17 v_18 v_19 s7) ++ (wSB cB sb_0 sb_1 sb0)) C (c_X6_settle l D cB cI cJ cZ v_0 v_1 v_2 v_3 v_4 v_5 v_6 v_7 v_8 v_9 v_10 v_11 v_12 v_13 v_14 v_15 v_16 v_17 v_18 v_19 y8) rfl rfl (gIV ml_X3_70 im_X6_settle sl_X6_settle in_X6 cd_X6_settle) rfl eX6_settle rfl ⟨rfl, rfl⟩ ⟨Nat.le_of_ble_eq_true rfl, Nat.le_of_ble_eq_true rfl⟩ rfl [1, 2, 3, 4, 5, 6, 7, 8, 9, 10, 11, 12, 13, 14, 15, 16, 17, 18, 19, 20] rfl rfl rfl rfl rfl rfl (Nat.le_of_ble_eq_true rfl) (tdec DX3_takeRecords 15 rfl) rfl ?_
        refine g_iinc (z := 3) (v := (v3 + 1)) (L' := [(3, .int (v3 + 1)), (2, .int r3), (0, .ref r_0), (1, .int v1)]) C (tdec DX3_takeRecords 16 rfl) rfl rfl (by decide) rfl rfl ?_
        refine g_goto (pt := 5) C (tdec DX3_takeRecords 17 rfl) (by decide) ?_
        refine g_sub (L' := [(0, .ref r_0), (1, .int v1), (2, .int r3), (3, .int (v3 + 1))]) [2, 3, 1, 0] rfl ?_
        exact ih9 _ _ _ _ hF
set_option maxHeartbeats 4000000 in
set_option maxRecDepth 100000 in
theorem c_X3_takeRecords (l : Launch) (D : va_G) (cB cI cJ cZ : ClassId) (r_0 v_0 v_1 v_2 v_3 v_4 v_5 v_6 v_7 v_8 v_9 v_10 v_11 v_12 v_13 v_14 v_15 v_16 v_17 v_18 v_19 sb_0 sb_1 : Nat) {r0 : RC} {v0 : VS} {sb0 : SB} {p1 : Int32} {res : Int32 × RC × VS} (hF : FX3_takeRecords r0 v0 sb0 p1 = some res) : gMi l yX3_takeRecords wsX3_takeRecords rX3_takeRecords D (gT cB cI cJ cZ) [.ref r_0, .int p1] ((wRC r_0 v_0 sb_0 r0) ++ (wV cI cJ v_0 v_1 v_2 v_3 v_4 v_5 v_6 v_7 v_8 v_9 v_10 v_11 v_12 v_13 v_14 v_15 v_16 v_17 v_18 v_19 v0) ++ (wSB cB sb_0 sb_1 sb0)) res.1 ((wRC r_0 v_0 sb_0 res.1) ++ (wV cI cJ v_0 v_1 v_2 v_3 v_4 v_5 v_6 v_7 v_8 v_9 v_10 v_11 v_12 v_13 v_14 v_15 v_16 v_17 v_18 v_19 res.2.2) ++ (wSB cB sb_0 sb_1 sb0)) := by
  refine g_enter (own := RX3) (free := (fun sz => va_A ((wRC r_0 v_0 sb_0 r0) ++ (wV cI cJ v_0 v_1 v_2 v_3 v_4 v_5 v_6 v_7 v_8 v_9 v_10 v_11 v_12 v_13 v_14 v_15 v_16 v_17 v_18 v_19 v0) ++ (wSB cB sb_0 sb_1 sb0)) sz)) (Qc := (fun sz => gQi D ((wRC r_0 v_0 sb_0 r0) ++ (wV cI cJ v_0 v_1 v_2 v_3 v_4 v_5 v_6 v_7 v_8 v_9 v_10 v_11 v_12 v_13 v_14 v_15 v_16 v_17 v_18 v_19 v0) ++ (wSB cB sb_0 sb_1 sb0)) sz res.1 ((wRC r_0 v_0 sb_0 res.1) ++ (wV cI cJ v_0 v_1 v_2 v_3 v_4 v_5 v_6 v_7 v_8 v_9 v_10 v_11 v_12 v_13 v_14 v_15 v_16 v_17 v_18 v_19 res.2.2) ++ (wSB cB sb_0 sb_1 sb0)))) (fun sz => va_A ((wRC r_0 v_0 sb_0 r0) ++ (wV cI cJ v_0 v_1 v_2 v_3 v_4 v_5 v_6 v_7 v_8 v_9 v_10 v_11 v_12 v_13 v_14 v_15 v_16 v_17 v_18 v_19 v0) ++ (wSB cB sb_0 sb_1 sb0)) sz) (fun sz => Or.inr rfl) rfl (by decide) rfl (Nat.le_of_ble_eq_true rfl) rfl ?_
  intro p e s m args below meth c C
  unfold FX3_takeRecords at hF
  refine g_bipush (v := 7) C (tdec DX3_takeRecords 0 rfl) (by decide) rfl ?_
  refine g_istore_n (L' := [(2, .int 7), (0, .ref r_0), (1, .int p1)]) C (tdec DX3_takeRecords 1 rfl) rfl (by decide) rfl rfl ?_
  refine g_iconst (v := 0) C (tdec DX3_takeRecords 2 rfl) (by decide) rfl ?_
  refine g_istore_n (L' := [(3, .int 0), (2, .int 7), (0, .ref r_0), (1, .int p1)]) C (tdec DX3_takeRecords 3 rfl) rfl (by decide) rfl rfl ?_
  refine g_sub (L' := [(0, .ref r_0), (1, .int p1), (2, .int 7), (3, .int 0)]) [2, 3, 1, 0] rfl ?_
  refine c_FX3_takeRecords_L5 C (fun rq9 vq9 w2_9 w3_9 hF => ?_) 100000 _ _ _ _ hF
  refine g_iload_n (z := 2) C (tdec DX3_takeRecords 18 rfl) rfl rfl rfl ?_
  refine g_iconst (v := 1) C (tdec DX3_takeRecords 19 rfl) (by decide) rfl ?_
  refine g_icmp_eq (pt := 44) C (tdec DX3_takeRecords 20 rfl) (by decide) rfl (fun h10 => ?_) (fun h10 => ?_)
  · have hF := o_ifp hF h10
    refine g_aload_n (z := 0) C (tdec DX3_takeRecords 24 rfl) rfl rfl rfl ?_
    refine g_getf (C' := RX3) (T := TX3) (N := 5) (v := .ref v_0) C 0 0 (gIn iw_X3) rfl rfl (by decide) (gMem fl_X3_9) rfl rfl (tdec DX3_takeRecords 25 rfl) rfl ?_
    obtain ⟨s11, y12, hF⟩ := o_bind hF
    refine g_callVvM (q0 := 1) (W' := (wRC r_0 v_0 sb_0 rq9) ++ (wV cI cJ v_0 v_1 v_2 v_3 v_4 v_5 v_6 v_7 v_8 v_9 v_10 v_11 v_12 v_13 v_14 v_15 v_16 v_17 v_18 v_19 s11) ++ (wSB cB sb_0 sb_1 sb0)) C (c_X6_dropHidden l D cB cI cJ cZ v_0 v_1 v_2 v_3 v_4 v_5 v_6 v_7 v_8 v_9 v_10 v_11 v_12 v_13 v_14 v_15 v_16 v_17 v_18 v_19 y12) rfl rfl (gIV ml_X3_73 im_X6_dropHidden sl_X6_dropHidden in_X6 cd_X6_dropHidden) rfl eX6_dropHidden rfl ⟨rfl, rfl⟩ ⟨Nat.le_of_ble_eq_true rfl, Nat.le_of_ble_eq_true rfl⟩ rfl [1, 2, 3, 4, 5, 6, 7, 8, 9, 10, 11, 12, 13, 14, 15, 16, 17, 18, 19, 20] rfl rfl rfl rfl rfl rfl (Nat.le_of_ble_eq_true rfl) (tdec DX3_takeRecords 26 rfl) rfl ?_
    refine g_iload_n (z := 2) C (tdec DX3_takeRecords 27 rfl) rfl rfl rfl ?_
    have hr9 := o_some hF
    subst hr9
    exact g_iret C rfl rfl (tdec DX3_takeRecords 28 rfl)
  · have hF := o_ifn hF h10
    refine g_iload_n (z := 2) C (tdec DX3_takeRecords 21 rfl) rfl rfl rfl ?_
    refine g_iconst (v := 5) C (tdec DX3_takeRecords 22 rfl) (by decide) rfl ?_
    refine g_icmp_ne (pt := 51) C (tdec DX3_takeRecords 23 rfl) (by decide) rfl (fun h13 => ?_) (fun h13 => ?_)
    · have hF := o_ifn hF h13
      refine g_iload_n (z := 2) C (tdec DX3_takeRecords 27 rfl) rfl rfl rfl ?_
      have hr9 := o_some hF
      subst hr9
      exact g_iret C rfl rfl (tdec DX3_takeRecords 28 rfl)
    · have hF := o_ifp hF h13
      refine g_aload_n (z := 0) C (tdec DX3_takeRecords 24 rfl) rfl rfl rfl ?_
      refine g_getf (C' := RX3) (T := TX3) (N := 5) (v := .ref v_0) C 0 0 (gIn iw_X3) rfl rfl (by decide) (gMem fl_X3_9) rfl rfl (tdec DX3_takeRecords 25 rfl) rfl ?_
      obtain ⟨s14, y15, hF⟩ := o_bind hF
      refine g_callVvM (q0 := 1) (W' := (wRC r_0 v_0 sb_0 rq9) ++ (wV cI cJ v_0 v_1 v_2 v_3 v_4 v_5 v_6 v_7 v_8 v_9 v_10 v_11 v_12 v_13 v_14 v_15 v_16 v_17 v_18 v_19 s14) ++ (wSB cB sb_0 sb_1 sb0)) C (c_X6_dropHidden l D cB cI cJ cZ v_0 v_1 v_2 v_3 v_4 v_5 v_6 v_7 v_8 v_9 v_10 v_11 v_12 v_13 v_14 v_15 v_16 v_17 v_18 v_19 y15) rfl rfl (gIV ml_X3_73 im_X6_dropHidden sl_X6_dropHidden in_X6 cd_X6_dropHidden) rfl eX6_dropHidden rfl ⟨rfl, rfl⟩ ⟨Nat.le_of_ble_eq_true rfl, Nat.le_of_ble_eq_true rfl⟩ rfl [1, 2, 3, 4, 5, 6, 7, 8, 9, 10, 11, 12, 13, 14, 15, 16, 17, 18, 19, 20] rfl rfl rfl rfl rfl rfl (Nat.le_of_ble_eq_true rfl) (tdec DX3_takeRecords 26 rfl) rfl ?_
      refine g_iload_n (z := 2) C (tdec DX3_takeRecords 27 rfl) rfl rfl rfl ?_
      have hr9 := o_some hF
      subst hr9
      exact g_iret C rfl rfl (tdec DX3_takeRecords 28 rfl)
end
section
/-! PART 15.X4: walks, printed by wip/whole/walk.py -/
def FX4_writes (d0 : SD) : Option (Int32) :=
  some (SD_wr d0)
def rX4_writes : Room := { frames := 0, cells := 0, slots := 0, locals := 0 }
set_option maxHeartbeats 4000000 in
set_option maxRecDepth 100000 in
theorem c_X4_writes (l : Launch) (D : va_G) (cB cI cJ cZ : ClassId) (d_0 d_xSB : Nat) {d0 : SD} {res : Int32} (hF : FX4_writes d0 = some res) : gRi l yX4_writes wsX4_writes rX4_writes D (gT cB cI cJ cZ) [.ref d_0] (wSD d_0 d_xSB d0) res := by
  refine g_enter (own := RX4) (free := (fun _ _ => False)) (Qc := (fun sz => gRQi res)) (fun _ _ => True) (fun sz => Or.inl rfl) rfl (by decide) rfl (Nat.le_of_ble_eq_true rfl) rfl ?_
  intro p e s m args below meth c C
  unfold FX4_writes at hF
  refine g_aload_n (z := 0) C (tdec DX4_writes 0 rfl) rfl rfl rfl ?_
  refine g_getf (C' := RX4) (T := TX4) (N := 5) (v := .int (SD_wr d0)) C 0 2 (gIn iw_X4) rfl rfl (by decide) (gMem fl_X4_15) rfl rfl (tdec DX4_writes 1 rfl) rfl ?_
  have hr9 := o_some hF
  subst hr9
  exact g_iretR C rfl (tdec DX4_writes 2 rfl)
def FX4_clears (d0 : SD) : Option (Int32) :=
  some (SD_cl d0)
def rX4_clears : Room := { frames := 0, cells := 0, slots := 0, locals := 0 }
set_option maxHeartbeats 4000000 in
set_option maxRecDepth 100000 in
theorem c_X4_clears (l : Launch) (D : va_G) (cB cI cJ cZ : ClassId) (d_0 d_xSB : Nat) {d0 : SD} {res : Int32} (hF : FX4_clears d0 = some res) : gRi l yX4_clears wsX4_clears rX4_clears D (gT cB cI cJ cZ) [.ref d_0] (wSD d_0 d_xSB d0) res := by
  refine g_enter (own := RX4) (free := (fun _ _ => False)) (Qc := (fun sz => gRQi res)) (fun _ _ => True) (fun sz => Or.inl rfl) rfl (by decide) rfl (Nat.le_of_ble_eq_true rfl) rfl ?_
  intro p e s m args below meth c C
  unfold FX4_clears at hF
  refine g_aload_n (z := 0) C (tdec DX4_clears 0 rfl) rfl rfl rfl ?_
  refine g_getf (C' := RX4) (T := TX4) (N := 5) (v := .int (SD_cl d0)) C 0 3 (gIn iw_X4) rfl rfl (by decide) (gMem fl_X4_19) rfl rfl (tdec DX4_clears 1 rfl) rfl ?_
  have hr9 := o_some hF
  subst hr9
  exact g_iretR C rfl (tdec DX4_clears 2 rfl)
def FX4_seen (d0 : SD) : Option (Int32) :=
  some (SD_sn d0)
def rX4_seen : Room := { frames := 0, cells := 0, slots := 0, locals := 0 }
set_option maxHeartbeats 4000000 in
set_option maxRecDepth 100000 in
theorem c_X4_seen (l : Launch) (D : va_G) (cB cI cJ cZ : ClassId) (d_0 d_xSB : Nat) {d0 : SD} {res : Int32} (hF : FX4_seen d0 = some res) : gRi l yX4_seen wsX4_seen rX4_seen D (gT cB cI cJ cZ) [.ref d_0] (wSD d_0 d_xSB d0) res := by
  refine g_enter (own := RX4) (free := (fun _ _ => False)) (Qc := (fun sz => gRQi res)) (fun _ _ => True) (fun sz => Or.inl rfl) rfl (by decide) rfl (Nat.le_of_ble_eq_true rfl) rfl ?_
  intro p e s m args below meth c C
  unfold FX4_seen at hF
  refine g_aload_n (z := 0) C (tdec DX4_seen 0 rfl) rfl rfl rfl ?_
  refine g_getf (C' := RX4) (T := TX4) (N := 5) (v := .int (SD_sn d0)) C 0 4 (gIn iw_X4) rfl rfl (by decide) (gMem fl_X4_22) rfl rfl (tdec DX4_seen 1 rfl) rfl ?_
  have hr9 := o_some hF
  subst hr9
  exact g_iretR C rfl (tdec DX4_seen 2 rfl)
def FX4_fillStream (d0 : SD) (sb0 : SB) (v0 : VS) (p2 : Int32) (p3 : Int32) : Option (SD × SB) :=
  if p2 = (-1) then
    (FX5_shorten sb0 0).bind fun s19 =>
    (FX6_markOf v0 p3).bind fun r21 =>
    (FX5_addBegin s19 0 r21).bind fun s23 =>
    (FX6_blocks v0).bind fun _ =>
    (FX4_goOver (SD_setsince (SD_setsn (SD_setcl (SD_setwr d0 0) 0) 0) 0) s23 (VS_b v0) (4802 + p3) 3 0).bind fun (s27, s28) =>
    (FX5_addEnd s28 ((1 + (SD_wr s27)) + (SD_cl s27))).bind fun s30 =>
    some (s27, s30)
  else
    (FX6_generationOf v0 p2).bind fun r2 =>
    (FX5_shorten sb0 0).bind fun s4 =>
    (FX6_markOf v0 p2).bind fun r6 =>
    (FX6_markOf v0 p3).bind fun r8 =>
    (FX5_addBegin s4 r6 r8).bind fun s10 =>
    (FX6_blocks v0).bind fun _ =>
    (FX4_goOver (SD_setsince (SD_setsn (SD_setcl (SD_setwr d0 0) 0) 0) r2) s10 (VS_b v0) (4802 + p3) 3 0).bind fun (s14, s15) =>
    (FX5_addEnd s15 ((1 + (SD_wr s14)) + (SD_cl s14))).bind fun s17 =>
    some (s14, s17)
def rX4_fillStream : Room := { frames := 4, cells := 0, slots := 0, locals := 96 }
set_option maxHeartbeats 4000000 in
set_option maxRecDepth 100000 in
theorem c_X4_fillStream (l : Launch) (D : va_G) (cB cI cJ cZ : ClassId) (d_0 sb_0 sb_1 v_0 v_1 v_2 v_3 v_4 v_5 v_6 v_7 v_8 v_9 v_10 v_11 v_12 v_13 v_14 v_15 v_16 v_17 v_18 v_19 : Nat) {d0 : SD} {sb0 : SB} {v0 : VS} {p2 : Int32} {p3 : Int32} {res : SD × SB} (hF : FX4_fillStream d0 sb0 v0 p2 p3 = some res) : gMv l yX4_fillStream wsX4_fillStream rX4_fillStream D (gT cB cI cJ cZ) [.ref d_0, .ref v_0, .int p2, .int p3] ((wSD d_0 sb_0 d0) ++ (wSB cB sb_0 sb_1 sb0) ++ (wV cI cJ v_0 v_1 v_2 v_3 v_4 v_5 v_6 v_7 v_8 v_9 v_10 v_11 v_12 v_13 v_14 v_15 v_16 v_17 v_18 v_19 v0)) ((wSD d_0 sb_0 res.1) ++ (wSB cB sb_0 sb_1 res.2) ++ (wV cI cJ v_0 v_1 v_2 v_3 v_4 v_5 v_6 v_7 v_8 v_9 v_10 v_11 v_12 v_13 v_14 v_15 v_16 v_17 v_18 v_19 v0)) := by
  refine g_enter (own := RX4) (free := (fun sz => va_A ((wSD d_0 sb_0 d0) ++ (wSB cB sb_0 sb_1 sb0) ++ (wV cI cJ v_0 v_1 v_2 v_3 v_4 v_5 v_6 v_7 v_8 v_9 v_10 v_11 v_12 v_13 v_14 v_15 v_16 v_17 v_18 v_19 v0)) sz)) (Qc := (fun sz => gQv D ((wSD d_0 sb_0 d0) ++ (wSB cB sb_0 sb_1 sb0) ++ (wV cI cJ v_0 v_1 v_2 v_3 v_4 v_5 v_6 v_7 v_8 v_9 v_10 v_11 v_12 v_13 v_14 v_15 v_16 v_17 v_18 v_19 v0)) sz ((wSD d_0 sb_0 res.1) ++ (wSB cB sb_0 sb_1 res.2) ++ (wV cI cJ v_0 v_1 v_2 v_3 v_4 v_5 v_6 v_7 v_8 v_9 v_10 v_11 v_12 v_13 v_14 v_15 v_16 v_17 v_18 v_19 v0)))) (fun sz => va_A ((wSD d_0 sb_0 d0) ++ (wSB cB sb_0 sb_1 sb0) ++ (wV cI cJ v_0 v_1 v_2 v_3 v_4 v_5 v_6 v_7 v_8 v_9 v_10 v_11 v_12 v_13 v_14 v_15 v_16 v_17 v_18 v_19 v0)) sz) (fun sz => Or.inr rfl) rfl (by decide) rfl (Nat.le_of_ble_eq_true rfl) rfl ?_
  intro p e s m args below meth c C
  unfold FX4_fillStream at hF
  refine g_aload_n (z := 0) C (tdec DX4_fillStream 0 rfl) rfl rfl rfl ?_
  refine g_iconst (v := 0) C (tdec DX4_fillStream 1 rfl) (by decide) rfl ?_
  refine g_putf (C' := RX4) (T := TX4) (N := 5) (v := .int 0) (ws' := (wSD d_0 sb_0 (SD_setwr d0 0)) ++ (wSB cB sb_0 sb_1 sb0) ++ (wV cI cJ v_0 v_1 v_2 v_3 v_4 v_5 v_6 v_7 v_8 v_9 v_10 v_11 v_12 v_13 v_14 v_15 v_16 v_17 v_18 v_19 v0)) C 0 2 tyX4 tyX4_ok nmX4 (gIn iw_X4) rfl rfl (by decide) (gMem fl_X4_15) rfl rfl (tyX4_ok 2 (by decide)) rfl rfl (Nat.le_of_ble_eq_true rfl) rfl (tdec DX4_fillStream 2 rfl) rfl ?_
  refine g_aload_n (z := 0) C (tdec DX4_fillStream 3 rfl) rfl rfl rfl ?_
  refine g_iconst (v := 0) C (tdec DX4_fillStream 4 rfl) (by decide) rfl ?_
  refine g_putf (C' := RX4) (T := TX4) (N := 5) (v := .int 0) (ws' := (wSD d_0 sb_0 (SD_setcl (SD_setwr d0 0) 0)) ++ (wSB cB sb_0 sb_1 sb0) ++ (wV cI cJ v_0 v_1 v_2 v_3 v_4 v_5 v_6 v_7 v_8 v_9 v_10 v_11 v_12 v_13 v_14 v_15 v_16 v_17 v_18 v_19 v0)) C 0 3 tyX4 tyX4_ok nmX4 (gIn iw_X4) rfl rfl (by decide) (gMem fl_X4_19) rfl rfl (tyX4_ok 3 (by decide)) rfl rfl (Nat.le_of_ble_eq_true rfl) rfl (tdec DX4_fillStream 5 rfl) rfl ?_
  refine g_aload_n (z := 0) C (tdec DX4_fillStream 6 rfl) rfl rfl rfl ?_
  refine g_iconst (v := 0) C (tdec DX4_fillStream 7 rfl) (by decide) rfl ?_
  refine g_putf (C' := RX4) (T := TX4) (N := 5) (v := .int 0) (ws' := (wSD d_0 sb_0 (SD_setsn (SD_setcl (SD_setwr d0 0) 0) 0)) ++ (wSB cB sb_0 sb_1 sb0) ++ (wV cI cJ v_0 v_1 v_2 v_3 v_4 v_5 v_6 v_7 v_8 v_9 v_10 v_11 v_12 v_13 v_14 v_15 v_16 v_17 v_18 v_19 v0)) C 0 4 tyX4 tyX4_ok nmX4 (gIn iw_X4) rfl rfl (by decide) (gMem fl_X4_22) rfl rfl (tyX4_ok 4 (by decide)) rfl rfl (Nat.le_of_ble_eq_true rfl) rfl (tdec DX4_fillStream 8 rfl) rfl ?_
  refine g_aload_n (z := 0) C (tdec DX4_fillStream 9 rfl) rfl rfl rfl ?_
  refine g_iload_n (z := 2) C (tdec DX4_fillStream 10 rfl) rfl rfl rfl ?_
  refine g_iconst (v := (-1)) C (tdec DX4_fillStream 11 rfl) (by decide) rfl ?_
  refine g_icmp_ne (pt := 25) C (tdec DX4_fillStream 12 rfl) (by decide) rfl (fun h1 => ?_) (fun h1 => ?_)
  · have hF := o_ifn hF h1
    refine g_aload_n (z := 1) C (tdec DX4_fillStream 15 rfl) rfl rfl rfl ?_
    refine g_iload_n (z := 2) C (tdec DX4_fillStream 16 rfl) rfl rfl rfl ?_
    obtain ⟨r2, y3, hF⟩ := o_bind hF
    refine g_callViR (q0 := 3) C (c_X6_generationOf l D cB cI cJ cZ v_0 v_1 v_2 v_3 v_4 v_5 v_6 v_7 v_8 v_9 v_10 v_11 v_12 v_13 v_14 v_15 v_16 v_17 v_18 v_19 y3) rfl rfl (gIV ml_X4_25 im_X6_generationOf sl_X6_generationOf in_X6 cd_X6_generationOf) rfl eX6_generationOf rfl ⟨rfl, rfl⟩ ⟨Nat.le_of_ble_eq_true rfl, Nat.le_of_ble_eq_true rfl⟩ rfl [3, 4, 5, 6, 7, 8, 9, 10, 11, 12, 13, 14, 15, 16, 17, 18, 19, 20, 21, 22] rfl rfl rfl (Nat.le_of_ble_eq_true rfl) (tdec DX4_fillStream 17 rfl) rfl ?_
    refine g_putf (C' := RX4) (T := TX4) (N := 5) (v := .int r2) (ws' := (wSD d_0 sb_0 (SD_setsince (SD_setsn (SD_setcl (SD_setwr d0 0) 0) 0) r2)) ++ (wSB cB sb_0 sb_1 sb0) ++ (wV cI cJ v_0 v_1 v_2 v_3 v_4 v_5 v_6 v_7 v_8 v_9 v_10 v_11 v_12 v_13 v_14 v_15 v_16 v_17 v_18 v_19 v0)) C 0 1 tyX4 tyX4_ok nmX4 (gIn iw_X4) rfl rfl (by decide) (gMem fl_X4_31) rfl rfl (tyX4_ok 1 (by decide)) rfl rfl (Nat.le_of_ble_eq_true rfl) rfl (tdec DX4_fillStream 18 rfl) rfl ?_
    refine g_aload_n (z := 0) C (tdec DX4_fillStream 19 rfl) rfl rfl rfl ?_
    refine g_getf (C' := RX4) (T := TX4) (N := 5) (v := .ref sb_0) C 0 0 (gIn iw_X4) rfl rfl (by decide) (gMem fl_X4_9) rfl rfl (tdec DX4_fillStream 20 rfl) rfl ?_
    refine g_iconst (v := 0) C (tdec DX4_fillStream 21 rfl) (by decide) rfl ?_
    obtain ⟨s4, y5, hF⟩ := o_bind hF
    refine g_callVvM (q0 := 1) (W' := (wSD d_0 sb_0 (SD_setsince (SD_setsn (SD_setcl (SD_setwr d0 0) 0) 0) r2)) ++ (wSB cB sb_0 sb_1 s4) ++ (wV cI cJ v_0 v_1 v_2 v_3 v_4 v_5 v_6 v_7 v_8 v_9 v_10 v_11 v_12 v_13 v_14 v_15 v_16 v_17 v_18 v_19 v0)) C (c_X5_shorten l D cB cI cJ cZ sb_0 sb_1 y5) rfl rfl (gIV ml_X4_34 im_X5_shorten sl_X5_shorten in_X5 cd_X5_shorten) rfl eX5_shorten rfl ⟨rfl, rfl⟩ ⟨Nat.le_of_ble_eq_true rfl, Nat.le_of_ble_eq_true rfl⟩ rfl [1, 2] rfl rfl rfl rfl rfl rfl (Nat.le_of_ble_eq_true rfl) (tdec DX4_fillStream 22 rfl) rfl ?_
    refine g_aload_n (z := 0) C (tdec DX4_fillStream 23 rfl) rfl rfl rfl ?_
    refine g_getf (C' := RX4) (T := TX4) (N := 5) (v := .ref sb_0) C 0 0 (gIn iw_X4) rfl rfl (by decide) (gMem fl_X4_9) rfl rfl (tdec DX4_fillStream 24 rfl) rfl ?_
    refine g_iload_n (z := 2) C (tdec DX4_fillStream 25 rfl) rfl rfl rfl ?_
    refine g_iconst (v := (-1)) C (tdec DX4_fillStream 26 rfl) (by decide) rfl ?_
    refine g_icmp_ne (pt := 54) C (tdec DX4_fillStream 27 rfl) (by decide) rfl (fun _ => ?_) (fun h => absurd h h1)
    refine g_aload_n (z := 1) C (tdec DX4_fillStream 30 rfl) rfl rfl rfl ?_
    refine g_iload_n (z := 2) C (tdec DX4_fillStream 31 rfl) rfl rfl rfl ?_
    obtain ⟨r6, y7, hF⟩ := o_bind hF
    refine g_callVlR (q0 := 3) C (c_X6_markOf l D cB cI cJ cZ v_0 v_1 v_2 v_3 v_4 v_5 v_6 v_7 v_8 v_9 v_10 v_11 v_12 v_13 v_14 v_15 v_16 v_17 v_18 v_19 y7) rfl rfl (gIV ml_X4_40 im_X6_markOf sl_X6_markOf in_X6 cd_X6_markOf) rfl eX6_markOf rfl ⟨rfl, rfl⟩ ⟨Nat.le_of_ble_eq_true rfl, Nat.le_of_ble_eq_true rfl⟩ rfl [3, 4, 5, 6, 7, 8, 9, 10, 11, 12, 13, 14, 15, 16, 17, 18, 19, 20, 21, 22] rfl rfl rfl (Nat.le_of_ble_eq_true rfl) (tdec DX4_fillStream 32 rfl) rfl ?_
    refine g_aload_n (z := 1) C (tdec DX4_fillStream 33 rfl) rfl rfl rfl ?_
    refine g_iload_n (z := 3) C (tdec DX4_fillStream 34 rfl) rfl rfl rfl ?_
    obtain ⟨r8, y9, hF⟩ := o_bind hF
    refine g_callVlR (q0 := 3) C (c_X6_markOf l D cB cI cJ cZ v_0 v_1 v_2 v_3 v_4 v_5 v_6 v_7 v_8 v_9 v_10 v_11 v_12 v_13 v_14 v_15 v_16 v_17 v_18 v_19 y9) rfl rfl (gIV ml_X4_40 im_X6_markOf sl_X6_markOf in_X6 cd_X6_markOf) rfl eX6_markOf rfl ⟨rfl, rfl⟩ ⟨Nat.le_of_ble_eq_true rfl, Nat.le_of_ble_eq_true rfl⟩ rfl [3, 4, 5, 6, 7, 8, 9, 10, 11, 12, 13, 14, 15, 16, 17, 18, 19, 20, 21, 22] rfl rfl rfl (Nat.le_of_ble_eq_true rfl) (tdec DX4_fillStream 35 rfl) rfl ?_
    obtain ⟨s10, y11, hF⟩ := o_bind hF
    refine g_callVvM (q0 := 1) (W' := (wSD d_0 sb_0 (SD_setsince (SD_setsn (SD_setcl (SD_setwr d0 0) 0) 0) r2)) ++ (wSB cB sb_0 sb_1 s10) ++ (wV cI cJ v_0 v_1 v_2 v_3 v_4 v_5 v_6 v_7 v_8 v_9 v_10 v_11 v_12 v_13 v_14 v_15 v_16 v_17 v_18 v_19 v0)) C (c_X5_addBegin l D cB cI cJ cZ sb_0 sb_1 y11) rfl rfl (gIV ml_X4_44 im_X5_addBegin sl_X5_addBegin in_X5 cd_X5_addBegin) rfl eX5_addBegin rfl ⟨rfl, rfl⟩ ⟨Nat.le_of_ble_eq_true rfl, Nat.le_of_ble_eq_true rfl⟩ rfl [1, 2] rfl rfl rfl rfl rfl rfl (Nat.le_of_ble_eq_true rfl) (tdec DX4_fillStream 36 rfl) rfl ?_
    refine g_aload_n (z := 0) C (tdec DX4_fillStream 37 rfl) rfl rfl rfl ?_
    refine g_aload_n (z := 1) C (tdec DX4_fillStream 38 rfl) rfl rfl rfl ?_
    obtain ⟨q13, y12, hF⟩ := o_bind hF
    have q9 := o_some y12
    subst q9
    refine g_callVqR (q0 := 3) C (c_X6_blocks l D cB cI cJ cZ v_0 v_1 v_2 v_3 v_4 v_5 v_6 v_7 v_8 v_9 v_10 v_11 v_12 v_13 v_14 v_15 v_16 v_17 v_18 v_19 y12) rfl rfl (gIV ml_X4_48 im_X6_blocks sl_X6_blocks in_X6 cd_X6_blocks) rfl eX6_blocks rfl ⟨rfl, rfl⟩ ⟨Nat.le_of_ble_eq_true rfl, Nat.le_of_ble_eq_true rfl⟩ rfl [3, 4, 5, 6, 7, 8, 9, 10, 11, 12, 13, 14, 15, 16, 17, 18, 19, 20, 21, 22] rfl rfl rfl (Nat.le_of_ble_eq_true rfl) (tdec DX4_fillStream 39 rfl) rfl ?_
    refine g_sipush (v := 4802) C (tdec DX4_fillStream 40 rfl) (by decide) rfl ?_
    refine g_iload_n (z := 3) C (tdec DX4_fillStream 41 rfl) rfl rfl rfl ?_
    refine g_iadd C (tdec DX4_fillStream 42 rfl) rfl ?_
    refine g_iconst (v := 3) C (tdec DX4_fillStream 43 rfl) (by decide) rfl ?_
    refine g_iconst (v := 0) C (tdec DX4_fillStream 44 rfl) (by decide) rfl ?_
    obtain ⟨⟨s14, s15⟩, y16, hF⟩ := o_bind hF
    refine g_callSvM (W' := (wSD d_0 sb_0 s14) ++ (wSB cB sb_0 sb_1 s15) ++ (wV cI cJ v_0 v_1 v_2 v_3 v_4 v_5 v_6 v_7 v_8 v_9 v_10 v_11 v_12 v_13 v_14 v_15 v_16 v_17 v_18 v_19 v0)) C (c_X4_goOver l D cB cI cJ cZ d_0 sb_0 sb_1 v_5 v_6 v_7 v_8 v_9 v_10 v_11 v_12 v_13 v_14 v_15 v_16 v_17 v_18 v_19 y16) (gIS ml_X4_52 st_X4_goOver in_X4 cd_X4_goOver) eX4_goOver rfl ⟨rfl, rfl⟩ ⟨Nat.le_of_ble_eq_true rfl, Nat.le_of_ble_eq_true rfl⟩ rfl [0, 1, 2, 8, 9, 10, 11, 12, 13, 14, 15, 16, 17, 18, 19, 20, 21, 22] rfl rfl rfl rfl rfl rfl (Nat.le_of_ble_eq_true rfl) (tdec DX4_fillStream 45 rfl) rfl ?_
    refine g_aload_n (z := 0) C (tdec DX4_fillStream 46 rfl) rfl rfl rfl ?_
    refine g_getf (C' := RX4) (T := TX4) (N := 5) (v := .ref sb_0) C 0 0 (gIn iw_X4) rfl rfl (by decide) (gMem fl_X4_9) rfl rfl (tdec DX4_fillStream 47 rfl) rfl ?_
    refine g_iconst (v := 1) C (tdec DX4_fillStream 48 rfl) (by decide) rfl ?_
    refine g_aload_n (z := 0) C (tdec DX4_fillStream 49 rfl) rfl rfl rfl ?_
    refine g_getf (C' := RX4) (T := TX4) (N := 5) (v := .int (SD_wr s14)) C 0 2 (gIn iw_X4) rfl rfl (by decide) (gMem fl_X4_15) rfl rfl (tdec DX4_fillStream 50 rfl) rfl ?_
    refine g_iadd C (tdec DX4_fillStream 51 rfl) rfl ?_
    refine g_aload_n (z := 0) C (tdec DX4_fillStream 52 rfl) rfl rfl rfl ?_
    refine g_getf (C' := RX4) (T := TX4) (N := 5) (v := .int (SD_cl s14)) C 0 3 (gIn iw_X4) rfl rfl (by decide) (gMem fl_X4_19) rfl rfl (tdec DX4_fillStream 53 rfl) rfl ?_
    refine g_iadd C (tdec DX4_fillStream 54 rfl) rfl ?_
    obtain ⟨s17, y18, hF⟩ := o_bind hF
    refine g_callVvM (q0 := 1) (W' := (wSD d_0 sb_0 s14) ++ (wSB cB sb_0 sb_1 s17) ++ (wV cI cJ v_0 v_1 v_2 v_3 v_4 v_5 v_6 v_7 v_8 v_9 v_10 v_11 v_12 v_13 v_14 v_15 v_16 v_17 v_18 v_19 v0)) C (c_X5_addEnd l D cB cI cJ cZ sb_0 sb_1 y18) rfl rfl (gIV ml_X4_56 im_X5_addEnd sl_X5_addEnd in_X5 cd_X5_addEnd) rfl eX5_addEnd rfl ⟨rfl, rfl⟩ ⟨Nat.le_of_ble_eq_true rfl, Nat.le_of_ble_eq_true rfl⟩ rfl [1, 2] rfl rfl rfl rfl rfl rfl (Nat.le_of_ble_eq_true rfl) (tdec DX4_fillStream 55 rfl) rfl ?_
    have hr9 := o_some hF
    subst hr9
    exact g_vret C rfl (tdec DX4_fillStream 56 rfl)
  · have hF := o_ifp hF h1
    refine g_iconst (v := 0) C (tdec DX4_fillStream 13 rfl) (by decide) rfl ?_
    refine g_goto (pt := 30) C (tdec DX4_fillStream 14 rfl) (by decide) ?_
    refine g_putf (C' := RX4) (T := TX4) (N := 5) (v := .int 0) (ws' := (wSD d_0 sb_0 (SD_setsince (SD_setsn (SD_setcl (SD_setwr d0 0) 0) 0) 0)) ++ (wSB cB sb_0 sb_1 sb0) ++ (wV cI cJ v_0 v_1 v_2 v_3 v_4 v_5 v_6 v_7 v_8 v_9 v_10 v_11 v_12 v_13 v_14 v_15 v_16 v_17 v_18 v_19 v0)) C 0 1 tyX4 tyX4_ok nmX4 (gIn iw_X4) rfl rfl (by decide) (gMem fl_X4_31) rfl rfl (tyX4_ok 1 (by decide)) rfl rfl (Nat.le_of_ble_eq_true rfl) rfl (tdec DX4_fillStream 18 rfl) rfl ?_
    refine g_aload_n (z := 0) C (tdec DX4_fillStream 19 rfl) rfl rfl rfl ?_
    refine g_getf (C' := RX4) (T := TX4) (N := 5) (v := .ref sb_0) C 0 0 (gIn iw_X4) rfl rfl (by decide) (gMem fl_X4_9) rfl rfl (tdec DX4_fillStream 20 rfl) rfl ?_
    refine g_iconst (v := 0) C (tdec DX4_fillStream 21 rfl) (by decide) rfl ?_
    obtain ⟨s19, y20, hF⟩ := o_bind hF
    refine g_callVvM (q0 := 1) (W' := (wSD d_0 sb_0 (SD_setsince (SD_setsn (SD_setcl (SD_setwr d0 0) 0) 0) 0)) ++ (wSB cB sb_0 sb_1 s19) ++ (wV cI cJ v_0 v_1 v_2 v_3 v_4 v_5 v_6 v_7 v_8 v_9 v_10 v_11 v_12 v_13 v_14 v_15 v_16 v_17 v_18 v_19 v0)) C (c_X5_shorten l D cB cI cJ cZ sb_0 sb_1 y20) rfl rfl (gIV ml_X4_34 im_X5_shorten sl_X5_shorten in_X5 cd_X5_shorten) rfl eX5_shorten rfl ⟨rfl, rfl⟩ ⟨Nat.le_of_ble_eq_true rfl, Nat.le_of_ble_eq_true rfl⟩ rfl [1, 2] rfl rfl rfl rfl rfl rfl (Nat.le_of_ble_eq_true rfl) (tdec DX4_fillStream 22 rfl) rfl ?_
    refine g_aload_n (z := 0) C (tdec DX4_fillStream 23 rfl) rfl rfl rfl ?_
    refine g_getf (C' := RX4) (T := TX4) (N := 5) (v := .ref sb_0) C 0 0 (gIn iw_X4) rfl rfl (by decide) (gMem fl_X4_9) rfl rfl (tdec DX4_fillStream 24 rfl) rfl ?_
    refine g_iload_n (z := 2) C (tdec DX4_fillStream 25 rfl) rfl rfl rfl ?_
    refine g_iconst (v := (-1)) C (tdec DX4_fillStream 26 rfl) (by decide) rfl ?_
    refine g_icmp_ne (pt := 54) C (tdec DX4_fillStream 27 rfl) (by decide) rfl (fun h => absurd h1 h) (fun _ => ?_)
    refine g_lconst (v := 0) C (tdec DX4_fillStream 28 rfl) (by decide) rfl ?_
    refine g_goto (pt := 59) C (tdec DX4_fillStream 29 rfl) (by decide) ?_
    refine g_aload_n (z := 1) C (tdec DX4_fillStream 33 rfl) rfl rfl rfl ?_
    refine g_iload_n (z := 3) C (tdec DX4_fillStream 34 rfl) rfl rfl rfl ?_
    obtain ⟨r21, y22, hF⟩ := o_bind hF
    refine g_callVlR (q0 := 3) C (c_X6_markOf l D cB cI cJ cZ v_0 v_1 v_2 v_3 v_4 v_5 v_6 v_7 v_8 v_9 v_10 v_11 v_12 v_13 v_14 v_15 v_16 v_17 v_18 v_19 y22) rfl rfl (gIV ml_X4_40 im_X6_markOf sl_X6_markOf in_X6 cd_X6_markOf) rfl eX6_markOf rfl ⟨rfl, rfl⟩ ⟨Nat.le_of_ble_eq_true rfl, Nat.le_of_ble_eq_true rfl⟩ rfl [3, 4, 5, 6, 7, 8, 9, 10, 11, 12, 13, 14, 15, 16, 17, 18, 19, 20, 21, 22] rfl rfl rfl (Nat.le_of_ble_eq_true rfl) (tdec DX4_fillStream 35 rfl) rfl ?_
    obtain ⟨s23, y24, hF⟩ := o_bind hF
    refine g_callVvM (q0 := 1) (W' := (wSD d_0 sb_0 (SD_setsince (SD_setsn (SD_setcl (SD_setwr d0 0) 0) 0) 0)) ++ (wSB cB sb_0 sb_1 s23) ++ (wV cI cJ v_0 v_1 v_2 v_3 v_4 v_5 v_6 v_7 v_8 v_9 v_10 v_11 v_12 v_13 v_14 v_15 v_16 v_17 v_18 v_19 v0)) C (c_X5_addBegin l D cB cI cJ cZ sb_0 sb_1 y24) rfl rfl (gIV ml_X4_44 im_X5_addBegin sl_X5_addBegin in_X5 cd_X5_addBegin) rfl eX5_addBegin rfl ⟨rfl, rfl⟩ ⟨Nat.le_of_ble_eq_true rfl, Nat.le_of_ble_eq_true rfl⟩ rfl [1, 2] rfl rfl rfl rfl rfl rfl (Nat.le_of_ble_eq_true rfl) (tdec DX4_fillStream 36 rfl) rfl ?_
    refine g_aload_n (z := 0) C (tdec DX4_fillStream 37 rfl) rfl rfl rfl ?_
    refine g_aload_n (z := 1) C (tdec DX4_fillStream 38 rfl) rfl rfl rfl ?_
    obtain ⟨q26, y25, hF⟩ := o_bind hF
    have q9 := o_some y25
    subst q9
    refine g_callVqR (q0 := 3) C (c_X6_blocks l D cB cI cJ cZ v_0 v_1 v_2 v_3 v_4 v_5 v_6 v_7 v_8 v_9 v_10 v_11 v_12 v_13 v_14 v_15 v_16 v_17 v_18 v_19 y25) rfl rfl (gIV ml_X4_48 im_X6_blocks sl_X6_blocks in_X6 cd_X6_blocks) rfl eX6_blocks rfl ⟨rfl, rfl⟩ ⟨Nat.le_of_ble_eq_true rfl, Nat.le_of_ble_eq_true rfl⟩ rfl [3, 4, 5, 6, 7, 8, 9, 10, 11, 12, 13, 14, 15, 16, 17, 18, 19, 20, 21, 22] rfl rfl rfl (Nat.le_of_ble_eq_true rfl) (tdec DX4_fillStream 39 rfl) rfl ?_
    refine g_sipush (v := 4802) C (tdec DX4_fillStream 40 rfl) (by decide) rfl ?_
    refine g_iload_n (z := 3) C (tdec DX4_fillStream 41 rfl) rfl rfl rfl ?_
    refine g_iadd C (tdec DX4_fillStream 42 rfl) rfl ?_
    refine g_iconst (v := 3) C (tdec DX4_fillStream 43 rfl) (by decide) rfl ?_
    refine g_iconst (v := 0) C (tdec DX4_fillStream 44 rfl) (by decide) rfl ?_
    obtain ⟨⟨s27, s28⟩, y29, hF⟩ := o_bind hF
    refine g_callSvM (W' := (wSD d_0 sb_0 s27) ++ (wSB cB sb_0 sb_1 s28) ++ (wV cI cJ v_0 v_1 v_2 v_3 v_4 v_5 v_6 v_7 v_8 v_9 v_10 v_11 v_12 v_13 v_14 v_15 v_16 v_17 v_18 v_19 v0)) C (c_X4_goOver l D cB cI cJ cZ d_0 sb_0 sb_1 v_5 v_6 v_7 v_8 v_9 v_10 v_11 v_12 v_13 v_14 v_15 v_16 v_17 v_18 v_19 y29) (gIS ml_X4_52 st_X4_goOver in_X4 cd_X4_goOver) eX4_goOver rfl ⟨rfl, rfl⟩ ⟨Nat.le_of_ble_eq_true rfl, Nat.le_of_ble_eq_true rfl⟩ rfl [0, 1, 2, 8, 9, 10, 11, 12, 13, 14, 15, 16, 17, 18, 19, 20, 21, 22] rfl rfl rfl rfl rfl rfl (Nat.le_of_ble_eq_true rfl) (tdec DX4_fillStream 45 rfl) rfl ?_
    refine g_aload_n (z := 0) C (tdec DX4_fillStream 46 rfl) rfl rfl rfl ?_
    refine g_getf (C' := RX4) (T := TX4) (N := 5) (v := .ref sb_0) C 0 0 (gIn iw_X4) rfl rfl (by decide) (gMem fl_X4_9) rfl rfl (tdec DX4_fillStream 47 rfl) rfl ?_
    refine g_iconst (v := 1) C (tdec DX4_fillStream 48 rfl) (by decide) rfl ?_
    refine g_aload_n (z := 0) C (tdec DX4_fillStream 49 rfl) rfl rfl rfl ?_
    refine g_getf (C' := RX4) (T := TX4) (N := 5) (v := .int (SD_wr s27)) C 0 2 (gIn iw_X4) rfl rfl (by decide) (gMem fl_X4_15) rfl rfl (tdec DX4_fillStream 50 rfl) rfl ?_
    refine g_iadd C (tdec DX4_fillStream 51 rfl) rfl ?_
    refine g_aload_n (z := 0) C (tdec DX4_fillStream 52 rfl) rfl rfl rfl ?_
    refine g_getf (C' := RX4) (T := TX4) (N := 5) (v := .int (SD_cl s27)) C 0 3 (gIn iw_X4) rfl rfl (by decide) (gMem fl_X4_19) rfl rfl (tdec DX4_fillStream 53 rfl) rfl ?_
    refine g_iadd C (tdec DX4_fillStream 54 rfl) rfl ?_
    obtain ⟨s30, y31, hF⟩ := o_bind hF
    refine g_callVvM (q0 := 1) (W' := (wSD d_0 sb_0 s27) ++ (wSB cB sb_0 sb_1 s30) ++ (wV cI cJ v_0 v_1 v_2 v_3 v_4 v_5 v_6 v_7 v_8 v_9 v_10 v_11 v_12 v_13 v_14 v_15 v_16 v_17 v_18 v_19 v0)) C (c_X5_addEnd l D cB cI cJ cZ sb_0 sb_1 y31) rfl rfl (gIV ml_X4_56 im_X5_addEnd sl_X5_addEnd in_X5 cd_X5_addEnd) rfl eX5_addEnd rfl ⟨rfl, rfl⟩ ⟨Nat.le_of_ble_eq_true rfl, Nat.le_of_ble_eq_true rfl⟩ rfl [1, 2] rfl rfl rfl rfl rfl rfl (Nat.le_of_ble_eq_true rfl) (tdec DX4_fillStream 55 rfl) rfl ?_
    have hr9 := o_some hF
    subst hr9
    exact g_vret C rfl (tdec DX4_fillStream 56 rfl)
end
section
/-! PART 40: numbers, options as ints, rows -/
def eO (o : Option Nat) : Int32 := match o with
  | none => -1
  | some k => nI k
theorem nI_mul (a b : Nat) : nI a * nI b = nI (a * b) := by simp [nI, Int32.ofNat_mul]
theorem nI_m1 {a : Nat} (h : a < 2 ^ 31) : ¬ nI a = -1 := by
  intro e
  have h1 := congrArg Int32.toInt e
  rw [nI_toInt h] at h1
  have h2 : (-1 : Int32).toInt = -1 := by decide
  omega
theorem nI_k (k : Nat) (x : Int32) (h : Int32.ofNat k = x := by rfl) : x = nI k := h.symm
theorem eO_none {o : Option Nat} (h : ∀ k, o = some k → k < 2 ^ 31) : eO o = -1 ↔ o = none := by
  cases o with
  | none => simp [eO]
  | some k => simpa [eO] using nI_m1 (h k rfl)
theorem eO_inj {o u : Option Nat} (h : ∀ k, o = some k → k < 2 ^ 31) (h' : ∀ k, u = some k → k < 2 ^ 31) (e : eO o = eO u) : o = u := by
  cases o with
  | none => exact ((eO_none h').mp e.symm).symm
  | some k =>
    cases u with
    | none => exact absurd e (nI_m1 (h k rfl))
    | some j => exact congrArg some ((nI_eq (h k rfl) (h' j rfl)).mp e)
theorem m_ald {α : Type} {n i : Nat} (f : Nat → α) (hi : i < n) (hn : n < 2 ^ 31) : ald n f (nI i) = some (f i) := by
  unfold ald
  rw [if_neg (nI_in hi hn), nI_clamp (by omega)]
theorem m_ast {n i : Nat} (f : Nat → Int32) (v : Int32) (hi : i < n) (hn : n < 2 ^ 31) : ast n f (nI i) v = some (upd f i v) := by
  unfold ast
  rw [if_neg (nI_in hi hn), nI_clamp (by omega)]
theorem m_lst {n i : Nat} (f : Nat → Int64) (v : Int64) (hi : i < n) (hn : n < 2 ^ 31) : lst n f (nI i) v = some (vp_updL f i v) := by
  unfold lst
  rw [if_neg (nI_in hi hn), nI_clamp (by omega)]
theorem m_at {n i : Nat} (f : Nat → Int32) (hi : i < n) (hn : n < 2 ^ 31) : FX1_at n f (nI i) = some (f i) := by
  unfold FX1_at
  rw [if_neg (nI_pos (by omega)), if_neg (nI_ge hi hn), m_ald f hi hn]
  rfl
theorem m_atN (n : Nat) (f : Nat → Int32) : FX1_at n f (-1) = some (-1) := by
  unfold FX1_at
  rw [if_pos (by decide)]
theorem m_put {n i : Nat} (f : Nat → Int32) (v : Int32) (hi : i < n) (hn : n < 2 ^ 31) : FX1_put n f (nI i) v = some (upd f i v) := by
  unfold FX1_put
  rw [if_neg (nI_pos (by omega)), if_neg (nI_ge hi hn), m_ast f v hi hn]
  rfl
theorem m_lat {n i : Nat} (f : Nat → Int64) (hi : i < n) (hn : n < 2 ^ 31) : FX2_at n f (nI i) = some (f i) := by
  unfold FX2_at
  rw [if_neg (nI_pos (by omega)), if_neg (nI_ge hi hn), m_ald f hi hn]
  rfl
theorem m_lput {n i : Nat} (f : Nat → Int64) (v : Int64) (hi : i < n) (hn : n < 2 ^ 31) : FX2_put n f (nI i) v = some (vp_updL f i v) := by
  unfold FX2_put
  rw [if_neg (nI_pos (by omega)), if_neg (nI_ge hi hn), m_lst f v hi hn]
  rfl
theorem m_fillL {n : Nat} (hn : n < 2 ^ 31) (v : Int32) (k9 : (Nat → Int32) → Int32 → Option (Nat → Int32)) : ∀ (m j : Nat) (f : Nat → Int32), j ≤ n → n - j < m → FJ7_fill_53178_L5 n v (nI n) k9 m f (nI j) = k9 (fun i => if j ≤ i ∧ i < n then v else f i) (nI n) := by
  intro m
  induction m with
  | zero => intro j f h1 h2; omega
  | succ m ih =>
    intro j f h1 h2
    rw [FJ7_fill_53178_L5]
    by_cases h : j = n
    · subst h
      rw [if_pos (nI_le (Nat.le_refl _) hn)]
      congr 1
      funext i
      rw [if_neg (by omega)]
    · rw [if_neg (nI_ge (by omega) hn), m_ast f v (by omega) hn]
      show FJ7_fill_53178_L5 n v (nI n) k9 m (upd f j v) (nI j + 1) = _
      rw [nI_1, ih (j + 1) _ (by omega) (by omega)]
      congr 1
      funext i
      unfold upd
      by_cases h3 : j = i
      · subst h3
        rw [if_neg (by omega), if_pos rfl, if_pos (by omega)]
      · rw [if_neg (fun e => h3 e.symm)]
        by_cases h4 : j + 1 ≤ i ∧ i < n
        · rw [if_pos h4, if_pos (by omega)]
        · rw [if_neg h4, if_neg (by omega)]
theorem m_fill {n : Nat} (hn : n < 100000) (f : Nat → Int32) (v : Int32) : FX1_fill n f v = some (fun i => if i < n then v else f i) := by
  unfold FX1_fill FJ7_fill_53178
  have h := m_fillL (n := n) (by omega) v (fun f_4 _ => some f_4) 100000 0 f (by omega) (by omega)
  have h0 : nI 0 = 0 := nI_0
  rw [h0] at h
  show ((FJ7_fill_53178_L5 n v (nI n) (fun f_4 w2_4 => some f_4) 100000 f 0).bind fun s1 => some s1) = _
  rw [h]
  simp
-- counting
def cntT : Nat → (Nat → Option Nat) → Nat → Nat
  | 0, _, _ => 0
  | n + 1, T, k => cntT n T k + (if T n = some k then 1 else 0)
theorem cntT_congr {T U : Nat → Option Nat} (k : Nat) : ∀ n, (∀ s, s < n → T s = U s) → cntT n T k = cntT n U k := by
  intro n
  induction n with
  | zero => intro _; rfl
  | succ n ih =>
    intro h
    show cntT n T k + _ = cntT n U k + _
    rw [ih (fun s hs => h s (by omega)), h n (by omega)]
theorem cntT_upd (T : Nat → Option Nat) (s : Nat) (o : Option Nat) (k : Nat) : ∀ n, s < n → cntT n (vf_upd T s o) k + (if T s = some k then 1 else 0) = cntT n T k + (if o = some k then 1 else 0) := by
  intro n
  induction n with
  | zero => intro h; omega
  | succ n ih =>
    intro h
    show cntT n (vf_upd T s o) k + (if vf_upd T s o n = some k then 1 else 0) + _ = cntT n T k + (if T n = some k then 1 else 0) + _
    by_cases hs : s = n
    · subst hs
      rw [cntT_congr (T := vf_upd T s o) (U := T) k s (fun i hi => by unfold vf_upd; rw [if_neg (by omega)])]
      have : vf_upd T s o s = o := by unfold vf_upd; rw [if_pos rfl]
      rw [this]
      omega
    · have h1 := ih (by omega)
      have : vf_upd T s o n = T n := by unfold vf_upd; rw [if_neg (fun e => hs e.symm)]
      rw [this]
      omega
theorem cntT_pos {T : Nat → Option Nat} {k : Nat} : ∀ n, 0 < cntT n T k ↔ ∃ s, s < n ∧ T s = some k := by
  intro n
  induction n with
  | zero => constructor
            · intro h; exact absurd h (by simp [cntT])
            · rintro ⟨s, hs, -⟩; omega
  | succ n ih =>
    show 0 < cntT n T k + _ ↔ _
    by_cases h : T n = some k
    · rw [if_pos h]
      exact ⟨fun _ => ⟨n, by omega, h⟩, fun _ => by omega⟩
    · rw [if_neg h, Nat.add_zero, ih]
      constructor
      · rintro ⟨s, hs, e⟩; exact ⟨s, by omega, e⟩
      · rintro ⟨s, hs, e⟩
        by_cases hsn : s = n
        · subst hsn; exact absurd e h
        · exact ⟨s, by omega, e⟩
theorem cntT_le (T : Nat → Option Nat) (k : Nat) : ∀ n, cntT n T k ≤ n := by
  intro n
  induction n with
  | zero => exact Nat.le_refl 0
  | succ n ih =>
    show cntT n T k + _ ≤ _
    split <;> omega
def frN : Nat → (Nat → Option Nat) → Nat
  | 0, _ => 0
  | n + 1, lev => frN n lev + (if lev n = none then 1 else 0)
theorem frN_le (lev : Nat → Option Nat) : ∀ n, frN n lev ≤ n := by
  intro n
  induction n with
  | zero => exact Nat.le_refl 0
  | succ n ih =>
    show frN n lev + _ ≤ _
    split <;> omega
theorem frN_congr {T U : Nat → Option Nat} : ∀ n, (∀ s, s < n → T s = U s) → frN n T = frN n U := by
  intro n
  induction n with
  | zero => intro _; rfl
  | succ n ih =>
    intro h
    show frN n T + _ = frN n U + _
    rw [ih (fun s hs => h s (by omega)), h n (by omega)]
theorem frN_upd (T : Nat → Option Nat) (s : Nat) (o : Option Nat) : ∀ n, s < n → frN n (vf_upd T s o) + (if T s = none then 1 else 0) = frN n T + (if o = none then 1 else 0) := by
  intro n
  induction n with
  | zero => intro h; omega
  | succ n ih =>
    intro h
    show frN n (vf_upd T s o) + (if vf_upd T s o n = none then 1 else 0) + _ = frN n T + (if T n = none then 1 else 0) + _
    by_cases hs : s = n
    · subst hs
      rw [frN_congr (T := vf_upd T s o) (U := T) s (fun i hi => by unfold vf_upd; rw [if_neg (by omega)])]
      have : vf_upd T s o s = o := by unfold vf_upd; rw [if_pos rfl]
      rw [this]
      omega
    · have h1 := ih (by omega)
      have : vf_upd T s o n = T n := by unfold vf_upd; rw [if_neg (fun e => hs e.symm)]
      rw [this]
      omega
theorem frN_pos {lev : Nat → Option Nat} : ∀ n, 0 < frN n lev → ∃ k, k < n ∧ lev k = none ∧ ∀ i, i < k → lev i ≠ none := by
  intro n
  induction n with
  | zero => intro h; exact absurd h (by simp [frN])
  | succ n ih =>
    intro h
    by_cases h0 : 0 < frN n lev
    · obtain ⟨k, h1, h2, h3⟩ := ih h0
      exact ⟨k, by omega, h2, h3⟩
    · have h1 : frN n lev + (if lev n = none then 1 else 0) > 0 := h
      by_cases hn : lev n = none
      · refine ⟨n, by omega, hn, fun i hi e => ?_⟩
        have h2 : ∀ m, i < m → 0 < frN m lev := by
          intro m hm
          induction m with
          | zero => omega
          | succ m ihm =>
            show 0 < frN m lev + _
            by_cases him : i = m
            · subst him; rw [if_pos e]; omega
            · have := ihm (by omega); omega
        exact h0 (h2 n hi)
      · rw [if_neg hn] at h1; omega
end
