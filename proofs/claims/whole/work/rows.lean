section
-- ===== PART A: goes FIRST, ahead of the names: the tables' words, and 'selects' of the private methods out of them =====
/-- a private method of a class that the tables say can be made, by its rows of tables_1 -/
def lw_okq (q : MethodName × Nat) : Prop := (q.1.cls ≠ "java/lang/invoke/MethodHandle" ∧ q.1.cls ≠ "java/lang/invoke/VarHandle") ∧ Cond.instantiable q.1.cls q.2 ∈ tables_1 ∧ Cond.privateMethod q.1 ∈ tables_1 ∧ Cond.instanceMethod q.1 ∈ tables_1
theorem lw_p0 : lw_okq (⟨"BookTrees$Roll", "offsetOf", "(I)I"⟩, 7) := ⟨⟨by decide +kernel, by decide +kernel⟩, List.mem_of_getElem? (i := 40) (by decide +kernel), List.mem_of_getElem? (i := 178) (by decide +kernel), List.mem_of_getElem? (i := 179) (by decide +kernel)⟩
theorem lw_p1 : lw_okq (⟨"BookTrees$Roll", "slotOf", "(I)I"⟩, 7) := ⟨⟨by decide +kernel, by decide +kernel⟩, List.mem_of_getElem? (i := 40) (by decide +kernel), List.mem_of_getElem? (i := 182) (by decide +kernel), List.mem_of_getElem? (i := 183) (by decide +kernel)⟩
theorem lw_p2 : lw_okq (⟨"BookTrees$Roll", "isSumRight", "(I)Z"⟩, 7) := ⟨⟨by decide +kernel, by decide +kernel⟩, List.mem_of_getElem? (i := 40) (by decide +kernel), List.mem_of_getElem? (i := 205) (by decide +kernel), List.mem_of_getElem? (i := 206) (by decide +kernel)⟩
theorem lw_p3 : lw_okq (⟨"BookTrees$Roll", "isNewer", "(II)Z"⟩, 7) := ⟨⟨by decide +kernel, by decide +kernel⟩, List.mem_of_getElem? (i := 40) (by decide +kernel), List.mem_of_getElem? (i := 213) (by decide +kernel), List.mem_of_getElem? (i := 214) (by decide +kernel)⟩
theorem lw_p4 : lw_okq (⟨"BookTrees$Shelf", "insert", "(III)V"⟩, 3) := ⟨⟨by decide +kernel, by decide +kernel⟩, List.mem_of_getElem? (i := 93) (by decide +kernel), List.mem_of_getElem? (i := 242) (by decide +kernel), List.mem_of_getElem? (i := 243) (by decide +kernel)⟩
theorem lw_p5 : lw_okq (⟨"BookTrees", "isKey", "(I)Z"⟩, 5) := ⟨⟨by decide +kernel, by decide +kernel⟩, List.mem_of_getElem? (i := 16) (by decide +kernel), List.mem_of_getElem? (i := 266) (by decide +kernel), List.mem_of_getElem? (i := 267) (by decide +kernel)⟩
theorem lw_p6 : lw_okq (⟨"BookTrees", "requireArgument", "(Z)V"⟩, 5) := ⟨⟨by decide +kernel, by decide +kernel⟩, List.mem_of_getElem? (i := 16) (by decide +kernel), List.mem_of_getElem? (i := 270) (by decide +kernel), List.mem_of_getElem? (i := 271) (by decide +kernel)⟩
theorem lw_p7 : lw_okq (⟨"java/lang/Throwable", "fillInStackTrace", "(I)Ljava/lang/Throwable;"⟩, 6) := ⟨⟨by decide +kernel, by decide +kernel⟩, List.mem_of_getElem? (i := 311) (by decide +kernel), List.mem_of_getElem? (i := 309) (by decide +kernel), List.mem_of_getElem? (i := 310) (by decide +kernel)⟩
theorem lw_p8 : lw_okq (⟨"BookTrees", "requirePower", "()V"⟩, 5) := ⟨⟨by decide +kernel, by decide +kernel⟩, List.mem_of_getElem? (i := 16) (by decide +kernel), List.mem_of_getElem? (i := 340) (by decide +kernel), List.mem_of_getElem? (i := 341) (by decide +kernel)⟩
theorem lw_p9 : lw_okq (⟨"BookTrees$Draft", "note", "(II)V"⟩, 3) := ⟨⟨by decide +kernel, by decide +kernel⟩, List.mem_of_getElem? (i := 76) (by decide +kernel), List.mem_of_getElem? (i := 364) (by decide +kernel), List.mem_of_getElem? (i := 365) (by decide +kernel)⟩
theorem lw_p10 : lw_okq (⟨"BookTrees", "rowOf", "(II)J"⟩, 5) := ⟨⟨by decide +kernel, by decide +kernel⟩, List.mem_of_getElem? (i := 16) (by decide +kernel), List.mem_of_getElem? (i := 415) (by decide +kernel), List.mem_of_getElem? (i := 416) (by decide +kernel)⟩
theorem lw_p11 : lw_okq (⟨"BookTrees", "leafBlock", "(II)I"⟩, 5) := ⟨⟨by decide +kernel, by decide +kernel⟩, List.mem_of_getElem? (i := 16) (by decide +kernel), List.mem_of_getElem? (i := 419) (by decide +kernel), List.mem_of_getElem? (i := 420) (by decide +kernel)⟩
theorem lw_p12 : lw_okq (⟨"BookTrees", "childBlock", "(III)I"⟩, 5) := ⟨⟨by decide +kernel, by decide +kernel⟩, List.mem_of_getElem? (i := 16) (by decide +kernel), List.mem_of_getElem? (i := 432) (by decide +kernel), List.mem_of_getElem? (i := 433) (by decide +kernel)⟩
theorem lw_p13 : lw_okq (⟨"BookTrees$Pages", "readPage", "(LBookTrees$Roll;II)Z"⟩, 6) := ⟨⟨by decide +kernel, by decide +kernel⟩, List.mem_of_getElem? (i := 109) (by decide +kernel), List.mem_of_getElem? (i := 467) (by decide +kernel), List.mem_of_getElem? (i := 468) (by decide +kernel)⟩
theorem lw_p14 : lw_okq (⟨"BookTrees$Pages", "setEntry", "(IIZI)V"⟩, 6) := ⟨⟨by decide +kernel, by decide +kernel⟩, List.mem_of_getElem? (i := 109) (by decide +kernel), List.mem_of_getElem? (i := 474) (by decide +kernel), List.mem_of_getElem? (i := 475) (by decide +kernel)⟩
theorem lw_p15 : lw_okq (⟨"BookTrees$Pages", "isInParent", "(I)Z"⟩, 6) := ⟨⟨by decide +kernel, by decide +kernel⟩, List.mem_of_getElem? (i := 109) (by decide +kernel), List.mem_of_getElem? (i := 478) (by decide +kernel), List.mem_of_getElem? (i := 479) (by decide +kernel)⟩
def lw_privs_1 : List (MethodName × Nat) := [(⟨"BookTrees$Roll", "offsetOf", "(I)I"⟩, 7), (⟨"BookTrees$Roll", "slotOf", "(I)I"⟩, 7), (⟨"BookTrees$Roll", "isSumRight", "(I)Z"⟩, 7), (⟨"BookTrees$Roll", "isNewer", "(II)Z"⟩, 7), (⟨"BookTrees$Shelf", "insert", "(III)V"⟩, 3), (⟨"BookTrees", "isKey", "(I)Z"⟩, 5), (⟨"BookTrees", "requireArgument", "(Z)V"⟩, 5), (⟨"java/lang/Throwable", "fillInStackTrace", "(I)Ljava/lang/Throwable;"⟩, 6), (⟨"BookTrees", "requirePower", "()V"⟩, 5), (⟨"BookTrees$Draft", "note", "(II)V"⟩, 3), (⟨"BookTrees", "rowOf", "(II)J"⟩, 5), (⟨"BookTrees", "leafBlock", "(II)I"⟩, 5), (⟨"BookTrees", "childBlock", "(III)I"⟩, 5), (⟨"BookTrees$Pages", "readPage", "(LBookTrees$Roll;II)Z"⟩, 6), (⟨"BookTrees$Pages", "setEntry", "(IIZI)V"⟩, 6), (⟨"BookTrees$Pages", "isInParent", "(I)Z"⟩, 6)]
theorem lw_r1 : ∀ q ∈ lw_privs_1, lw_okq q := List.forall_mem_cons.mpr ⟨lw_p0, List.forall_mem_cons.mpr ⟨lw_p1, List.forall_mem_cons.mpr ⟨lw_p2, List.forall_mem_cons.mpr ⟨lw_p3, List.forall_mem_cons.mpr ⟨lw_p4, List.forall_mem_cons.mpr ⟨lw_p5, List.forall_mem_cons.mpr ⟨lw_p6, List.forall_mem_cons.mpr ⟨lw_p7, List.forall_mem_cons.mpr ⟨lw_p8, List.forall_mem_cons.mpr ⟨lw_p9, List.forall_mem_cons.mpr ⟨lw_p10, List.forall_mem_cons.mpr ⟨lw_p11, List.forall_mem_cons.mpr ⟨lw_p12, List.forall_mem_cons.mpr ⟨lw_p13, List.forall_mem_cons.mpr ⟨lw_p14, List.forall_mem_cons.mpr ⟨lw_p15, fun _ h => absurd h List.not_mem_nil⟩⟩⟩⟩⟩⟩⟩⟩⟩⟩⟩⟩⟩⟩⟩⟩
theorem lw_p16 : lw_okq (⟨"BookTrees$Pages", "bitOf", "(II)I"⟩, 6) := ⟨⟨by decide +kernel, by decide +kernel⟩, List.mem_of_getElem? (i := 109) (by decide +kernel), List.mem_of_getElem? (i := 482) (by decide +kernel), List.mem_of_getElem? (i := 483) (by decide +kernel)⟩
theorem lw_p17 : lw_okq (⟨"BookTrees", "appendVersion", "(Z)I"⟩, 5) := ⟨⟨by decide +kernel, by decide +kernel⟩, List.mem_of_getElem? (i := 16) (by decide +kernel), List.mem_of_getElem? (i := 495) (by decide +kernel), List.mem_of_getElem? (i := 496) (by decide +kernel)⟩
theorem lw_p18 : lw_okq (⟨"BookTrees$Roll", "makeUp", "(IIII[II)V"⟩, 7) := ⟨⟨by decide +kernel, by decide +kernel⟩, List.mem_of_getElem? (i := 40) (by decide +kernel), List.mem_of_getElem? (i := 523) (by decide +kernel), List.mem_of_getElem? (i := 524) (by decide +kernel)⟩
theorem lw_p19 : lw_okq (⟨"BookTrees$Roll", "setInt", "(II)V"⟩, 7) := ⟨⟨by decide +kernel, by decide +kernel⟩, List.mem_of_getElem? (i := 40) (by decide +kernel), List.mem_of_getElem? (i := 527) (by decide +kernel), List.mem_of_getElem? (i := 528) (by decide +kernel)⟩
theorem lw_p20 : lw_okq (⟨"BookTrees", "isKept", "(I)Z"⟩, 5) := ⟨⟨by decide +kernel, by decide +kernel⟩, List.mem_of_getElem? (i := 16) (by decide +kernel), List.mem_of_getElem? (i := 562) (by decide +kernel), List.mem_of_getElem? (i := 563) (by decide +kernel)⟩
theorem lw_p21 : lw_okq (⟨"BookTrees", "isByteIndex", "(I)Z"⟩, 5) := ⟨⟨by decide +kernel, by decide +kernel⟩, List.mem_of_getElem? (i := 16) (by decide +kernel), List.mem_of_getElem? (i := 623) (by decide +kernel), List.mem_of_getElem? (i := 624) (by decide +kernel)⟩
theorem lw_p22 : lw_okq (⟨"BookTreesModel", "goes", "(Z)Z"⟩, 26) := ⟨⟨by decide +kernel, by decide +kernel⟩, List.mem_of_getElem? (i := 658) (by decide +kernel), List.mem_of_getElem? (i := 754) (by decide +kernel), List.mem_of_getElem? (i := 755) (by decide +kernel)⟩
theorem lw_p23 : lw_okq (⟨"BookTreesModel", "change", "(III)V"⟩, 26) := ⟨⟨by decide +kernel, by decide +kernel⟩, List.mem_of_getElem? (i := 658) (by decide +kernel), List.mem_of_getElem? (i := 758) (by decide +kernel), List.mem_of_getElem? (i := 759) (by decide +kernel)⟩
theorem lw_p24 : lw_okq (⟨"BookTreesModel", "isUp", "()Z"⟩, 26) := ⟨⟨by decide +kernel, by decide +kernel⟩, List.mem_of_getElem? (i := 658) (by decide +kernel), List.mem_of_getElem? (i := 770) (by decide +kernel), List.mem_of_getElem? (i := 771) (by decide +kernel)⟩
theorem lw_p25 : lw_okq (⟨"BookTreesModel", "clear", "()V"⟩, 26) := ⟨⟨by decide +kernel, by decide +kernel⟩, List.mem_of_getElem? (i := 658) (by decide +kernel), List.mem_of_getElem? (i := 774) (by decide +kernel), List.mem_of_getElem? (i := 775) (by decide +kernel)⟩
theorem lw_p26 : lw_okq (⟨"BookTreesModel", "look", "(II)J"⟩, 26) := ⟨⟨by decide +kernel, by decide +kernel⟩, List.mem_of_getElem? (i := 658) (by decide +kernel), List.mem_of_getElem? (i := 783) (by decide +kernel), List.mem_of_getElem? (i := 784) (by decide +kernel)⟩
theorem lw_p27 : lw_okq (⟨"BookTreesModel", "rootOf", "(I)I"⟩, 26) := ⟨⟨by decide +kernel, by decide +kernel⟩, List.mem_of_getElem? (i := 658) (by decide +kernel), List.mem_of_getElem? (i := 787) (by decide +kernel), List.mem_of_getElem? (i := 788) (by decide +kernel)⟩
theorem lw_p28 : lw_okq (⟨"BookTreesModel", "isBad", "(II)Z"⟩, 26) := ⟨⟨by decide +kernel, by decide +kernel⟩, List.mem_of_getElem? (i := 658) (by decide +kernel), List.mem_of_getElem? (i := 791) (by decide +kernel), List.mem_of_getElem? (i := 792) (by decide +kernel)⟩
theorem lw_p29 : lw_okq (⟨"BookTreesModel", "isUsed", "(I)Z"⟩, 26) := ⟨⟨by decide +kernel, by decide +kernel⟩, List.mem_of_getElem? (i := 658) (by decide +kernel), List.mem_of_getElem? (i := 795) (by decide +kernel), List.mem_of_getElem? (i := 796) (by decide +kernel)⟩
theorem lw_p30 : lw_okq (⟨"BookTreesModel", "placeOf", "(I)I"⟩, 26) := ⟨⟨by decide +kernel, by decide +kernel⟩, List.mem_of_getElem? (i := 658) (by decide +kernel), List.mem_of_getElem? (i := 799) (by decide +kernel), List.mem_of_getElem? (i := 800) (by decide +kernel)⟩
theorem lw_p31 : lw_okq (⟨"BookTreesModel", "hasSum", "(I)Z"⟩, 26) := ⟨⟨by decide +kernel, by decide +kernel⟩, List.mem_of_getElem? (i := 658) (by decide +kernel), List.mem_of_getElem? (i := 803) (by decide +kernel), List.mem_of_getElem? (i := 804) (by decide +kernel)⟩
def lw_privs_2 : List (MethodName × Nat) := [(⟨"BookTrees$Pages", "bitOf", "(II)I"⟩, 6), (⟨"BookTrees", "appendVersion", "(Z)I"⟩, 5), (⟨"BookTrees$Roll", "makeUp", "(IIII[II)V"⟩, 7), (⟨"BookTrees$Roll", "setInt", "(II)V"⟩, 7), (⟨"BookTrees", "isKept", "(I)Z"⟩, 5), (⟨"BookTrees", "isByteIndex", "(I)Z"⟩, 5), (⟨"BookTreesModel", "goes", "(Z)Z"⟩, 26), (⟨"BookTreesModel", "change", "(III)V"⟩, 26), (⟨"BookTreesModel", "isUp", "()Z"⟩, 26), (⟨"BookTreesModel", "clear", "()V"⟩, 26), (⟨"BookTreesModel", "look", "(II)J"⟩, 26), (⟨"BookTreesModel", "rootOf", "(I)I"⟩, 26), (⟨"BookTreesModel", "isBad", "(II)Z"⟩, 26), (⟨"BookTreesModel", "isUsed", "(I)Z"⟩, 26), (⟨"BookTreesModel", "placeOf", "(I)I"⟩, 26), (⟨"BookTreesModel", "hasSum", "(I)Z"⟩, 26)]
theorem lw_r2 : ∀ q ∈ lw_privs_2, lw_okq q := List.forall_mem_cons.mpr ⟨lw_p16, List.forall_mem_cons.mpr ⟨lw_p17, List.forall_mem_cons.mpr ⟨lw_p18, List.forall_mem_cons.mpr ⟨lw_p19, List.forall_mem_cons.mpr ⟨lw_p20, List.forall_mem_cons.mpr ⟨lw_p21, List.forall_mem_cons.mpr ⟨lw_p22, List.forall_mem_cons.mpr ⟨lw_p23, List.forall_mem_cons.mpr ⟨lw_p24, List.forall_mem_cons.mpr ⟨lw_p25, List.forall_mem_cons.mpr ⟨lw_p26, List.forall_mem_cons.mpr ⟨lw_p27, List.forall_mem_cons.mpr ⟨lw_p28, List.forall_mem_cons.mpr ⟨lw_p29, List.forall_mem_cons.mpr ⟨lw_p30, List.forall_mem_cons.mpr ⟨lw_p31, fun _ h => absurd h List.not_mem_nil⟩⟩⟩⟩⟩⟩⟩⟩⟩⟩⟩⟩⟩⟩⟩⟩
theorem lw_p32 : lw_okq (⟨"BookTreesModel", "number", "(I)I"⟩, 26) := ⟨⟨by decide +kernel, by decide +kernel⟩, List.mem_of_getElem? (i := 658) (by decide +kernel), List.mem_of_getElem? (i := 812) (by decide +kernel), List.mem_of_getElem? (i := 813) (by decide +kernel)⟩
theorem lw_p33 : lw_okq (⟨"BookTreesModel", "bitsOf", "(I)I"⟩, 26) := ⟨⟨by decide +kernel, by decide +kernel⟩, List.mem_of_getElem? (i := 658) (by decide +kernel), List.mem_of_getElem? (i := 817) (by decide +kernel), List.mem_of_getElem? (i := 818) (by decide +kernel)⟩
theorem lw_p34 : lw_okq (⟨"BookTreesModel", "entryOf", "(II)I"⟩, 26) := ⟨⟨by decide +kernel, by decide +kernel⟩, List.mem_of_getElem? (i := 658) (by decide +kernel), List.mem_of_getElem? (i := 821) (by decide +kernel), List.mem_of_getElem? (i := 822) (by decide +kernel)⟩
theorem lw_p35 : lw_okq (⟨"BookTreesModel", "hasEntry", "(II)Z"⟩, 26) := ⟨⟨by decide +kernel, by decide +kernel⟩, List.mem_of_getElem? (i := 658) (by decide +kernel), List.mem_of_getElem? (i := 825) (by decide +kernel), List.mem_of_getElem? (i := 826) (by decide +kernel)⟩
theorem lw_p36 : lw_okq (⟨"BookTreesModel", "isKept", "(I)Z"⟩, 26) := ⟨⟨by decide +kernel, by decide +kernel⟩, List.mem_of_getElem? (i := 658) (by decide +kernel), List.mem_of_getElem? (i := 833) (by decide +kernel), List.mem_of_getElem? (i := 834) (by decide +kernel)⟩
theorem lw_p37 : lw_okq (⟨"BookTreesModel", "readAll", "()Z"⟩, 26) := ⟨⟨by decide +kernel, by decide +kernel⟩, List.mem_of_getElem? (i := 658) (by decide +kernel), List.mem_of_getElem? (i := 853) (by decide +kernel), List.mem_of_getElem? (i := 854) (by decide +kernel)⟩
theorem lw_p38 : lw_okq (⟨"BookTreesModel", "readTop", "()Z"⟩, 26) := ⟨⟨by decide +kernel, by decide +kernel⟩, List.mem_of_getElem? (i := 658) (by decide +kernel), List.mem_of_getElem? (i := 857) (by decide +kernel), List.mem_of_getElem? (i := 858) (by decide +kernel)⟩
theorem lw_p39 : lw_okq (⟨"BookTreesModel", "isNodeChanged", "(I)Z"⟩, 26) := ⟨⟨by decide +kernel, by decide +kernel⟩, List.mem_of_getElem? (i := 658) (by decide +kernel), List.mem_of_getElem? (i := 861) (by decide +kernel), List.mem_of_getElem? (i := 862) (by decide +kernel)⟩
theorem lw_p40 : lw_okq (⟨"BookTreesModel", "readNode", "(I)Z"⟩, 26) := ⟨⟨by decide +kernel, by decide +kernel⟩, List.mem_of_getElem? (i := 658) (by decide +kernel), List.mem_of_getElem? (i := 865) (by decide +kernel), List.mem_of_getElem? (i := 866) (by decide +kernel)⟩
theorem lw_p41 : lw_okq (⟨"BookTreesModel", "readLeaf", "(II)Z"⟩, 26) := ⟨⟨by decide +kernel, by decide +kernel⟩, List.mem_of_getElem? (i := 658) (by decide +kernel), List.mem_of_getElem? (i := 869) (by decide +kernel), List.mem_of_getElem? (i := 870) (by decide +kernel)⟩
theorem lw_p42 : lw_okq (⟨"BookTreesModel", "applyDraft", "()V"⟩, 26) := ⟨⟨by decide +kernel, by decide +kernel⟩, List.mem_of_getElem? (i := 658) (by decide +kernel), List.mem_of_getElem? (i := 873) (by decide +kernel), List.mem_of_getElem? (i := 874) (by decide +kernel)⟩
theorem lw_p43 : lw_okq (⟨"BookTreesModel", "settle", "()I"⟩, 26) := ⟨⟨by decide +kernel, by decide +kernel⟩, List.mem_of_getElem? (i := 658) (by decide +kernel), List.mem_of_getElem? (i := 877) (by decide +kernel), List.mem_of_getElem? (i := 878) (by decide +kernel)⟩
theorem lw_p44 : lw_okq (⟨"BookTreesModel", "writeAll", "(I)I"⟩, 26) := ⟨⟨by decide +kernel, by decide +kernel⟩, List.mem_of_getElem? (i := 658) (by decide +kernel), List.mem_of_getElem? (i := 881) (by decide +kernel), List.mem_of_getElem? (i := 882) (by decide +kernel)⟩
theorem lw_p45 : lw_okq (⟨"BookTreesModel", "writeLeaf", "(I)Z"⟩, 26) := ⟨⟨by decide +kernel, by decide +kernel⟩, List.mem_of_getElem? (i := 658) (by decide +kernel), List.mem_of_getElem? (i := 885) (by decide +kernel), List.mem_of_getElem? (i := 886) (by decide +kernel)⟩
theorem lw_p46 : lw_okq (⟨"BookTreesModel", "begin", "(II)V"⟩, 26) := ⟨⟨by decide +kernel, by decide +kernel⟩, List.mem_of_getElem? (i := 658) (by decide +kernel), List.mem_of_getElem? (i := 889) (by decide +kernel), List.mem_of_getElem? (i := 890) (by decide +kernel)⟩
theorem lw_p47 : lw_okq (⟨"BookTreesModel", "putNumber", "(II)V"⟩, 26) := ⟨⟨by decide +kernel, by decide +kernel⟩, List.mem_of_getElem? (i := 658) (by decide +kernel), List.mem_of_getElem? (i := 893) (by decide +kernel), List.mem_of_getElem? (i := 894) (by decide +kernel)⟩
def lw_privs_3 : List (MethodName × Nat) := [(⟨"BookTreesModel", "number", "(I)I"⟩, 26), (⟨"BookTreesModel", "bitsOf", "(I)I"⟩, 26), (⟨"BookTreesModel", "entryOf", "(II)I"⟩, 26), (⟨"BookTreesModel", "hasEntry", "(II)Z"⟩, 26), (⟨"BookTreesModel", "isKept", "(I)Z"⟩, 26), (⟨"BookTreesModel", "readAll", "()Z"⟩, 26), (⟨"BookTreesModel", "readTop", "()Z"⟩, 26), (⟨"BookTreesModel", "isNodeChanged", "(I)Z"⟩, 26), (⟨"BookTreesModel", "readNode", "(I)Z"⟩, 26), (⟨"BookTreesModel", "readLeaf", "(II)Z"⟩, 26), (⟨"BookTreesModel", "applyDraft", "()V"⟩, 26), (⟨"BookTreesModel", "settle", "()I"⟩, 26), (⟨"BookTreesModel", "writeAll", "(I)I"⟩, 26), (⟨"BookTreesModel", "writeLeaf", "(I)Z"⟩, 26), (⟨"BookTreesModel", "begin", "(II)V"⟩, 26), (⟨"BookTreesModel", "putNumber", "(II)V"⟩, 26)]
theorem lw_r3 : ∀ q ∈ lw_privs_3, lw_okq q := List.forall_mem_cons.mpr ⟨lw_p32, List.forall_mem_cons.mpr ⟨lw_p33, List.forall_mem_cons.mpr ⟨lw_p34, List.forall_mem_cons.mpr ⟨lw_p35, List.forall_mem_cons.mpr ⟨lw_p36, List.forall_mem_cons.mpr ⟨lw_p37, List.forall_mem_cons.mpr ⟨lw_p38, List.forall_mem_cons.mpr ⟨lw_p39, List.forall_mem_cons.mpr ⟨lw_p40, List.forall_mem_cons.mpr ⟨lw_p41, List.forall_mem_cons.mpr ⟨lw_p42, List.forall_mem_cons.mpr ⟨lw_p43, List.forall_mem_cons.mpr ⟨lw_p44, List.forall_mem_cons.mpr ⟨lw_p45, List.forall_mem_cons.mpr ⟨lw_p46, List.forall_mem_cons.mpr ⟨lw_p47, fun _ h => absurd h List.not_mem_nil⟩⟩⟩⟩⟩⟩⟩⟩⟩⟩⟩⟩⟩⟩⟩⟩
theorem lw_p48 : lw_okq (⟨"BookTreesModel", "finish", "()Z"⟩, 26) := ⟨⟨by decide +kernel, by decide +kernel⟩, List.mem_of_getElem? (i := 658) (by decide +kernel), List.mem_of_getElem? (i := 897) (by decide +kernel), List.mem_of_getElem? (i := 898) (by decide +kernel)⟩
theorem lw_p49 : lw_okq (⟨"BookTreesModel", "write", "(II)Z"⟩, 26) := ⟨⟨by decide +kernel, by decide +kernel⟩, List.mem_of_getElem? (i := 658) (by decide +kernel), List.mem_of_getElem? (i := 901) (by decide +kernel), List.mem_of_getElem? (i := 902) (by decide +kernel)⟩
theorem lw_p50 : lw_okq (⟨"BookTreesModel", "writeNode", "(I)Z"⟩, 26) := ⟨⟨by decide +kernel, by decide +kernel⟩, List.mem_of_getElem? (i := 658) (by decide +kernel), List.mem_of_getElem? (i := 905) (by decide +kernel), List.mem_of_getElem? (i := 906) (by decide +kernel)⟩
theorem lw_p51 : lw_okq (⟨"BookTreesModel", "writeTop", "()Z"⟩, 26) := ⟨⟨by decide +kernel, by decide +kernel⟩, List.mem_of_getElem? (i := 658) (by decide +kernel), List.mem_of_getElem? (i := 909) (by decide +kernel), List.mem_of_getElem? (i := 910) (by decide +kernel)⟩
theorem lw_p52 : lw_okq (⟨"BookTreesModel", "writeRoot", "(I)Z"⟩, 26) := ⟨⟨by decide +kernel, by decide +kernel⟩, List.mem_of_getElem? (i := 658) (by decide +kernel), List.mem_of_getElem? (i := 913) (by decide +kernel), List.mem_of_getElem? (i := 914) (by decide +kernel)⟩
theorem lw_p53 : lw_okq (⟨"BookTreesModel", "isWhole", "(I)Z"⟩, 26) := ⟨⟨by decide +kernel, by decide +kernel⟩, List.mem_of_getElem? (i := 658) (by decide +kernel), List.mem_of_getElem? (i := 930) (by decide +kernel), List.mem_of_getElem? (i := 931) (by decide +kernel)⟩
theorem lw_p54 : lw_okq (⟨"BookTreesModel", "keep", "(II)V"⟩, 26) := ⟨⟨by decide +kernel, by decide +kernel⟩, List.mem_of_getElem? (i := 658) (by decide +kernel), List.mem_of_getElem? (i := 935) (by decide +kernel), List.mem_of_getElem? (i := 936) (by decide +kernel)⟩
def lw_privs_4 : List (MethodName × Nat) := [(⟨"BookTreesModel", "finish", "()Z"⟩, 26), (⟨"BookTreesModel", "write", "(II)Z"⟩, 26), (⟨"BookTreesModel", "writeNode", "(I)Z"⟩, 26), (⟨"BookTreesModel", "writeTop", "()Z"⟩, 26), (⟨"BookTreesModel", "writeRoot", "(I)Z"⟩, 26), (⟨"BookTreesModel", "isWhole", "(I)Z"⟩, 26), (⟨"BookTreesModel", "keep", "(II)V"⟩, 26)]
theorem lw_r4 : ∀ q ∈ lw_privs_4, lw_okq q := List.forall_mem_cons.mpr ⟨lw_p48, List.forall_mem_cons.mpr ⟨lw_p49, List.forall_mem_cons.mpr ⟨lw_p50, List.forall_mem_cons.mpr ⟨lw_p51, List.forall_mem_cons.mpr ⟨lw_p52, List.forall_mem_cons.mpr ⟨lw_p53, List.forall_mem_cons.mpr ⟨lw_p54, fun _ h => absurd h List.not_mem_nil⟩⟩⟩⟩⟩⟩⟩
def lw_privs : List (MethodName × Nat) := lw_privs_1 ++ (lw_privs_2 ++ (lw_privs_3 ++ (lw_privs_4)))
def lw_tbl : List Cond := k2_sels lw_privs ++ tables_1
theorem lw_privs_ok : ∀ q ∈ lw_privs, lw_okq q := by
  show ∀ q ∈ lw_privs_1 ++ (lw_privs_2 ++ (lw_privs_3 ++ (lw_privs_4))), lw_okq q
  exact List.forall_mem_append.mpr ⟨lw_r1, List.forall_mem_append.mpr ⟨lw_r2, List.forall_mem_append.mpr ⟨lw_r3, lw_r4⟩⟩⟩
/-- the words that stay, whatever is linked meanwhile -/
def lw_g : List Cond := lw_tbl.filter goodWord
theorem gw {w : Cond} (h : w ∈ lw_tbl) (hg : goodWord w = true) : w ∈ lw_g := List.mem_filter.mpr ⟨h, hg⟩
theorem lw_g_good : ∀ w ∈ lw_g, goodWord w = true := fun _ h => (List.mem_filter.mp h).2
theorem lw_g_tbl : ∀ w ∈ lw_g, w ∈ lw_tbl := fun _ h => (List.mem_filter.mp h).1
end
section
/-! names of the classes, fields and methods; rows that decode each instruction; words of the tables by their places. Written by wip/gen/names.py -/
def R_BT : String := "BookTrees"
def F_BT : u_T := fun k => match k with
  | 0 => ("BookTrees", "power", "LBookTrees$Power;", true)
  | 1 => ("BookTrees", "roll", "LBookTrees$Roll;", true)
  | 2 => ("BookTrees", "draft", "LBookTrees$Draft;", true)
  | 3 => ("BookTrees", "shelf", "LBookTrees$Shelf;", true)
  | _ => ("BookTrees", "pages", "LBookTrees$Pages;", true)
def t_BT : Nat → FieldType := fun k => match k with
  | 0 => .object "BookTrees$Power"
  | 1 => .object "BookTrees$Roll"
  | 2 => .object "BookTrees$Draft"
  | 3 => .object "BookTrees$Shelf"
  | _ => .object "BookTrees$Pages"
theorem nm_BT : ∀ a, a < 5 → ∀ b, b < 5 → a ≠ b → (F_BT a).2.1 ≠ (F_BT b).2.1 := by decide +kernel
theorem to_BT : ∀ k, k < 5 → parseFieldDescriptor (F_BT k).2.2.1 = some (t_BT k) := by decide +kernel
theorem ly_BT_0 : u_lay R_BT F_BT 0 ∈ lw_g := gw (List.mem_of_getElem? (i := 193) (by decide +kernel)) rfl
theorem ly_BT_1 : u_lay R_BT F_BT 1 ∈ lw_g := gw (List.mem_of_getElem? (i := 195) (by decide +kernel)) rfl
theorem ly_BT_2 : u_lay R_BT F_BT 2 ∈ lw_g := gw (List.mem_of_getElem? (i := 197) (by decide +kernel)) rfl
theorem ly_BT_3 : u_lay R_BT F_BT 3 ∈ lw_g := gw (List.mem_of_getElem? (i := 199) (by decide +kernel)) rfl
theorem ly_BT_4 : u_lay R_BT F_BT 4 ∈ lw_g := gw (List.mem_of_getElem? (i := 201) (by decide +kernel)) rfl
theorem in_BT : ∀ w ∈ u_ws R_BT F_BT 5, w ∈ lw_g := by
  intro w hw
  obtain ⟨k, hk, rfl⟩ := List.mem_map.mp hw
  have hk := List.mem_range.mp hk
  match k, hk with
  | 0, _ => exact ly_BT_0
  | 1, _ => exact ly_BT_1
  | 2, _ => exact ly_BT_2
  | 3, _ => exact ly_BT_3
  | 4, _ => exact ly_BT_4
  | k + 5, hk => exact absurd hk (by omega)
def R_PW : String := "BookTrees$Power"
def F_PW : u_T := fun k => match k with
  | 0 => ("BookTrees$Power", "failed", "Z", false)
  | 1 => ("BookTrees$Power", "bytesLeft", "I", false)
  | _ => ("BookTrees$Power", "written", "I", false)
def t_PW : Nat → FieldType := fun k => match k with
  | 0 => .boolean
  | 1 => .int
  | _ => .int
theorem nm_PW : ∀ a, a < 3 → ∀ b, b < 3 → a ≠ b → (F_PW a).2.1 ≠ (F_PW b).2.1 := by decide +kernel
theorem to_PW : ∀ k, k < 3 → parseFieldDescriptor (F_PW k).2.2.1 = some (t_PW k) := by decide +kernel
theorem ly_PW_0 : u_lay R_PW F_PW 0 ∈ lw_g := gw (List.mem_of_getElem? (i := 87) (by decide +kernel)) rfl
theorem ly_PW_1 : u_lay R_PW F_PW 1 ∈ lw_g := gw (List.mem_of_getElem? (i := 89) (by decide +kernel)) rfl
theorem ly_PW_2 : u_lay R_PW F_PW 2 ∈ lw_g := gw (List.mem_of_getElem? (i := 91) (by decide +kernel)) rfl
theorem in_PW : ∀ w ∈ u_ws R_PW F_PW 3, w ∈ lw_g := by
  intro w hw
  obtain ⟨k, hk, rfl⟩ := List.mem_map.mp hw
  have hk := List.mem_range.mp hk
  match k, hk with
  | 0, _ => exact ly_PW_0
  | 1, _ => exact ly_PW_1
  | 2, _ => exact ly_PW_2
  | k + 3, hk => exact absurd hk (by omega)
def R_RL : String := "BookTrees$Roll"
def F_RL : u_T := fun k => match k with
  | 0 => ("BookTrees$Roll", "power", "LBookTrees$Power;", true)
  | 1 => ("BookTrees$Roll", "slots", "I", true)
  | 2 => ("BookTrees$Roll", "bytes", "[B", true)
  | 3 => ("BookTrees$Roll", "torn", "[Z", true)
  | 4 => ("BookTrees$Roll", "sheet", "[B", true)
  | 5 => ("BookTrees$Roll", "start", "I", false)
  | _ => ("BookTrees$Roll", "end", "I", false)
def t_RL : Nat → FieldType := fun k => match k with
  | 0 => .object "BookTrees$Power"
  | 1 => .int
  | 2 => .array .byte
  | 3 => .array .boolean
  | 4 => .array .byte
  | 5 => .int
  | _ => .int
theorem nm_RL : ∀ a, a < 7 → ∀ b, b < 7 → a ≠ b → (F_RL a).2.1 ≠ (F_RL b).2.1 := by decide +kernel
theorem to_RL : ∀ k, k < 7 → parseFieldDescriptor (F_RL k).2.2.1 = some (t_RL k) := by decide +kernel
theorem ly_RL_0 : u_lay R_RL F_RL 0 ∈ lw_g := gw (List.mem_of_getElem? (i := 113) (by decide +kernel)) rfl
theorem ly_RL_1 : u_lay R_RL F_RL 1 ∈ lw_g := gw (List.mem_of_getElem? (i := 115) (by decide +kernel)) rfl
theorem ly_RL_2 : u_lay R_RL F_RL 2 ∈ lw_g := gw (List.mem_of_getElem? (i := 117) (by decide +kernel)) rfl
theorem ly_RL_3 : u_lay R_RL F_RL 3 ∈ lw_g := gw (List.mem_of_getElem? (i := 119) (by decide +kernel)) rfl
theorem ly_RL_4 : u_lay R_RL F_RL 4 ∈ lw_g := gw (List.mem_of_getElem? (i := 121) (by decide +kernel)) rfl
theorem ly_RL_5 : u_lay R_RL F_RL 5 ∈ lw_g := gw (List.mem_of_getElem? (i := 123) (by decide +kernel)) rfl
theorem ly_RL_6 : u_lay R_RL F_RL 6 ∈ lw_g := gw (List.mem_of_getElem? (i := 125) (by decide +kernel)) rfl
theorem in_RL : ∀ w ∈ u_ws R_RL F_RL 7, w ∈ lw_g := by
  intro w hw
  obtain ⟨k, hk, rfl⟩ := List.mem_map.mp hw
  have hk := List.mem_range.mp hk
  match k, hk with
  | 0, _ => exact ly_RL_0
  | 1, _ => exact ly_RL_1
  | 2, _ => exact ly_RL_2
  | 3, _ => exact ly_RL_3
  | 4, _ => exact ly_RL_4
  | 5, _ => exact ly_RL_5
  | 6, _ => exact ly_RL_6
  | k + 7, hk => exact absurd hk (by omega)
def R_DR : String := "BookTrees$Draft"
def F_DR : u_T := fun k => match k with
  | 0 => ("BookTrees$Draft", "changes", "[I", true)
  | 1 => ("BookTrees$Draft", "values", "[I", true)
  | _ => ("BookTrees$Draft", "size", "I", false)
def t_DR : Nat → FieldType := fun k => match k with
  | 0 => .array .int
  | 1 => .array .int
  | _ => .int
theorem nm_DR : ∀ a, a < 3 → ∀ b, b < 3 → a ≠ b → (F_DR a).2.1 ≠ (F_DR b).2.1 := by decide +kernel
theorem to_DR : ∀ k, k < 3 → parseFieldDescriptor (F_DR k).2.2.1 = some (t_DR k) := by decide +kernel
theorem ly_DR_0 : u_lay R_DR F_DR 0 ∈ lw_g := gw (List.mem_of_getElem? (i := 139) (by decide +kernel)) rfl
theorem ly_DR_1 : u_lay R_DR F_DR 1 ∈ lw_g := gw (List.mem_of_getElem? (i := 141) (by decide +kernel)) rfl
theorem ly_DR_2 : u_lay R_DR F_DR 2 ∈ lw_g := gw (List.mem_of_getElem? (i := 143) (by decide +kernel)) rfl
theorem in_DR : ∀ w ∈ u_ws R_DR F_DR 3, w ∈ lw_g := by
  intro w hw
  obtain ⟨k, hk, rfl⟩ := List.mem_map.mp hw
  have hk := List.mem_range.mp hk
  match k, hk with
  | 0, _ => exact ly_DR_0
  | 1, _ => exact ly_DR_1
  | 2, _ => exact ly_DR_2
  | k + 3, hk => exact absurd hk (by omega)
def R_SH : String := "BookTrees$Shelf"
def F_SH : u_T := fun k => match k with
  | 0 => ("BookTrees$Shelf", "versions", "[I", true)
  | 1 => ("BookTrees$Shelf", "roots", "[I", true)
  | _ => ("BookTrees$Shelf", "size", "I", false)
def t_SH : Nat → FieldType := fun k => match k with
  | 0 => .array .int
  | 1 => .array .int
  | _ => .int
theorem nm_SH : ∀ a, a < 3 → ∀ b, b < 3 → a ≠ b → (F_SH a).2.1 ≠ (F_SH b).2.1 := by decide +kernel
theorem to_SH : ∀ k, k < 3 → parseFieldDescriptor (F_SH k).2.2.1 = some (t_SH k) := by decide +kernel
theorem ly_SH_0 : u_lay R_SH F_SH 0 ∈ lw_g := gw (List.mem_of_getElem? (i := 156) (by decide +kernel)) rfl
theorem ly_SH_1 : u_lay R_SH F_SH 1 ∈ lw_g := gw (List.mem_of_getElem? (i := 158) (by decide +kernel)) rfl
theorem ly_SH_2 : u_lay R_SH F_SH 2 ∈ lw_g := gw (List.mem_of_getElem? (i := 160) (by decide +kernel)) rfl
theorem in_SH : ∀ w ∈ u_ws R_SH F_SH 3, w ∈ lw_g := by
  intro w hw
  obtain ⟨k, hk, rfl⟩ := List.mem_map.mp hw
  have hk := List.mem_range.mp hk
  match k, hk with
  | 0, _ => exact ly_SH_0
  | 1, _ => exact ly_SH_1
  | 2, _ => exact ly_SH_2
  | k + 3, hk => exact absurd hk (by omega)
def R_PG : String := "BookTrees$Pages"
def F_PG : u_T := fun k => match k with
  | 0 => ("BookTrees$Pages", "marked", "[Z", true)
  | 1 => ("BookTrees$Pages", "bits", "[I", true)
  | 2 => ("BookTrees$Pages", "entries", "[I", true)
  | 3 => ("BookTrees$Pages", "blocks", "[I", true)
  | 4 => ("BookTrees$Pages", "rootEntries", "[I", true)
  | _ => ("BookTrees$Pages", "rowCount", "I", false)
def t_PG : Nat → FieldType := fun k => match k with
  | 0 => .array .boolean
  | 1 => .array .int
  | 2 => .array .int
  | 3 => .array .int
  | 4 => .array .int
  | _ => .int
theorem nm_PG : ∀ a, a < 6 → ∀ b, b < 6 → a ≠ b → (F_PG a).2.1 ≠ (F_PG b).2.1 := by decide +kernel
theorem to_PG : ∀ k, k < 6 → parseFieldDescriptor (F_PG k).2.2.1 = some (t_PG k) := by decide +kernel
theorem ly_PG_0 : u_lay R_PG F_PG 0 ∈ lw_g := gw (List.mem_of_getElem? (i := 175) (by decide +kernel)) rfl
theorem ly_PG_1 : u_lay R_PG F_PG 1 ∈ lw_g := gw (List.mem_of_getElem? (i := 177) (by decide +kernel)) rfl
theorem ly_PG_2 : u_lay R_PG F_PG 2 ∈ lw_g := gw (List.mem_of_getElem? (i := 179) (by decide +kernel)) rfl
theorem ly_PG_3 : u_lay R_PG F_PG 3 ∈ lw_g := gw (List.mem_of_getElem? (i := 181) (by decide +kernel)) rfl
theorem ly_PG_4 : u_lay R_PG F_PG 4 ∈ lw_g := gw (List.mem_of_getElem? (i := 183) (by decide +kernel)) rfl
theorem ly_PG_5 : u_lay R_PG F_PG 5 ∈ lw_g := gw (List.mem_of_getElem? (i := 185) (by decide +kernel)) rfl
theorem in_PG : ∀ w ∈ u_ws R_PG F_PG 6, w ∈ lw_g := by
  intro w hw
  obtain ⟨k, hk, rfl⟩ := List.mem_map.mp hw
  have hk := List.mem_range.mp hk
  match k, hk with
  | 0, _ => exact ly_PG_0
  | 1, _ => exact ly_PG_1
  | 2, _ => exact ly_PG_2
  | 3, _ => exact ly_PG_3
  | 4, _ => exact ly_PG_4
  | 5, _ => exact ly_PG_5
  | k + 6, hk => exact absurd hk (by omega)
def R_MO : String := "BookTreesModel"
def F_MO : u_T := fun k => match k with
  | 0 => ("BookTreesModel", "refusal", "I", false)
  | 1 => ("BookTreesModel", "slots", "I", true)
  | 2 => ("BookTreesModel", "roll", "[I", true)
  | 3 => ("BookTreesModel", "isTorn", "[Z", true)
  | 4 => ("BookTreesModel", "start", "I", false)
  | 5 => ("BookTreesModel", "end", "I", false)
  | 6 => ("BookTreesModel", "newest", "I", false)
  | 7 => ("BookTreesModel", "isDown", "Z", false)
  | 8 => ("BookTreesModel", "power", "I", false)
  | 9 => ("BookTreesModel", "written", "I", false)
  | 10 => ("BookTreesModel", "roots", "I", false)
  | 11 => ("BookTreesModel", "versions", "[I", true)
  | 12 => ("BookTreesModel", "rootBlocks", "[I", true)
  | 13 => ("BookTreesModel", "draft", "I", false)
  | 14 => ("BookTreesModel", "changes", "[I", true)
  | 15 => ("BookTreesModel", "values", "[I", true)
  | 16 => ("BookTreesModel", "isChanged", "[Z", true)
  | 17 => ("BookTreesModel", "leafBits", "[I", true)
  | 18 => ("BookTreesModel", "rows", "[I", true)
  | 19 => ("BookTreesModel", "nodeBits", "[I", true)
  | 20 => ("BookTreesModel", "leafBlocks", "[I", true)
  | 21 => ("BookTreesModel", "topBits", "I", false)
  | 22 => ("BookTreesModel", "nodeBlocks", "[I", true)
  | 23 => ("BookTreesModel", "rowCount", "I", false)
  | 24 => ("BookTreesModel", "made", "[I", true)
  | _ => ("BookTreesModel", "next", "I", false)
def t_MO : Nat → FieldType := fun k => match k with
  | 0 => .int
  | 1 => .int
  | 2 => .array .int
  | 3 => .array .boolean
  | 4 => .int
  | 5 => .int
  | 6 => .int
  | 7 => .boolean
  | 8 => .int
  | 9 => .int
  | 10 => .int
  | 11 => .array .int
  | 12 => .array .int
  | 13 => .int
  | 14 => .array .int
  | 15 => .array .int
  | 16 => .array .boolean
  | 17 => .array .int
  | 18 => .array .int
  | 19 => .array .int
  | 20 => .array .int
  | 21 => .int
  | 22 => .array .int
  | 23 => .int
  | 24 => .array .int
  | _ => .int
theorem nm_MO : ∀ a, a < 26 → ∀ b, b < 26 → a ≠ b → (F_MO a).2.1 ≠ (F_MO b).2.1 := by decide +kernel
theorem to_MO : ∀ k, k < 26 → parseFieldDescriptor (F_MO k).2.2.1 = some (t_MO k) := by decide +kernel
theorem ly_MO_0 : u_lay R_MO F_MO 0 ∈ lw_g := gw (List.mem_of_getElem? (i := 744) (by decide +kernel)) rfl
theorem ly_MO_1 : u_lay R_MO F_MO 1 ∈ lw_g := gw (List.mem_of_getElem? (i := 746) (by decide +kernel)) rfl
theorem ly_MO_2 : u_lay R_MO F_MO 2 ∈ lw_g := gw (List.mem_of_getElem? (i := 748) (by decide +kernel)) rfl
theorem ly_MO_3 : u_lay R_MO F_MO 3 ∈ lw_g := gw (List.mem_of_getElem? (i := 750) (by decide +kernel)) rfl
theorem ly_MO_4 : u_lay R_MO F_MO 4 ∈ lw_g := gw (List.mem_of_getElem? (i := 752) (by decide +kernel)) rfl
theorem ly_MO_5 : u_lay R_MO F_MO 5 ∈ lw_g := gw (List.mem_of_getElem? (i := 754) (by decide +kernel)) rfl
theorem ly_MO_6 : u_lay R_MO F_MO 6 ∈ lw_g := gw (List.mem_of_getElem? (i := 756) (by decide +kernel)) rfl
theorem ly_MO_7 : u_lay R_MO F_MO 7 ∈ lw_g := gw (List.mem_of_getElem? (i := 758) (by decide +kernel)) rfl
theorem ly_MO_8 : u_lay R_MO F_MO 8 ∈ lw_g := gw (List.mem_of_getElem? (i := 760) (by decide +kernel)) rfl
theorem ly_MO_9 : u_lay R_MO F_MO 9 ∈ lw_g := gw (List.mem_of_getElem? (i := 762) (by decide +kernel)) rfl
theorem ly_MO_10 : u_lay R_MO F_MO 10 ∈ lw_g := gw (List.mem_of_getElem? (i := 764) (by decide +kernel)) rfl
theorem ly_MO_11 : u_lay R_MO F_MO 11 ∈ lw_g := gw (List.mem_of_getElem? (i := 766) (by decide +kernel)) rfl
theorem ly_MO_12 : u_lay R_MO F_MO 12 ∈ lw_g := gw (List.mem_of_getElem? (i := 768) (by decide +kernel)) rfl
theorem ly_MO_13 : u_lay R_MO F_MO 13 ∈ lw_g := gw (List.mem_of_getElem? (i := 770) (by decide +kernel)) rfl
theorem ly_MO_14 : u_lay R_MO F_MO 14 ∈ lw_g := gw (List.mem_of_getElem? (i := 772) (by decide +kernel)) rfl
theorem ly_MO_15 : u_lay R_MO F_MO 15 ∈ lw_g := gw (List.mem_of_getElem? (i := 774) (by decide +kernel)) rfl
theorem ly_MO_16 : u_lay R_MO F_MO 16 ∈ lw_g := gw (List.mem_of_getElem? (i := 776) (by decide +kernel)) rfl
theorem ly_MO_17 : u_lay R_MO F_MO 17 ∈ lw_g := gw (List.mem_of_getElem? (i := 778) (by decide +kernel)) rfl
theorem ly_MO_18 : u_lay R_MO F_MO 18 ∈ lw_g := gw (List.mem_of_getElem? (i := 780) (by decide +kernel)) rfl
theorem ly_MO_19 : u_lay R_MO F_MO 19 ∈ lw_g := gw (List.mem_of_getElem? (i := 782) (by decide +kernel)) rfl
theorem ly_MO_20 : u_lay R_MO F_MO 20 ∈ lw_g := gw (List.mem_of_getElem? (i := 784) (by decide +kernel)) rfl
theorem ly_MO_21 : u_lay R_MO F_MO 21 ∈ lw_g := gw (List.mem_of_getElem? (i := 786) (by decide +kernel)) rfl
theorem ly_MO_22 : u_lay R_MO F_MO 22 ∈ lw_g := gw (List.mem_of_getElem? (i := 788) (by decide +kernel)) rfl
theorem ly_MO_23 : u_lay R_MO F_MO 23 ∈ lw_g := gw (List.mem_of_getElem? (i := 790) (by decide +kernel)) rfl
theorem ly_MO_24 : u_lay R_MO F_MO 24 ∈ lw_g := gw (List.mem_of_getElem? (i := 792) (by decide +kernel)) rfl
theorem ly_MO_25 : u_lay R_MO F_MO 25 ∈ lw_g := gw (List.mem_of_getElem? (i := 794) (by decide +kernel)) rfl
theorem in_MO : ∀ w ∈ u_ws R_MO F_MO 26, w ∈ lw_g := by
  intro w hw
  obtain ⟨k, hk, rfl⟩ := List.mem_map.mp hw
  have hk := List.mem_range.mp hk
  match k, hk with
  | 0, _ => exact ly_MO_0
  | 1, _ => exact ly_MO_1
  | 2, _ => exact ly_MO_2
  | 3, _ => exact ly_MO_3
  | 4, _ => exact ly_MO_4
  | 5, _ => exact ly_MO_5
  | 6, _ => exact ly_MO_6
  | 7, _ => exact ly_MO_7
  | 8, _ => exact ly_MO_8
  | 9, _ => exact ly_MO_9
  | 10, _ => exact ly_MO_10
  | 11, _ => exact ly_MO_11
  | 12, _ => exact ly_MO_12
  | 13, _ => exact ly_MO_13
  | 14, _ => exact ly_MO_14
  | 15, _ => exact ly_MO_15
  | 16, _ => exact ly_MO_16
  | 17, _ => exact ly_MO_17
  | 18, _ => exact ly_MO_18
  | 19, _ => exact ly_MO_19
  | 20, _ => exact ly_MO_20
  | 21, _ => exact ly_MO_21
  | 22, _ => exact ly_MO_22
  | 23, _ => exact ly_MO_23
  | 24, _ => exact ly_MO_24
  | 25, _ => exact ly_MO_25
  | k + 26, hk => exact absurd hk (by omega)
def R_LA : String := "BookTreesLaw"
abbrev classes : List vw_C := [(R_BT, F_BT, 5), (R_PW, F_PW, 3), (R_RL, F_RL, 7), (R_DR, F_DR, 3), (R_SH, F_SH, 3), (R_PG, F_PG, 6), (R_MO, F_MO, 26)]
theorem ini_BT : Cond.initialized "BookTrees" ∈ lw_g := gw (List.mem_of_getElem? (i := 56) (by decide +kernel)) rfl
theorem ini_PW : Cond.initialized "BookTrees$Power" ∈ lw_g := gw (List.mem_of_getElem? (i := 57) (by decide +kernel)) rfl
theorem ini_RL : Cond.initialized "BookTrees$Roll" ∈ lw_g := gw (List.mem_of_getElem? (i := 58) (by decide +kernel)) rfl
theorem ini_DR : Cond.initialized "BookTrees$Draft" ∈ lw_g := gw (List.mem_of_getElem? (i := 60) (by decide +kernel)) rfl
theorem ini_SH : Cond.initialized "BookTrees$Shelf" ∈ lw_g := gw (List.mem_of_getElem? (i := 61) (by decide +kernel)) rfl
theorem ini_PG : Cond.initialized "BookTrees$Pages" ∈ lw_g := gw (List.mem_of_getElem? (i := 62) (by decide +kernel)) rfl
theorem ini_MO : Cond.initialized "BookTreesModel" ∈ lw_g := gw (List.mem_of_getElem? (i := 63) (by decide +kernel)) rfl
theorem ini_JM : Cond.initialized "java/lang/Math" ∈ lw_g := gw (List.mem_of_getElem? (i := 59) (by decide +kernel)) rfl
theorem ini_LA : Cond.initialized "BookTreesLaw" ∈ lw_g := gw (List.mem_of_getElem? (i := 55) (by decide +kernel)) rfl
theorem ac_int : Cond.arrayClass .int ∈ lw_g := gw (List.mem_of_getElem? (i := 146) (by decide +kernel)) rfl
theorem ac_boolean : Cond.arrayClass .boolean ∈ lw_g := gw (List.mem_of_getElem? (i := 129) (by decide +kernel)) rfl
theorem ac_byte : Cond.arrayClass .byte ∈ lw_g := gw (List.mem_of_getElem? (i := 128) (by decide +kernel)) rfl
theorem ac_long : Cond.arrayClass .long ∈ lw_g := gw (List.mem_of_getElem? (i := 1013) (by decide +kernel)) rfl
theorem kc_LA_8 : Cond.classLink "BookTreesLaw" (8 : Nat) "BookTrees" ∈ lw_g := gw (List.mem_of_getElem? (i := 70) (by decide +kernel)) rfl
theorem km_LA_71 : Cond.methodLink "BookTreesLaw" (71 : Nat) ({ cls := "BookTrees", name := "<init>", desc := "(I)V" } : MethodName) ∈ lw_g := gw (List.mem_of_getElem? (i := 72) (by decide +kernel)) rfl
theorem km_BT_1 : Cond.methodLink "BookTrees" (1 : Nat) ({ cls := "java/lang/Object", name := "<init>", desc := "()V" } : MethodName) ∈ lw_g := gw (List.mem_of_getElem? (i := 75) (by decide +kernel)) rfl
theorem kc_BT_7 : Cond.classLink "BookTrees" (7 : Nat) "BookTrees$Power" ∈ lw_g := gw (List.mem_of_getElem? (i := 78) (by decide +kernel)) rfl
theorem km_BT_9 : Cond.methodLink "BookTrees" (9 : Nat) ({ cls := "BookTrees$Power", name := "<init>", desc := "()V" } : MethodName) ∈ lw_g := gw (List.mem_of_getElem? (i := 80) (by decide +kernel)) rfl
theorem km_PW_3 : Cond.methodLink "BookTrees$Power" (3 : Nat) ({ cls := "java/lang/Object", name := "<init>", desc := "()V" } : MethodName) ∈ lw_g := gw (List.mem_of_getElem? (i := 83) (by decide +kernel)) rfl
theorem kf_PW_15 : Cond.fieldLink "BookTrees$Power" (15 : Nat) "BookTrees$Power" "failed" "Z" ∈ lw_g := gw (List.mem_of_getElem? (i := 84) (by decide +kernel)) rfl
theorem kf_PW_9 : Cond.fieldLink "BookTrees$Power" (9 : Nat) "BookTrees$Power" "bytesLeft" "I" ∈ lw_g := gw (List.mem_of_getElem? (i := 85) (by decide +kernel)) rfl
theorem kf_PW_19 : Cond.fieldLink "BookTrees$Power" (19 : Nat) "BookTrees$Power" "written" "I" ∈ lw_g := gw (List.mem_of_getElem? (i := 86) (by decide +kernel)) rfl
theorem kc_BT_16 : Cond.classLink "BookTrees" (16 : Nat) "BookTrees$Roll" ∈ lw_g := gw (List.mem_of_getElem? (i := 94) (by decide +kernel)) rfl
theorem km_BT_18 : Cond.methodLink "BookTrees" (18 : Nat) ({ cls := "BookTrees$Roll", name := "<init>", desc := "(ILBookTrees$Power;)V" } : MethodName) ∈ lw_g := gw (List.mem_of_getElem? (i := 96) (by decide +kernel)) rfl
theorem km_RL_3 : Cond.methodLink "BookTrees$Roll" (3 : Nat) ({ cls := "java/lang/Object", name := "<init>", desc := "()V" } : MethodName) ∈ lw_g := gw (List.mem_of_getElem? (i := 99) (by decide +kernel)) rfl
theorem km_RL_19 : Cond.methodLink "BookTrees$Roll" (19 : Nat) ({ cls := "java/lang/Math", name := "min", desc := "(II)I" } : MethodName) ∈ lw_g := gw (List.mem_of_getElem? (i := 100) (by decide +kernel)) rfl
theorem km_RL_25 : Cond.methodLink "BookTrees$Roll" (25 : Nat) ({ cls := "java/lang/Math", name := "max", desc := "(II)I" } : MethodName) ∈ lw_g := gw (List.mem_of_getElem? (i := 103) (by decide +kernel)) rfl
theorem kf_RL_15 : Cond.fieldLink "BookTrees$Roll" (15 : Nat) "BookTrees$Roll" "power" "LBookTrees$Power;" ∈ lw_g := gw (List.mem_of_getElem? (i := 106) (by decide +kernel)) rfl
theorem kf_RL_28 : Cond.fieldLink "BookTrees$Roll" (28 : Nat) "BookTrees$Roll" "slots" "I" ∈ lw_g := gw (List.mem_of_getElem? (i := 107) (by decide +kernel)) rfl
theorem kf_RL_32 : Cond.fieldLink "BookTrees$Roll" (32 : Nat) "BookTrees$Roll" "bytes" "[B" ∈ lw_g := gw (List.mem_of_getElem? (i := 108) (by decide +kernel)) rfl
theorem kf_RL_35 : Cond.fieldLink "BookTrees$Roll" (35 : Nat) "BookTrees$Roll" "torn" "[Z" ∈ lw_g := gw (List.mem_of_getElem? (i := 109) (by decide +kernel)) rfl
theorem kf_RL_11 : Cond.fieldLink "BookTrees$Roll" (11 : Nat) "BookTrees$Roll" "sheet" "[B" ∈ lw_g := gw (List.mem_of_getElem? (i := 110) (by decide +kernel)) rfl
theorem kf_RL_39 : Cond.fieldLink "BookTrees$Roll" (39 : Nat) "BookTrees$Roll" "start" "I" ∈ lw_g := gw (List.mem_of_getElem? (i := 111) (by decide +kernel)) rfl
theorem kf_RL_42 : Cond.fieldLink "BookTrees$Roll" (42 : Nat) "BookTrees$Roll" "end" "I" ∈ lw_g := gw (List.mem_of_getElem? (i := 112) (by decide +kernel)) rfl
theorem kc_BT_25 : Cond.classLink "BookTrees" (25 : Nat) "BookTrees$Draft" ∈ lw_g := gw (List.mem_of_getElem? (i := 130) (by decide +kernel)) rfl
theorem kn_BT_27 : Cond.methodLinkNest "BookTrees" (27 : Nat) ({ cls := "BookTrees$Draft", name := "<init>", desc := "()V" } : MethodName) "BookTrees" ∈ lw_tbl := List.mem_of_getElem? (i := 132) (by decide +kernel)
theorem km_DR_3 : Cond.methodLink "BookTrees$Draft" (3 : Nat) ({ cls := "java/lang/Object", name := "<init>", desc := "()V" } : MethodName) ∈ lw_g := gw (List.mem_of_getElem? (i := 135) (by decide +kernel)) rfl
theorem kf_DR_9 : Cond.fieldLink "BookTrees$Draft" (9 : Nat) "BookTrees$Draft" "changes" "[I" ∈ lw_g := gw (List.mem_of_getElem? (i := 136) (by decide +kernel)) rfl
theorem kf_DR_15 : Cond.fieldLink "BookTrees$Draft" (15 : Nat) "BookTrees$Draft" "values" "[I" ∈ lw_g := gw (List.mem_of_getElem? (i := 137) (by decide +kernel)) rfl
theorem kf_DR_18 : Cond.fieldLink "BookTrees$Draft" (18 : Nat) "BookTrees$Draft" "size" "I" ∈ lw_g := gw (List.mem_of_getElem? (i := 138) (by decide +kernel)) rfl
theorem kc_BT_32 : Cond.classLink "BookTrees" (32 : Nat) "BookTrees$Shelf" ∈ lw_g := gw (List.mem_of_getElem? (i := 147) (by decide +kernel)) rfl
theorem kn_BT_34 : Cond.methodLinkNest "BookTrees" (34 : Nat) ({ cls := "BookTrees$Shelf", name := "<init>", desc := "()V" } : MethodName) "BookTrees" ∈ lw_tbl := List.mem_of_getElem? (i := 149) (by decide +kernel)
theorem km_SH_3 : Cond.methodLink "BookTrees$Shelf" (3 : Nat) ({ cls := "java/lang/Object", name := "<init>", desc := "()V" } : MethodName) ∈ lw_g := gw (List.mem_of_getElem? (i := 152) (by decide +kernel)) rfl
theorem kf_SH_11 : Cond.fieldLink "BookTrees$Shelf" (11 : Nat) "BookTrees$Shelf" "versions" "[I" ∈ lw_g := gw (List.mem_of_getElem? (i := 153) (by decide +kernel)) rfl
theorem kf_SH_17 : Cond.fieldLink "BookTrees$Shelf" (17 : Nat) "BookTrees$Shelf" "roots" "[I" ∈ lw_g := gw (List.mem_of_getElem? (i := 154) (by decide +kernel)) rfl
theorem kf_SH_20 : Cond.fieldLink "BookTrees$Shelf" (20 : Nat) "BookTrees$Shelf" "size" "I" ∈ lw_g := gw (List.mem_of_getElem? (i := 155) (by decide +kernel)) rfl
theorem kc_BT_39 : Cond.classLink "BookTrees" (39 : Nat) "BookTrees$Pages" ∈ lw_g := gw (List.mem_of_getElem? (i := 163) (by decide +kernel)) rfl
theorem kn_BT_41 : Cond.methodLinkNest "BookTrees" (41 : Nat) ({ cls := "BookTrees$Pages", name := "<init>", desc := "()V" } : MethodName) "BookTrees" ∈ lw_tbl := List.mem_of_getElem? (i := 165) (by decide +kernel)
theorem km_PG_3 : Cond.methodLink "BookTrees$Pages" (3 : Nat) ({ cls := "java/lang/Object", name := "<init>", desc := "()V" } : MethodName) ∈ lw_g := gw (List.mem_of_getElem? (i := 168) (by decide +kernel)) rfl
theorem kf_PG_11 : Cond.fieldLink "BookTrees$Pages" (11 : Nat) "BookTrees$Pages" "marked" "[Z" ∈ lw_g := gw (List.mem_of_getElem? (i := 169) (by decide +kernel)) rfl
theorem kf_PG_15 : Cond.fieldLink "BookTrees$Pages" (15 : Nat) "BookTrees$Pages" "bits" "[I" ∈ lw_g := gw (List.mem_of_getElem? (i := 170) (by decide +kernel)) rfl
theorem kf_PG_19 : Cond.fieldLink "BookTrees$Pages" (19 : Nat) "BookTrees$Pages" "entries" "[I" ∈ lw_g := gw (List.mem_of_getElem? (i := 171) (by decide +kernel)) rfl
theorem kf_PG_22 : Cond.fieldLink "BookTrees$Pages" (22 : Nat) "BookTrees$Pages" "blocks" "[I" ∈ lw_g := gw (List.mem_of_getElem? (i := 172) (by decide +kernel)) rfl
theorem kf_PG_25 : Cond.fieldLink "BookTrees$Pages" (25 : Nat) "BookTrees$Pages" "rootEntries" "[I" ∈ lw_g := gw (List.mem_of_getElem? (i := 173) (by decide +kernel)) rfl
theorem kf_PG_28 : Cond.fieldLink "BookTrees$Pages" (28 : Nat) "BookTrees$Pages" "rowCount" "I" ∈ lw_g := gw (List.mem_of_getElem? (i := 174) (by decide +kernel)) rfl
theorem kf_BT_10 : Cond.fieldLink "BookTrees" (10 : Nat) "BookTrees" "power" "LBookTrees$Power;" ∈ lw_g := gw (List.mem_of_getElem? (i := 188) (by decide +kernel)) rfl
theorem kf_BT_21 : Cond.fieldLink "BookTrees" (21 : Nat) "BookTrees" "roll" "LBookTrees$Roll;" ∈ lw_g := gw (List.mem_of_getElem? (i := 189) (by decide +kernel)) rfl
theorem kf_BT_28 : Cond.fieldLink "BookTrees" (28 : Nat) "BookTrees" "draft" "LBookTrees$Draft;" ∈ lw_g := gw (List.mem_of_getElem? (i := 190) (by decide +kernel)) rfl
theorem kf_BT_35 : Cond.fieldLink "BookTrees" (35 : Nat) "BookTrees" "shelf" "LBookTrees$Shelf;" ∈ lw_g := gw (List.mem_of_getElem? (i := 191) (by decide +kernel)) rfl
theorem kf_BT_42 : Cond.fieldLink "BookTrees" (42 : Nat) "BookTrees" "pages" "LBookTrees$Pages;" ∈ lw_g := gw (List.mem_of_getElem? (i := 192) (by decide +kernel)) rfl
theorem km_LA_116 : Cond.methodLink "BookTreesLaw" (116 : Nat) ({ cls := "BookTrees", name := "reopen", desc := "()I" } : MethodName) ∈ lw_g := gw (List.mem_of_getElem? (i := 204) (by decide +kernel)) rfl
theorem km_BT_141 : Cond.methodLink "BookTrees" (141 : Nat) ({ cls := "BookTrees$Power", name := "restore", desc := "()V" } : MethodName) ∈ lw_g := gw (List.mem_of_getElem? (i := 208) (by decide +kernel)) rfl
theorem km_BT_69 : Cond.methodLink "BookTrees" (69 : Nat) ({ cls := "BookTrees$Draft", name := "clear", desc := "()V" } : MethodName) ∈ lw_g := gw (List.mem_of_getElem? (i := 212) (by decide +kernel)) rfl
theorem km_BT_144 : Cond.methodLink "BookTrees" (144 : Nat) ({ cls := "BookTrees$Shelf", name := "clear", desc := "()V" } : MethodName) ∈ lw_g := gw (List.mem_of_getElem? (i := 216) (by decide +kernel)) rfl
theorem km_BT_145 : Cond.methodLink "BookTrees" (145 : Nat) ({ cls := "BookTrees$Roll", name := "newestRootSlot", desc := "()I" } : MethodName) ∈ lw_g := gw (List.mem_of_getElem? (i := 220) (by decide +kernel)) rfl
theorem km_RL_83 : Cond.methodLink "BookTrees$Roll" (83 : Nat) ({ cls := "BookTrees$Roll", name := "isWholeRoot", desc := "(I)Z" } : MethodName) ∈ lw_g := gw (List.mem_of_getElem? (i := 224) (by decide +kernel)) rfl
theorem km_RL_67 : Cond.methodLink "BookTrees$Roll" (67 : Nat) ({ cls := "BookTrees$Roll", name := "numberOf", desc := "(I)I" } : MethodName) ∈ lw_g := gw (List.mem_of_getElem? (i := 228) (by decide +kernel)) rfl
theorem km_RL_45 : Cond.methodLink "BookTrees$Roll" (45 : Nat) ({ cls := "BookTrees$Roll", name := "offsetOf", desc := "(I)I" } : MethodName) ∈ lw_g := gw (List.mem_of_getElem? (i := 232) (by decide +kernel)) rfl
theorem km_RL_80 : Cond.methodLink "BookTrees$Roll" (80 : Nat) ({ cls := "BookTrees$Roll", name := "slotOf", desc := "(I)I" } : MethodName) ∈ lw_g := gw (List.mem_of_getElem? (i := 236) (by decide +kernel)) rfl
theorem km_RL_116 : Cond.methodLink "BookTrees$Roll" (116 : Nat) ({ cls := "java/lang/Math", name := "floorMod", desc := "(II)I" } : MethodName) ∈ lw_g := gw (List.mem_of_getElem? (i := 240) (by decide +kernel)) rfl
theorem km_RL_56 : Cond.methodLink "BookTrees$Roll" (56 : Nat) ({ cls := "BookTrees$Roll", name := "intAt", desc := "([BI)I" } : MethodName) ∈ lw_g := gw (List.mem_of_getElem? (i := 243) (by decide +kernel)) rfl
theorem km_RL_73 : Cond.methodLink "BookTrees$Roll" (73 : Nat) ({ cls := "BookTrees$Roll", name := "versionOf", desc := "(I)I" } : MethodName) ∈ lw_g := gw (List.mem_of_getElem? (i := 246) (by decide +kernel)) rfl
theorem km_RL_76 : Cond.methodLink "BookTrees$Roll" (76 : Nat) ({ cls := "BookTrees$Roll", name := "entryOf", desc := "(II)I" } : MethodName) ∈ lw_g := gw (List.mem_of_getElem? (i := 250) (by decide +kernel)) rfl
theorem km_RL_49 : Cond.methodLink "BookTrees$Roll" (49 : Nat) ({ cls := "BookTrees$Roll", name := "byteOf", desc := "(II)I" } : MethodName) ∈ lw_g := gw (List.mem_of_getElem? (i := 254) (by decide +kernel)) rfl
theorem kk_RL_79 : Cond.constant "BookTrees$Roll" (79 : Nat) (1000000 : Int32) ∈ lw_g := gw (List.mem_of_getElem? (i := 258) (by decide +kernel)) rfl
theorem km_RL_70 : Cond.methodLink "BookTrees$Roll" (70 : Nat) ({ cls := "BookTrees$Roll", name := "isSumRight", desc := "(I)Z" } : MethodName) ∈ lw_g := gw (List.mem_of_getElem? (i := 259) (by decide +kernel)) rfl
theorem km_RL_112 : Cond.methodLink "BookTrees$Roll" (112 : Nat) ({ cls := "BookTrees$Roll", name := "sumOf", desc := "([BI)J" } : MethodName) ∈ lw_g := gw (List.mem_of_getElem? (i := 263) (by decide +kernel)) rfl
theorem kl_RL_119 : Cond.constantLong "BookTrees$Roll" (119 : Nat) (-4417276706812531889 : Int64) ∈ lw_g := gw (List.mem_of_getElem? (i := 266) (by decide +kernel)) rfl
theorem km_RL_86 : Cond.methodLink "BookTrees$Roll" (86 : Nat) ({ cls := "BookTrees$Roll", name := "isNewer", desc := "(II)Z" } : MethodName) ∈ lw_g := gw (List.mem_of_getElem? (i := 267) (by decide +kernel)) rfl
theorem km_BT_148 : Cond.methodLink "BookTrees" (148 : Nat) ({ cls := "BookTrees$Roll", name := "use", desc := "(II)V" } : MethodName) ∈ lw_g := gw (List.mem_of_getElem? (i := 271) (by decide +kernel)) rfl
theorem km_BT_91 : Cond.methodLink "BookTrees" (91 : Nat) ({ cls := "BookTrees$Shelf", name := "newest", desc := "()I" } : MethodName) ∈ lw_g := gw (List.mem_of_getElem? (i := 275) (by decide +kernel)) rfl
theorem km_BT_130 : Cond.methodLink "BookTrees" (130 : Nat) ({ cls := "BookTrees$Roll", name := "entryOf", desc := "(II)I" } : MethodName) ∈ lw_g := gw (List.mem_of_getElem? (i := 279) (by decide +kernel)) rfl
theorem km_BT_151 : Cond.methodLink "BookTrees" (151 : Nat) ({ cls := "BookTrees$Roll", name := "numberOf", desc := "(I)I" } : MethodName) ∈ lw_g := gw (List.mem_of_getElem? (i := 280) (by decide +kernel)) rfl
theorem km_BT_154 : Cond.methodLink "BookTrees" (154 : Nat) ({ cls := "BookTrees$Roll", name := "slots", desc := "()I" } : MethodName) ∈ lw_g := gw (List.mem_of_getElem? (i := 281) (by decide +kernel)) rfl
theorem km_BT_157 : Cond.methodLink "BookTrees" (157 : Nat) ({ cls := "BookTrees$Roll", name := "isWholeRoot", desc := "(I)Z" } : MethodName) ∈ lw_g := gw (List.mem_of_getElem? (i := 285) (by decide +kernel)) rfl
theorem km_BT_160 : Cond.methodLink "BookTrees" (160 : Nat) ({ cls := "BookTrees$Roll", name := "isUsed", desc := "(I)Z" } : MethodName) ∈ lw_g := gw (List.mem_of_getElem? (i := 286) (by decide +kernel)) rfl
theorem km_BT_163 : Cond.methodLink "BookTrees" (163 : Nat) ({ cls := "BookTrees$Roll", name := "versionOf", desc := "(I)I" } : MethodName) ∈ lw_g := gw (List.mem_of_getElem? (i := 290) (by decide +kernel)) rfl
theorem km_BT_166 : Cond.methodLink "BookTrees" (166 : Nat) ({ cls := "BookTrees$Shelf", name := "add", desc := "(II)V" } : MethodName) ∈ lw_g := gw (List.mem_of_getElem? (i := 291) (by decide +kernel)) rfl
theorem km_SH_24 : Cond.methodLink "BookTrees$Shelf" (24 : Nat) ({ cls := "java/lang/Math", name := "max", desc := "(II)I" } : MethodName) ∈ lw_g := gw (List.mem_of_getElem? (i := 295) (by decide +kernel)) rfl
theorem km_SH_30 : Cond.methodLink "BookTrees$Shelf" (30 : Nat) ({ cls := "BookTrees$Shelf", name := "insert", desc := "(III)V" } : MethodName) ∈ lw_g := gw (List.mem_of_getElem? (i := 296) (by decide +kernel)) rfl
theorem km_LA_120 : Cond.methodLink "BookTreesLaw" (120 : Nat) ({ cls := "BookTrees", name := "isDown", desc := "()Z" } : MethodName) ∈ lw_g := gw (List.mem_of_getElem? (i := 300) (by decide +kernel)) rfl
theorem km_BT_169 : Cond.methodLink "BookTrees" (169 : Nat) ({ cls := "BookTrees$Power", name := "hasFailed", desc := "()Z" } : MethodName) ∈ lw_g := gw (List.mem_of_getElem? (i := 304) (by decide +kernel)) rfl
theorem km_LA_65 : Cond.methodLink "BookTreesLaw" (65 : Nat) ({ cls := "BookTreesLaw", name := "cell", desc := "([II)I" } : MethodName) ∈ lw_g := gw (List.mem_of_getElem? (i := 308) (by decide +kernel)) rfl
theorem km_LA_76 : Cond.methodLink "BookTreesLaw" (76 : Nat) ({ cls := "BookTreesLaw", name := "put", desc := "(LBookTrees;II[J)I" } : MethodName) ∈ lw_g := gw (List.mem_of_getElem? (i := 311) (by decide +kernel)) rfl
theorem kc_LA_13 : Cond.classLink "BookTreesLaw" (13 : Nat) "java/lang/IllegalArgumentException" ∈ lw_g := gw (List.mem_of_getElem? (i := 314) (by decide +kernel)) rfl
theorem kc_LA_15 : Cond.classLink "BookTreesLaw" (15 : Nat) "java/lang/IllegalStateException" ∈ lw_g := gw (List.mem_of_getElem? (i := 315) (by decide +kernel)) rfl
theorem km_LA_7 : Cond.methodLink "BookTreesLaw" (7 : Nat) ({ cls := "BookTrees", name := "put", desc := "(II)I" } : MethodName) ∈ lw_g := gw (List.mem_of_getElem? (i := 316) (by decide +kernel)) rfl
theorem km_BT_46 : Cond.methodLink "BookTrees" (46 : Nat) ({ cls := "BookTrees", name := "isKey", desc := "(I)Z" } : MethodName) ∈ lw_g := gw (List.mem_of_getElem? (i := 320) (by decide +kernel)) rfl
theorem km_BT_50 : Cond.methodLink "BookTrees" (50 : Nat) ({ cls := "BookTrees", name := "requireArgument", desc := "(Z)V" } : MethodName) ∈ lw_g := gw (List.mem_of_getElem? (i := 324) (by decide +kernel)) rfl
theorem kc_BT_195 : Cond.classLink "BookTrees" (195 : Nat) "java/lang/IllegalArgumentException" ∈ lw_g := gw (List.mem_of_getElem? (i := 328) (by decide +kernel)) rfl
theorem km_BT_199 : Cond.methodLink "BookTrees" (199 : Nat) ({ cls := "java/lang/IllegalArgumentException", name := "<init>", desc := "(Ljava/lang/String;)V" } : MethodName) ∈ lw_g := gw (List.mem_of_getElem? (i := 369) (by decide +kernel)) rfl
theorem km_BT_54 : Cond.methodLink "BookTrees" (54 : Nat) ({ cls := "BookTrees", name := "requirePower", desc := "()V" } : MethodName) ∈ lw_g := gw (List.mem_of_getElem? (i := 394) (by decide +kernel)) rfl
theorem kc_BT_202 : Cond.classLink "BookTrees" (202 : Nat) "java/lang/IllegalStateException" ∈ lw_g := gw (List.mem_of_getElem? (i := 398) (by decide +kernel)) rfl
theorem km_BT_206 : Cond.methodLink "BookTrees" (206 : Nat) ({ cls := "java/lang/IllegalStateException", name := "<init>", desc := "(Ljava/lang/String;)V" } : MethodName) ∈ lw_g := gw (List.mem_of_getElem? (i := 408) (by decide +kernel)) rfl
theorem km_BT_57 : Cond.methodLink "BookTrees" (57 : Nat) ({ cls := "BookTrees$Draft", name := "setValue", desc := "(II)V" } : MethodName) ∈ lw_g := gw (List.mem_of_getElem? (i := 414) (by decide +kernel)) rfl
theorem km_DR_22 : Cond.methodLink "BookTrees$Draft" (22 : Nat) ({ cls := "BookTrees$Draft", name := "note", desc := "(II)V" } : MethodName) ∈ lw_g := gw (List.mem_of_getElem? (i := 418) (by decide +kernel)) rfl
theorem km_DR_26 : Cond.methodLink "BookTrees$Draft" (26 : Nat) ({ cls := "BookTrees$Draft", name := "has", desc := "(I)Z" } : MethodName) ∈ lw_g := gw (List.mem_of_getElem? (i := 422) (by decide +kernel)) rfl
theorem km_BT_61 : Cond.methodLink "BookTrees" (61 : Nat) ({ cls := "BookTrees$Draft", name := "size", desc := "()I" } : MethodName) ∈ lw_g := gw (List.mem_of_getElem? (i := 426) (by decide +kernel)) rfl
theorem km_LA_83 : Cond.methodLink "BookTreesLaw" (83 : Nat) ({ cls := "BookTreesLaw", name := "drop", desc := "(LBookTrees;I[J)I" } : MethodName) ∈ lw_g := gw (List.mem_of_getElem? (i := 430) (by decide +kernel)) rfl
theorem km_LA_17 : Cond.methodLink "BookTreesLaw" (17 : Nat) ({ cls := "BookTrees", name := "drop", desc := "(I)I" } : MethodName) ∈ lw_g := gw (List.mem_of_getElem? (i := 433) (by decide +kernel)) rfl
theorem km_BT_65 : Cond.methodLink "BookTrees" (65 : Nat) ({ cls := "BookTrees$Draft", name := "setDropped", desc := "(I)V" } : MethodName) ∈ lw_g := gw (List.mem_of_getElem? (i := 437) (by decide +kernel)) rfl
theorem km_LA_87 : Cond.methodLink "BookTreesLaw" (87 : Nat) ({ cls := "BookTreesLaw", name := "undo", desc := "(LBookTrees;[J)I" } : MethodName) ∈ lw_g := gw (List.mem_of_getElem? (i := 441) (by decide +kernel)) rfl
theorem km_LA_21 : Cond.methodLink "BookTreesLaw" (21 : Nat) ({ cls := "BookTrees", name := "undo", desc := "()I" } : MethodName) ∈ lw_g := gw (List.mem_of_getElem? (i := 444) (by decide +kernel)) rfl
theorem km_LA_91 : Cond.methodLink "BookTreesLaw" (91 : Nat) ({ cls := "BookTreesLaw", name := "get", desc := "(LBookTrees;I[J)I" } : MethodName) ∈ lw_g := gw (List.mem_of_getElem? (i := 448) (by decide +kernel)) rfl
theorem km_LA_25 : Cond.methodLink "BookTreesLaw" (25 : Nat) ({ cls := "BookTrees", name := "get", desc := "(I)J" } : MethodName) ∈ lw_g := gw (List.mem_of_getElem? (i := 451) (by decide +kernel)) rfl
theorem km_BT_72 : Cond.methodLink "BookTrees" (72 : Nat) ({ cls := "BookTrees$Draft", name := "isDropped", desc := "(I)Z" } : MethodName) ∈ lw_g := gw (List.mem_of_getElem? (i := 455) (by decide +kernel)) rfl
theorem kl_BT_75 : Cond.constantLong "BookTrees" (75 : Nat) (1000000000000 : Int64) ∈ lw_g := gw (List.mem_of_getElem? (i := 459) (by decide +kernel)) rfl
theorem km_BT_77 : Cond.methodLink "BookTrees" (77 : Nat) ({ cls := "BookTrees$Draft", name := "has", desc := "(I)Z" } : MethodName) ∈ lw_g := gw (List.mem_of_getElem? (i := 460) (by decide +kernel)) rfl
theorem km_BT_80 : Cond.methodLink "BookTrees" (80 : Nat) ({ cls := "BookTrees$Draft", name := "valueOf", desc := "(I)I" } : MethodName) ∈ lw_g := gw (List.mem_of_getElem? (i := 461) (by decide +kernel)) rfl
theorem km_BT_84 : Cond.methodLink "BookTrees" (84 : Nat) ({ cls := "BookTrees$Shelf", name := "newestRoot", desc := "()I" } : MethodName) ∈ lw_g := gw (List.mem_of_getElem? (i := 465) (by decide +kernel)) rfl
theorem km_BT_87 : Cond.methodLink "BookTrees" (87 : Nat) ({ cls := "BookTrees", name := "rowOf", desc := "(II)J" } : MethodName) ∈ lw_g := gw (List.mem_of_getElem? (i := 469) (by decide +kernel)) rfl
theorem km_BT_119 : Cond.methodLink "BookTrees" (119 : Nat) ({ cls := "BookTrees", name := "leafBlock", desc := "(II)I" } : MethodName) ∈ lw_g := gw (List.mem_of_getElem? (i := 473) (by decide +kernel)) rfl
theorem km_BT_126 : Cond.methodLink "BookTrees" (126 : Nat) ({ cls := "BookTrees$Roll", name := "isBad", desc := "(II)Z" } : MethodName) ∈ lw_g := gw (List.mem_of_getElem? (i := 477) (by decide +kernel)) rfl
theorem km_RL_60 : Cond.methodLink "BookTrees$Roll" (60 : Nat) ({ cls := "BookTrees$Roll", name := "isUsed", desc := "(I)Z" } : MethodName) ∈ lw_g := gw (List.mem_of_getElem? (i := 481) (by decide +kernel)) rfl
theorem km_RL_64 : Cond.methodLink "BookTrees$Roll" (64 : Nat) ({ cls := "BookTrees$Roll", name := "isSound", desc := "(I)Z" } : MethodName) ∈ lw_g := gw (List.mem_of_getElem? (i := 482) (by decide +kernel)) rfl
theorem km_BT_212 : Cond.methodLink "BookTrees" (212 : Nat) ({ cls := "BookTrees", name := "childBlock", desc := "(III)I" } : MethodName) ∈ lw_g := gw (List.mem_of_getElem? (i := 486) (by decide +kernel)) rfl
theorem km_BT_209 : Cond.methodLink "BookTrees" (209 : Nat) ({ cls := "BookTrees$Roll", name := "hasBit", desc := "(II)Z" } : MethodName) ∈ lw_g := gw (List.mem_of_getElem? (i := 490) (by decide +kernel)) rfl
theorem kl_BT_207 : Cond.constantLong "BookTrees" (207 : Nat) (1000000000001 : Int64) ∈ lw_g := gw (List.mem_of_getElem? (i := 494) (by decide +kernel)) rfl
theorem km_LA_94 : Cond.methodLink "BookTreesLaw" (94 : Nat) ({ cls := "BookTreesLaw", name := "commit", desc := "(LBookTrees;[J)I" } : MethodName) ∈ lw_g := gw (List.mem_of_getElem? (i := 495) (by decide +kernel)) rfl
theorem km_LA_29 : Cond.methodLink "BookTreesLaw" (29 : Nat) ({ cls := "BookTrees", name := "commit", desc := "()I" } : MethodName) ∈ lw_g := gw (List.mem_of_getElem? (i := 498) (by decide +kernel)) rfl
theorem km_BT_94 : Cond.methodLink "BookTrees" (94 : Nat) ({ cls := "BookTrees$Pages", name := "clear", desc := "()V" } : MethodName) ∈ lw_g := gw (List.mem_of_getElem? (i := 502) (by decide +kernel)) rfl
theorem km_BT_95 : Cond.methodLink "BookTrees" (95 : Nat) ({ cls := "BookTrees$Pages", name := "markKeysOf", desc := "(LBookTrees$Draft;)V" } : MethodName) ∈ lw_g := gw (List.mem_of_getElem? (i := 506) (by decide +kernel)) rfl
theorem km_PG_32 : Cond.methodLink "BookTrees$Pages" (32 : Nat) ({ cls := "BookTrees$Draft", name := "has", desc := "(I)Z" } : MethodName) ∈ lw_g := gw (List.mem_of_getElem? (i := 510) (by decide +kernel)) rfl
theorem km_PG_38 : Cond.methodLink "BookTrees$Pages" (38 : Nat) ({ cls := "BookTrees$Pages", name := "parentOf", desc := "(I)I" } : MethodName) ∈ lw_g := gw (List.mem_of_getElem? (i := 511) (by decide +kernel)) rfl
theorem km_BT_99 : Cond.methodLink "BookTrees" (99 : Nat) ({ cls := "BookTrees$Pages", name := "readTree", desc := "(LBookTrees$Roll;I)Z" } : MethodName) ∈ lw_g := gw (List.mem_of_getElem? (i := 514) (by decide +kernel)) rfl
theorem km_PG_42 : Cond.methodLink "BookTrees$Pages" (42 : Nat) ({ cls := "BookTrees$Roll", name := "isBad", desc := "(II)Z" } : MethodName) ∈ lw_g := gw (List.mem_of_getElem? (i := 518) (by decide +kernel)) rfl
theorem km_PG_48 : Cond.methodLink "BookTrees$Pages" (48 : Nat) ({ cls := "BookTrees$Roll", name := "entryOf", desc := "(II)I" } : MethodName) ∈ lw_g := gw (List.mem_of_getElem? (i := 519) (by decide +kernel)) rfl
theorem km_PG_52 : Cond.methodLink "BookTrees$Pages" (52 : Nat) ({ cls := "BookTrees$Roll", name := "hasBit", desc := "(II)Z" } : MethodName) ∈ lw_g := gw (List.mem_of_getElem? (i := 520) (by decide +kernel)) rfl
theorem km_PG_55 : Cond.methodLink "BookTrees$Pages" (55 : Nat) ({ cls := "BookTrees$Pages", name := "readPage", desc := "(LBookTrees$Roll;II)Z" } : MethodName) ∈ lw_g := gw (List.mem_of_getElem? (i := 521) (by decide +kernel)) rfl
theorem km_PG_78 : Cond.methodLink "BookTrees$Pages" (78 : Nat) ({ cls := "BookTrees$Pages", name := "kindOf", desc := "(I)I" } : MethodName) ∈ lw_g := gw (List.mem_of_getElem? (i := 525) (by decide +kernel)) rfl
theorem km_PG_74 : Cond.methodLink "BookTrees$Pages" (74 : Nat) ({ cls := "BookTrees$Pages", name := "setEntry", desc := "(IIZI)V" } : MethodName) ∈ lw_g := gw (List.mem_of_getElem? (i := 528) (by decide +kernel)) rfl
theorem km_PG_59 : Cond.methodLink "BookTrees$Pages" (59 : Nat) ({ cls := "BookTrees$Pages", name := "isInParent", desc := "(I)Z" } : MethodName) ∈ lw_g := gw (List.mem_of_getElem? (i := 532) (by decide +kernel)) rfl
theorem km_PG_65 : Cond.methodLink "BookTrees$Pages" (65 : Nat) ({ cls := "BookTrees$Pages", name := "bitOf", desc := "(II)I" } : MethodName) ∈ lw_g := gw (List.mem_of_getElem? (i := 536) (by decide +kernel)) rfl
theorem km_PG_62 : Cond.methodLink "BookTrees$Pages" (62 : Nat) ({ cls := "BookTrees$Pages", name := "placeInParent", desc := "(I)I" } : MethodName) ∈ lw_g := gw (List.mem_of_getElem? (i := 540) (by decide +kernel)) rfl
theorem km_BT_103 : Cond.methodLink "BookTrees" (103 : Nat) ({ cls := "BookTrees$Pages", name := "change", desc := "(LBookTrees$Draft;)V" } : MethodName) ∈ lw_g := gw (List.mem_of_getElem? (i := 543) (by decide +kernel)) rfl
theorem km_PG_68 : Cond.methodLink "BookTrees$Pages" (68 : Nat) ({ cls := "BookTrees$Draft", name := "isDropped", desc := "(I)Z" } : MethodName) ∈ lw_g := gw (List.mem_of_getElem? (i := 547) (by decide +kernel)) rfl
theorem km_PG_71 : Cond.methodLink "BookTrees$Pages" (71 : Nat) ({ cls := "BookTrees$Draft", name := "valueOf", desc := "(I)I" } : MethodName) ∈ lw_g := gw (List.mem_of_getElem? (i := 548) (by decide +kernel)) rfl
theorem km_BT_106 : Cond.methodLink "BookTrees" (106 : Nat) ({ cls := "BookTrees", name := "appendVersion", desc := "(Z)I" } : MethodName) ∈ lw_g := gw (List.mem_of_getElem? (i := 549) (by decide +kernel)) rfl
theorem km_BT_186 : Cond.methodLink "BookTrees" (186 : Nat) ({ cls := "BookTrees$Roll", name := "end", desc := "()I" } : MethodName) ∈ lw_g := gw (List.mem_of_getElem? (i := 553) (by decide +kernel)) rfl
theorem km_BT_216 : Cond.methodLink "BookTrees" (216 : Nat) ({ cls := "BookTrees$Pages", name := "place", desc := "(I)I" } : MethodName) ∈ lw_g := gw (List.mem_of_getElem? (i := 557) (by decide +kernel)) rfl
theorem km_BT_219 : Cond.methodLink "BookTrees" (219 : Nat) ({ cls := "BookTrees$Roll", name := "hasRoom", desc := "(I)Z" } : MethodName) ∈ lw_g := gw (List.mem_of_getElem? (i := 561) (by decide +kernel)) rfl
theorem km_BT_183 : Cond.methodLink "BookTrees" (183 : Nat) ({ cls := "BookTrees$Roll", name := "start", desc := "()I" } : MethodName) ∈ lw_g := gw (List.mem_of_getElem? (i := 565) (by decide +kernel)) rfl
theorem km_BT_222 : Cond.methodLink "BookTrees" (222 : Nat) ({ cls := "BookTrees$Pages", name := "writeTree", desc := "(LBookTrees$Roll;I)Z" } : MethodName) ∈ lw_g := gw (List.mem_of_getElem? (i := 569) (by decide +kernel)) rfl
theorem km_PG_81 : Cond.methodLink "BookTrees$Pages" (81 : Nat) ({ cls := "BookTrees$Roll", name := "write", desc := "(IIII[II)Z" } : MethodName) ∈ lw_g := gw (List.mem_of_getElem? (i := 573) (by decide +kernel)) rfl
theorem km_RL_89 : Cond.methodLink "BookTrees$Roll" (89 : Nat) ({ cls := "BookTrees$Roll", name := "makeUp", desc := "(IIII[II)V" } : MethodName) ∈ lw_g := gw (List.mem_of_getElem? (i := 577) (by decide +kernel)) rfl
theorem km_RL_108 : Cond.methodLink "BookTrees$Roll" (108 : Nat) ({ cls := "BookTrees$Roll", name := "setInt", desc := "(II)V" } : MethodName) ∈ lw_g := gw (List.mem_of_getElem? (i := 581) (by decide +kernel)) rfl
theorem km_RL_93 : Cond.methodLink "BookTrees$Roll" (93 : Nat) ({ cls := "BookTrees$Power", name := "spend", desc := "(I)I" } : MethodName) ∈ lw_g := gw (List.mem_of_getElem? (i := 585) (by decide +kernel)) rfl
theorem km_PW_22 : Cond.methodLink "BookTrees$Power" (22 : Nat) ({ cls := "java/lang/Math", name := "min", desc := "(II)I" } : MethodName) ∈ lw_g := gw (List.mem_of_getElem? (i := 589) (by decide +kernel)) rfl
theorem km_RL_98 : Cond.methodLink "BookTrees$Roll" (98 : Nat) ({ cls := "java/lang/System", name := "arraycopy", desc := "(Ljava/lang/Object;ILjava/lang/Object;II)V" } : MethodName) ∈ lw_g := gw (List.mem_of_getElem? (i := 590) (by decide +kernel)) rfl
theorem km_RL_104 : Cond.methodLink "BookTrees$Roll" (104 : Nat) ({ cls := "BookTrees$Power", name := "hasFailed", desc := "()Z" } : MethodName) ∈ lw_g := gw (List.mem_of_getElem? (i := 593) (by decide +kernel)) rfl
theorem km_BT_225 : Cond.methodLink "BookTrees" (225 : Nat) ({ cls := "BookTrees$Pages", name := "writeRoot", desc := "(LBookTrees$Roll;III)Z" } : MethodName) ∈ lw_g := gw (List.mem_of_getElem? (i := 594) (by decide +kernel)) rfl
theorem km_LA_97 : Cond.methodLink "BookTreesLaw" (97 : Nat) ({ cls := "BookTreesLaw", name := "copy", desc := "(LBookTrees;[J)I" } : MethodName) ∈ lw_g := gw (List.mem_of_getElem? (i := 598) (by decide +kernel)) rfl
theorem km_LA_32 : Cond.methodLink "BookTreesLaw" (32 : Nat) ({ cls := "BookTrees", name := "copy", desc := "()I" } : MethodName) ∈ lw_g := gw (List.mem_of_getElem? (i := 601) (by decide +kernel)) rfl
theorem km_BT_110 : Cond.methodLink "BookTrees" (110 : Nat) ({ cls := "BookTrees$Pages", name := "markAll", desc := "()V" } : MethodName) ∈ lw_g := gw (List.mem_of_getElem? (i := 605) (by decide +kernel)) rfl
theorem km_LA_100 : Cond.methodLink "BookTreesLaw" (100 : Nat) ({ cls := "BookTreesLaw", name := "find", desc := "(LBookTrees;II[J)I" } : MethodName) ∈ lw_g := gw (List.mem_of_getElem? (i := 609) (by decide +kernel)) rfl
theorem km_LA_35 : Cond.methodLink "BookTreesLaw" (35 : Nat) ({ cls := "BookTrees", name := "find", desc := "(II)J" } : MethodName) ∈ lw_g := gw (List.mem_of_getElem? (i := 612) (by decide +kernel)) rfl
theorem km_BT_113 : Cond.methodLink "BookTrees" (113 : Nat) ({ cls := "BookTrees", name := "isKept", desc := "(I)Z" } : MethodName) ∈ lw_g := gw (List.mem_of_getElem? (i := 616) (by decide +kernel)) rfl
theorem km_BT_116 : Cond.methodLink "BookTrees" (116 : Nat) ({ cls := "BookTrees$Shelf", name := "rootOf", desc := "(I)I" } : MethodName) ∈ lw_g := gw (List.mem_of_getElem? (i := 620) (by decide +kernel)) rfl
theorem km_LA_103 : Cond.methodLink "BookTreesLaw" (103 : Nat) ({ cls := "BookTreesLaw", name := "next", desc := "(LBookTrees;II[J)I" } : MethodName) ∈ lw_g := gw (List.mem_of_getElem? (i := 624) (by decide +kernel)) rfl
theorem km_LA_39 : Cond.methodLink "BookTreesLaw" (39 : Nat) ({ cls := "BookTrees", name := "next", desc := "(II)I" } : MethodName) ∈ lw_g := gw (List.mem_of_getElem? (i := 627) (by decide +kernel)) rfl
theorem km_BT_123 : Cond.methodLink "BookTrees" (123 : Nat) ({ cls := "BookTrees$Roll", name := "lowestBit", desc := "(II)I" } : MethodName) ∈ lw_g := gw (List.mem_of_getElem? (i := 631) (by decide +kernel)) rfl
theorem km_RL_52 : Cond.methodLink "BookTrees$Roll" (52 : Nat) ({ cls := "BookTrees$Roll", name := "hasBit", desc := "(II)Z" } : MethodName) ∈ lw_g := gw (List.mem_of_getElem? (i := 635) (by decide +kernel)) rfl
theorem km_LA_106 : Cond.methodLink "BookTreesLaw" (106 : Nat) ({ cls := "BookTreesLaw", name := "rows", desc := "(LBookTrees;I[J)I" } : MethodName) ∈ lw_g := gw (List.mem_of_getElem? (i := 636) (by decide +kernel)) rfl
theorem km_LA_42 : Cond.methodLink "BookTreesLaw" (42 : Nat) ({ cls := "BookTrees", name := "rows", desc := "(I)I" } : MethodName) ∈ lw_g := gw (List.mem_of_getElem? (i := 639) (by decide +kernel)) rfl
theorem km_LA_109 : Cond.methodLink "BookTreesLaw" (109 : Nat) ({ cls := "BookTreesLaw", name := "kept", desc := "(LBookTrees;I[J)I" } : MethodName) ∈ lw_g := gw (List.mem_of_getElem? (i := 643) (by decide +kernel)) rfl
theorem km_LA_45 : Cond.methodLink "BookTreesLaw" (45 : Nat) ({ cls := "BookTrees", name := "kept", desc := "(I)I" } : MethodName) ∈ lw_g := gw (List.mem_of_getElem? (i := 646) (by decide +kernel)) rfl
theorem km_BT_133 : Cond.methodLink "BookTrees" (133 : Nat) ({ cls := "BookTrees$Shelf", name := "size", desc := "()I" } : MethodName) ∈ lw_g := gw (List.mem_of_getElem? (i := 650) (by decide +kernel)) rfl
theorem km_BT_134 : Cond.methodLink "BookTrees" (134 : Nat) ({ cls := "BookTrees$Shelf", name := "versionFromNewest", desc := "(I)I" } : MethodName) ∈ lw_g := gw (List.mem_of_getElem? (i := 654) (by decide +kernel)) rfl
theorem km_LA_112 : Cond.methodLink "BookTreesLaw" (112 : Nat) ({ cls := "BookTreesLaw", name := "crash", desc := "(LBookTrees;I)I" } : MethodName) ∈ lw_g := gw (List.mem_of_getElem? (i := 658) (by decide +kernel)) rfl
theorem km_LA_48 : Cond.methodLink "BookTreesLaw" (48 : Nat) ({ cls := "BookTrees", name := "crash", desc := "(I)V" } : MethodName) ∈ lw_g := gw (List.mem_of_getElem? (i := 661) (by decide +kernel)) rfl
theorem kk_BT_137 : Cond.constant "BookTrees" (137 : Nat) (100000 : Int32) ∈ lw_g := gw (List.mem_of_getElem? (i := 665) (by decide +kernel)) rfl
theorem km_BT_138 : Cond.methodLink "BookTrees" (138 : Nat) ({ cls := "BookTrees$Power", name := "failAfter", desc := "(I)V" } : MethodName) ∈ lw_g := gw (List.mem_of_getElem? (i := 666) (by decide +kernel)) rfl
theorem km_LA_125 : Cond.methodLink "BookTreesLaw" (125 : Nat) ({ cls := "BookTreesLaw", name := "byteAt", desc := "(LBookTrees;II[J)I" } : MethodName) ∈ lw_g := gw (List.mem_of_getElem? (i := 670) (by decide +kernel)) rfl
theorem km_LA_52 : Cond.methodLink "BookTreesLaw" (52 : Nat) ({ cls := "BookTrees", name := "byteAt", desc := "(II)I" } : MethodName) ∈ lw_g := gw (List.mem_of_getElem? (i := 673) (by decide +kernel)) rfl
theorem km_BT_173 : Cond.methodLink "BookTrees" (173 : Nat) ({ cls := "BookTrees", name := "isByteIndex", desc := "(I)Z" } : MethodName) ∈ lw_g := gw (List.mem_of_getElem? (i := 677) (by decide +kernel)) rfl
theorem km_BT_176 : Cond.methodLink "BookTrees" (176 : Nat) ({ cls := "BookTrees$Roll", name := "byteOf", desc := "(II)I" } : MethodName) ∈ lw_g := gw (List.mem_of_getElem? (i := 681) (by decide +kernel)) rfl
theorem km_LA_128 : Cond.methodLink "BookTreesLaw" (128 : Nat) ({ cls := "BookTreesLaw", name := "poke", desc := "(LBookTrees;III[J)I" } : MethodName) ∈ lw_g := gw (List.mem_of_getElem? (i := 682) (by decide +kernel)) rfl
theorem km_LA_55 : Cond.methodLink "BookTreesLaw" (55 : Nat) ({ cls := "BookTrees", name := "poke", desc := "(III)I" } : MethodName) ∈ lw_g := gw (List.mem_of_getElem? (i := 685) (by decide +kernel)) rfl
theorem km_BT_179 : Cond.methodLink "BookTrees" (179 : Nat) ({ cls := "BookTrees$Roll", name := "alter", desc := "(III)V" } : MethodName) ∈ lw_g := gw (List.mem_of_getElem? (i := 689) (by decide +kernel)) rfl
theorem km_LA_132 : Cond.methodLink "BookTreesLaw" (132 : Nat) ({ cls := "BookTreesLaw", name := "badAt", desc := "(LBookTrees;I[J)I" } : MethodName) ∈ lw_g := gw (List.mem_of_getElem? (i := 693) (by decide +kernel)) rfl
theorem km_LA_59 : Cond.methodLink "BookTreesLaw" (59 : Nat) ({ cls := "BookTrees", name := "badAt", desc := "(I)I" } : MethodName) ∈ lw_g := gw (List.mem_of_getElem? (i := 696) (by decide +kernel)) rfl
theorem km_BT_189 : Cond.methodLink "BookTrees" (189 : Nat) ({ cls := "BookTrees$Roll", name := "isSound", desc := "(I)Z" } : MethodName) ∈ lw_g := gw (List.mem_of_getElem? (i := 700) (by decide +kernel)) rfl
theorem km_LA_135 : Cond.methodLink "BookTreesLaw" (135 : Nat) ({ cls := "BookTreesLaw", name := "told", desc := "(LBookTrees;I[J)I" } : MethodName) ∈ lw_g := gw (List.mem_of_getElem? (i := 701) (by decide +kernel)) rfl
theorem km_LA_62 : Cond.methodLink "BookTreesLaw" (62 : Nat) ({ cls := "BookTrees", name := "told", desc := "(I)I" } : MethodName) ∈ lw_g := gw (List.mem_of_getElem? (i := 704) (by decide +kernel)) rfl
theorem km_BT_192 : Cond.methodLink "BookTrees" (192 : Nat) ({ cls := "BookTrees$Power", name := "written", desc := "()I" } : MethodName) ∈ lw_g := gw (List.mem_of_getElem? (i := 708) (by decide +kernel)) rfl
theorem kc_LA_73 : Cond.classLink "BookTreesLaw" (73 : Nat) "BookTreesModel" ∈ lw_g := gw (List.mem_of_getElem? (i := 712) (by decide +kernel)) rfl
theorem km_LA_75 : Cond.methodLink "BookTreesLaw" (75 : Nat) ({ cls := "BookTreesModel", name := "<init>", desc := "(I)V" } : MethodName) ∈ lw_g := gw (List.mem_of_getElem? (i := 714) (by decide +kernel)) rfl
theorem km_MO_1 : Cond.methodLink "BookTreesModel" (1 : Nat) ({ cls := "java/lang/Object", name := "<init>", desc := "()V" } : MethodName) ∈ lw_g := gw (List.mem_of_getElem? (i := 717) (by decide +kernel)) rfl
theorem kf_MO_57 : Cond.fieldLink "BookTreesModel" (57 : Nat) "BookTreesModel" "refusal" "I" ∈ lw_g := gw (List.mem_of_getElem? (i := 718) (by decide +kernel)) rfl
theorem kf_MO_54 : Cond.fieldLink "BookTreesModel" (54 : Nat) "BookTreesModel" "slots" "I" ∈ lw_g := gw (List.mem_of_getElem? (i := 719) (by decide +kernel)) rfl
theorem kf_MO_7 : Cond.fieldLink "BookTreesModel" (7 : Nat) "BookTreesModel" "roll" "[I" ∈ lw_g := gw (List.mem_of_getElem? (i := 720) (by decide +kernel)) rfl
theorem kf_MO_13 : Cond.fieldLink "BookTreesModel" (13 : Nat) "BookTreesModel" "isTorn" "[Z" ∈ lw_g := gw (List.mem_of_getElem? (i := 721) (by decide +kernel)) rfl
theorem kf_MO_64 : Cond.fieldLink "BookTreesModel" (64 : Nat) "BookTreesModel" "start" "I" ∈ lw_g := gw (List.mem_of_getElem? (i := 722) (by decide +kernel)) rfl
theorem kf_MO_67 : Cond.fieldLink "BookTreesModel" (67 : Nat) "BookTreesModel" "end" "I" ∈ lw_g := gw (List.mem_of_getElem? (i := 723) (by decide +kernel)) rfl
theorem kf_MO_137 : Cond.fieldLink "BookTreesModel" (137 : Nat) "BookTreesModel" "newest" "I" ∈ lw_g := gw (List.mem_of_getElem? (i := 724) (by decide +kernel)) rfl
theorem kf_MO_60 : Cond.fieldLink "BookTreesModel" (60 : Nat) "BookTreesModel" "isDown" "Z" ∈ lw_g := gw (List.mem_of_getElem? (i := 725) (by decide +kernel)) rfl
theorem kf_MO_17 : Cond.fieldLink "BookTreesModel" (17 : Nat) "BookTreesModel" "power" "I" ∈ lw_g := gw (List.mem_of_getElem? (i := 726) (by decide +kernel)) rfl
theorem kf_MO_147 : Cond.fieldLink "BookTreesModel" (147 : Nat) "BookTreesModel" "written" "I" ∈ lw_g := gw (List.mem_of_getElem? (i := 727) (by decide +kernel)) rfl
theorem kf_MO_116 : Cond.fieldLink "BookTreesModel" (116 : Nat) "BookTreesModel" "roots" "I" ∈ lw_g := gw (List.mem_of_getElem? (i := 728) (by decide +kernel)) rfl
theorem kf_MO_21 : Cond.fieldLink "BookTreesModel" (21 : Nat) "BookTreesModel" "versions" "[I" ∈ lw_g := gw (List.mem_of_getElem? (i := 729) (by decide +kernel)) rfl
theorem kf_MO_24 : Cond.fieldLink "BookTreesModel" (24 : Nat) "BookTreesModel" "rootBlocks" "[I" ∈ lw_g := gw (List.mem_of_getElem? (i := 730) (by decide +kernel)) rfl
theorem kf_MO_95 : Cond.fieldLink "BookTreesModel" (95 : Nat) "BookTreesModel" "draft" "I" ∈ lw_g := gw (List.mem_of_getElem? (i := 731) (by decide +kernel)) rfl
theorem kf_MO_27 : Cond.fieldLink "BookTreesModel" (27 : Nat) "BookTreesModel" "changes" "[I" ∈ lw_g := gw (List.mem_of_getElem? (i := 732) (by decide +kernel)) rfl
theorem kf_MO_30 : Cond.fieldLink "BookTreesModel" (30 : Nat) "BookTreesModel" "values" "[I" ∈ lw_g := gw (List.mem_of_getElem? (i := 733) (by decide +kernel)) rfl
theorem kf_MO_33 : Cond.fieldLink "BookTreesModel" (33 : Nat) "BookTreesModel" "isChanged" "[Z" ∈ lw_g := gw (List.mem_of_getElem? (i := 734) (by decide +kernel)) rfl
theorem kf_MO_36 : Cond.fieldLink "BookTreesModel" (36 : Nat) "BookTreesModel" "leafBits" "[I" ∈ lw_g := gw (List.mem_of_getElem? (i := 735) (by decide +kernel)) rfl
theorem kf_MO_39 : Cond.fieldLink "BookTreesModel" (39 : Nat) "BookTreesModel" "rows" "[I" ∈ lw_g := gw (List.mem_of_getElem? (i := 736) (by decide +kernel)) rfl
theorem kf_MO_42 : Cond.fieldLink "BookTreesModel" (42 : Nat) "BookTreesModel" "nodeBits" "[I" ∈ lw_g := gw (List.mem_of_getElem? (i := 737) (by decide +kernel)) rfl
theorem kf_MO_45 : Cond.fieldLink "BookTreesModel" (45 : Nat) "BookTreesModel" "leafBlocks" "[I" ∈ lw_g := gw (List.mem_of_getElem? (i := 738) (by decide +kernel)) rfl
theorem kf_MO_160 : Cond.fieldLink "BookTreesModel" (160 : Nat) "BookTreesModel" "topBits" "I" ∈ lw_g := gw (List.mem_of_getElem? (i := 739) (by decide +kernel)) rfl
theorem kf_MO_48 : Cond.fieldLink "BookTreesModel" (48 : Nat) "BookTreesModel" "nodeBlocks" "[I" ∈ lw_g := gw (List.mem_of_getElem? (i := 740) (by decide +kernel)) rfl
theorem kf_MO_166 : Cond.fieldLink "BookTreesModel" (166 : Nat) "BookTreesModel" "rowCount" "I" ∈ lw_g := gw (List.mem_of_getElem? (i := 741) (by decide +kernel)) rfl
theorem kf_MO_51 : Cond.fieldLink "BookTreesModel" (51 : Nat) "BookTreesModel" "made" "[I" ∈ lw_g := gw (List.mem_of_getElem? (i := 742) (by decide +kernel)) rfl
theorem kf_MO_154 : Cond.fieldLink "BookTreesModel" (154 : Nat) "BookTreesModel" "next" "I" ∈ lw_g := gw (List.mem_of_getElem? (i := 743) (by decide +kernel)) rfl
theorem km_LA_80 : Cond.methodLink "BookTreesLaw" (80 : Nat) ({ cls := "BookTreesModel", name := "thrown", desc := "()I" } : MethodName) ∈ lw_g := gw (List.mem_of_getElem? (i := 797) (by decide +kernel)) rfl
theorem km_LA_79 : Cond.methodLink "BookTreesLaw" (79 : Nat) ({ cls := "BookTreesModel", name := "put", desc := "(II)I" } : MethodName) ∈ lw_g := gw (List.mem_of_getElem? (i := 801) (by decide +kernel)) rfl
theorem km_MO_98 : Cond.methodLink "BookTreesModel" (98 : Nat) ({ cls := "BookTreesModel", name := "isKey", desc := "(I)Z" } : MethodName) ∈ lw_g := gw (List.mem_of_getElem? (i := 805) (by decide +kernel)) rfl
theorem km_MO_101 : Cond.methodLink "BookTreesModel" (101 : Nat) ({ cls := "BookTreesModel", name := "goes", desc := "(Z)Z" } : MethodName) ∈ lw_g := gw (List.mem_of_getElem? (i := 808) (by decide +kernel)) rfl
theorem km_MO_105 : Cond.methodLink "BookTreesModel" (105 : Nat) ({ cls := "BookTreesModel", name := "change", desc := "(III)V" } : MethodName) ∈ lw_g := gw (List.mem_of_getElem? (i := 812) (by decide +kernel)) rfl
theorem km_LA_86 : Cond.methodLink "BookTreesLaw" (86 : Nat) ({ cls := "BookTreesModel", name := "drop", desc := "(I)I" } : MethodName) ∈ lw_g := gw (List.mem_of_getElem? (i := 816) (by decide +kernel)) rfl
theorem km_LA_90 : Cond.methodLink "BookTreesLaw" (90 : Nat) ({ cls := "BookTreesModel", name := "undo", desc := "()I" } : MethodName) ∈ lw_g := gw (List.mem_of_getElem? (i := 820) (by decide +kernel)) rfl
theorem km_MO_109 : Cond.methodLink "BookTreesModel" (109 : Nat) ({ cls := "BookTreesModel", name := "isUp", desc := "()Z" } : MethodName) ∈ lw_g := gw (List.mem_of_getElem? (i := 824) (by decide +kernel)) rfl
theorem km_MO_113 : Cond.methodLink "BookTreesModel" (113 : Nat) ({ cls := "BookTreesModel", name := "clear", desc := "()V" } : MethodName) ∈ lw_g := gw (List.mem_of_getElem? (i := 828) (by decide +kernel)) rfl
theorem km_LA_93 : Cond.methodLink "BookTreesLaw" (93 : Nat) ({ cls := "BookTreesModel", name := "get", desc := "(I)J" } : MethodName) ∈ lw_g := gw (List.mem_of_getElem? (i := 832) (by decide +kernel)) rfl
theorem kl_MO_122 : Cond.constantLong "BookTreesModel" (122 : Nat) (1000000000000 : Int64) ∈ lw_g := gw (List.mem_of_getElem? (i := 836) (by decide +kernel)) rfl
theorem km_MO_140 : Cond.methodLink "BookTreesModel" (140 : Nat) ({ cls := "BookTreesModel", name := "look", desc := "(II)J" } : MethodName) ∈ lw_g := gw (List.mem_of_getElem? (i := 837) (by decide +kernel)) rfl
theorem km_MO_119 : Cond.methodLink "BookTreesModel" (119 : Nat) ({ cls := "BookTreesModel", name := "rootOf", desc := "(I)I" } : MethodName) ∈ lw_g := gw (List.mem_of_getElem? (i := 841) (by decide +kernel)) rfl
theorem km_MO_124 : Cond.methodLink "BookTreesModel" (124 : Nat) ({ cls := "BookTreesModel", name := "isBad", desc := "(II)Z" } : MethodName) ∈ lw_g := gw (List.mem_of_getElem? (i := 845) (by decide +kernel)) rfl
theorem km_MO_78 : Cond.methodLink "BookTreesModel" (78 : Nat) ({ cls := "BookTreesModel", name := "isUsed", desc := "(I)Z" } : MethodName) ∈ lw_g := gw (List.mem_of_getElem? (i := 849) (by decide +kernel)) rfl
theorem km_MO_82 : Cond.methodLink "BookTreesModel" (82 : Nat) ({ cls := "BookTreesModel", name := "placeOf", desc := "(I)I" } : MethodName) ∈ lw_g := gw (List.mem_of_getElem? (i := 853) (by decide +kernel)) rfl
theorem km_MO_86 : Cond.methodLink "BookTreesModel" (86 : Nat) ({ cls := "BookTreesModel", name := "hasSum", desc := "(I)Z" } : MethodName) ∈ lw_g := gw (List.mem_of_getElem? (i := 857) (by decide +kernel)) rfl
theorem km_MO_72 : Cond.methodLink "BookTreesModel" (72 : Nat) ({ cls := "BookTreesModel", name := "mixed", desc := "(JI)J" } : MethodName) ∈ lw_g := gw (List.mem_of_getElem? (i := 861) (by decide +kernel)) rfl
theorem kl_MO_70 : Cond.constantLong "BookTreesModel" (70 : Nat) (-4417276706812531889 : Int64) ∈ lw_g := gw (List.mem_of_getElem? (i := 864) (by decide +kernel)) rfl
theorem kl_MO_76 : Cond.constantLong "BookTreesModel" (76 : Nat) (255 : Int64) ∈ lw_g := gw (List.mem_of_getElem? (i := 865) (by decide +kernel)) rfl
theorem km_MO_89 : Cond.methodLink "BookTreesModel" (89 : Nat) ({ cls := "BookTreesModel", name := "number", desc := "(I)I" } : MethodName) ∈ lw_g := gw (List.mem_of_getElem? (i := 866) (by decide +kernel)) rfl
theorem kl_MO_128 : Cond.constantLong "BookTreesModel" (128 : Nat) (1000000000001 : Int64) ∈ lw_g := gw (List.mem_of_getElem? (i := 870) (by decide +kernel)) rfl
theorem km_MO_92 : Cond.methodLink "BookTreesModel" (92 : Nat) ({ cls := "BookTreesModel", name := "bitsOf", desc := "(I)I" } : MethodName) ∈ lw_g := gw (List.mem_of_getElem? (i := 871) (by decide +kernel)) rfl
theorem km_MO_130 : Cond.methodLink "BookTreesModel" (130 : Nat) ({ cls := "BookTreesModel", name := "entryOf", desc := "(II)I" } : MethodName) ∈ lw_g := gw (List.mem_of_getElem? (i := 875) (by decide +kernel)) rfl
theorem km_MO_134 : Cond.methodLink "BookTreesModel" (134 : Nat) ({ cls := "BookTreesModel", name := "hasEntry", desc := "(II)Z" } : MethodName) ∈ lw_g := gw (List.mem_of_getElem? (i := 879) (by decide +kernel)) rfl
theorem km_LA_102 : Cond.methodLink "BookTreesLaw" (102 : Nat) ({ cls := "BookTreesModel", name := "find", desc := "(II)J" } : MethodName) ∈ lw_g := gw (List.mem_of_getElem? (i := 883) (by decide +kernel)) rfl
theorem km_MO_144 : Cond.methodLink "BookTreesModel" (144 : Nat) ({ cls := "BookTreesModel", name := "isKept", desc := "(I)Z" } : MethodName) ∈ lw_g := gw (List.mem_of_getElem? (i := 887) (by decide +kernel)) rfl
theorem km_LA_105 : Cond.methodLink "BookTreesLaw" (105 : Nat) ({ cls := "BookTreesModel", name := "next", desc := "(II)I" } : MethodName) ∈ lw_g := gw (List.mem_of_getElem? (i := 891) (by decide +kernel)) rfl
theorem km_LA_108 : Cond.methodLink "BookTreesLaw" (108 : Nat) ({ cls := "BookTreesModel", name := "rows", desc := "(I)I" } : MethodName) ∈ lw_g := gw (List.mem_of_getElem? (i := 895) (by decide +kernel)) rfl
theorem km_LA_111 : Cond.methodLink "BookTreesLaw" (111 : Nat) ({ cls := "BookTreesModel", name := "kept", desc := "(I)I" } : MethodName) ∈ lw_g := gw (List.mem_of_getElem? (i := 899) (by decide +kernel)) rfl
theorem km_LA_96 : Cond.methodLink "BookTreesLaw" (96 : Nat) ({ cls := "BookTreesModel", name := "commit", desc := "()I" } : MethodName) ∈ lw_g := gw (List.mem_of_getElem? (i := 903) (by decide +kernel)) rfl
theorem km_MO_196 : Cond.methodLink "BookTreesModel" (196 : Nat) ({ cls := "BookTreesModel", name := "readAll", desc := "()Z" } : MethodName) ∈ lw_g := gw (List.mem_of_getElem? (i := 907) (by decide +kernel)) rfl
theorem km_MO_169 : Cond.methodLink "BookTreesModel" (169 : Nat) ({ cls := "BookTreesModel", name := "readTop", desc := "()Z" } : MethodName) ∈ lw_g := gw (List.mem_of_getElem? (i := 911) (by decide +kernel)) rfl
theorem km_MO_172 : Cond.methodLink "BookTreesModel" (172 : Nat) ({ cls := "BookTreesModel", name := "isNodeChanged", desc := "(I)Z" } : MethodName) ∈ lw_g := gw (List.mem_of_getElem? (i := 915) (by decide +kernel)) rfl
theorem km_MO_175 : Cond.methodLink "BookTreesModel" (175 : Nat) ({ cls := "BookTreesModel", name := "readNode", desc := "(I)Z" } : MethodName) ∈ lw_g := gw (List.mem_of_getElem? (i := 919) (by decide +kernel)) rfl
theorem km_MO_163 : Cond.methodLink "BookTreesModel" (163 : Nat) ({ cls := "BookTreesModel", name := "readLeaf", desc := "(II)Z" } : MethodName) ∈ lw_g := gw (List.mem_of_getElem? (i := 923) (by decide +kernel)) rfl
theorem km_MO_199 : Cond.methodLink "BookTreesModel" (199 : Nat) ({ cls := "BookTreesModel", name := "applyDraft", desc := "()V" } : MethodName) ∈ lw_g := gw (List.mem_of_getElem? (i := 927) (by decide +kernel)) rfl
theorem km_MO_202 : Cond.methodLink "BookTreesModel" (202 : Nat) ({ cls := "BookTreesModel", name := "settle", desc := "()I" } : MethodName) ∈ lw_g := gw (List.mem_of_getElem? (i := 931) (by decide +kernel)) rfl
theorem km_MO_206 : Cond.methodLink "BookTreesModel" (206 : Nat) ({ cls := "BookTreesModel", name := "writeAll", desc := "(I)I" } : MethodName) ∈ lw_g := gw (List.mem_of_getElem? (i := 935) (by decide +kernel)) rfl
theorem km_MO_184 : Cond.methodLink "BookTreesModel" (184 : Nat) ({ cls := "BookTreesModel", name := "writeLeaf", desc := "(I)Z" } : MethodName) ∈ lw_g := gw (List.mem_of_getElem? (i := 939) (by decide +kernel)) rfl
theorem km_MO_178 : Cond.methodLink "BookTreesModel" (178 : Nat) ({ cls := "BookTreesModel", name := "begin", desc := "(II)V" } : MethodName) ∈ lw_g := gw (List.mem_of_getElem? (i := 943) (by decide +kernel)) rfl
theorem km_MO_150 : Cond.methodLink "BookTreesModel" (150 : Nat) ({ cls := "BookTreesModel", name := "putNumber", desc := "(II)V" } : MethodName) ∈ lw_g := gw (List.mem_of_getElem? (i := 947) (by decide +kernel)) rfl
theorem km_MO_181 : Cond.methodLink "BookTreesModel" (181 : Nat) ({ cls := "BookTreesModel", name := "finish", desc := "()Z" } : MethodName) ∈ lw_g := gw (List.mem_of_getElem? (i := 951) (by decide +kernel)) rfl
theorem km_MO_157 : Cond.methodLink "BookTreesModel" (157 : Nat) ({ cls := "BookTreesModel", name := "write", desc := "(II)Z" } : MethodName) ∈ lw_g := gw (List.mem_of_getElem? (i := 955) (by decide +kernel)) rfl
theorem km_MO_187 : Cond.methodLink "BookTreesModel" (187 : Nat) ({ cls := "BookTreesModel", name := "writeNode", desc := "(I)Z" } : MethodName) ∈ lw_g := gw (List.mem_of_getElem? (i := 959) (by decide +kernel)) rfl
theorem km_MO_190 : Cond.methodLink "BookTreesModel" (190 : Nat) ({ cls := "BookTreesModel", name := "writeTop", desc := "()Z" } : MethodName) ∈ lw_g := gw (List.mem_of_getElem? (i := 963) (by decide +kernel)) rfl
theorem km_MO_193 : Cond.methodLink "BookTreesModel" (193 : Nat) ({ cls := "BookTreesModel", name := "writeRoot", desc := "(I)Z" } : MethodName) ∈ lw_g := gw (List.mem_of_getElem? (i := 967) (by decide +kernel)) rfl
theorem km_LA_99 : Cond.methodLink "BookTreesLaw" (99 : Nat) ({ cls := "BookTreesModel", name := "copy", desc := "()I" } : MethodName) ∈ lw_g := gw (List.mem_of_getElem? (i := 971) (by decide +kernel)) rfl
theorem km_LA_115 : Cond.methodLink "BookTreesLaw" (115 : Nat) ({ cls := "BookTreesModel", name := "crash", desc := "(I)V" } : MethodName) ∈ lw_g := gw (List.mem_of_getElem? (i := 975) (by decide +kernel)) rfl
theorem kk_MO_209 : Cond.constant "BookTreesModel" (209 : Nat) (100000 : Int32) ∈ lw_g := gw (List.mem_of_getElem? (i := 979) (by decide +kernel)) rfl
theorem km_LA_119 : Cond.methodLink "BookTreesLaw" (119 : Nat) ({ cls := "BookTreesModel", name := "reopen", desc := "()I" } : MethodName) ∈ lw_g := gw (List.mem_of_getElem? (i := 980) (by decide +kernel)) rfl
theorem km_MO_211 : Cond.methodLink "BookTreesModel" (211 : Nat) ({ cls := "BookTreesModel", name := "isWhole", desc := "(I)Z" } : MethodName) ∈ lw_g := gw (List.mem_of_getElem? (i := 984) (by decide +kernel)) rfl
theorem kk_MO_210 : Cond.constant "BookTreesModel" (210 : Nat) (1000000 : Int32) ∈ lw_g := gw (List.mem_of_getElem? (i := 988) (by decide +kernel)) rfl
theorem km_MO_214 : Cond.methodLink "BookTreesModel" (214 : Nat) ({ cls := "BookTreesModel", name := "keep", desc := "(II)V" } : MethodName) ∈ lw_g := gw (List.mem_of_getElem? (i := 989) (by decide +kernel)) rfl
theorem km_LA_124 : Cond.methodLink "BookTreesLaw" (124 : Nat) ({ cls := "BookTreesModel", name := "isDown", desc := "()Z" } : MethodName) ∈ lw_g := gw (List.mem_of_getElem? (i := 993) (by decide +kernel)) rfl
theorem km_LA_127 : Cond.methodLink "BookTreesLaw" (127 : Nat) ({ cls := "BookTreesModel", name := "byteAt", desc := "(II)I" } : MethodName) ∈ lw_g := gw (List.mem_of_getElem? (i := 997) (by decide +kernel)) rfl
theorem km_LA_131 : Cond.methodLink "BookTreesLaw" (131 : Nat) ({ cls := "BookTreesModel", name := "poke", desc := "(III)I" } : MethodName) ∈ lw_g := gw (List.mem_of_getElem? (i := 1001) (by decide +kernel)) rfl
theorem km_LA_134 : Cond.methodLink "BookTreesLaw" (134 : Nat) ({ cls := "BookTreesModel", name := "badAt", desc := "(I)I" } : MethodName) ∈ lw_g := gw (List.mem_of_getElem? (i := 1005) (by decide +kernel)) rfl
theorem km_LA_137 : Cond.methodLink "BookTreesLaw" (137 : Nat) ({ cls := "BookTreesModel", name := "told", desc := "(I)I" } : MethodName) ∈ lw_g := gw (List.mem_of_getElem? (i := 1009) (by decide +kernel)) rfl
def y_BT_init : MethodName := ⟨"BookTrees", "<init>", "(I)V"⟩
abbrev b_BT_init : ByteArray := prog_1_method_1_code
theorem kd_BT_init : Cond.code y_BT_init b_BT_init 2 none ∈ lw_g := gw (List.mem_of_getElem? (i := 74) (by decide +kernel)) rfl
theorem ki_BT_init : Cond.instanceMethod y_BT_init ∈ lw_g := gw (List.mem_of_getElem? (i := 73) (by decide +kernel)) rfl
def y_BT_put : MethodName := ⟨"BookTrees", "put", "(II)I"⟩
abbrev b_BT_put : ByteArray := prog_1_method_2_code
theorem kd_BT_put : Cond.code y_BT_put b_BT_put 3 (some .int) ∈ lw_g := gw (List.mem_of_getElem? (i := 319) (by decide +kernel)) rfl
theorem ki_BT_put : Cond.instanceMethod y_BT_put ∈ lw_g := gw (List.mem_of_getElem? (i := 317) (by decide +kernel)) rfl
theorem ks_BT_put : Cond.selects "BookTrees" y_BT_put y_BT_put ∈ lw_g := gw (List.mem_of_getElem? (i := 318) (by decide +kernel)) rfl
def y_BT_drop : MethodName := ⟨"BookTrees", "drop", "(I)I"⟩
abbrev b_BT_drop : ByteArray := prog_1_method_3_code
theorem kd_BT_drop : Cond.code y_BT_drop b_BT_drop 2 (some .int) ∈ lw_g := gw (List.mem_of_getElem? (i := 436) (by decide +kernel)) rfl
theorem ki_BT_drop : Cond.instanceMethod y_BT_drop ∈ lw_g := gw (List.mem_of_getElem? (i := 434) (by decide +kernel)) rfl
theorem ks_BT_drop : Cond.selects "BookTrees" y_BT_drop y_BT_drop ∈ lw_g := gw (List.mem_of_getElem? (i := 435) (by decide +kernel)) rfl
def y_BT_undo : MethodName := ⟨"BookTrees", "undo", "()I"⟩
abbrev b_BT_undo : ByteArray := prog_1_method_4_code
theorem kd_BT_undo : Cond.code y_BT_undo b_BT_undo 2 (some .int) ∈ lw_g := gw (List.mem_of_getElem? (i := 447) (by decide +kernel)) rfl
theorem ki_BT_undo : Cond.instanceMethod y_BT_undo ∈ lw_g := gw (List.mem_of_getElem? (i := 445) (by decide +kernel)) rfl
theorem ks_BT_undo : Cond.selects "BookTrees" y_BT_undo y_BT_undo ∈ lw_g := gw (List.mem_of_getElem? (i := 446) (by decide +kernel)) rfl
def y_BT_get : MethodName := ⟨"BookTrees", "get", "(I)J"⟩
abbrev b_BT_get : ByteArray := prog_1_method_5_code
theorem kd_BT_get : Cond.code y_BT_get b_BT_get 2 (some .long) ∈ lw_g := gw (List.mem_of_getElem? (i := 454) (by decide +kernel)) rfl
theorem ki_BT_get : Cond.instanceMethod y_BT_get ∈ lw_g := gw (List.mem_of_getElem? (i := 452) (by decide +kernel)) rfl
theorem ks_BT_get : Cond.selects "BookTrees" y_BT_get y_BT_get ∈ lw_g := gw (List.mem_of_getElem? (i := 453) (by decide +kernel)) rfl
def y_BT_commit : MethodName := ⟨"BookTrees", "commit", "()I"⟩
abbrev b_BT_commit : ByteArray := prog_1_method_6_code
theorem kd_BT_commit : Cond.code y_BT_commit b_BT_commit 2 (some .int) ∈ lw_g := gw (List.mem_of_getElem? (i := 501) (by decide +kernel)) rfl
theorem ki_BT_commit : Cond.instanceMethod y_BT_commit ∈ lw_g := gw (List.mem_of_getElem? (i := 499) (by decide +kernel)) rfl
theorem ks_BT_commit : Cond.selects "BookTrees" y_BT_commit y_BT_commit ∈ lw_g := gw (List.mem_of_getElem? (i := 500) (by decide +kernel)) rfl
def y_BT_copy : MethodName := ⟨"BookTrees", "copy", "()I"⟩
abbrev b_BT_copy : ByteArray := prog_1_method_7_code
theorem kd_BT_copy : Cond.code y_BT_copy b_BT_copy 1 (some .int) ∈ lw_g := gw (List.mem_of_getElem? (i := 604) (by decide +kernel)) rfl
theorem ki_BT_copy : Cond.instanceMethod y_BT_copy ∈ lw_g := gw (List.mem_of_getElem? (i := 602) (by decide +kernel)) rfl
theorem ks_BT_copy : Cond.selects "BookTrees" y_BT_copy y_BT_copy ∈ lw_g := gw (List.mem_of_getElem? (i := 603) (by decide +kernel)) rfl
def y_BT_find : MethodName := ⟨"BookTrees", "find", "(II)J"⟩
abbrev b_BT_find : ByteArray := prog_1_method_8_code
theorem kd_BT_find : Cond.code y_BT_find b_BT_find 3 (some .long) ∈ lw_g := gw (List.mem_of_getElem? (i := 615) (by decide +kernel)) rfl
theorem ki_BT_find : Cond.instanceMethod y_BT_find ∈ lw_g := gw (List.mem_of_getElem? (i := 613) (by decide +kernel)) rfl
theorem ks_BT_find : Cond.selects "BookTrees" y_BT_find y_BT_find ∈ lw_g := gw (List.mem_of_getElem? (i := 614) (by decide +kernel)) rfl
def y_BT_next : MethodName := ⟨"BookTrees", "next", "(II)I"⟩
abbrev b_BT_next : ByteArray := prog_1_method_9_code
theorem kd_BT_next : Cond.code y_BT_next b_BT_next 8 (some .int) ∈ lw_g := gw (List.mem_of_getElem? (i := 630) (by decide +kernel)) rfl
theorem ki_BT_next : Cond.instanceMethod y_BT_next ∈ lw_g := gw (List.mem_of_getElem? (i := 628) (by decide +kernel)) rfl
theorem ks_BT_next : Cond.selects "BookTrees" y_BT_next y_BT_next ∈ lw_g := gw (List.mem_of_getElem? (i := 629) (by decide +kernel)) rfl
def y_BT_rows : MethodName := ⟨"BookTrees", "rows", "(I)I"⟩
abbrev b_BT_rows : ByteArray := prog_1_method_10_code
theorem kd_BT_rows : Cond.code y_BT_rows b_BT_rows 3 (some .int) ∈ lw_g := gw (List.mem_of_getElem? (i := 642) (by decide +kernel)) rfl
theorem ki_BT_rows : Cond.instanceMethod y_BT_rows ∈ lw_g := gw (List.mem_of_getElem? (i := 640) (by decide +kernel)) rfl
theorem ks_BT_rows : Cond.selects "BookTrees" y_BT_rows y_BT_rows ∈ lw_g := gw (List.mem_of_getElem? (i := 641) (by decide +kernel)) rfl
def y_BT_kept : MethodName := ⟨"BookTrees", "kept", "(I)I"⟩
abbrev b_BT_kept : ByteArray := prog_1_method_11_code
theorem kd_BT_kept : Cond.code y_BT_kept b_BT_kept 2 (some .int) ∈ lw_g := gw (List.mem_of_getElem? (i := 649) (by decide +kernel)) rfl
theorem ki_BT_kept : Cond.instanceMethod y_BT_kept ∈ lw_g := gw (List.mem_of_getElem? (i := 647) (by decide +kernel)) rfl
theorem ks_BT_kept : Cond.selects "BookTrees" y_BT_kept y_BT_kept ∈ lw_g := gw (List.mem_of_getElem? (i := 648) (by decide +kernel)) rfl
def y_BT_crash : MethodName := ⟨"BookTrees", "crash", "(I)V"⟩
abbrev b_BT_crash : ByteArray := prog_1_method_12_code
theorem kd_BT_crash : Cond.code y_BT_crash b_BT_crash 2 none ∈ lw_g := gw (List.mem_of_getElem? (i := 664) (by decide +kernel)) rfl
theorem ki_BT_crash : Cond.instanceMethod y_BT_crash ∈ lw_g := gw (List.mem_of_getElem? (i := 662) (by decide +kernel)) rfl
theorem ks_BT_crash : Cond.selects "BookTrees" y_BT_crash y_BT_crash ∈ lw_g := gw (List.mem_of_getElem? (i := 663) (by decide +kernel)) rfl
def y_BT_reopen : MethodName := ⟨"BookTrees", "reopen", "()I"⟩
abbrev b_BT_reopen : ByteArray := prog_1_method_13_code
theorem kd_BT_reopen : Cond.code y_BT_reopen b_BT_reopen 3 (some .int) ∈ lw_g := gw (List.mem_of_getElem? (i := 207) (by decide +kernel)) rfl
theorem ki_BT_reopen : Cond.instanceMethod y_BT_reopen ∈ lw_g := gw (List.mem_of_getElem? (i := 205) (by decide +kernel)) rfl
theorem ks_BT_reopen : Cond.selects "BookTrees" y_BT_reopen y_BT_reopen ∈ lw_g := gw (List.mem_of_getElem? (i := 206) (by decide +kernel)) rfl
def y_BT_isDown : MethodName := ⟨"BookTrees", "isDown", "()Z"⟩
abbrev b_BT_isDown : ByteArray := prog_1_method_14_code
theorem kd_BT_isDown : Cond.code y_BT_isDown b_BT_isDown 1 (some .boolean) ∈ lw_g := gw (List.mem_of_getElem? (i := 303) (by decide +kernel)) rfl
theorem ki_BT_isDown : Cond.instanceMethod y_BT_isDown ∈ lw_g := gw (List.mem_of_getElem? (i := 301) (by decide +kernel)) rfl
theorem ks_BT_isDown : Cond.selects "BookTrees" y_BT_isDown y_BT_isDown ∈ lw_g := gw (List.mem_of_getElem? (i := 302) (by decide +kernel)) rfl
def y_BT_byteAt : MethodName := ⟨"BookTrees", "byteAt", "(II)I"⟩
abbrev b_BT_byteAt : ByteArray := prog_1_method_15_code
theorem kd_BT_byteAt : Cond.code y_BT_byteAt b_BT_byteAt 3 (some .int) ∈ lw_g := gw (List.mem_of_getElem? (i := 676) (by decide +kernel)) rfl
theorem ki_BT_byteAt : Cond.instanceMethod y_BT_byteAt ∈ lw_g := gw (List.mem_of_getElem? (i := 674) (by decide +kernel)) rfl
theorem ks_BT_byteAt : Cond.selects "BookTrees" y_BT_byteAt y_BT_byteAt ∈ lw_g := gw (List.mem_of_getElem? (i := 675) (by decide +kernel)) rfl
def y_BT_poke : MethodName := ⟨"BookTrees", "poke", "(III)I"⟩
abbrev b_BT_poke : ByteArray := prog_1_method_16_code
theorem kd_BT_poke : Cond.code y_BT_poke b_BT_poke 4 (some .int) ∈ lw_g := gw (List.mem_of_getElem? (i := 688) (by decide +kernel)) rfl
theorem ki_BT_poke : Cond.instanceMethod y_BT_poke ∈ lw_g := gw (List.mem_of_getElem? (i := 686) (by decide +kernel)) rfl
theorem ks_BT_poke : Cond.selects "BookTrees" y_BT_poke y_BT_poke ∈ lw_g := gw (List.mem_of_getElem? (i := 687) (by decide +kernel)) rfl
def y_BT_badAt : MethodName := ⟨"BookTrees", "badAt", "(I)I"⟩
abbrev b_BT_badAt : ByteArray := prog_1_method_17_code
theorem kd_BT_badAt : Cond.code y_BT_badAt b_BT_badAt 4 (some .int) ∈ lw_g := gw (List.mem_of_getElem? (i := 699) (by decide +kernel)) rfl
theorem ki_BT_badAt : Cond.instanceMethod y_BT_badAt ∈ lw_g := gw (List.mem_of_getElem? (i := 697) (by decide +kernel)) rfl
theorem ks_BT_badAt : Cond.selects "BookTrees" y_BT_badAt y_BT_badAt ∈ lw_g := gw (List.mem_of_getElem? (i := 698) (by decide +kernel)) rfl
def y_BT_told : MethodName := ⟨"BookTrees", "told", "(I)I"⟩
abbrev b_BT_told : ByteArray := prog_1_method_18_code
theorem kd_BT_told : Cond.code y_BT_told b_BT_told 2 (some .int) ∈ lw_g := gw (List.mem_of_getElem? (i := 707) (by decide +kernel)) rfl
theorem ki_BT_told : Cond.instanceMethod y_BT_told ∈ lw_g := gw (List.mem_of_getElem? (i := 705) (by decide +kernel)) rfl
theorem ks_BT_told : Cond.selects "BookTrees" y_BT_told y_BT_told ∈ lw_g := gw (List.mem_of_getElem? (i := 706) (by decide +kernel)) rfl
def y_BT_requireArgument : MethodName := ⟨"BookTrees", "requireArgument", "(Z)V"⟩
abbrev b_BT_requireArgument : ByteArray := prog_1_method_19_code
theorem kd_BT_requireArgument : Cond.code y_BT_requireArgument b_BT_requireArgument 2 none ∈ lw_g := gw (List.mem_of_getElem? (i := 327) (by decide +kernel)) rfl
theorem ki_BT_requireArgument : Cond.instanceMethod y_BT_requireArgument ∈ lw_g := gw (List.mem_of_getElem? (i := 326) (by decide +kernel)) rfl
theorem ks_BT_requireArgument : Cond.selects "BookTrees" y_BT_requireArgument y_BT_requireArgument ∈ lw_g := gw (List.mem_of_getElem? (i := 6) (by decide +kernel)) rfl
def y_BT_requirePower : MethodName := ⟨"BookTrees", "requirePower", "()V"⟩
abbrev b_BT_requirePower : ByteArray := prog_1_method_20_code
theorem kd_BT_requirePower : Cond.code y_BT_requirePower b_BT_requirePower 1 none ∈ lw_g := gw (List.mem_of_getElem? (i := 397) (by decide +kernel)) rfl
theorem ki_BT_requirePower : Cond.instanceMethod y_BT_requirePower ∈ lw_g := gw (List.mem_of_getElem? (i := 396) (by decide +kernel)) rfl
theorem ks_BT_requirePower : Cond.selects "BookTrees" y_BT_requirePower y_BT_requirePower ∈ lw_g := gw (List.mem_of_getElem? (i := 8) (by decide +kernel)) rfl
def y_BT_isKey : MethodName := ⟨"BookTrees", "isKey", "(I)Z"⟩
abbrev b_BT_isKey : ByteArray := prog_1_method_21_code
theorem kd_BT_isKey : Cond.code y_BT_isKey b_BT_isKey 2 (some .boolean) ∈ lw_g := gw (List.mem_of_getElem? (i := 323) (by decide +kernel)) rfl
theorem ki_BT_isKey : Cond.instanceMethod y_BT_isKey ∈ lw_g := gw (List.mem_of_getElem? (i := 322) (by decide +kernel)) rfl
theorem ks_BT_isKey : Cond.selects "BookTrees" y_BT_isKey y_BT_isKey ∈ lw_g := gw (List.mem_of_getElem? (i := 5) (by decide +kernel)) rfl
def y_BT_isByteIndex : MethodName := ⟨"BookTrees", "isByteIndex", "(I)Z"⟩
abbrev b_BT_isByteIndex : ByteArray := prog_1_method_22_code
theorem kd_BT_isByteIndex : Cond.code y_BT_isByteIndex b_BT_isByteIndex 2 (some .boolean) ∈ lw_g := gw (List.mem_of_getElem? (i := 680) (by decide +kernel)) rfl
theorem ki_BT_isByteIndex : Cond.instanceMethod y_BT_isByteIndex ∈ lw_g := gw (List.mem_of_getElem? (i := 679) (by decide +kernel)) rfl
theorem ks_BT_isByteIndex : Cond.selects "BookTrees" y_BT_isByteIndex y_BT_isByteIndex ∈ lw_g := gw (List.mem_of_getElem? (i := 21) (by decide +kernel)) rfl
def y_BT_isKept : MethodName := ⟨"BookTrees", "isKept", "(I)Z"⟩
abbrev b_BT_isKept : ByteArray := prog_1_method_23_code
theorem kd_BT_isKept : Cond.code y_BT_isKept b_BT_isKept 2 (some .boolean) ∈ lw_g := gw (List.mem_of_getElem? (i := 619) (by decide +kernel)) rfl
theorem ki_BT_isKept : Cond.instanceMethod y_BT_isKept ∈ lw_g := gw (List.mem_of_getElem? (i := 618) (by decide +kernel)) rfl
theorem ks_BT_isKept : Cond.selects "BookTrees" y_BT_isKept y_BT_isKept ∈ lw_g := gw (List.mem_of_getElem? (i := 20) (by decide +kernel)) rfl
def y_BT_rowOf : MethodName := ⟨"BookTrees", "rowOf", "(II)J"⟩
abbrev b_BT_rowOf : ByteArray := prog_1_method_24_code
theorem kd_BT_rowOf : Cond.code y_BT_rowOf b_BT_rowOf 4 (some .long) ∈ lw_g := gw (List.mem_of_getElem? (i := 472) (by decide +kernel)) rfl
theorem ki_BT_rowOf : Cond.instanceMethod y_BT_rowOf ∈ lw_g := gw (List.mem_of_getElem? (i := 471) (by decide +kernel)) rfl
theorem ks_BT_rowOf : Cond.selects "BookTrees" y_BT_rowOf y_BT_rowOf ∈ lw_g := gw (List.mem_of_getElem? (i := 10) (by decide +kernel)) rfl
def y_BT_leafBlock : MethodName := ⟨"BookTrees", "leafBlock", "(II)I"⟩
abbrev b_BT_leafBlock : ByteArray := prog_1_method_25_code
theorem kd_BT_leafBlock : Cond.code y_BT_leafBlock b_BT_leafBlock 5 (some .int) ∈ lw_g := gw (List.mem_of_getElem? (i := 476) (by decide +kernel)) rfl
theorem ki_BT_leafBlock : Cond.instanceMethod y_BT_leafBlock ∈ lw_g := gw (List.mem_of_getElem? (i := 475) (by decide +kernel)) rfl
theorem ks_BT_leafBlock : Cond.selects "BookTrees" y_BT_leafBlock y_BT_leafBlock ∈ lw_g := gw (List.mem_of_getElem? (i := 11) (by decide +kernel)) rfl
def y_BT_childBlock : MethodName := ⟨"BookTrees", "childBlock", "(III)I"⟩
abbrev b_BT_childBlock : ByteArray := prog_1_method_26_code
theorem kd_BT_childBlock : Cond.code y_BT_childBlock b_BT_childBlock 5 (some .int) ∈ lw_g := gw (List.mem_of_getElem? (i := 489) (by decide +kernel)) rfl
theorem ki_BT_childBlock : Cond.instanceMethod y_BT_childBlock ∈ lw_g := gw (List.mem_of_getElem? (i := 488) (by decide +kernel)) rfl
theorem ks_BT_childBlock : Cond.selects "BookTrees" y_BT_childBlock y_BT_childBlock ∈ lw_g := gw (List.mem_of_getElem? (i := 12) (by decide +kernel)) rfl
def y_BT_appendVersion : MethodName := ⟨"BookTrees", "appendVersion", "(Z)I"⟩
abbrev b_BT_appendVersion : ByteArray := prog_1_method_27_code
theorem kd_BT_appendVersion : Cond.code y_BT_appendVersion b_BT_appendVersion 6 (some .int) ∈ lw_g := gw (List.mem_of_getElem? (i := 552) (by decide +kernel)) rfl
theorem ki_BT_appendVersion : Cond.instanceMethod y_BT_appendVersion ∈ lw_g := gw (List.mem_of_getElem? (i := 551) (by decide +kernel)) rfl
theorem ks_BT_appendVersion : Cond.selects "BookTrees" y_BT_appendVersion y_BT_appendVersion ∈ lw_g := gw (List.mem_of_getElem? (i := 17) (by decide +kernel)) rfl
def y_MO_init : MethodName := ⟨"BookTreesModel", "<init>", "(I)V"⟩
abbrev b_MO_init : ByteArray := prog_8_method_1_code
theorem kd_MO_init : Cond.code y_MO_init b_MO_init 2 none ∈ lw_g := gw (List.mem_of_getElem? (i := 716) (by decide +kernel)) rfl
theorem ki_MO_init : Cond.instanceMethod y_MO_init ∈ lw_g := gw (List.mem_of_getElem? (i := 715) (by decide +kernel)) rfl
def y_MO_thrown : MethodName := ⟨"BookTreesModel", "thrown", "()I"⟩
abbrev b_MO_thrown : ByteArray := prog_8_method_2_code
theorem kd_MO_thrown : Cond.code y_MO_thrown b_MO_thrown 1 (some .int) ∈ lw_g := gw (List.mem_of_getElem? (i := 800) (by decide +kernel)) rfl
theorem ki_MO_thrown : Cond.instanceMethod y_MO_thrown ∈ lw_g := gw (List.mem_of_getElem? (i := 798) (by decide +kernel)) rfl
theorem ks_MO_thrown : Cond.selects "BookTreesModel" y_MO_thrown y_MO_thrown ∈ lw_g := gw (List.mem_of_getElem? (i := 799) (by decide +kernel)) rfl
def y_MO_goes : MethodName := ⟨"BookTreesModel", "goes", "(Z)Z"⟩
abbrev b_MO_goes : ByteArray := prog_8_method_3_code
theorem kd_MO_goes : Cond.code y_MO_goes b_MO_goes 2 (some .boolean) ∈ lw_g := gw (List.mem_of_getElem? (i := 811) (by decide +kernel)) rfl
theorem ki_MO_goes : Cond.instanceMethod y_MO_goes ∈ lw_g := gw (List.mem_of_getElem? (i := 810) (by decide +kernel)) rfl
theorem ks_MO_goes : Cond.selects "BookTreesModel" y_MO_goes y_MO_goes ∈ lw_g := gw (List.mem_of_getElem? (i := 22) (by decide +kernel)) rfl
def y_MO_isUp : MethodName := ⟨"BookTreesModel", "isUp", "()Z"⟩
abbrev b_MO_isUp : ByteArray := prog_8_method_4_code
theorem kd_MO_isUp : Cond.code y_MO_isUp b_MO_isUp 1 (some .boolean) ∈ lw_g := gw (List.mem_of_getElem? (i := 827) (by decide +kernel)) rfl
theorem ki_MO_isUp : Cond.instanceMethod y_MO_isUp ∈ lw_g := gw (List.mem_of_getElem? (i := 826) (by decide +kernel)) rfl
theorem ks_MO_isUp : Cond.selects "BookTreesModel" y_MO_isUp y_MO_isUp ∈ lw_g := gw (List.mem_of_getElem? (i := 24) (by decide +kernel)) rfl
def y_MO_isKey : MethodName := ⟨"BookTreesModel", "isKey", "(I)Z"⟩
abbrev b_MO_isKey : ByteArray := prog_8_method_5_code
theorem kd_MO_isKey : Cond.code y_MO_isKey b_MO_isKey 1 (some .boolean) ∈ lw_g := gw (List.mem_of_getElem? (i := 807) (by decide +kernel)) rfl
theorem kt_MO_isKey : Cond.static y_MO_isKey ∈ lw_g := gw (List.mem_of_getElem? (i := 806) (by decide +kernel)) rfl
def y_MO_placeOf : MethodName := ⟨"BookTreesModel", "placeOf", "(I)I"⟩
abbrev b_MO_placeOf : ByteArray := prog_8_method_6_code
theorem kd_MO_placeOf : Cond.code y_MO_placeOf b_MO_placeOf 2 (some .int) ∈ lw_g := gw (List.mem_of_getElem? (i := 856) (by decide +kernel)) rfl
theorem ki_MO_placeOf : Cond.instanceMethod y_MO_placeOf ∈ lw_g := gw (List.mem_of_getElem? (i := 855) (by decide +kernel)) rfl
theorem ks_MO_placeOf : Cond.selects "BookTreesModel" y_MO_placeOf y_MO_placeOf ∈ lw_g := gw (List.mem_of_getElem? (i := 30) (by decide +kernel)) rfl
def y_MO_isUsed : MethodName := ⟨"BookTreesModel", "isUsed", "(I)Z"⟩
abbrev b_MO_isUsed : ByteArray := prog_8_method_7_code
theorem kd_MO_isUsed : Cond.code y_MO_isUsed b_MO_isUsed 2 (some .boolean) ∈ lw_g := gw (List.mem_of_getElem? (i := 852) (by decide +kernel)) rfl
theorem ki_MO_isUsed : Cond.instanceMethod y_MO_isUsed ∈ lw_g := gw (List.mem_of_getElem? (i := 851) (by decide +kernel)) rfl
theorem ks_MO_isUsed : Cond.selects "BookTreesModel" y_MO_isUsed y_MO_isUsed ∈ lw_g := gw (List.mem_of_getElem? (i := 29) (by decide +kernel)) rfl
def y_MO_number : MethodName := ⟨"BookTreesModel", "number", "(I)I"⟩
abbrev b_MO_number : ByteArray := prog_8_method_8_code
theorem kd_MO_number : Cond.code y_MO_number b_MO_number 2 (some .int) ∈ lw_g := gw (List.mem_of_getElem? (i := 869) (by decide +kernel)) rfl
theorem ki_MO_number : Cond.instanceMethod y_MO_number ∈ lw_g := gw (List.mem_of_getElem? (i := 868) (by decide +kernel)) rfl
theorem ks_MO_number : Cond.selects "BookTreesModel" y_MO_number y_MO_number ∈ lw_g := gw (List.mem_of_getElem? (i := 32) (by decide +kernel)) rfl
def y_MO_mixed : MethodName := ⟨"BookTreesModel", "mixed", "(JI)J"⟩
abbrev b_MO_mixed : ByteArray := prog_8_method_9_code
theorem kd_MO_mixed : Cond.code y_MO_mixed b_MO_mixed 5 (some .long) ∈ lw_g := gw (List.mem_of_getElem? (i := 863) (by decide +kernel)) rfl
theorem kt_MO_mixed : Cond.static y_MO_mixed ∈ lw_g := gw (List.mem_of_getElem? (i := 862) (by decide +kernel)) rfl
def y_MO_hasSum : MethodName := ⟨"BookTreesModel", "hasSum", "(I)Z"⟩
abbrev b_MO_hasSum : ByteArray := prog_8_method_10_code
theorem kd_MO_hasSum : Cond.code y_MO_hasSum b_MO_hasSum 6 (some .boolean) ∈ lw_g := gw (List.mem_of_getElem? (i := 860) (by decide +kernel)) rfl
theorem ki_MO_hasSum : Cond.instanceMethod y_MO_hasSum ∈ lw_g := gw (List.mem_of_getElem? (i := 859) (by decide +kernel)) rfl
theorem ks_MO_hasSum : Cond.selects "BookTreesModel" y_MO_hasSum y_MO_hasSum ∈ lw_g := gw (List.mem_of_getElem? (i := 31) (by decide +kernel)) rfl
def y_MO_isBad : MethodName := ⟨"BookTreesModel", "isBad", "(II)Z"⟩
abbrev b_MO_isBad : ByteArray := prog_8_method_11_code
theorem kd_MO_isBad : Cond.code y_MO_isBad b_MO_isBad 4 (some .boolean) ∈ lw_g := gw (List.mem_of_getElem? (i := 848) (by decide +kernel)) rfl
theorem ki_MO_isBad : Cond.instanceMethod y_MO_isBad ∈ lw_g := gw (List.mem_of_getElem? (i := 847) (by decide +kernel)) rfl
theorem ks_MO_isBad : Cond.selects "BookTreesModel" y_MO_isBad y_MO_isBad ∈ lw_g := gw (List.mem_of_getElem? (i := 28) (by decide +kernel)) rfl
def y_MO_bitsOf : MethodName := ⟨"BookTreesModel", "bitsOf", "(I)I"⟩
abbrev b_MO_bitsOf : ByteArray := prog_8_method_12_code
theorem kd_MO_bitsOf : Cond.code y_MO_bitsOf b_MO_bitsOf 2 (some .int) ∈ lw_g := gw (List.mem_of_getElem? (i := 874) (by decide +kernel)) rfl
theorem ki_MO_bitsOf : Cond.instanceMethod y_MO_bitsOf ∈ lw_g := gw (List.mem_of_getElem? (i := 873) (by decide +kernel)) rfl
theorem ks_MO_bitsOf : Cond.selects "BookTreesModel" y_MO_bitsOf y_MO_bitsOf ∈ lw_g := gw (List.mem_of_getElem? (i := 33) (by decide +kernel)) rfl
def y_MO_entryOf : MethodName := ⟨"BookTreesModel", "entryOf", "(II)I"⟩
abbrev b_MO_entryOf : ByteArray := prog_8_method_13_code
theorem kd_MO_entryOf : Cond.code y_MO_entryOf b_MO_entryOf 3 (some .int) ∈ lw_g := gw (List.mem_of_getElem? (i := 878) (by decide +kernel)) rfl
theorem ki_MO_entryOf : Cond.instanceMethod y_MO_entryOf ∈ lw_g := gw (List.mem_of_getElem? (i := 877) (by decide +kernel)) rfl
theorem ks_MO_entryOf : Cond.selects "BookTreesModel" y_MO_entryOf y_MO_entryOf ∈ lw_g := gw (List.mem_of_getElem? (i := 34) (by decide +kernel)) rfl
def y_MO_hasEntry : MethodName := ⟨"BookTreesModel", "hasEntry", "(II)Z"⟩
abbrev b_MO_hasEntry : ByteArray := prog_8_method_14_code
theorem kd_MO_hasEntry : Cond.code y_MO_hasEntry b_MO_hasEntry 3 (some .boolean) ∈ lw_g := gw (List.mem_of_getElem? (i := 882) (by decide +kernel)) rfl
theorem ki_MO_hasEntry : Cond.instanceMethod y_MO_hasEntry ∈ lw_g := gw (List.mem_of_getElem? (i := 881) (by decide +kernel)) rfl
theorem ks_MO_hasEntry : Cond.selects "BookTreesModel" y_MO_hasEntry y_MO_hasEntry ∈ lw_g := gw (List.mem_of_getElem? (i := 35) (by decide +kernel)) rfl
def y_MO_change : MethodName := ⟨"BookTreesModel", "change", "(III)V"⟩
abbrev b_MO_change : ByteArray := prog_8_method_15_code
theorem kd_MO_change : Cond.code y_MO_change b_MO_change 4 none ∈ lw_g := gw (List.mem_of_getElem? (i := 815) (by decide +kernel)) rfl
theorem ki_MO_change : Cond.instanceMethod y_MO_change ∈ lw_g := gw (List.mem_of_getElem? (i := 814) (by decide +kernel)) rfl
theorem ks_MO_change : Cond.selects "BookTreesModel" y_MO_change y_MO_change ∈ lw_g := gw (List.mem_of_getElem? (i := 23) (by decide +kernel)) rfl
def y_MO_put : MethodName := ⟨"BookTreesModel", "put", "(II)I"⟩
abbrev b_MO_put : ByteArray := prog_8_method_16_code
theorem kd_MO_put : Cond.code y_MO_put b_MO_put 3 (some .int) ∈ lw_g := gw (List.mem_of_getElem? (i := 804) (by decide +kernel)) rfl
theorem ki_MO_put : Cond.instanceMethod y_MO_put ∈ lw_g := gw (List.mem_of_getElem? (i := 802) (by decide +kernel)) rfl
theorem ks_MO_put : Cond.selects "BookTreesModel" y_MO_put y_MO_put ∈ lw_g := gw (List.mem_of_getElem? (i := 803) (by decide +kernel)) rfl
def y_MO_drop : MethodName := ⟨"BookTreesModel", "drop", "(I)I"⟩
abbrev b_MO_drop : ByteArray := prog_8_method_17_code
theorem kd_MO_drop : Cond.code y_MO_drop b_MO_drop 2 (some .int) ∈ lw_g := gw (List.mem_of_getElem? (i := 819) (by decide +kernel)) rfl
theorem ki_MO_drop : Cond.instanceMethod y_MO_drop ∈ lw_g := gw (List.mem_of_getElem? (i := 817) (by decide +kernel)) rfl
theorem ks_MO_drop : Cond.selects "BookTreesModel" y_MO_drop y_MO_drop ∈ lw_g := gw (List.mem_of_getElem? (i := 818) (by decide +kernel)) rfl
def y_MO_clear : MethodName := ⟨"BookTreesModel", "clear", "()V"⟩
abbrev b_MO_clear : ByteArray := prog_8_method_18_code
theorem kd_MO_clear : Cond.code y_MO_clear b_MO_clear 2 none ∈ lw_g := gw (List.mem_of_getElem? (i := 831) (by decide +kernel)) rfl
theorem ki_MO_clear : Cond.instanceMethod y_MO_clear ∈ lw_g := gw (List.mem_of_getElem? (i := 830) (by decide +kernel)) rfl
theorem ks_MO_clear : Cond.selects "BookTreesModel" y_MO_clear y_MO_clear ∈ lw_g := gw (List.mem_of_getElem? (i := 25) (by decide +kernel)) rfl
def y_MO_undo : MethodName := ⟨"BookTreesModel", "undo", "()I"⟩
abbrev b_MO_undo : ByteArray := prog_8_method_19_code
theorem kd_MO_undo : Cond.code y_MO_undo b_MO_undo 2 (some .int) ∈ lw_g := gw (List.mem_of_getElem? (i := 823) (by decide +kernel)) rfl
theorem ki_MO_undo : Cond.instanceMethod y_MO_undo ∈ lw_g := gw (List.mem_of_getElem? (i := 821) (by decide +kernel)) rfl
theorem ks_MO_undo : Cond.selects "BookTreesModel" y_MO_undo y_MO_undo ∈ lw_g := gw (List.mem_of_getElem? (i := 822) (by decide +kernel)) rfl
def y_MO_rootOf : MethodName := ⟨"BookTreesModel", "rootOf", "(I)I"⟩
abbrev b_MO_rootOf : ByteArray := prog_8_method_20_code
theorem kd_MO_rootOf : Cond.code y_MO_rootOf b_MO_rootOf 4 (some .int) ∈ lw_g := gw (List.mem_of_getElem? (i := 844) (by decide +kernel)) rfl
theorem ki_MO_rootOf : Cond.instanceMethod y_MO_rootOf ∈ lw_g := gw (List.mem_of_getElem? (i := 843) (by decide +kernel)) rfl
theorem ks_MO_rootOf : Cond.selects "BookTreesModel" y_MO_rootOf y_MO_rootOf ∈ lw_g := gw (List.mem_of_getElem? (i := 27) (by decide +kernel)) rfl
def y_MO_isKept : MethodName := ⟨"BookTreesModel", "isKept", "(I)Z"⟩
abbrev b_MO_isKept : ByteArray := prog_8_method_21_code
theorem kd_MO_isKept : Cond.code y_MO_isKept b_MO_isKept 2 (some .boolean) ∈ lw_g := gw (List.mem_of_getElem? (i := 890) (by decide +kernel)) rfl
theorem ki_MO_isKept : Cond.instanceMethod y_MO_isKept ∈ lw_g := gw (List.mem_of_getElem? (i := 889) (by decide +kernel)) rfl
theorem ks_MO_isKept : Cond.selects "BookTreesModel" y_MO_isKept y_MO_isKept ∈ lw_g := gw (List.mem_of_getElem? (i := 36) (by decide +kernel)) rfl
def y_MO_look : MethodName := ⟨"BookTreesModel", "look", "(II)J"⟩
abbrev b_MO_look : ByteArray := prog_8_method_22_code
theorem kd_MO_look : Cond.code y_MO_look b_MO_look 6 (some .long) ∈ lw_g := gw (List.mem_of_getElem? (i := 840) (by decide +kernel)) rfl
theorem ki_MO_look : Cond.instanceMethod y_MO_look ∈ lw_g := gw (List.mem_of_getElem? (i := 839) (by decide +kernel)) rfl
theorem ks_MO_look : Cond.selects "BookTreesModel" y_MO_look y_MO_look ∈ lw_g := gw (List.mem_of_getElem? (i := 26) (by decide +kernel)) rfl
def y_MO_get : MethodName := ⟨"BookTreesModel", "get", "(I)J"⟩
abbrev b_MO_get : ByteArray := prog_8_method_23_code
theorem kd_MO_get : Cond.code y_MO_get b_MO_get 2 (some .long) ∈ lw_g := gw (List.mem_of_getElem? (i := 835) (by decide +kernel)) rfl
theorem ki_MO_get : Cond.instanceMethod y_MO_get ∈ lw_g := gw (List.mem_of_getElem? (i := 833) (by decide +kernel)) rfl
theorem ks_MO_get : Cond.selects "BookTreesModel" y_MO_get y_MO_get ∈ lw_g := gw (List.mem_of_getElem? (i := 834) (by decide +kernel)) rfl
def y_MO_find : MethodName := ⟨"BookTreesModel", "find", "(II)J"⟩
abbrev b_MO_find : ByteArray := prog_8_method_24_code
theorem kd_MO_find : Cond.code y_MO_find b_MO_find 3 (some .long) ∈ lw_g := gw (List.mem_of_getElem? (i := 886) (by decide +kernel)) rfl
theorem ki_MO_find : Cond.instanceMethod y_MO_find ∈ lw_g := gw (List.mem_of_getElem? (i := 884) (by decide +kernel)) rfl
theorem ks_MO_find : Cond.selects "BookTreesModel" y_MO_find y_MO_find ∈ lw_g := gw (List.mem_of_getElem? (i := 885) (by decide +kernel)) rfl
def y_MO_next : MethodName := ⟨"BookTreesModel", "next", "(II)I"⟩
abbrev b_MO_next : ByteArray := prog_8_method_25_code
theorem kd_MO_next : Cond.code y_MO_next b_MO_next 6 (some .int) ∈ lw_g := gw (List.mem_of_getElem? (i := 894) (by decide +kernel)) rfl
theorem ki_MO_next : Cond.instanceMethod y_MO_next ∈ lw_g := gw (List.mem_of_getElem? (i := 892) (by decide +kernel)) rfl
theorem ks_MO_next : Cond.selects "BookTreesModel" y_MO_next y_MO_next ∈ lw_g := gw (List.mem_of_getElem? (i := 893) (by decide +kernel)) rfl
def y_MO_rows : MethodName := ⟨"BookTreesModel", "rows", "(I)I"⟩
abbrev b_MO_rows : ByteArray := prog_8_method_26_code
theorem kd_MO_rows : Cond.code y_MO_rows b_MO_rows 3 (some .int) ∈ lw_g := gw (List.mem_of_getElem? (i := 898) (by decide +kernel)) rfl
theorem ki_MO_rows : Cond.instanceMethod y_MO_rows ∈ lw_g := gw (List.mem_of_getElem? (i := 896) (by decide +kernel)) rfl
theorem ks_MO_rows : Cond.selects "BookTreesModel" y_MO_rows y_MO_rows ∈ lw_g := gw (List.mem_of_getElem? (i := 897) (by decide +kernel)) rfl
def y_MO_kept : MethodName := ⟨"BookTreesModel", "kept", "(I)I"⟩
abbrev b_MO_kept : ByteArray := prog_8_method_27_code
theorem kd_MO_kept : Cond.code y_MO_kept b_MO_kept 2 (some .int) ∈ lw_g := gw (List.mem_of_getElem? (i := 902) (by decide +kernel)) rfl
theorem ki_MO_kept : Cond.instanceMethod y_MO_kept ∈ lw_g := gw (List.mem_of_getElem? (i := 900) (by decide +kernel)) rfl
theorem ks_MO_kept : Cond.selects "BookTreesModel" y_MO_kept y_MO_kept ∈ lw_g := gw (List.mem_of_getElem? (i := 901) (by decide +kernel)) rfl
def y_MO_write : MethodName := ⟨"BookTreesModel", "write", "(II)Z"⟩
abbrev b_MO_write : ByteArray := prog_8_method_28_code
theorem kd_MO_write : Cond.code y_MO_write b_MO_write 3 (some .boolean) ∈ lw_g := gw (List.mem_of_getElem? (i := 958) (by decide +kernel)) rfl
theorem ki_MO_write : Cond.instanceMethod y_MO_write ∈ lw_g := gw (List.mem_of_getElem? (i := 957) (by decide +kernel)) rfl
theorem ks_MO_write : Cond.selects "BookTreesModel" y_MO_write y_MO_write ∈ lw_g := gw (List.mem_of_getElem? (i := 49) (by decide +kernel)) rfl
def y_MO_begin : MethodName := ⟨"BookTreesModel", "begin", "(II)V"⟩
abbrev b_MO_begin : ByteArray := prog_8_method_29_code
theorem kd_MO_begin : Cond.code y_MO_begin b_MO_begin 4 none ∈ lw_g := gw (List.mem_of_getElem? (i := 946) (by decide +kernel)) rfl
theorem ki_MO_begin : Cond.instanceMethod y_MO_begin ∈ lw_g := gw (List.mem_of_getElem? (i := 945) (by decide +kernel)) rfl
theorem ks_MO_begin : Cond.selects "BookTreesModel" y_MO_begin y_MO_begin ∈ lw_g := gw (List.mem_of_getElem? (i := 46) (by decide +kernel)) rfl
def y_MO_putNumber : MethodName := ⟨"BookTreesModel", "putNumber", "(II)V"⟩
abbrev b_MO_putNumber : ByteArray := prog_8_method_30_code
theorem kd_MO_putNumber : Cond.code y_MO_putNumber b_MO_putNumber 4 none ∈ lw_g := gw (List.mem_of_getElem? (i := 950) (by decide +kernel)) rfl
theorem ki_MO_putNumber : Cond.instanceMethod y_MO_putNumber ∈ lw_g := gw (List.mem_of_getElem? (i := 949) (by decide +kernel)) rfl
theorem ks_MO_putNumber : Cond.selects "BookTreesModel" y_MO_putNumber y_MO_putNumber ∈ lw_g := gw (List.mem_of_getElem? (i := 47) (by decide +kernel)) rfl
def y_MO_finish : MethodName := ⟨"BookTreesModel", "finish", "()Z"⟩
abbrev b_MO_finish : ByteArray := prog_8_method_31_code
theorem kd_MO_finish : Cond.code y_MO_finish b_MO_finish 6 (some .boolean) ∈ lw_g := gw (List.mem_of_getElem? (i := 954) (by decide +kernel)) rfl
theorem ki_MO_finish : Cond.instanceMethod y_MO_finish ∈ lw_g := gw (List.mem_of_getElem? (i := 953) (by decide +kernel)) rfl
theorem ks_MO_finish : Cond.selects "BookTreesModel" y_MO_finish y_MO_finish ∈ lw_g := gw (List.mem_of_getElem? (i := 48) (by decide +kernel)) rfl
def y_MO_readLeaf : MethodName := ⟨"BookTreesModel", "readLeaf", "(II)Z"⟩
abbrev b_MO_readLeaf : ByteArray := prog_8_method_32_code
theorem kd_MO_readLeaf : Cond.code y_MO_readLeaf b_MO_readLeaf 4 (some .boolean) ∈ lw_g := gw (List.mem_of_getElem? (i := 926) (by decide +kernel)) rfl
theorem ki_MO_readLeaf : Cond.instanceMethod y_MO_readLeaf ∈ lw_g := gw (List.mem_of_getElem? (i := 925) (by decide +kernel)) rfl
theorem ks_MO_readLeaf : Cond.selects "BookTreesModel" y_MO_readLeaf y_MO_readLeaf ∈ lw_g := gw (List.mem_of_getElem? (i := 41) (by decide +kernel)) rfl
def y_MO_readNode : MethodName := ⟨"BookTreesModel", "readNode", "(I)Z"⟩
abbrev b_MO_readNode : ByteArray := prog_8_method_33_code
theorem kd_MO_readNode : Cond.code y_MO_readNode b_MO_readNode 7 (some .boolean) ∈ lw_g := gw (List.mem_of_getElem? (i := 922) (by decide +kernel)) rfl
theorem ki_MO_readNode : Cond.instanceMethod y_MO_readNode ∈ lw_g := gw (List.mem_of_getElem? (i := 921) (by decide +kernel)) rfl
theorem ks_MO_readNode : Cond.selects "BookTreesModel" y_MO_readNode y_MO_readNode ∈ lw_g := gw (List.mem_of_getElem? (i := 40) (by decide +kernel)) rfl
def y_MO_isNodeChanged : MethodName := ⟨"BookTreesModel", "isNodeChanged", "(I)Z"⟩
abbrev b_MO_isNodeChanged : ByteArray := prog_8_method_34_code
theorem kd_MO_isNodeChanged : Cond.code y_MO_isNodeChanged b_MO_isNodeChanged 4 (some .boolean) ∈ lw_g := gw (List.mem_of_getElem? (i := 918) (by decide +kernel)) rfl
theorem ki_MO_isNodeChanged : Cond.instanceMethod y_MO_isNodeChanged ∈ lw_g := gw (List.mem_of_getElem? (i := 917) (by decide +kernel)) rfl
theorem ks_MO_isNodeChanged : Cond.selects "BookTreesModel" y_MO_isNodeChanged y_MO_isNodeChanged ∈ lw_g := gw (List.mem_of_getElem? (i := 39) (by decide +kernel)) rfl
def y_MO_readTop : MethodName := ⟨"BookTreesModel", "readTop", "()Z"⟩
abbrev b_MO_readTop : ByteArray := prog_8_method_35_code
theorem kd_MO_readTop : Cond.code y_MO_readTop b_MO_readTop 4 (some .boolean) ∈ lw_g := gw (List.mem_of_getElem? (i := 914) (by decide +kernel)) rfl
theorem ki_MO_readTop : Cond.instanceMethod y_MO_readTop ∈ lw_g := gw (List.mem_of_getElem? (i := 913) (by decide +kernel)) rfl
theorem ks_MO_readTop : Cond.selects "BookTreesModel" y_MO_readTop y_MO_readTop ∈ lw_g := gw (List.mem_of_getElem? (i := 38) (by decide +kernel)) rfl
def y_MO_readAll : MethodName := ⟨"BookTreesModel", "readAll", "()Z"⟩
abbrev b_MO_readAll : ByteArray := prog_8_method_36_code
theorem kd_MO_readAll : Cond.code y_MO_readAll b_MO_readAll 3 (some .boolean) ∈ lw_g := gw (List.mem_of_getElem? (i := 910) (by decide +kernel)) rfl
theorem ki_MO_readAll : Cond.instanceMethod y_MO_readAll ∈ lw_g := gw (List.mem_of_getElem? (i := 909) (by decide +kernel)) rfl
theorem ks_MO_readAll : Cond.selects "BookTreesModel" y_MO_readAll y_MO_readAll ∈ lw_g := gw (List.mem_of_getElem? (i := 37) (by decide +kernel)) rfl
def y_MO_applyDraft : MethodName := ⟨"BookTreesModel", "applyDraft", "()V"⟩
abbrev b_MO_applyDraft : ByteArray := prog_8_method_37_code
theorem kd_MO_applyDraft : Cond.code y_MO_applyDraft b_MO_applyDraft 5 none ∈ lw_g := gw (List.mem_of_getElem? (i := 930) (by decide +kernel)) rfl
theorem ki_MO_applyDraft : Cond.instanceMethod y_MO_applyDraft ∈ lw_g := gw (List.mem_of_getElem? (i := 929) (by decide +kernel)) rfl
theorem ks_MO_applyDraft : Cond.selects "BookTreesModel" y_MO_applyDraft y_MO_applyDraft ∈ lw_g := gw (List.mem_of_getElem? (i := 42) (by decide +kernel)) rfl
def y_MO_settle : MethodName := ⟨"BookTreesModel", "settle", "()I"⟩
abbrev b_MO_settle : ByteArray := prog_8_method_38_code
theorem kd_MO_settle : Cond.code y_MO_settle b_MO_settle 5 (some .int) ∈ lw_g := gw (List.mem_of_getElem? (i := 934) (by decide +kernel)) rfl
theorem ki_MO_settle : Cond.instanceMethod y_MO_settle ∈ lw_g := gw (List.mem_of_getElem? (i := 933) (by decide +kernel)) rfl
theorem ks_MO_settle : Cond.selects "BookTreesModel" y_MO_settle y_MO_settle ∈ lw_g := gw (List.mem_of_getElem? (i := 43) (by decide +kernel)) rfl
def y_MO_writeLeaf : MethodName := ⟨"BookTreesModel", "writeLeaf", "(I)Z"⟩
abbrev b_MO_writeLeaf : ByteArray := prog_8_method_39_code
theorem kd_MO_writeLeaf : Cond.code y_MO_writeLeaf b_MO_writeLeaf 3 (some .boolean) ∈ lw_g := gw (List.mem_of_getElem? (i := 942) (by decide +kernel)) rfl
theorem ki_MO_writeLeaf : Cond.instanceMethod y_MO_writeLeaf ∈ lw_g := gw (List.mem_of_getElem? (i := 941) (by decide +kernel)) rfl
theorem ks_MO_writeLeaf : Cond.selects "BookTreesModel" y_MO_writeLeaf y_MO_writeLeaf ∈ lw_g := gw (List.mem_of_getElem? (i := 45) (by decide +kernel)) rfl
def y_MO_writeNode : MethodName := ⟨"BookTreesModel", "writeNode", "(I)Z"⟩
abbrev b_MO_writeNode : ByteArray := prog_8_method_40_code
theorem kd_MO_writeNode : Cond.code y_MO_writeNode b_MO_writeNode 3 (some .boolean) ∈ lw_g := gw (List.mem_of_getElem? (i := 962) (by decide +kernel)) rfl
theorem ki_MO_writeNode : Cond.instanceMethod y_MO_writeNode ∈ lw_g := gw (List.mem_of_getElem? (i := 961) (by decide +kernel)) rfl
theorem ks_MO_writeNode : Cond.selects "BookTreesModel" y_MO_writeNode y_MO_writeNode ∈ lw_g := gw (List.mem_of_getElem? (i := 50) (by decide +kernel)) rfl
def y_MO_writeTop : MethodName := ⟨"BookTreesModel", "writeTop", "()Z"⟩
abbrev b_MO_writeTop : ByteArray := prog_8_method_41_code
theorem kd_MO_writeTop : Cond.code y_MO_writeTop b_MO_writeTop 2 (some .boolean) ∈ lw_g := gw (List.mem_of_getElem? (i := 966) (by decide +kernel)) rfl
theorem ki_MO_writeTop : Cond.instanceMethod y_MO_writeTop ∈ lw_g := gw (List.mem_of_getElem? (i := 965) (by decide +kernel)) rfl
theorem ks_MO_writeTop : Cond.selects "BookTreesModel" y_MO_writeTop y_MO_writeTop ∈ lw_g := gw (List.mem_of_getElem? (i := 51) (by decide +kernel)) rfl
def y_MO_writeRoot : MethodName := ⟨"BookTreesModel", "writeRoot", "(I)Z"⟩
abbrev b_MO_writeRoot : ByteArray := prog_8_method_42_code
theorem kd_MO_writeRoot : Cond.code y_MO_writeRoot b_MO_writeRoot 3 (some .boolean) ∈ lw_g := gw (List.mem_of_getElem? (i := 970) (by decide +kernel)) rfl
theorem ki_MO_writeRoot : Cond.instanceMethod y_MO_writeRoot ∈ lw_g := gw (List.mem_of_getElem? (i := 969) (by decide +kernel)) rfl
theorem ks_MO_writeRoot : Cond.selects "BookTreesModel" y_MO_writeRoot y_MO_writeRoot ∈ lw_g := gw (List.mem_of_getElem? (i := 52) (by decide +kernel)) rfl
def y_MO_writeAll : MethodName := ⟨"BookTreesModel", "writeAll", "(I)I"⟩
abbrev b_MO_writeAll : ByteArray := prog_8_method_43_code
theorem kd_MO_writeAll : Cond.code y_MO_writeAll b_MO_writeAll 5 (some .int) ∈ lw_g := gw (List.mem_of_getElem? (i := 938) (by decide +kernel)) rfl
theorem ki_MO_writeAll : Cond.instanceMethod y_MO_writeAll ∈ lw_g := gw (List.mem_of_getElem? (i := 937) (by decide +kernel)) rfl
theorem ks_MO_writeAll : Cond.selects "BookTreesModel" y_MO_writeAll y_MO_writeAll ∈ lw_g := gw (List.mem_of_getElem? (i := 44) (by decide +kernel)) rfl
def y_MO_commit : MethodName := ⟨"BookTreesModel", "commit", "()I"⟩
abbrev b_MO_commit : ByteArray := prog_8_method_44_code
theorem kd_MO_commit : Cond.code y_MO_commit b_MO_commit 2 (some .int) ∈ lw_g := gw (List.mem_of_getElem? (i := 906) (by decide +kernel)) rfl
theorem ki_MO_commit : Cond.instanceMethod y_MO_commit ∈ lw_g := gw (List.mem_of_getElem? (i := 904) (by decide +kernel)) rfl
theorem ks_MO_commit : Cond.selects "BookTreesModel" y_MO_commit y_MO_commit ∈ lw_g := gw (List.mem_of_getElem? (i := 905) (by decide +kernel)) rfl
def y_MO_copy : MethodName := ⟨"BookTreesModel", "copy", "()I"⟩
abbrev b_MO_copy : ByteArray := prog_8_method_45_code
theorem kd_MO_copy : Cond.code y_MO_copy b_MO_copy 2 (some .int) ∈ lw_g := gw (List.mem_of_getElem? (i := 974) (by decide +kernel)) rfl
theorem ki_MO_copy : Cond.instanceMethod y_MO_copy ∈ lw_g := gw (List.mem_of_getElem? (i := 972) (by decide +kernel)) rfl
theorem ks_MO_copy : Cond.selects "BookTreesModel" y_MO_copy y_MO_copy ∈ lw_g := gw (List.mem_of_getElem? (i := 973) (by decide +kernel)) rfl
def y_MO_crash : MethodName := ⟨"BookTreesModel", "crash", "(I)V"⟩
abbrev b_MO_crash : ByteArray := prog_8_method_46_code
theorem kd_MO_crash : Cond.code y_MO_crash b_MO_crash 2 none ∈ lw_g := gw (List.mem_of_getElem? (i := 978) (by decide +kernel)) rfl
theorem ki_MO_crash : Cond.instanceMethod y_MO_crash ∈ lw_g := gw (List.mem_of_getElem? (i := 976) (by decide +kernel)) rfl
theorem ks_MO_crash : Cond.selects "BookTreesModel" y_MO_crash y_MO_crash ∈ lw_g := gw (List.mem_of_getElem? (i := 977) (by decide +kernel)) rfl
def y_MO_isWhole : MethodName := ⟨"BookTreesModel", "isWhole", "(I)Z"⟩
abbrev b_MO_isWhole : ByteArray := prog_8_method_47_code
theorem kd_MO_isWhole : Cond.code y_MO_isWhole b_MO_isWhole 6 (some .boolean) ∈ lw_g := gw (List.mem_of_getElem? (i := 987) (by decide +kernel)) rfl
theorem ki_MO_isWhole : Cond.instanceMethod y_MO_isWhole ∈ lw_g := gw (List.mem_of_getElem? (i := 986) (by decide +kernel)) rfl
theorem ks_MO_isWhole : Cond.selects "BookTreesModel" y_MO_isWhole y_MO_isWhole ∈ lw_g := gw (List.mem_of_getElem? (i := 53) (by decide +kernel)) rfl
def y_MO_keep : MethodName := ⟨"BookTreesModel", "keep", "(II)V"⟩
abbrev b_MO_keep : ByteArray := prog_8_method_48_code
theorem kd_MO_keep : Cond.code y_MO_keep b_MO_keep 5 none ∈ lw_g := gw (List.mem_of_getElem? (i := 992) (by decide +kernel)) rfl
theorem ki_MO_keep : Cond.instanceMethod y_MO_keep ∈ lw_g := gw (List.mem_of_getElem? (i := 991) (by decide +kernel)) rfl
theorem ks_MO_keep : Cond.selects "BookTreesModel" y_MO_keep y_MO_keep ∈ lw_g := gw (List.mem_of_getElem? (i := 54) (by decide +kernel)) rfl
def y_MO_reopen : MethodName := ⟨"BookTreesModel", "reopen", "()I"⟩
abbrev b_MO_reopen : ByteArray := prog_8_method_49_code
theorem kd_MO_reopen : Cond.code y_MO_reopen b_MO_reopen 3 (some .int) ∈ lw_g := gw (List.mem_of_getElem? (i := 983) (by decide +kernel)) rfl
theorem ki_MO_reopen : Cond.instanceMethod y_MO_reopen ∈ lw_g := gw (List.mem_of_getElem? (i := 981) (by decide +kernel)) rfl
theorem ks_MO_reopen : Cond.selects "BookTreesModel" y_MO_reopen y_MO_reopen ∈ lw_g := gw (List.mem_of_getElem? (i := 982) (by decide +kernel)) rfl
def y_MO_isDown : MethodName := ⟨"BookTreesModel", "isDown", "()Z"⟩
abbrev b_MO_isDown : ByteArray := prog_8_method_50_code
theorem kd_MO_isDown : Cond.code y_MO_isDown b_MO_isDown 1 (some .boolean) ∈ lw_g := gw (List.mem_of_getElem? (i := 996) (by decide +kernel)) rfl
theorem ki_MO_isDown : Cond.instanceMethod y_MO_isDown ∈ lw_g := gw (List.mem_of_getElem? (i := 994) (by decide +kernel)) rfl
theorem ks_MO_isDown : Cond.selects "BookTreesModel" y_MO_isDown y_MO_isDown ∈ lw_g := gw (List.mem_of_getElem? (i := 995) (by decide +kernel)) rfl
def y_MO_byteAt : MethodName := ⟨"BookTreesModel", "byteAt", "(II)I"⟩
abbrev b_MO_byteAt : ByteArray := prog_8_method_51_code
theorem kd_MO_byteAt : Cond.code y_MO_byteAt b_MO_byteAt 3 (some .int) ∈ lw_g := gw (List.mem_of_getElem? (i := 1000) (by decide +kernel)) rfl
theorem ki_MO_byteAt : Cond.instanceMethod y_MO_byteAt ∈ lw_g := gw (List.mem_of_getElem? (i := 998) (by decide +kernel)) rfl
theorem ks_MO_byteAt : Cond.selects "BookTreesModel" y_MO_byteAt y_MO_byteAt ∈ lw_g := gw (List.mem_of_getElem? (i := 999) (by decide +kernel)) rfl
def y_MO_poke : MethodName := ⟨"BookTreesModel", "poke", "(III)I"⟩
abbrev b_MO_poke : ByteArray := prog_8_method_52_code
theorem kd_MO_poke : Cond.code y_MO_poke b_MO_poke 5 (some .int) ∈ lw_g := gw (List.mem_of_getElem? (i := 1004) (by decide +kernel)) rfl
theorem ki_MO_poke : Cond.instanceMethod y_MO_poke ∈ lw_g := gw (List.mem_of_getElem? (i := 1002) (by decide +kernel)) rfl
theorem ks_MO_poke : Cond.selects "BookTreesModel" y_MO_poke y_MO_poke ∈ lw_g := gw (List.mem_of_getElem? (i := 1003) (by decide +kernel)) rfl
def y_MO_badAt : MethodName := ⟨"BookTreesModel", "badAt", "(I)I"⟩
abbrev b_MO_badAt : ByteArray := prog_8_method_53_code
theorem kd_MO_badAt : Cond.code y_MO_badAt b_MO_badAt 5 (some .int) ∈ lw_g := gw (List.mem_of_getElem? (i := 1008) (by decide +kernel)) rfl
theorem ki_MO_badAt : Cond.instanceMethod y_MO_badAt ∈ lw_g := gw (List.mem_of_getElem? (i := 1006) (by decide +kernel)) rfl
theorem ks_MO_badAt : Cond.selects "BookTreesModel" y_MO_badAt y_MO_badAt ∈ lw_g := gw (List.mem_of_getElem? (i := 1007) (by decide +kernel)) rfl
def y_MO_told : MethodName := ⟨"BookTreesModel", "told", "(I)I"⟩
abbrev b_MO_told : ByteArray := prog_8_method_54_code
theorem kd_MO_told : Cond.code y_MO_told b_MO_told 2 (some .int) ∈ lw_g := gw (List.mem_of_getElem? (i := 1012) (by decide +kernel)) rfl
theorem ki_MO_told : Cond.instanceMethod y_MO_told ∈ lw_g := gw (List.mem_of_getElem? (i := 1010) (by decide +kernel)) rfl
theorem ks_MO_told : Cond.selects "BookTreesModel" y_MO_told y_MO_told ∈ lw_g := gw (List.mem_of_getElem? (i := 1011) (by decide +kernel)) rfl
def y_DR_init : MethodName := ⟨"BookTrees$Draft", "<init>", "()V"⟩
abbrev b_DR_init : ByteArray := prog_2_method_1_code
theorem kd_DR_init : Cond.code y_DR_init b_DR_init 1 none ∈ lw_g := gw (List.mem_of_getElem? (i := 134) (by decide +kernel)) rfl
theorem ki_DR_init : Cond.instanceMethod y_DR_init ∈ lw_g := gw (List.mem_of_getElem? (i := 133) (by decide +kernel)) rfl
def y_DR_size : MethodName := ⟨"BookTrees$Draft", "size", "()I"⟩
abbrev b_DR_size : ByteArray := prog_2_method_2_code
theorem kd_DR_size : Cond.code y_DR_size b_DR_size 1 (some .int) ∈ lw_g := gw (List.mem_of_getElem? (i := 429) (by decide +kernel)) rfl
theorem ki_DR_size : Cond.instanceMethod y_DR_size ∈ lw_g := gw (List.mem_of_getElem? (i := 427) (by decide +kernel)) rfl
theorem ks_DR_size : Cond.selects "BookTrees$Draft" y_DR_size y_DR_size ∈ lw_g := gw (List.mem_of_getElem? (i := 428) (by decide +kernel)) rfl
def y_DR_has : MethodName := ⟨"BookTrees$Draft", "has", "(I)Z"⟩
abbrev b_DR_has : ByteArray := prog_2_method_3_code
theorem kd_DR_has : Cond.code y_DR_has b_DR_has 2 (some .boolean) ∈ lw_g := gw (List.mem_of_getElem? (i := 425) (by decide +kernel)) rfl
theorem ki_DR_has : Cond.instanceMethod y_DR_has ∈ lw_g := gw (List.mem_of_getElem? (i := 423) (by decide +kernel)) rfl
theorem ks_DR_has : Cond.selects "BookTrees$Draft" y_DR_has y_DR_has ∈ lw_g := gw (List.mem_of_getElem? (i := 424) (by decide +kernel)) rfl
def y_DR_isDropped : MethodName := ⟨"BookTrees$Draft", "isDropped", "(I)Z"⟩
abbrev b_DR_isDropped : ByteArray := prog_2_method_4_code
theorem kd_DR_isDropped : Cond.code y_DR_isDropped b_DR_isDropped 2 (some .boolean) ∈ lw_g := gw (List.mem_of_getElem? (i := 458) (by decide +kernel)) rfl
theorem ki_DR_isDropped : Cond.instanceMethod y_DR_isDropped ∈ lw_g := gw (List.mem_of_getElem? (i := 456) (by decide +kernel)) rfl
theorem ks_DR_isDropped : Cond.selects "BookTrees$Draft" y_DR_isDropped y_DR_isDropped ∈ lw_g := gw (List.mem_of_getElem? (i := 457) (by decide +kernel)) rfl
def y_DR_valueOf : MethodName := ⟨"BookTrees$Draft", "valueOf", "(I)I"⟩
abbrev b_DR_valueOf : ByteArray := prog_2_method_5_code
theorem kd_DR_valueOf : Cond.code y_DR_valueOf b_DR_valueOf 2 (some .int) ∈ lw_g := gw (List.mem_of_getElem? (i := 464) (by decide +kernel)) rfl
theorem ki_DR_valueOf : Cond.instanceMethod y_DR_valueOf ∈ lw_g := gw (List.mem_of_getElem? (i := 462) (by decide +kernel)) rfl
theorem ks_DR_valueOf : Cond.selects "BookTrees$Draft" y_DR_valueOf y_DR_valueOf ∈ lw_g := gw (List.mem_of_getElem? (i := 463) (by decide +kernel)) rfl
def y_DR_setValue : MethodName := ⟨"BookTrees$Draft", "setValue", "(II)V"⟩
abbrev b_DR_setValue : ByteArray := prog_2_method_6_code
theorem kd_DR_setValue : Cond.code y_DR_setValue b_DR_setValue 3 none ∈ lw_g := gw (List.mem_of_getElem? (i := 417) (by decide +kernel)) rfl
theorem ki_DR_setValue : Cond.instanceMethod y_DR_setValue ∈ lw_g := gw (List.mem_of_getElem? (i := 415) (by decide +kernel)) rfl
theorem ks_DR_setValue : Cond.selects "BookTrees$Draft" y_DR_setValue y_DR_setValue ∈ lw_g := gw (List.mem_of_getElem? (i := 416) (by decide +kernel)) rfl
def y_DR_setDropped : MethodName := ⟨"BookTrees$Draft", "setDropped", "(I)V"⟩
abbrev b_DR_setDropped : ByteArray := prog_2_method_7_code
theorem kd_DR_setDropped : Cond.code y_DR_setDropped b_DR_setDropped 2 none ∈ lw_g := gw (List.mem_of_getElem? (i := 440) (by decide +kernel)) rfl
theorem ki_DR_setDropped : Cond.instanceMethod y_DR_setDropped ∈ lw_g := gw (List.mem_of_getElem? (i := 438) (by decide +kernel)) rfl
theorem ks_DR_setDropped : Cond.selects "BookTrees$Draft" y_DR_setDropped y_DR_setDropped ∈ lw_g := gw (List.mem_of_getElem? (i := 439) (by decide +kernel)) rfl
def y_DR_clear : MethodName := ⟨"BookTrees$Draft", "clear", "()V"⟩
abbrev b_DR_clear : ByteArray := prog_2_method_8_code
theorem kd_DR_clear : Cond.code y_DR_clear b_DR_clear 2 none ∈ lw_g := gw (List.mem_of_getElem? (i := 215) (by decide +kernel)) rfl
theorem ki_DR_clear : Cond.instanceMethod y_DR_clear ∈ lw_g := gw (List.mem_of_getElem? (i := 213) (by decide +kernel)) rfl
theorem ks_DR_clear : Cond.selects "BookTrees$Draft" y_DR_clear y_DR_clear ∈ lw_g := gw (List.mem_of_getElem? (i := 214) (by decide +kernel)) rfl
def y_DR_note : MethodName := ⟨"BookTrees$Draft", "note", "(II)V"⟩
abbrev b_DR_note : ByteArray := prog_2_method_9_code
theorem kd_DR_note : Cond.code y_DR_note b_DR_note 3 none ∈ lw_g := gw (List.mem_of_getElem? (i := 421) (by decide +kernel)) rfl
theorem ki_DR_note : Cond.instanceMethod y_DR_note ∈ lw_g := gw (List.mem_of_getElem? (i := 420) (by decide +kernel)) rfl
theorem ks_DR_note : Cond.selects "BookTrees$Draft" y_DR_note y_DR_note ∈ lw_g := gw (List.mem_of_getElem? (i := 9) (by decide +kernel)) rfl
def y_PG_init : MethodName := ⟨"BookTrees$Pages", "<init>", "()V"⟩
abbrev b_PG_init : ByteArray := prog_3_method_1_code
theorem kd_PG_init : Cond.code y_PG_init b_PG_init 1 none ∈ lw_g := gw (List.mem_of_getElem? (i := 167) (by decide +kernel)) rfl
theorem ki_PG_init : Cond.instanceMethod y_PG_init ∈ lw_g := gw (List.mem_of_getElem? (i := 166) (by decide +kernel)) rfl
def y_PG_clear : MethodName := ⟨"BookTrees$Pages", "clear", "()V"⟩
abbrev b_PG_clear : ByteArray := prog_3_method_2_code
theorem kd_PG_clear : Cond.code y_PG_clear b_PG_clear 2 none ∈ lw_g := gw (List.mem_of_getElem? (i := 505) (by decide +kernel)) rfl
theorem ki_PG_clear : Cond.instanceMethod y_PG_clear ∈ lw_g := gw (List.mem_of_getElem? (i := 503) (by decide +kernel)) rfl
theorem ks_PG_clear : Cond.selects "BookTrees$Pages" y_PG_clear y_PG_clear ∈ lw_g := gw (List.mem_of_getElem? (i := 504) (by decide +kernel)) rfl
def y_PG_markAll : MethodName := ⟨"BookTrees$Pages", "markAll", "()V"⟩
abbrev b_PG_markAll : ByteArray := prog_3_method_3_code
theorem kd_PG_markAll : Cond.code y_PG_markAll b_PG_markAll 2 none ∈ lw_g := gw (List.mem_of_getElem? (i := 608) (by decide +kernel)) rfl
theorem ki_PG_markAll : Cond.instanceMethod y_PG_markAll ∈ lw_g := gw (List.mem_of_getElem? (i := 606) (by decide +kernel)) rfl
theorem ks_PG_markAll : Cond.selects "BookTrees$Pages" y_PG_markAll y_PG_markAll ∈ lw_g := gw (List.mem_of_getElem? (i := 607) (by decide +kernel)) rfl
def y_PG_markKeysOf : MethodName := ⟨"BookTrees$Pages", "markKeysOf", "(LBookTrees$Draft;)V"⟩
abbrev b_PG_markKeysOf : ByteArray := prog_3_method_4_code
theorem kd_PG_markKeysOf : Cond.code y_PG_markKeysOf b_PG_markKeysOf 4 none ∈ lw_g := gw (List.mem_of_getElem? (i := 509) (by decide +kernel)) rfl
theorem ki_PG_markKeysOf : Cond.instanceMethod y_PG_markKeysOf ∈ lw_g := gw (List.mem_of_getElem? (i := 507) (by decide +kernel)) rfl
theorem ks_PG_markKeysOf : Cond.selects "BookTrees$Pages" y_PG_markKeysOf y_PG_markKeysOf ∈ lw_g := gw (List.mem_of_getElem? (i := 508) (by decide +kernel)) rfl
def y_PG_readTree : MethodName := ⟨"BookTrees$Pages", "readTree", "(LBookTrees$Roll;I)Z"⟩
abbrev b_PG_readTree : ByteArray := prog_3_method_5_code
theorem kd_PG_readTree : Cond.code y_PG_readTree b_PG_readTree 4 (some .boolean) ∈ lw_g := gw (List.mem_of_getElem? (i := 517) (by decide +kernel)) rfl
theorem ki_PG_readTree : Cond.instanceMethod y_PG_readTree ∈ lw_g := gw (List.mem_of_getElem? (i := 515) (by decide +kernel)) rfl
theorem ks_PG_readTree : Cond.selects "BookTrees$Pages" y_PG_readTree y_PG_readTree ∈ lw_g := gw (List.mem_of_getElem? (i := 516) (by decide +kernel)) rfl
def y_PG_change : MethodName := ⟨"BookTrees$Pages", "change", "(LBookTrees$Draft;)V"⟩
abbrev b_PG_change : ByteArray := prog_3_method_6_code
theorem kd_PG_change : Cond.code y_PG_change b_PG_change 5 none ∈ lw_g := gw (List.mem_of_getElem? (i := 546) (by decide +kernel)) rfl
theorem ki_PG_change : Cond.instanceMethod y_PG_change ∈ lw_g := gw (List.mem_of_getElem? (i := 544) (by decide +kernel)) rfl
theorem ks_PG_change : Cond.selects "BookTrees$Pages" y_PG_change y_PG_change ∈ lw_g := gw (List.mem_of_getElem? (i := 545) (by decide +kernel)) rfl
def y_PG_place : MethodName := ⟨"BookTrees$Pages", "place", "(I)I"⟩
abbrev b_PG_place : ByteArray := prog_3_method_7_code
theorem kd_PG_place : Cond.code y_PG_place b_PG_place 5 (some .int) ∈ lw_g := gw (List.mem_of_getElem? (i := 560) (by decide +kernel)) rfl
theorem ki_PG_place : Cond.instanceMethod y_PG_place ∈ lw_g := gw (List.mem_of_getElem? (i := 558) (by decide +kernel)) rfl
theorem ks_PG_place : Cond.selects "BookTrees$Pages" y_PG_place y_PG_place ∈ lw_g := gw (List.mem_of_getElem? (i := 559) (by decide +kernel)) rfl
def y_PG_writeTree : MethodName := ⟨"BookTrees$Pages", "writeTree", "(LBookTrees$Roll;I)Z"⟩
abbrev b_PG_writeTree : ByteArray := prog_3_method_8_code
theorem kd_PG_writeTree : Cond.code y_PG_writeTree b_PG_writeTree 4 (some .boolean) ∈ lw_g := gw (List.mem_of_getElem? (i := 572) (by decide +kernel)) rfl
theorem ki_PG_writeTree : Cond.instanceMethod y_PG_writeTree ∈ lw_g := gw (List.mem_of_getElem? (i := 570) (by decide +kernel)) rfl
theorem ks_PG_writeTree : Cond.selects "BookTrees$Pages" y_PG_writeTree y_PG_writeTree ∈ lw_g := gw (List.mem_of_getElem? (i := 571) (by decide +kernel)) rfl
def y_PG_writeRoot : MethodName := ⟨"BookTrees$Pages", "writeRoot", "(LBookTrees$Roll;III)Z"⟩
abbrev b_PG_writeRoot : ByteArray := prog_3_method_9_code
theorem kd_PG_writeRoot : Cond.code y_PG_writeRoot b_PG_writeRoot 5 (some .boolean) ∈ lw_g := gw (List.mem_of_getElem? (i := 597) (by decide +kernel)) rfl
theorem ki_PG_writeRoot : Cond.instanceMethod y_PG_writeRoot ∈ lw_g := gw (List.mem_of_getElem? (i := 595) (by decide +kernel)) rfl
theorem ks_PG_writeRoot : Cond.selects "BookTrees$Pages" y_PG_writeRoot y_PG_writeRoot ∈ lw_g := gw (List.mem_of_getElem? (i := 596) (by decide +kernel)) rfl
def y_PG_readPage : MethodName := ⟨"BookTrees$Pages", "readPage", "(LBookTrees$Roll;II)Z"⟩
abbrev b_PG_readPage : ByteArray := prog_3_method_10_code
theorem kd_PG_readPage : Cond.code y_PG_readPage b_PG_readPage 5 (some .boolean) ∈ lw_g := gw (List.mem_of_getElem? (i := 524) (by decide +kernel)) rfl
theorem ki_PG_readPage : Cond.instanceMethod y_PG_readPage ∈ lw_g := gw (List.mem_of_getElem? (i := 523) (by decide +kernel)) rfl
theorem ks_PG_readPage : Cond.selects "BookTrees$Pages" y_PG_readPage y_PG_readPage ∈ lw_g := gw (List.mem_of_getElem? (i := 13) (by decide +kernel)) rfl
def y_PG_setEntry : MethodName := ⟨"BookTrees$Pages", "setEntry", "(IIZI)V"⟩
abbrev b_PG_setEntry : ByteArray := prog_3_method_11_code
theorem kd_PG_setEntry : Cond.code y_PG_setEntry b_PG_setEntry 6 none ∈ lw_g := gw (List.mem_of_getElem? (i := 531) (by decide +kernel)) rfl
theorem ki_PG_setEntry : Cond.instanceMethod y_PG_setEntry ∈ lw_g := gw (List.mem_of_getElem? (i := 530) (by decide +kernel)) rfl
theorem ks_PG_setEntry : Cond.selects "BookTrees$Pages" y_PG_setEntry y_PG_setEntry ∈ lw_g := gw (List.mem_of_getElem? (i := 14) (by decide +kernel)) rfl
def y_PG_bitOf : MethodName := ⟨"BookTrees$Pages", "bitOf", "(II)I"⟩
abbrev b_PG_bitOf : ByteArray := prog_3_method_12_code
theorem kd_PG_bitOf : Cond.code y_PG_bitOf b_PG_bitOf 3 (some .int) ∈ lw_g := gw (List.mem_of_getElem? (i := 539) (by decide +kernel)) rfl
theorem ki_PG_bitOf : Cond.instanceMethod y_PG_bitOf ∈ lw_g := gw (List.mem_of_getElem? (i := 538) (by decide +kernel)) rfl
theorem ks_PG_bitOf : Cond.selects "BookTrees$Pages" y_PG_bitOf y_PG_bitOf ∈ lw_g := gw (List.mem_of_getElem? (i := 16) (by decide +kernel)) rfl
def y_PG_isInParent : MethodName := ⟨"BookTrees$Pages", "isInParent", "(I)Z"⟩
abbrev b_PG_isInParent : ByteArray := prog_3_method_13_code
theorem kd_PG_isInParent : Cond.code y_PG_isInParent b_PG_isInParent 2 (some .boolean) ∈ lw_g := gw (List.mem_of_getElem? (i := 535) (by decide +kernel)) rfl
theorem ki_PG_isInParent : Cond.instanceMethod y_PG_isInParent ∈ lw_g := gw (List.mem_of_getElem? (i := 534) (by decide +kernel)) rfl
theorem ks_PG_isInParent : Cond.selects "BookTrees$Pages" y_PG_isInParent y_PG_isInParent ∈ lw_g := gw (List.mem_of_getElem? (i := 15) (by decide +kernel)) rfl
def y_PG_parentOf : MethodName := ⟨"BookTrees$Pages", "parentOf", "(I)I"⟩
abbrev b_PG_parentOf : ByteArray := prog_3_method_14_code
theorem kd_PG_parentOf : Cond.code y_PG_parentOf b_PG_parentOf 1 (some .int) ∈ lw_g := gw (List.mem_of_getElem? (i := 513) (by decide +kernel)) rfl
theorem kt_PG_parentOf : Cond.static y_PG_parentOf ∈ lw_g := gw (List.mem_of_getElem? (i := 512) (by decide +kernel)) rfl
def y_PG_placeInParent : MethodName := ⟨"BookTrees$Pages", "placeInParent", "(I)I"⟩
abbrev b_PG_placeInParent : ByteArray := prog_3_method_15_code
theorem kd_PG_placeInParent : Cond.code y_PG_placeInParent b_PG_placeInParent 1 (some .int) ∈ lw_g := gw (List.mem_of_getElem? (i := 542) (by decide +kernel)) rfl
theorem kt_PG_placeInParent : Cond.static y_PG_placeInParent ∈ lw_g := gw (List.mem_of_getElem? (i := 541) (by decide +kernel)) rfl
def y_PG_kindOf : MethodName := ⟨"BookTrees$Pages", "kindOf", "(I)I"⟩
abbrev b_PG_kindOf : ByteArray := prog_3_method_16_code
theorem kd_PG_kindOf : Cond.code y_PG_kindOf b_PG_kindOf 1 (some .int) ∈ lw_g := gw (List.mem_of_getElem? (i := 527) (by decide +kernel)) rfl
theorem kt_PG_kindOf : Cond.static y_PG_kindOf ∈ lw_g := gw (List.mem_of_getElem? (i := 526) (by decide +kernel)) rfl
def y_PW_init : MethodName := ⟨"BookTrees$Power", "<init>", "()V"⟩
abbrev b_PW_init : ByteArray := prog_4_method_1_code
theorem kd_PW_init : Cond.code y_PW_init b_PW_init 1 none ∈ lw_g := gw (List.mem_of_getElem? (i := 82) (by decide +kernel)) rfl
theorem ki_PW_init : Cond.instanceMethod y_PW_init ∈ lw_g := gw (List.mem_of_getElem? (i := 81) (by decide +kernel)) rfl
def y_PW_hasFailed : MethodName := ⟨"BookTrees$Power", "hasFailed", "()Z"⟩
abbrev b_PW_hasFailed : ByteArray := prog_4_method_2_code
theorem kd_PW_hasFailed : Cond.code y_PW_hasFailed b_PW_hasFailed 1 (some .boolean) ∈ lw_g := gw (List.mem_of_getElem? (i := 307) (by decide +kernel)) rfl
theorem ki_PW_hasFailed : Cond.instanceMethod y_PW_hasFailed ∈ lw_g := gw (List.mem_of_getElem? (i := 305) (by decide +kernel)) rfl
theorem ks_PW_hasFailed : Cond.selects "BookTrees$Power" y_PW_hasFailed y_PW_hasFailed ∈ lw_g := gw (List.mem_of_getElem? (i := 306) (by decide +kernel)) rfl
def y_PW_written : MethodName := ⟨"BookTrees$Power", "written", "()I"⟩
abbrev b_PW_written : ByteArray := prog_4_method_3_code
theorem kd_PW_written : Cond.code y_PW_written b_PW_written 1 (some .int) ∈ lw_g := gw (List.mem_of_getElem? (i := 711) (by decide +kernel)) rfl
theorem ki_PW_written : Cond.instanceMethod y_PW_written ∈ lw_g := gw (List.mem_of_getElem? (i := 709) (by decide +kernel)) rfl
theorem ks_PW_written : Cond.selects "BookTrees$Power" y_PW_written y_PW_written ∈ lw_g := gw (List.mem_of_getElem? (i := 710) (by decide +kernel)) rfl
def y_PW_failAfter : MethodName := ⟨"BookTrees$Power", "failAfter", "(I)V"⟩
abbrev b_PW_failAfter : ByteArray := prog_4_method_4_code
theorem kd_PW_failAfter : Cond.code y_PW_failAfter b_PW_failAfter 2 none ∈ lw_g := gw (List.mem_of_getElem? (i := 669) (by decide +kernel)) rfl
theorem ki_PW_failAfter : Cond.instanceMethod y_PW_failAfter ∈ lw_g := gw (List.mem_of_getElem? (i := 667) (by decide +kernel)) rfl
theorem ks_PW_failAfter : Cond.selects "BookTrees$Power" y_PW_failAfter y_PW_failAfter ∈ lw_g := gw (List.mem_of_getElem? (i := 668) (by decide +kernel)) rfl
def y_PW_restore : MethodName := ⟨"BookTrees$Power", "restore", "()V"⟩
abbrev b_PW_restore : ByteArray := prog_4_method_5_code
theorem kd_PW_restore : Cond.code y_PW_restore b_PW_restore 1 none ∈ lw_g := gw (List.mem_of_getElem? (i := 211) (by decide +kernel)) rfl
theorem ki_PW_restore : Cond.instanceMethod y_PW_restore ∈ lw_g := gw (List.mem_of_getElem? (i := 209) (by decide +kernel)) rfl
theorem ks_PW_restore : Cond.selects "BookTrees$Power" y_PW_restore y_PW_restore ∈ lw_g := gw (List.mem_of_getElem? (i := 210) (by decide +kernel)) rfl
def y_PW_spend : MethodName := ⟨"BookTrees$Power", "spend", "(I)I"⟩
abbrev b_PW_spend : ByteArray := prog_4_method_6_code
theorem kd_PW_spend : Cond.code y_PW_spend b_PW_spend 3 (some .int) ∈ lw_g := gw (List.mem_of_getElem? (i := 588) (by decide +kernel)) rfl
theorem ki_PW_spend : Cond.instanceMethod y_PW_spend ∈ lw_g := gw (List.mem_of_getElem? (i := 586) (by decide +kernel)) rfl
theorem ks_PW_spend : Cond.selects "BookTrees$Power" y_PW_spend y_PW_spend ∈ lw_g := gw (List.mem_of_getElem? (i := 587) (by decide +kernel)) rfl
def y_RL_init : MethodName := ⟨"BookTrees$Roll", "<init>", "(ILBookTrees$Power;)V"⟩
abbrev b_RL_init : ByteArray := prog_5_method_1_code
theorem kd_RL_init : Cond.code y_RL_init b_RL_init 3 none ∈ lw_g := gw (List.mem_of_getElem? (i := 98) (by decide +kernel)) rfl
theorem ki_RL_init : Cond.instanceMethod y_RL_init ∈ lw_g := gw (List.mem_of_getElem? (i := 97) (by decide +kernel)) rfl
def y_RL_slots : MethodName := ⟨"BookTrees$Roll", "slots", "()I"⟩
abbrev b_RL_slots : ByteArray := prog_5_method_2_code
theorem kd_RL_slots : Cond.code y_RL_slots b_RL_slots 1 (some .int) ∈ lw_g := gw (List.mem_of_getElem? (i := 284) (by decide +kernel)) rfl
theorem ki_RL_slots : Cond.instanceMethod y_RL_slots ∈ lw_g := gw (List.mem_of_getElem? (i := 282) (by decide +kernel)) rfl
theorem ks_RL_slots : Cond.selects "BookTrees$Roll" y_RL_slots y_RL_slots ∈ lw_g := gw (List.mem_of_getElem? (i := 283) (by decide +kernel)) rfl
def y_RL_start : MethodName := ⟨"BookTrees$Roll", "start", "()I"⟩
abbrev b_RL_start : ByteArray := prog_5_method_3_code
theorem kd_RL_start : Cond.code y_RL_start b_RL_start 1 (some .int) ∈ lw_g := gw (List.mem_of_getElem? (i := 568) (by decide +kernel)) rfl
theorem ki_RL_start : Cond.instanceMethod y_RL_start ∈ lw_g := gw (List.mem_of_getElem? (i := 566) (by decide +kernel)) rfl
theorem ks_RL_start : Cond.selects "BookTrees$Roll" y_RL_start y_RL_start ∈ lw_g := gw (List.mem_of_getElem? (i := 567) (by decide +kernel)) rfl
def y_RL_end : MethodName := ⟨"BookTrees$Roll", "end", "()I"⟩
abbrev b_RL_end : ByteArray := prog_5_method_4_code
theorem kd_RL_end : Cond.code y_RL_end b_RL_end 1 (some .int) ∈ lw_g := gw (List.mem_of_getElem? (i := 556) (by decide +kernel)) rfl
theorem ki_RL_end : Cond.instanceMethod y_RL_end ∈ lw_g := gw (List.mem_of_getElem? (i := 554) (by decide +kernel)) rfl
theorem ks_RL_end : Cond.selects "BookTrees$Roll" y_RL_end y_RL_end ∈ lw_g := gw (List.mem_of_getElem? (i := 555) (by decide +kernel)) rfl
def y_RL_use : MethodName := ⟨"BookTrees$Roll", "use", "(II)V"⟩
abbrev b_RL_use : ByteArray := prog_5_method_5_code
theorem kd_RL_use : Cond.code y_RL_use b_RL_use 3 none ∈ lw_g := gw (List.mem_of_getElem? (i := 274) (by decide +kernel)) rfl
theorem ki_RL_use : Cond.instanceMethod y_RL_use ∈ lw_g := gw (List.mem_of_getElem? (i := 272) (by decide +kernel)) rfl
theorem ks_RL_use : Cond.selects "BookTrees$Roll" y_RL_use y_RL_use ∈ lw_g := gw (List.mem_of_getElem? (i := 273) (by decide +kernel)) rfl
def y_RL_isUsed : MethodName := ⟨"BookTrees$Roll", "isUsed", "(I)Z"⟩
abbrev b_RL_isUsed : ByteArray := prog_5_method_6_code
theorem kd_RL_isUsed : Cond.code y_RL_isUsed b_RL_isUsed 2 (some .boolean) ∈ lw_g := gw (List.mem_of_getElem? (i := 289) (by decide +kernel)) rfl
theorem ki_RL_isUsed : Cond.instanceMethod y_RL_isUsed ∈ lw_g := gw (List.mem_of_getElem? (i := 287) (by decide +kernel)) rfl
theorem ks_RL_isUsed : Cond.selects "BookTrees$Roll" y_RL_isUsed y_RL_isUsed ∈ lw_g := gw (List.mem_of_getElem? (i := 288) (by decide +kernel)) rfl
def y_RL_hasRoom : MethodName := ⟨"BookTrees$Roll", "hasRoom", "(I)Z"⟩
abbrev b_RL_hasRoom : ByteArray := prog_5_method_7_code
theorem kd_RL_hasRoom : Cond.code y_RL_hasRoom b_RL_hasRoom 2 (some .boolean) ∈ lw_g := gw (List.mem_of_getElem? (i := 564) (by decide +kernel)) rfl
theorem ki_RL_hasRoom : Cond.instanceMethod y_RL_hasRoom ∈ lw_g := gw (List.mem_of_getElem? (i := 562) (by decide +kernel)) rfl
theorem ks_RL_hasRoom : Cond.selects "BookTrees$Roll" y_RL_hasRoom y_RL_hasRoom ∈ lw_g := gw (List.mem_of_getElem? (i := 563) (by decide +kernel)) rfl
def y_RL_byteOf : MethodName := ⟨"BookTrees$Roll", "byteOf", "(II)I"⟩
abbrev b_RL_byteOf : ByteArray := prog_5_method_8_code
theorem kd_RL_byteOf : Cond.code y_RL_byteOf b_RL_byteOf 3 (some .int) ∈ lw_g := gw (List.mem_of_getElem? (i := 257) (by decide +kernel)) rfl
theorem ki_RL_byteOf : Cond.instanceMethod y_RL_byteOf ∈ lw_g := gw (List.mem_of_getElem? (i := 255) (by decide +kernel)) rfl
theorem ks_RL_byteOf : Cond.selects "BookTrees$Roll" y_RL_byteOf y_RL_byteOf ∈ lw_g := gw (List.mem_of_getElem? (i := 256) (by decide +kernel)) rfl
def y_RL_alter : MethodName := ⟨"BookTrees$Roll", "alter", "(III)V"⟩
abbrev b_RL_alter : ByteArray := prog_5_method_9_code
theorem kd_RL_alter : Cond.code y_RL_alter b_RL_alter 5 none ∈ lw_g := gw (List.mem_of_getElem? (i := 692) (by decide +kernel)) rfl
theorem ki_RL_alter : Cond.instanceMethod y_RL_alter ∈ lw_g := gw (List.mem_of_getElem? (i := 690) (by decide +kernel)) rfl
theorem ks_RL_alter : Cond.selects "BookTrees$Roll" y_RL_alter y_RL_alter ∈ lw_g := gw (List.mem_of_getElem? (i := 691) (by decide +kernel)) rfl
def y_RL_hasBit : MethodName := ⟨"BookTrees$Roll", "hasBit", "(II)Z"⟩
abbrev b_RL_hasBit : ByteArray := prog_5_method_10_code
theorem kd_RL_hasBit : Cond.code y_RL_hasBit b_RL_hasBit 3 (some .boolean) ∈ lw_g := gw (List.mem_of_getElem? (i := 493) (by decide +kernel)) rfl
theorem ki_RL_hasBit : Cond.instanceMethod y_RL_hasBit ∈ lw_g := gw (List.mem_of_getElem? (i := 491) (by decide +kernel)) rfl
theorem ks_RL_hasBit : Cond.selects "BookTrees$Roll" y_RL_hasBit y_RL_hasBit ∈ lw_g := gw (List.mem_of_getElem? (i := 492) (by decide +kernel)) rfl
def y_RL_lowestBit : MethodName := ⟨"BookTrees$Roll", "lowestBit", "(II)I"⟩
abbrev b_RL_lowestBit : ByteArray := prog_5_method_11_code
theorem kd_RL_lowestBit : Cond.code y_RL_lowestBit b_RL_lowestBit 4 (some .int) ∈ lw_g := gw (List.mem_of_getElem? (i := 634) (by decide +kernel)) rfl
theorem ki_RL_lowestBit : Cond.instanceMethod y_RL_lowestBit ∈ lw_g := gw (List.mem_of_getElem? (i := 632) (by decide +kernel)) rfl
theorem ks_RL_lowestBit : Cond.selects "BookTrees$Roll" y_RL_lowestBit y_RL_lowestBit ∈ lw_g := gw (List.mem_of_getElem? (i := 633) (by decide +kernel)) rfl
def y_RL_versionOf : MethodName := ⟨"BookTrees$Roll", "versionOf", "(I)I"⟩
abbrev b_RL_versionOf : ByteArray := prog_5_method_12_code
theorem kd_RL_versionOf : Cond.code y_RL_versionOf b_RL_versionOf 2 (some .int) ∈ lw_g := gw (List.mem_of_getElem? (i := 249) (by decide +kernel)) rfl
theorem ki_RL_versionOf : Cond.instanceMethod y_RL_versionOf ∈ lw_g := gw (List.mem_of_getElem? (i := 247) (by decide +kernel)) rfl
theorem ks_RL_versionOf : Cond.selects "BookTrees$Roll" y_RL_versionOf y_RL_versionOf ∈ lw_g := gw (List.mem_of_getElem? (i := 248) (by decide +kernel)) rfl
def y_RL_entryOf : MethodName := ⟨"BookTrees$Roll", "entryOf", "(II)I"⟩
abbrev b_RL_entryOf : ByteArray := prog_5_method_13_code
theorem kd_RL_entryOf : Cond.code y_RL_entryOf b_RL_entryOf 3 (some .int) ∈ lw_g := gw (List.mem_of_getElem? (i := 253) (by decide +kernel)) rfl
theorem ki_RL_entryOf : Cond.instanceMethod y_RL_entryOf ∈ lw_g := gw (List.mem_of_getElem? (i := 251) (by decide +kernel)) rfl
theorem ks_RL_entryOf : Cond.selects "BookTrees$Roll" y_RL_entryOf y_RL_entryOf ∈ lw_g := gw (List.mem_of_getElem? (i := 252) (by decide +kernel)) rfl
def y_RL_numberOf : MethodName := ⟨"BookTrees$Roll", "numberOf", "(I)I"⟩
abbrev b_RL_numberOf : ByteArray := prog_5_method_14_code
theorem kd_RL_numberOf : Cond.code y_RL_numberOf b_RL_numberOf 2 (some .int) ∈ lw_g := gw (List.mem_of_getElem? (i := 231) (by decide +kernel)) rfl
theorem ki_RL_numberOf : Cond.instanceMethod y_RL_numberOf ∈ lw_g := gw (List.mem_of_getElem? (i := 229) (by decide +kernel)) rfl
theorem ks_RL_numberOf : Cond.selects "BookTrees$Roll" y_RL_numberOf y_RL_numberOf ∈ lw_g := gw (List.mem_of_getElem? (i := 230) (by decide +kernel)) rfl
def y_RL_isBad : MethodName := ⟨"BookTrees$Roll", "isBad", "(II)Z"⟩
abbrev b_RL_isBad : ByteArray := prog_5_method_15_code
theorem kd_RL_isBad : Cond.code y_RL_isBad b_RL_isBad 3 (some .boolean) ∈ lw_g := gw (List.mem_of_getElem? (i := 480) (by decide +kernel)) rfl
theorem ki_RL_isBad : Cond.instanceMethod y_RL_isBad ∈ lw_g := gw (List.mem_of_getElem? (i := 478) (by decide +kernel)) rfl
theorem ks_RL_isBad : Cond.selects "BookTrees$Roll" y_RL_isBad y_RL_isBad ∈ lw_g := gw (List.mem_of_getElem? (i := 479) (by decide +kernel)) rfl
def y_RL_isSound : MethodName := ⟨"BookTrees$Roll", "isSound", "(I)Z"⟩
abbrev b_RL_isSound : ByteArray := prog_5_method_16_code
theorem kd_RL_isSound : Cond.code y_RL_isSound b_RL_isSound 2 (some .boolean) ∈ lw_g := gw (List.mem_of_getElem? (i := 485) (by decide +kernel)) rfl
theorem ki_RL_isSound : Cond.instanceMethod y_RL_isSound ∈ lw_g := gw (List.mem_of_getElem? (i := 483) (by decide +kernel)) rfl
theorem ks_RL_isSound : Cond.selects "BookTrees$Roll" y_RL_isSound y_RL_isSound ∈ lw_g := gw (List.mem_of_getElem? (i := 484) (by decide +kernel)) rfl
def y_RL_isWholeRoot : MethodName := ⟨"BookTrees$Roll", "isWholeRoot", "(I)Z"⟩
abbrev b_RL_isWholeRoot : ByteArray := prog_5_method_17_code
theorem kd_RL_isWholeRoot : Cond.code y_RL_isWholeRoot b_RL_isWholeRoot 5 (some .boolean) ∈ lw_g := gw (List.mem_of_getElem? (i := 227) (by decide +kernel)) rfl
theorem ki_RL_isWholeRoot : Cond.instanceMethod y_RL_isWholeRoot ∈ lw_g := gw (List.mem_of_getElem? (i := 225) (by decide +kernel)) rfl
theorem ks_RL_isWholeRoot : Cond.selects "BookTrees$Roll" y_RL_isWholeRoot y_RL_isWholeRoot ∈ lw_g := gw (List.mem_of_getElem? (i := 226) (by decide +kernel)) rfl
def y_RL_newestRootSlot : MethodName := ⟨"BookTrees$Roll", "newestRootSlot", "()I"⟩
abbrev b_RL_newestRootSlot : ByteArray := prog_5_method_18_code
theorem kd_RL_newestRootSlot : Cond.code y_RL_newestRootSlot b_RL_newestRootSlot 3 (some .int) ∈ lw_g := gw (List.mem_of_getElem? (i := 223) (by decide +kernel)) rfl
theorem ki_RL_newestRootSlot : Cond.instanceMethod y_RL_newestRootSlot ∈ lw_g := gw (List.mem_of_getElem? (i := 221) (by decide +kernel)) rfl
theorem ks_RL_newestRootSlot : Cond.selects "BookTrees$Roll" y_RL_newestRootSlot y_RL_newestRootSlot ∈ lw_g := gw (List.mem_of_getElem? (i := 222) (by decide +kernel)) rfl
def y_RL_write : MethodName := ⟨"BookTrees$Roll", "write", "(IIII[II)Z"⟩
abbrev b_RL_write : ByteArray := prog_5_method_19_code
theorem kd_RL_write : Cond.code y_RL_write b_RL_write 8 (some .boolean) ∈ lw_g := gw (List.mem_of_getElem? (i := 576) (by decide +kernel)) rfl
theorem ki_RL_write : Cond.instanceMethod y_RL_write ∈ lw_g := gw (List.mem_of_getElem? (i := 574) (by decide +kernel)) rfl
theorem ks_RL_write : Cond.selects "BookTrees$Roll" y_RL_write y_RL_write ∈ lw_g := gw (List.mem_of_getElem? (i := 575) (by decide +kernel)) rfl
def y_RL_makeUp : MethodName := ⟨"BookTrees$Roll", "makeUp", "(IIII[II)V"⟩
abbrev b_RL_makeUp : ByteArray := prog_5_method_20_code
theorem kd_RL_makeUp : Cond.code y_RL_makeUp b_RL_makeUp 9 none ∈ lw_g := gw (List.mem_of_getElem? (i := 580) (by decide +kernel)) rfl
theorem ki_RL_makeUp : Cond.instanceMethod y_RL_makeUp ∈ lw_g := gw (List.mem_of_getElem? (i := 579) (by decide +kernel)) rfl
theorem ks_RL_makeUp : Cond.selects "BookTrees$Roll" y_RL_makeUp y_RL_makeUp ∈ lw_g := gw (List.mem_of_getElem? (i := 18) (by decide +kernel)) rfl
def y_RL_isNewer : MethodName := ⟨"BookTrees$Roll", "isNewer", "(II)Z"⟩
abbrev b_RL_isNewer : ByteArray := prog_5_method_21_code
theorem kd_RL_isNewer : Cond.code y_RL_isNewer b_RL_isNewer 5 (some .boolean) ∈ lw_g := gw (List.mem_of_getElem? (i := 270) (by decide +kernel)) rfl
theorem ki_RL_isNewer : Cond.instanceMethod y_RL_isNewer ∈ lw_g := gw (List.mem_of_getElem? (i := 269) (by decide +kernel)) rfl
theorem ks_RL_isNewer : Cond.selects "BookTrees$Roll" y_RL_isNewer y_RL_isNewer ∈ lw_g := gw (List.mem_of_getElem? (i := 3) (by decide +kernel)) rfl
def y_RL_isSumRight : MethodName := ⟨"BookTrees$Roll", "isSumRight", "(I)Z"⟩
abbrev b_RL_isSumRight : ByteArray := prog_5_method_22_code
theorem kd_RL_isSumRight : Cond.code y_RL_isSumRight b_RL_isSumRight 5 (some .boolean) ∈ lw_g := gw (List.mem_of_getElem? (i := 262) (by decide +kernel)) rfl
theorem ki_RL_isSumRight : Cond.instanceMethod y_RL_isSumRight ∈ lw_g := gw (List.mem_of_getElem? (i := 261) (by decide +kernel)) rfl
theorem ks_RL_isSumRight : Cond.selects "BookTrees$Roll" y_RL_isSumRight y_RL_isSumRight ∈ lw_g := gw (List.mem_of_getElem? (i := 2) (by decide +kernel)) rfl
def y_RL_slotOf : MethodName := ⟨"BookTrees$Roll", "slotOf", "(I)I"⟩
abbrev b_RL_slotOf : ByteArray := prog_5_method_23_code
theorem kd_RL_slotOf : Cond.code y_RL_slotOf b_RL_slotOf 2 (some .int) ∈ lw_g := gw (List.mem_of_getElem? (i := 239) (by decide +kernel)) rfl
theorem ki_RL_slotOf : Cond.instanceMethod y_RL_slotOf ∈ lw_g := gw (List.mem_of_getElem? (i := 238) (by decide +kernel)) rfl
theorem ks_RL_slotOf : Cond.selects "BookTrees$Roll" y_RL_slotOf y_RL_slotOf ∈ lw_g := gw (List.mem_of_getElem? (i := 1) (by decide +kernel)) rfl
def y_RL_offsetOf : MethodName := ⟨"BookTrees$Roll", "offsetOf", "(I)I"⟩
abbrev b_RL_offsetOf : ByteArray := prog_5_method_24_code
theorem kd_RL_offsetOf : Cond.code y_RL_offsetOf b_RL_offsetOf 2 (some .int) ∈ lw_g := gw (List.mem_of_getElem? (i := 235) (by decide +kernel)) rfl
theorem ki_RL_offsetOf : Cond.instanceMethod y_RL_offsetOf ∈ lw_g := gw (List.mem_of_getElem? (i := 234) (by decide +kernel)) rfl
theorem ks_RL_offsetOf : Cond.selects "BookTrees$Roll" y_RL_offsetOf y_RL_offsetOf ∈ lw_g := gw (List.mem_of_getElem? (i := 0) (by decide +kernel)) rfl
def y_RL_setInt : MethodName := ⟨"BookTrees$Roll", "setInt", "(II)V"⟩
abbrev b_RL_setInt : ByteArray := prog_5_method_25_code
theorem kd_RL_setInt : Cond.code y_RL_setInt b_RL_setInt 3 none ∈ lw_g := gw (List.mem_of_getElem? (i := 584) (by decide +kernel)) rfl
theorem ki_RL_setInt : Cond.instanceMethod y_RL_setInt ∈ lw_g := gw (List.mem_of_getElem? (i := 583) (by decide +kernel)) rfl
theorem ks_RL_setInt : Cond.selects "BookTrees$Roll" y_RL_setInt y_RL_setInt ∈ lw_g := gw (List.mem_of_getElem? (i := 19) (by decide +kernel)) rfl
def y_RL_intAt : MethodName := ⟨"BookTrees$Roll", "intAt", "([BI)I"⟩
abbrev b_RL_intAt : ByteArray := prog_5_method_26_code
theorem kd_RL_intAt : Cond.code y_RL_intAt b_RL_intAt 2 (some .int) ∈ lw_g := gw (List.mem_of_getElem? (i := 245) (by decide +kernel)) rfl
theorem kt_RL_intAt : Cond.static y_RL_intAt ∈ lw_g := gw (List.mem_of_getElem? (i := 244) (by decide +kernel)) rfl
def y_RL_sumOf : MethodName := ⟨"BookTrees$Roll", "sumOf", "([BI)J"⟩
abbrev b_RL_sumOf : ByteArray := prog_5_method_27_code
theorem kd_RL_sumOf : Cond.code y_RL_sumOf b_RL_sumOf 7 (some .long) ∈ lw_g := gw (List.mem_of_getElem? (i := 265) (by decide +kernel)) rfl
theorem kt_RL_sumOf : Cond.static y_RL_sumOf ∈ lw_g := gw (List.mem_of_getElem? (i := 264) (by decide +kernel)) rfl
def y_SH_init : MethodName := ⟨"BookTrees$Shelf", "<init>", "()V"⟩
abbrev b_SH_init : ByteArray := prog_6_method_1_code
theorem kd_SH_init : Cond.code y_SH_init b_SH_init 1 none ∈ lw_g := gw (List.mem_of_getElem? (i := 151) (by decide +kernel)) rfl
theorem ki_SH_init : Cond.instanceMethod y_SH_init ∈ lw_g := gw (List.mem_of_getElem? (i := 150) (by decide +kernel)) rfl
def y_SH_size : MethodName := ⟨"BookTrees$Shelf", "size", "()I"⟩
abbrev b_SH_size : ByteArray := prog_6_method_2_code
theorem kd_SH_size : Cond.code y_SH_size b_SH_size 1 (some .int) ∈ lw_g := gw (List.mem_of_getElem? (i := 653) (by decide +kernel)) rfl
theorem ki_SH_size : Cond.instanceMethod y_SH_size ∈ lw_g := gw (List.mem_of_getElem? (i := 651) (by decide +kernel)) rfl
theorem ks_SH_size : Cond.selects "BookTrees$Shelf" y_SH_size y_SH_size ∈ lw_g := gw (List.mem_of_getElem? (i := 652) (by decide +kernel)) rfl
def y_SH_newest : MethodName := ⟨"BookTrees$Shelf", "newest", "()I"⟩
abbrev b_SH_newest : ByteArray := prog_6_method_3_code
theorem kd_SH_newest : Cond.code y_SH_newest b_SH_newest 1 (some .int) ∈ lw_g := gw (List.mem_of_getElem? (i := 278) (by decide +kernel)) rfl
theorem ki_SH_newest : Cond.instanceMethod y_SH_newest ∈ lw_g := gw (List.mem_of_getElem? (i := 276) (by decide +kernel)) rfl
theorem ks_SH_newest : Cond.selects "BookTrees$Shelf" y_SH_newest y_SH_newest ∈ lw_g := gw (List.mem_of_getElem? (i := 277) (by decide +kernel)) rfl
def y_SH_newestRoot : MethodName := ⟨"BookTrees$Shelf", "newestRoot", "()I"⟩
abbrev b_SH_newestRoot : ByteArray := prog_6_method_4_code
theorem kd_SH_newestRoot : Cond.code y_SH_newestRoot b_SH_newestRoot 1 (some .int) ∈ lw_g := gw (List.mem_of_getElem? (i := 468) (by decide +kernel)) rfl
theorem ki_SH_newestRoot : Cond.instanceMethod y_SH_newestRoot ∈ lw_g := gw (List.mem_of_getElem? (i := 466) (by decide +kernel)) rfl
theorem ks_SH_newestRoot : Cond.selects "BookTrees$Shelf" y_SH_newestRoot y_SH_newestRoot ∈ lw_g := gw (List.mem_of_getElem? (i := 467) (by decide +kernel)) rfl
def y_SH_versionFromNewest : MethodName := ⟨"BookTrees$Shelf", "versionFromNewest", "(I)I"⟩
abbrev b_SH_versionFromNewest : ByteArray := prog_6_method_5_code
theorem kd_SH_versionFromNewest : Cond.code y_SH_versionFromNewest b_SH_versionFromNewest 2 (some .int) ∈ lw_g := gw (List.mem_of_getElem? (i := 657) (by decide +kernel)) rfl
theorem ki_SH_versionFromNewest : Cond.instanceMethod y_SH_versionFromNewest ∈ lw_g := gw (List.mem_of_getElem? (i := 655) (by decide +kernel)) rfl
theorem ks_SH_versionFromNewest : Cond.selects "BookTrees$Shelf" y_SH_versionFromNewest y_SH_versionFromNewest ∈ lw_g := gw (List.mem_of_getElem? (i := 656) (by decide +kernel)) rfl
def y_SH_rootOf : MethodName := ⟨"BookTrees$Shelf", "rootOf", "(I)I"⟩
abbrev b_SH_rootOf : ByteArray := prog_6_method_6_code
theorem kd_SH_rootOf : Cond.code y_SH_rootOf b_SH_rootOf 3 (some .int) ∈ lw_g := gw (List.mem_of_getElem? (i := 623) (by decide +kernel)) rfl
theorem ki_SH_rootOf : Cond.instanceMethod y_SH_rootOf ∈ lw_g := gw (List.mem_of_getElem? (i := 621) (by decide +kernel)) rfl
theorem ks_SH_rootOf : Cond.selects "BookTrees$Shelf" y_SH_rootOf y_SH_rootOf ∈ lw_g := gw (List.mem_of_getElem? (i := 622) (by decide +kernel)) rfl
def y_SH_clear : MethodName := ⟨"BookTrees$Shelf", "clear", "()V"⟩
abbrev b_SH_clear : ByteArray := prog_6_method_7_code
theorem kd_SH_clear : Cond.code y_SH_clear b_SH_clear 1 none ∈ lw_g := gw (List.mem_of_getElem? (i := 219) (by decide +kernel)) rfl
theorem ki_SH_clear : Cond.instanceMethod y_SH_clear ∈ lw_g := gw (List.mem_of_getElem? (i := 217) (by decide +kernel)) rfl
theorem ks_SH_clear : Cond.selects "BookTrees$Shelf" y_SH_clear y_SH_clear ∈ lw_g := gw (List.mem_of_getElem? (i := 218) (by decide +kernel)) rfl
def y_SH_add : MethodName := ⟨"BookTrees$Shelf", "add", "(II)V"⟩
abbrev b_SH_add : ByteArray := prog_6_method_8_code
theorem kd_SH_add : Cond.code y_SH_add b_SH_add 4 none ∈ lw_g := gw (List.mem_of_getElem? (i := 294) (by decide +kernel)) rfl
theorem ki_SH_add : Cond.instanceMethod y_SH_add ∈ lw_g := gw (List.mem_of_getElem? (i := 292) (by decide +kernel)) rfl
theorem ks_SH_add : Cond.selects "BookTrees$Shelf" y_SH_add y_SH_add ∈ lw_g := gw (List.mem_of_getElem? (i := 293) (by decide +kernel)) rfl
def y_SH_insert : MethodName := ⟨"BookTrees$Shelf", "insert", "(III)V"⟩
abbrev b_SH_insert : ByteArray := prog_6_method_9_code
theorem kd_SH_insert : Cond.code y_SH_insert b_SH_insert 5 none ∈ lw_g := gw (List.mem_of_getElem? (i := 299) (by decide +kernel)) rfl
theorem ki_SH_insert : Cond.instanceMethod y_SH_insert ∈ lw_g := gw (List.mem_of_getElem? (i := 298) (by decide +kernel)) rfl
theorem ks_SH_insert : Cond.selects "BookTrees$Shelf" y_SH_insert y_SH_insert ∈ lw_g := gw (List.mem_of_getElem? (i := 4) (by decide +kernel)) rfl
def y_LA_cell : MethodName := ⟨"BookTreesLaw", "cell", "([II)I"⟩
abbrev b_LA_cell : ByteArray := method_2_code
theorem kd_LA_cell : Cond.code y_LA_cell b_LA_cell 2 (some .int) ∈ lw_g := gw (List.mem_of_getElem? (i := 310) (by decide +kernel)) rfl
theorem kt_LA_cell : Cond.static y_LA_cell ∈ lw_g := gw (List.mem_of_getElem? (i := 309) (by decide +kernel)) rfl
def y_LA_put : MethodName := ⟨"BookTreesLaw", "put", "(LBookTrees;II[J)I"⟩
abbrev b_LA_put : ByteArray := method_3_code
theorem kt_LA_put : Cond.static y_LA_put ∈ lw_g := gw (List.mem_of_getElem? (i := 312) (by decide +kernel)) rfl
def y_LA_drop : MethodName := ⟨"BookTreesLaw", "drop", "(LBookTrees;I[J)I"⟩
abbrev b_LA_drop : ByteArray := method_4_code
theorem kt_LA_drop : Cond.static y_LA_drop ∈ lw_g := gw (List.mem_of_getElem? (i := 431) (by decide +kernel)) rfl
def y_LA_undo : MethodName := ⟨"BookTreesLaw", "undo", "(LBookTrees;[J)I"⟩
abbrev b_LA_undo : ByteArray := method_5_code
theorem kt_LA_undo : Cond.static y_LA_undo ∈ lw_g := gw (List.mem_of_getElem? (i := 442) (by decide +kernel)) rfl
def y_LA_get : MethodName := ⟨"BookTreesLaw", "get", "(LBookTrees;I[J)I"⟩
abbrev b_LA_get : ByteArray := method_6_code
theorem kt_LA_get : Cond.static y_LA_get ∈ lw_g := gw (List.mem_of_getElem? (i := 449) (by decide +kernel)) rfl
def y_LA_commit : MethodName := ⟨"BookTreesLaw", "commit", "(LBookTrees;[J)I"⟩
abbrev b_LA_commit : ByteArray := method_7_code
theorem kt_LA_commit : Cond.static y_LA_commit ∈ lw_g := gw (List.mem_of_getElem? (i := 496) (by decide +kernel)) rfl
def y_LA_copy : MethodName := ⟨"BookTreesLaw", "copy", "(LBookTrees;[J)I"⟩
abbrev b_LA_copy : ByteArray := method_8_code
theorem kt_LA_copy : Cond.static y_LA_copy ∈ lw_g := gw (List.mem_of_getElem? (i := 599) (by decide +kernel)) rfl
def y_LA_find : MethodName := ⟨"BookTreesLaw", "find", "(LBookTrees;II[J)I"⟩
abbrev b_LA_find : ByteArray := method_9_code
theorem kt_LA_find : Cond.static y_LA_find ∈ lw_g := gw (List.mem_of_getElem? (i := 610) (by decide +kernel)) rfl
def y_LA_next : MethodName := ⟨"BookTreesLaw", "next", "(LBookTrees;II[J)I"⟩
abbrev b_LA_next : ByteArray := method_10_code
theorem kt_LA_next : Cond.static y_LA_next ∈ lw_g := gw (List.mem_of_getElem? (i := 625) (by decide +kernel)) rfl
def y_LA_rows : MethodName := ⟨"BookTreesLaw", "rows", "(LBookTrees;I[J)I"⟩
abbrev b_LA_rows : ByteArray := method_11_code
theorem kt_LA_rows : Cond.static y_LA_rows ∈ lw_g := gw (List.mem_of_getElem? (i := 637) (by decide +kernel)) rfl
def y_LA_kept : MethodName := ⟨"BookTreesLaw", "kept", "(LBookTrees;I[J)I"⟩
abbrev b_LA_kept : ByteArray := method_12_code
theorem kt_LA_kept : Cond.static y_LA_kept ∈ lw_g := gw (List.mem_of_getElem? (i := 644) (by decide +kernel)) rfl
def y_LA_crash : MethodName := ⟨"BookTreesLaw", "crash", "(LBookTrees;I)I"⟩
abbrev b_LA_crash : ByteArray := method_13_code
theorem kt_LA_crash : Cond.static y_LA_crash ∈ lw_g := gw (List.mem_of_getElem? (i := 659) (by decide +kernel)) rfl
def y_LA_byteAt : MethodName := ⟨"BookTreesLaw", "byteAt", "(LBookTrees;II[J)I"⟩
abbrev b_LA_byteAt : ByteArray := method_14_code
theorem kt_LA_byteAt : Cond.static y_LA_byteAt ∈ lw_g := gw (List.mem_of_getElem? (i := 671) (by decide +kernel)) rfl
def y_LA_poke : MethodName := ⟨"BookTreesLaw", "poke", "(LBookTrees;III[J)I"⟩
abbrev b_LA_poke : ByteArray := method_15_code
theorem kt_LA_poke : Cond.static y_LA_poke ∈ lw_g := gw (List.mem_of_getElem? (i := 683) (by decide +kernel)) rfl
def y_LA_badAt : MethodName := ⟨"BookTreesLaw", "badAt", "(LBookTrees;I[J)I"⟩
abbrev b_LA_badAt : ByteArray := method_16_code
theorem kt_LA_badAt : Cond.static y_LA_badAt ∈ lw_g := gw (List.mem_of_getElem? (i := 694) (by decide +kernel)) rfl
def y_LA_told : MethodName := ⟨"BookTreesLaw", "told", "(LBookTrees;I[J)I"⟩
abbrev b_LA_told : ByteArray := method_17_code
theorem kt_LA_told : Cond.static y_LA_told ∈ lw_g := gw (List.mem_of_getElem? (i := 702) (by decide +kernel)) rfl
def y_LA_law : MethodName := ⟨"BookTreesLaw", "law", "([I)Z"⟩
abbrev b_LA_law : ByteArray := code
end
section
theorem d_BT_init_0 : decode b_BT_init 0 = .ok (.aload_n 0, 1) := by decide +kernel
theorem d_BT_init_1 : decode b_BT_init 1 = .ok (.invokespecial 1, 3) := by decide +kernel
theorem d_BT_init_4 : decode b_BT_init 4 = .ok (.aload_n 0, 1) := by decide +kernel
theorem d_BT_init_5 : decode b_BT_init 5 = .ok (.new 7, 3) := by decide +kernel
theorem d_BT_init_8 : decode b_BT_init 8 = .ok (.dup, 1) := by decide +kernel
theorem d_BT_init_9 : decode b_BT_init 9 = .ok (.invokespecial 9, 3) := by decide +kernel
theorem d_BT_init_12 : decode b_BT_init 12 = .ok (.putfield 10, 3) := by decide +kernel
theorem d_BT_init_15 : decode b_BT_init 15 = .ok (.aload_n 0, 1) := by decide +kernel
theorem d_BT_init_16 : decode b_BT_init 16 = .ok (.new 16, 3) := by decide +kernel
theorem d_BT_init_19 : decode b_BT_init 19 = .ok (.dup, 1) := by decide +kernel
theorem d_BT_init_20 : decode b_BT_init 20 = .ok (.iload_n 1, 1) := by decide +kernel
theorem d_BT_init_21 : decode b_BT_init 21 = .ok (.aload_n 0, 1) := by decide +kernel
theorem d_BT_init_22 : decode b_BT_init 22 = .ok (.getfield 10, 3) := by decide +kernel
theorem d_BT_init_25 : decode b_BT_init 25 = .ok (.invokespecial 18, 3) := by decide +kernel
theorem d_BT_init_28 : decode b_BT_init 28 = .ok (.putfield 21, 3) := by decide +kernel
theorem d_BT_init_31 : decode b_BT_init 31 = .ok (.aload_n 0, 1) := by decide +kernel
theorem d_BT_init_32 : decode b_BT_init 32 = .ok (.new 25, 3) := by decide +kernel
theorem d_BT_init_35 : decode b_BT_init 35 = .ok (.dup, 1) := by decide +kernel
theorem d_BT_init_36 : decode b_BT_init 36 = .ok (.invokespecial 27, 3) := by decide +kernel
theorem d_BT_init_39 : decode b_BT_init 39 = .ok (.putfield 28, 3) := by decide +kernel
theorem d_BT_init_42 : decode b_BT_init 42 = .ok (.aload_n 0, 1) := by decide +kernel
theorem d_BT_init_43 : decode b_BT_init 43 = .ok (.new 32, 3) := by decide +kernel
theorem d_BT_init_46 : decode b_BT_init 46 = .ok (.dup, 1) := by decide +kernel
theorem d_BT_init_47 : decode b_BT_init 47 = .ok (.invokespecial 34, 3) := by decide +kernel
theorem d_BT_init_50 : decode b_BT_init 50 = .ok (.putfield 35, 3) := by decide +kernel
theorem d_BT_init_53 : decode b_BT_init 53 = .ok (.aload_n 0, 1) := by decide +kernel
theorem d_BT_init_54 : decode b_BT_init 54 = .ok (.new 39, 3) := by decide +kernel
theorem d_BT_init_57 : decode b_BT_init 57 = .ok (.dup, 1) := by decide +kernel
theorem d_BT_init_58 : decode b_BT_init 58 = .ok (.invokespecial 41, 3) := by decide +kernel
theorem d_BT_init_61 : decode b_BT_init 61 = .ok (.putfield 42, 3) := by decide +kernel
theorem d_BT_init_64 : decode b_BT_init 64 = .ok (.return_, 1) := by decide +kernel
theorem d_BT_put_0 : decode b_BT_put 0 = .ok (.aload_n 0, 1) := by decide +kernel
theorem d_BT_put_1 : decode b_BT_put 1 = .ok (.aload_n 0, 1) := by decide +kernel
theorem d_BT_put_2 : decode b_BT_put 2 = .ok (.iload_n 1, 1) := by decide +kernel
theorem d_BT_put_3 : decode b_BT_put 3 = .ok (.invokevirtual 46, 3) := by decide +kernel
theorem d_BT_put_6 : decode b_BT_put 6 = .ok (.invokevirtual 50, 3) := by decide +kernel
theorem d_BT_put_9 : decode b_BT_put 9 = .ok (.aload_n 0, 1) := by decide +kernel
theorem d_BT_put_10 : decode b_BT_put 10 = .ok (.invokevirtual 54, 3) := by decide +kernel
theorem d_BT_put_13 : decode b_BT_put 13 = .ok (.aload_n 0, 1) := by decide +kernel
theorem d_BT_put_14 : decode b_BT_put 14 = .ok (.getfield 28, 3) := by decide +kernel
theorem d_BT_put_17 : decode b_BT_put 17 = .ok (.iload_n 1, 1) := by decide +kernel
theorem d_BT_put_18 : decode b_BT_put 18 = .ok (.iload_n 2, 1) := by decide +kernel
theorem d_BT_put_19 : decode b_BT_put 19 = .ok (.invokevirtual 57, 3) := by decide +kernel
theorem d_BT_put_22 : decode b_BT_put 22 = .ok (.aload_n 0, 1) := by decide +kernel
theorem d_BT_put_23 : decode b_BT_put 23 = .ok (.getfield 28, 3) := by decide +kernel
theorem d_BT_put_26 : decode b_BT_put 26 = .ok (.invokevirtual 61, 3) := by decide +kernel
theorem d_BT_put_29 : decode b_BT_put 29 = .ok (.ireturn, 1) := by decide +kernel
theorem d_BT_drop_0 : decode b_BT_drop 0 = .ok (.aload_n 0, 1) := by decide +kernel
theorem d_BT_drop_1 : decode b_BT_drop 1 = .ok (.aload_n 0, 1) := by decide +kernel
theorem d_BT_drop_2 : decode b_BT_drop 2 = .ok (.iload_n 1, 1) := by decide +kernel
theorem d_BT_drop_3 : decode b_BT_drop 3 = .ok (.invokevirtual 46, 3) := by decide +kernel
theorem d_BT_drop_6 : decode b_BT_drop 6 = .ok (.invokevirtual 50, 3) := by decide +kernel
theorem d_BT_drop_9 : decode b_BT_drop 9 = .ok (.aload_n 0, 1) := by decide +kernel
theorem d_BT_drop_10 : decode b_BT_drop 10 = .ok (.invokevirtual 54, 3) := by decide +kernel
theorem d_BT_drop_13 : decode b_BT_drop 13 = .ok (.aload_n 0, 1) := by decide +kernel
theorem d_BT_drop_14 : decode b_BT_drop 14 = .ok (.getfield 28, 3) := by decide +kernel
theorem d_BT_drop_17 : decode b_BT_drop 17 = .ok (.iload_n 1, 1) := by decide +kernel
theorem d_BT_drop_18 : decode b_BT_drop 18 = .ok (.invokevirtual 65, 3) := by decide +kernel
theorem d_BT_drop_21 : decode b_BT_drop 21 = .ok (.aload_n 0, 1) := by decide +kernel
theorem d_BT_drop_22 : decode b_BT_drop 22 = .ok (.getfield 28, 3) := by decide +kernel
theorem d_BT_drop_25 : decode b_BT_drop 25 = .ok (.invokevirtual 61, 3) := by decide +kernel
theorem d_BT_drop_28 : decode b_BT_drop 28 = .ok (.ireturn, 1) := by decide +kernel
theorem d_BT_undo_0 : decode b_BT_undo 0 = .ok (.aload_n 0, 1) := by decide +kernel
theorem d_BT_undo_1 : decode b_BT_undo 1 = .ok (.invokevirtual 54, 3) := by decide +kernel
theorem d_BT_undo_4 : decode b_BT_undo 4 = .ok (.aload_n 0, 1) := by decide +kernel
theorem d_BT_undo_5 : decode b_BT_undo 5 = .ok (.getfield 28, 3) := by decide +kernel
theorem d_BT_undo_8 : decode b_BT_undo 8 = .ok (.invokevirtual 61, 3) := by decide +kernel
theorem d_BT_undo_11 : decode b_BT_undo 11 = .ok (.istore_n 1, 1) := by decide +kernel
theorem d_BT_undo_12 : decode b_BT_undo 12 = .ok (.aload_n 0, 1) := by decide +kernel
theorem d_BT_undo_13 : decode b_BT_undo 13 = .ok (.getfield 28, 3) := by decide +kernel
theorem d_BT_undo_16 : decode b_BT_undo 16 = .ok (.invokevirtual 69, 3) := by decide +kernel
theorem d_BT_undo_19 : decode b_BT_undo 19 = .ok (.iload_n 1, 1) := by decide +kernel
theorem d_BT_undo_20 : decode b_BT_undo 20 = .ok (.ireturn, 1) := by decide +kernel
theorem d_BT_get_0 : decode b_BT_get 0 = .ok (.aload_n 0, 1) := by decide +kernel
theorem d_BT_get_1 : decode b_BT_get 1 = .ok (.aload_n 0, 1) := by decide +kernel
theorem d_BT_get_2 : decode b_BT_get 2 = .ok (.iload_n 1, 1) := by decide +kernel
theorem d_BT_get_3 : decode b_BT_get 3 = .ok (.invokevirtual 46, 3) := by decide +kernel
theorem d_BT_get_6 : decode b_BT_get 6 = .ok (.invokevirtual 50, 3) := by decide +kernel
theorem d_BT_get_9 : decode b_BT_get 9 = .ok (.aload_n 0, 1) := by decide +kernel
theorem d_BT_get_10 : decode b_BT_get 10 = .ok (.invokevirtual 54, 3) := by decide +kernel
theorem d_BT_get_13 : decode b_BT_get 13 = .ok (.aload_n 0, 1) := by decide +kernel
theorem d_BT_get_14 : decode b_BT_get 14 = .ok (.getfield 28, 3) := by decide +kernel
theorem d_BT_get_17 : decode b_BT_get 17 = .ok (.iload_n 1, 1) := by decide +kernel
theorem d_BT_get_18 : decode b_BT_get 18 = .ok (.invokevirtual 72, 3) := by decide +kernel
theorem d_BT_get_21 : decode b_BT_get 21 = .ok (.ifCond .eq 7, 3) := by decide +kernel
theorem d_BT_get_24 : decode b_BT_get 24 = .ok (.ldc2_w 75, 3) := by decide +kernel
theorem d_BT_get_27 : decode b_BT_get 27 = .ok (.lreturn, 1) := by decide +kernel
theorem d_BT_get_28 : decode b_BT_get 28 = .ok (.aload_n 0, 1) := by decide +kernel
theorem d_BT_get_29 : decode b_BT_get 29 = .ok (.getfield 28, 3) := by decide +kernel
theorem d_BT_get_32 : decode b_BT_get 32 = .ok (.iload_n 1, 1) := by decide +kernel
theorem d_BT_get_33 : decode b_BT_get 33 = .ok (.invokevirtual 77, 3) := by decide +kernel
theorem d_BT_get_36 : decode b_BT_get 36 = .ok (.ifCond .eq 15, 3) := by decide +kernel
theorem d_BT_get_39 : decode b_BT_get 39 = .ok (.aload_n 0, 1) := by decide +kernel
theorem d_BT_get_40 : decode b_BT_get 40 = .ok (.getfield 28, 3) := by decide +kernel
theorem d_BT_get_43 : decode b_BT_get 43 = .ok (.iload_n 1, 1) := by decide +kernel
theorem d_BT_get_44 : decode b_BT_get 44 = .ok (.invokevirtual 80, 3) := by decide +kernel
theorem d_BT_get_47 : decode b_BT_get 47 = .ok (.i2l, 1) := by decide +kernel
theorem d_BT_get_48 : decode b_BT_get 48 = .ok (.goto 15, 3) := by decide +kernel
theorem d_BT_get_51 : decode b_BT_get 51 = .ok (.aload_n 0, 1) := by decide +kernel
theorem d_BT_get_52 : decode b_BT_get 52 = .ok (.aload_n 0, 1) := by decide +kernel
theorem d_BT_get_53 : decode b_BT_get 53 = .ok (.getfield 35, 3) := by decide +kernel
theorem d_BT_get_56 : decode b_BT_get 56 = .ok (.invokevirtual 84, 3) := by decide +kernel
theorem d_BT_get_59 : decode b_BT_get 59 = .ok (.iload_n 1, 1) := by decide +kernel
theorem d_BT_get_60 : decode b_BT_get 60 = .ok (.invokevirtual 87, 3) := by decide +kernel
theorem d_BT_get_63 : decode b_BT_get 63 = .ok (.lreturn, 1) := by decide +kernel
theorem d_BT_commit_0 : decode b_BT_commit 0 = .ok (.aload_n 0, 1) := by decide +kernel
theorem d_BT_commit_1 : decode b_BT_commit 1 = .ok (.invokevirtual 54, 3) := by decide +kernel
theorem d_BT_commit_4 : decode b_BT_commit 4 = .ok (.aload_n 0, 1) := by decide +kernel
theorem d_BT_commit_5 : decode b_BT_commit 5 = .ok (.getfield 28, 3) := by decide +kernel
theorem d_BT_commit_8 : decode b_BT_commit 8 = .ok (.invokevirtual 61, 3) := by decide +kernel
theorem d_BT_commit_11 : decode b_BT_commit 11 = .ok (.ifCond .ne 11, 3) := by decide +kernel
theorem d_BT_commit_14 : decode b_BT_commit 14 = .ok (.aload_n 0, 1) := by decide +kernel
theorem d_BT_commit_15 : decode b_BT_commit 15 = .ok (.getfield 35, 3) := by decide +kernel
theorem d_BT_commit_18 : decode b_BT_commit 18 = .ok (.invokevirtual 91, 3) := by decide +kernel
theorem d_BT_commit_21 : decode b_BT_commit 21 = .ok (.ireturn, 1) := by decide +kernel
theorem d_BT_commit_22 : decode b_BT_commit 22 = .ok (.aload_n 0, 1) := by decide +kernel
theorem d_BT_commit_23 : decode b_BT_commit 23 = .ok (.getfield 42, 3) := by decide +kernel
theorem d_BT_commit_26 : decode b_BT_commit 26 = .ok (.invokevirtual 94, 3) := by decide +kernel
theorem d_BT_commit_29 : decode b_BT_commit 29 = .ok (.aload_n 0, 1) := by decide +kernel
theorem d_BT_commit_30 : decode b_BT_commit 30 = .ok (.getfield 42, 3) := by decide +kernel
theorem d_BT_commit_33 : decode b_BT_commit 33 = .ok (.aload_n 0, 1) := by decide +kernel
theorem d_BT_commit_34 : decode b_BT_commit 34 = .ok (.getfield 28, 3) := by decide +kernel
theorem d_BT_commit_37 : decode b_BT_commit 37 = .ok (.invokevirtual 95, 3) := by decide +kernel
theorem d_BT_commit_40 : decode b_BT_commit 40 = .ok (.aload_n 0, 1) := by decide +kernel
theorem d_BT_commit_41 : decode b_BT_commit 41 = .ok (.getfield 42, 3) := by decide +kernel
theorem d_BT_commit_44 : decode b_BT_commit 44 = .ok (.aload_n 0, 1) := by decide +kernel
theorem d_BT_commit_45 : decode b_BT_commit 45 = .ok (.getfield 21, 3) := by decide +kernel
theorem d_BT_commit_48 : decode b_BT_commit 48 = .ok (.aload_n 0, 1) := by decide +kernel
theorem d_BT_commit_49 : decode b_BT_commit 49 = .ok (.getfield 35, 3) := by decide +kernel
theorem d_BT_commit_52 : decode b_BT_commit 52 = .ok (.invokevirtual 84, 3) := by decide +kernel
theorem d_BT_commit_55 : decode b_BT_commit 55 = .ok (.invokevirtual 99, 3) := by decide +kernel
theorem d_BT_commit_58 : decode b_BT_commit 58 = .ok (.ifCond .ne 6, 3) := by decide +kernel
theorem d_BT_commit_61 : decode b_BT_commit 61 = .ok (.bipush (-2), 2) := by decide +kernel
theorem d_BT_commit_63 : decode b_BT_commit 63 = .ok (.ireturn, 1) := by decide +kernel
theorem d_BT_commit_64 : decode b_BT_commit 64 = .ok (.aload_n 0, 1) := by decide +kernel
theorem d_BT_commit_65 : decode b_BT_commit 65 = .ok (.getfield 42, 3) := by decide +kernel
theorem d_BT_commit_68 : decode b_BT_commit 68 = .ok (.aload_n 0, 1) := by decide +kernel
theorem d_BT_commit_69 : decode b_BT_commit 69 = .ok (.getfield 28, 3) := by decide +kernel
theorem d_BT_commit_72 : decode b_BT_commit 72 = .ok (.invokevirtual 103, 3) := by decide +kernel
theorem d_BT_commit_75 : decode b_BT_commit 75 = .ok (.aload_n 0, 1) := by decide +kernel
theorem d_BT_commit_76 : decode b_BT_commit 76 = .ok (.iconst 0, 1) := by decide +kernel
theorem d_BT_commit_77 : decode b_BT_commit 77 = .ok (.invokevirtual 106, 3) := by decide +kernel
theorem d_BT_commit_80 : decode b_BT_commit 80 = .ok (.istore_n 1, 1) := by decide +kernel
theorem d_BT_commit_81 : decode b_BT_commit 81 = .ok (.iload_n 1, 1) := by decide +kernel
theorem d_BT_commit_82 : decode b_BT_commit 82 = .ok (.ifCond .le 10, 3) := by decide +kernel
theorem d_BT_commit_85 : decode b_BT_commit 85 = .ok (.aload_n 0, 1) := by decide +kernel
theorem d_BT_commit_86 : decode b_BT_commit 86 = .ok (.getfield 28, 3) := by decide +kernel
theorem d_BT_commit_89 : decode b_BT_commit 89 = .ok (.invokevirtual 69, 3) := by decide +kernel
theorem d_BT_commit_92 : decode b_BT_commit 92 = .ok (.iload_n 1, 1) := by decide +kernel
theorem d_BT_commit_93 : decode b_BT_commit 93 = .ok (.ireturn, 1) := by decide +kernel
theorem d_BT_copy_0 : decode b_BT_copy 0 = .ok (.aload_n 0, 1) := by decide +kernel
theorem d_BT_copy_1 : decode b_BT_copy 1 = .ok (.invokevirtual 54, 3) := by decide +kernel
theorem d_BT_copy_4 : decode b_BT_copy 4 = .ok (.aload_n 0, 1) := by decide +kernel
theorem d_BT_copy_5 : decode b_BT_copy 5 = .ok (.getfield 42, 3) := by decide +kernel
theorem d_BT_copy_8 : decode b_BT_copy 8 = .ok (.invokevirtual 94, 3) := by decide +kernel
theorem d_BT_copy_11 : decode b_BT_copy 11 = .ok (.aload_n 0, 1) := by decide +kernel
theorem d_BT_copy_12 : decode b_BT_copy 12 = .ok (.getfield 42, 3) := by decide +kernel
theorem d_BT_copy_15 : decode b_BT_copy 15 = .ok (.invokevirtual 110, 3) := by decide +kernel
theorem d_BT_copy_18 : decode b_BT_copy 18 = .ok (.aload_n 0, 1) := by decide +kernel
theorem d_BT_copy_19 : decode b_BT_copy 19 = .ok (.getfield 42, 3) := by decide +kernel
theorem d_BT_copy_22 : decode b_BT_copy 22 = .ok (.aload_n 0, 1) := by decide +kernel
theorem d_BT_copy_23 : decode b_BT_copy 23 = .ok (.getfield 21, 3) := by decide +kernel
theorem d_BT_copy_26 : decode b_BT_copy 26 = .ok (.aload_n 0, 1) := by decide +kernel
theorem d_BT_copy_27 : decode b_BT_copy 27 = .ok (.getfield 35, 3) := by decide +kernel
theorem d_BT_copy_30 : decode b_BT_copy 30 = .ok (.invokevirtual 84, 3) := by decide +kernel
theorem d_BT_copy_33 : decode b_BT_copy 33 = .ok (.invokevirtual 99, 3) := by decide +kernel
theorem d_BT_copy_36 : decode b_BT_copy 36 = .ok (.ifCond .ne 6, 3) := by decide +kernel
theorem d_BT_copy_39 : decode b_BT_copy 39 = .ok (.bipush (-2), 2) := by decide +kernel
theorem d_BT_copy_41 : decode b_BT_copy 41 = .ok (.ireturn, 1) := by decide +kernel
theorem d_BT_copy_42 : decode b_BT_copy 42 = .ok (.aload_n 0, 1) := by decide +kernel
theorem d_BT_copy_43 : decode b_BT_copy 43 = .ok (.iconst 1, 1) := by decide +kernel
theorem d_BT_copy_44 : decode b_BT_copy 44 = .ok (.invokevirtual 106, 3) := by decide +kernel
theorem d_BT_copy_47 : decode b_BT_copy 47 = .ok (.ireturn, 1) := by decide +kernel
theorem d_BT_find_0 : decode b_BT_find 0 = .ok (.aload_n 0, 1) := by decide +kernel
theorem d_BT_find_1 : decode b_BT_find 1 = .ok (.aload_n 0, 1) := by decide +kernel
theorem d_BT_find_2 : decode b_BT_find 2 = .ok (.iload_n 1, 1) := by decide +kernel
theorem d_BT_find_3 : decode b_BT_find 3 = .ok (.invokevirtual 113, 3) := by decide +kernel
theorem d_BT_find_6 : decode b_BT_find 6 = .ok (.ifCond .eq 15, 3) := by decide +kernel
theorem d_BT_find_9 : decode b_BT_find 9 = .ok (.aload_n 0, 1) := by decide +kernel
theorem d_BT_find_10 : decode b_BT_find 10 = .ok (.iload_n 2, 1) := by decide +kernel
theorem d_BT_find_11 : decode b_BT_find 11 = .ok (.invokevirtual 46, 3) := by decide +kernel
theorem d_BT_find_14 : decode b_BT_find 14 = .ok (.ifCond .eq 7, 3) := by decide +kernel
theorem d_BT_find_17 : decode b_BT_find 17 = .ok (.iconst 1, 1) := by decide +kernel
theorem d_BT_find_18 : decode b_BT_find 18 = .ok (.goto 4, 3) := by decide +kernel
theorem d_BT_find_21 : decode b_BT_find 21 = .ok (.iconst 0, 1) := by decide +kernel
theorem d_BT_find_22 : decode b_BT_find 22 = .ok (.invokevirtual 50, 3) := by decide +kernel
theorem d_BT_find_25 : decode b_BT_find 25 = .ok (.aload_n 0, 1) := by decide +kernel
theorem d_BT_find_26 : decode b_BT_find 26 = .ok (.invokevirtual 54, 3) := by decide +kernel
theorem d_BT_find_29 : decode b_BT_find 29 = .ok (.aload_n 0, 1) := by decide +kernel
theorem d_BT_find_30 : decode b_BT_find 30 = .ok (.aload_n 0, 1) := by decide +kernel
theorem d_BT_find_31 : decode b_BT_find 31 = .ok (.getfield 35, 3) := by decide +kernel
theorem d_BT_find_34 : decode b_BT_find 34 = .ok (.iload_n 1, 1) := by decide +kernel
theorem d_BT_find_35 : decode b_BT_find 35 = .ok (.invokevirtual 116, 3) := by decide +kernel
theorem d_BT_find_38 : decode b_BT_find 38 = .ok (.iload_n 2, 1) := by decide +kernel
theorem d_BT_find_39 : decode b_BT_find 39 = .ok (.invokevirtual 87, 3) := by decide +kernel
theorem d_BT_find_42 : decode b_BT_find 42 = .ok (.lreturn, 1) := by decide +kernel
theorem d_BT_next_0 : decode b_BT_next 0 = .ok (.aload_n 0, 1) := by decide +kernel
theorem d_BT_next_1 : decode b_BT_next 1 = .ok (.aload_n 0, 1) := by decide +kernel
theorem d_BT_next_2 : decode b_BT_next 2 = .ok (.iload_n 1, 1) := by decide +kernel
theorem d_BT_next_3 : decode b_BT_next 3 = .ok (.invokevirtual 113, 3) := by decide +kernel
theorem d_BT_next_6 : decode b_BT_next 6 = .ok (.ifCond .eq 15, 3) := by decide +kernel
theorem d_BT_next_9 : decode b_BT_next 9 = .ok (.aload_n 0, 1) := by decide +kernel
theorem d_BT_next_10 : decode b_BT_next 10 = .ok (.iload_n 2, 1) := by decide +kernel
theorem d_BT_next_11 : decode b_BT_next 11 = .ok (.invokevirtual 46, 3) := by decide +kernel
theorem d_BT_next_14 : decode b_BT_next 14 = .ok (.ifCond .eq 7, 3) := by decide +kernel
theorem d_BT_next_17 : decode b_BT_next 17 = .ok (.iconst 1, 1) := by decide +kernel
theorem d_BT_next_18 : decode b_BT_next 18 = .ok (.goto 4, 3) := by decide +kernel
theorem d_BT_next_21 : decode b_BT_next 21 = .ok (.iconst 0, 1) := by decide +kernel
theorem d_BT_next_22 : decode b_BT_next 22 = .ok (.invokevirtual 50, 3) := by decide +kernel
theorem d_BT_next_25 : decode b_BT_next 25 = .ok (.aload_n 0, 1) := by decide +kernel
theorem d_BT_next_26 : decode b_BT_next 26 = .ok (.invokevirtual 54, 3) := by decide +kernel
theorem d_BT_next_29 : decode b_BT_next 29 = .ok (.aload_n 0, 1) := by decide +kernel
theorem d_BT_next_30 : decode b_BT_next 30 = .ok (.getfield 35, 3) := by decide +kernel
theorem d_BT_next_33 : decode b_BT_next 33 = .ok (.iload_n 1, 1) := by decide +kernel
theorem d_BT_next_34 : decode b_BT_next 34 = .ok (.invokevirtual 116, 3) := by decide +kernel
theorem d_BT_next_37 : decode b_BT_next 37 = .ok (.istore_n 3, 1) := by decide +kernel
theorem d_BT_next_38 : decode b_BT_next 38 = .ok (.iload_n 2, 1) := by decide +kernel
theorem d_BT_next_39 : decode b_BT_next 39 = .ok (.bipush 7, 2) := by decide +kernel
theorem d_BT_next_41 : decode b_BT_next 41 = .ok (.iand, 1) := by decide +kernel
theorem d_BT_next_42 : decode b_BT_next 42 = .ok (.istore 4, 2) := by decide +kernel
theorem d_BT_next_44 : decode b_BT_next 44 = .ok (.iload_n 2, 1) := by decide +kernel
theorem d_BT_next_45 : decode b_BT_next 45 = .ok (.iconst 3, 1) := by decide +kernel
theorem d_BT_next_46 : decode b_BT_next 46 = .ok (.ishr, 1) := by decide +kernel
theorem d_BT_next_47 : decode b_BT_next 47 = .ok (.istore 5, 2) := by decide +kernel
theorem d_BT_next_49 : decode b_BT_next 49 = .ok (.iload 5, 2) := by decide +kernel
theorem d_BT_next_51 : decode b_BT_next 51 = .ok (.bipush 64, 2) := by decide +kernel
theorem d_BT_next_53 : decode b_BT_next 53 = .ok (.if_icmp .ge 69, 3) := by decide +kernel
theorem d_BT_next_56 : decode b_BT_next 56 = .ok (.aload_n 0, 1) := by decide +kernel
theorem d_BT_next_57 : decode b_BT_next 57 = .ok (.iload_n 3, 1) := by decide +kernel
theorem d_BT_next_58 : decode b_BT_next 58 = .ok (.iload 5, 2) := by decide +kernel
theorem d_BT_next_60 : decode b_BT_next 60 = .ok (.invokevirtual 119, 3) := by decide +kernel
theorem d_BT_next_63 : decode b_BT_next 63 = .ok (.istore 6, 2) := by decide +kernel
theorem d_BT_next_65 : decode b_BT_next 65 = .ok (.iload 6, 2) := by decide +kernel
theorem d_BT_next_67 : decode b_BT_next 67 = .ok (.bipush (-2), 2) := by decide +kernel
theorem d_BT_next_69 : decode b_BT_next 69 = .ok (.if_icmp .ne 6, 3) := by decide +kernel
theorem d_BT_next_72 : decode b_BT_next 72 = .ok (.bipush (-2), 2) := by decide +kernel
theorem d_BT_next_74 : decode b_BT_next 74 = .ok (.ireturn, 1) := by decide +kernel
theorem d_BT_next_75 : decode b_BT_next 75 = .ok (.iload 6, 2) := by decide +kernel
theorem d_BT_next_77 : decode b_BT_next 77 = .ok (.iconst (-1), 1) := by decide +kernel
theorem d_BT_next_78 : decode b_BT_next 78 = .ok (.if_icmp .ne 7, 3) := by decide +kernel
theorem d_BT_next_81 : decode b_BT_next 81 = .ok (.iconst (-1), 1) := by decide +kernel
theorem d_BT_next_82 : decode b_BT_next 82 = .ok (.goto 14, 3) := by decide +kernel
theorem d_BT_next_85 : decode b_BT_next 85 = .ok (.aload_n 0, 1) := by decide +kernel
theorem d_BT_next_86 : decode b_BT_next 86 = .ok (.getfield 21, 3) := by decide +kernel
theorem d_BT_next_89 : decode b_BT_next 89 = .ok (.iload 6, 2) := by decide +kernel
theorem d_BT_next_91 : decode b_BT_next 91 = .ok (.iload 4, 2) := by decide +kernel
theorem d_BT_next_93 : decode b_BT_next 93 = .ok (.invokevirtual 123, 3) := by decide +kernel
theorem d_BT_next_96 : decode b_BT_next 96 = .ok (.istore 7, 2) := by decide +kernel
theorem d_BT_next_98 : decode b_BT_next 98 = .ok (.iload 7, 2) := by decide +kernel
theorem d_BT_next_100 : decode b_BT_next 100 = .ok (.iconst (-1), 1) := by decide +kernel
theorem d_BT_next_101 : decode b_BT_next 101 = .ok (.if_icmp .eq 12, 3) := by decide +kernel
theorem d_BT_next_104 : decode b_BT_next 104 = .ok (.iload 5, 2) := by decide +kernel
theorem d_BT_next_106 : decode b_BT_next 106 = .ok (.bipush 8, 2) := by decide +kernel
theorem d_BT_next_108 : decode b_BT_next 108 = .ok (.imul, 1) := by decide +kernel
theorem d_BT_next_109 : decode b_BT_next 109 = .ok (.iload 7, 2) := by decide +kernel
theorem d_BT_next_111 : decode b_BT_next 111 = .ok (.iadd, 1) := by decide +kernel
theorem d_BT_next_112 : decode b_BT_next 112 = .ok (.ireturn, 1) := by decide +kernel
theorem d_BT_next_113 : decode b_BT_next 113 = .ok (.iconst 0, 1) := by decide +kernel
theorem d_BT_next_114 : decode b_BT_next 114 = .ok (.istore 4, 2) := by decide +kernel
theorem d_BT_next_116 : decode b_BT_next 116 = .ok (.iinc 5 1, 3) := by decide +kernel
theorem d_BT_next_119 : decode b_BT_next 119 = .ok (.goto (-70), 3) := by decide +kernel
theorem d_BT_next_122 : decode b_BT_next 122 = .ok (.iconst (-1), 1) := by decide +kernel
theorem d_BT_next_123 : decode b_BT_next 123 = .ok (.ireturn, 1) := by decide +kernel
theorem d_BT_rows_0 : decode b_BT_rows 0 = .ok (.aload_n 0, 1) := by decide +kernel
theorem d_BT_rows_1 : decode b_BT_rows 1 = .ok (.aload_n 0, 1) := by decide +kernel
theorem d_BT_rows_2 : decode b_BT_rows 2 = .ok (.iload_n 1, 1) := by decide +kernel
theorem d_BT_rows_3 : decode b_BT_rows 3 = .ok (.invokevirtual 113, 3) := by decide +kernel
theorem d_BT_rows_6 : decode b_BT_rows 6 = .ok (.invokevirtual 50, 3) := by decide +kernel
theorem d_BT_rows_9 : decode b_BT_rows 9 = .ok (.aload_n 0, 1) := by decide +kernel
theorem d_BT_rows_10 : decode b_BT_rows 10 = .ok (.invokevirtual 54, 3) := by decide +kernel
theorem d_BT_rows_13 : decode b_BT_rows 13 = .ok (.aload_n 0, 1) := by decide +kernel
theorem d_BT_rows_14 : decode b_BT_rows 14 = .ok (.getfield 35, 3) := by decide +kernel
theorem d_BT_rows_17 : decode b_BT_rows 17 = .ok (.iload_n 1, 1) := by decide +kernel
theorem d_BT_rows_18 : decode b_BT_rows 18 = .ok (.invokevirtual 116, 3) := by decide +kernel
theorem d_BT_rows_21 : decode b_BT_rows 21 = .ok (.istore_n 2, 1) := by decide +kernel
theorem d_BT_rows_22 : decode b_BT_rows 22 = .ok (.iload_n 2, 1) := by decide +kernel
theorem d_BT_rows_23 : decode b_BT_rows 23 = .ok (.iconst (-1), 1) := by decide +kernel
theorem d_BT_rows_24 : decode b_BT_rows 24 = .ok (.if_icmp .ne 5, 3) := by decide +kernel
theorem d_BT_rows_27 : decode b_BT_rows 27 = .ok (.iconst 0, 1) := by decide +kernel
theorem d_BT_rows_28 : decode b_BT_rows 28 = .ok (.ireturn, 1) := by decide +kernel
theorem d_BT_rows_29 : decode b_BT_rows 29 = .ok (.aload_n 0, 1) := by decide +kernel
theorem d_BT_rows_30 : decode b_BT_rows 30 = .ok (.getfield 21, 3) := by decide +kernel
theorem d_BT_rows_33 : decode b_BT_rows 33 = .ok (.iload_n 2, 1) := by decide +kernel
theorem d_BT_rows_34 : decode b_BT_rows 34 = .ok (.iconst 4, 1) := by decide +kernel
theorem d_BT_rows_35 : decode b_BT_rows 35 = .ok (.invokevirtual 126, 3) := by decide +kernel
theorem d_BT_rows_38 : decode b_BT_rows 38 = .ok (.ifCond .eq 8, 3) := by decide +kernel
theorem d_BT_rows_41 : decode b_BT_rows 41 = .ok (.bipush (-2), 2) := by decide +kernel
theorem d_BT_rows_43 : decode b_BT_rows 43 = .ok (.goto 12, 3) := by decide +kernel
theorem d_BT_rows_46 : decode b_BT_rows 46 = .ok (.aload_n 0, 1) := by decide +kernel
theorem d_BT_rows_47 : decode b_BT_rows 47 = .ok (.getfield 21, 3) := by decide +kernel
theorem d_BT_rows_50 : decode b_BT_rows 50 = .ok (.iload_n 2, 1) := by decide +kernel
theorem d_BT_rows_51 : decode b_BT_rows 51 = .ok (.iconst 1, 1) := by decide +kernel
theorem d_BT_rows_52 : decode b_BT_rows 52 = .ok (.invokevirtual 130, 3) := by decide +kernel
theorem d_BT_rows_55 : decode b_BT_rows 55 = .ok (.ireturn, 1) := by decide +kernel
theorem d_BT_kept_0 : decode b_BT_kept 0 = .ok (.aload_n 0, 1) := by decide +kernel
theorem d_BT_kept_1 : decode b_BT_kept 1 = .ok (.iload_n 1, 1) := by decide +kernel
theorem d_BT_kept_2 : decode b_BT_kept 2 = .ok (.ifCond .lt 7, 3) := by decide +kernel
theorem d_BT_kept_5 : decode b_BT_kept 5 = .ok (.iconst 1, 1) := by decide +kernel
theorem d_BT_kept_6 : decode b_BT_kept 6 = .ok (.goto 4, 3) := by decide +kernel
theorem d_BT_kept_9 : decode b_BT_kept 9 = .ok (.iconst 0, 1) := by decide +kernel
theorem d_BT_kept_10 : decode b_BT_kept 10 = .ok (.invokevirtual 50, 3) := by decide +kernel
theorem d_BT_kept_13 : decode b_BT_kept 13 = .ok (.aload_n 0, 1) := by decide +kernel
theorem d_BT_kept_14 : decode b_BT_kept 14 = .ok (.invokevirtual 54, 3) := by decide +kernel
theorem d_BT_kept_17 : decode b_BT_kept 17 = .ok (.iload_n 1, 1) := by decide +kernel
theorem d_BT_kept_18 : decode b_BT_kept 18 = .ok (.aload_n 0, 1) := by decide +kernel
theorem d_BT_kept_19 : decode b_BT_kept 19 = .ok (.getfield 35, 3) := by decide +kernel
theorem d_BT_kept_22 : decode b_BT_kept 22 = .ok (.invokevirtual 133, 3) := by decide +kernel
theorem d_BT_kept_25 : decode b_BT_kept 25 = .ok (.if_icmp .ge 12, 3) := by decide +kernel
theorem d_BT_kept_28 : decode b_BT_kept 28 = .ok (.aload_n 0, 1) := by decide +kernel
theorem d_BT_kept_29 : decode b_BT_kept 29 = .ok (.getfield 35, 3) := by decide +kernel
theorem d_BT_kept_32 : decode b_BT_kept 32 = .ok (.iload_n 1, 1) := by decide +kernel
theorem d_BT_kept_33 : decode b_BT_kept 33 = .ok (.invokevirtual 134, 3) := by decide +kernel
theorem d_BT_kept_36 : decode b_BT_kept 36 = .ok (.ireturn, 1) := by decide +kernel
theorem d_BT_kept_37 : decode b_BT_kept 37 = .ok (.iload_n 1, 1) := by decide +kernel
theorem d_BT_kept_38 : decode b_BT_kept 38 = .ok (.aload_n 0, 1) := by decide +kernel
theorem d_BT_kept_39 : decode b_BT_kept 39 = .ok (.getfield 35, 3) := by decide +kernel
theorem d_BT_kept_42 : decode b_BT_kept 42 = .ok (.invokevirtual 133, 3) := by decide +kernel
theorem d_BT_kept_45 : decode b_BT_kept 45 = .ok (.if_icmp .ne 15, 3) := by decide +kernel
theorem d_BT_kept_48 : decode b_BT_kept 48 = .ok (.aload_n 0, 1) := by decide +kernel
theorem d_BT_kept_49 : decode b_BT_kept 49 = .ok (.iconst 0, 1) := by decide +kernel
theorem d_BT_kept_50 : decode b_BT_kept 50 = .ok (.invokevirtual 113, 3) := by decide +kernel
theorem d_BT_kept_53 : decode b_BT_kept 53 = .ok (.ifCond .eq 7, 3) := by decide +kernel
theorem d_BT_kept_56 : decode b_BT_kept 56 = .ok (.iconst 0, 1) := by decide +kernel
theorem d_BT_kept_57 : decode b_BT_kept 57 = .ok (.goto 4, 3) := by decide +kernel
theorem d_BT_kept_60 : decode b_BT_kept 60 = .ok (.iconst (-1), 1) := by decide +kernel
theorem d_BT_kept_61 : decode b_BT_kept 61 = .ok (.ireturn, 1) := by decide +kernel
theorem d_BT_crash_0 : decode b_BT_crash 0 = .ok (.aload_n 0, 1) := by decide +kernel
theorem d_BT_crash_1 : decode b_BT_crash 1 = .ok (.iload_n 1, 1) := by decide +kernel
theorem d_BT_crash_2 : decode b_BT_crash 2 = .ok (.iconst (-1), 1) := by decide +kernel
theorem d_BT_crash_3 : decode b_BT_crash 3 = .ok (.if_icmp .lt 13, 3) := by decide +kernel
theorem d_BT_crash_6 : decode b_BT_crash 6 = .ok (.iload_n 1, 1) := by decide +kernel
theorem d_BT_crash_7 : decode b_BT_crash 7 = .ok (.ldc 137, 2) := by decide +kernel
theorem d_BT_crash_9 : decode b_BT_crash 9 = .ok (.if_icmp .gt 7, 3) := by decide +kernel
theorem d_BT_crash_12 : decode b_BT_crash 12 = .ok (.iconst 1, 1) := by decide +kernel
theorem d_BT_crash_13 : decode b_BT_crash 13 = .ok (.goto 4, 3) := by decide +kernel
theorem d_BT_crash_16 : decode b_BT_crash 16 = .ok (.iconst 0, 1) := by decide +kernel
theorem d_BT_crash_17 : decode b_BT_crash 17 = .ok (.invokevirtual 50, 3) := by decide +kernel
theorem d_BT_crash_20 : decode b_BT_crash 20 = .ok (.aload_n 0, 1) := by decide +kernel
theorem d_BT_crash_21 : decode b_BT_crash 21 = .ok (.invokevirtual 54, 3) := by decide +kernel
theorem d_BT_crash_24 : decode b_BT_crash 24 = .ok (.aload_n 0, 1) := by decide +kernel
theorem d_BT_crash_25 : decode b_BT_crash 25 = .ok (.getfield 10, 3) := by decide +kernel
theorem d_BT_crash_28 : decode b_BT_crash 28 = .ok (.iload_n 1, 1) := by decide +kernel
theorem d_BT_crash_29 : decode b_BT_crash 29 = .ok (.invokevirtual 138, 3) := by decide +kernel
theorem d_BT_crash_32 : decode b_BT_crash 32 = .ok (.return_, 1) := by decide +kernel
theorem d_BT_reopen_0 : decode b_BT_reopen 0 = .ok (.aload_n 0, 1) := by decide +kernel
theorem d_BT_reopen_1 : decode b_BT_reopen 1 = .ok (.getfield 10, 3) := by decide +kernel
theorem d_BT_reopen_4 : decode b_BT_reopen 4 = .ok (.invokevirtual 141, 3) := by decide +kernel
theorem d_BT_reopen_7 : decode b_BT_reopen 7 = .ok (.aload_n 0, 1) := by decide +kernel
theorem d_BT_reopen_8 : decode b_BT_reopen 8 = .ok (.getfield 28, 3) := by decide +kernel
theorem d_BT_reopen_11 : decode b_BT_reopen 11 = .ok (.invokevirtual 69, 3) := by decide +kernel
theorem d_BT_reopen_14 : decode b_BT_reopen 14 = .ok (.aload_n 0, 1) := by decide +kernel
theorem d_BT_reopen_15 : decode b_BT_reopen 15 = .ok (.getfield 35, 3) := by decide +kernel
theorem d_BT_reopen_18 : decode b_BT_reopen 18 = .ok (.invokevirtual 144, 3) := by decide +kernel
theorem d_BT_reopen_21 : decode b_BT_reopen 21 = .ok (.aload_n 0, 1) := by decide +kernel
theorem d_BT_reopen_22 : decode b_BT_reopen 22 = .ok (.getfield 21, 3) := by decide +kernel
theorem d_BT_reopen_25 : decode b_BT_reopen 25 = .ok (.invokevirtual 145, 3) := by decide +kernel
theorem d_BT_reopen_28 : decode b_BT_reopen 28 = .ok (.istore_n 1, 1) := by decide +kernel
theorem d_BT_reopen_29 : decode b_BT_reopen 29 = .ok (.iload_n 1, 1) := by decide +kernel
theorem d_BT_reopen_30 : decode b_BT_reopen 30 = .ok (.iconst (-1), 1) := by decide +kernel
theorem d_BT_reopen_31 : decode b_BT_reopen 31 = .ok (.if_icmp .ne 20, 3) := by decide +kernel
theorem d_BT_reopen_34 : decode b_BT_reopen 34 = .ok (.aload_n 0, 1) := by decide +kernel
theorem d_BT_reopen_35 : decode b_BT_reopen 35 = .ok (.getfield 21, 3) := by decide +kernel
theorem d_BT_reopen_38 : decode b_BT_reopen 38 = .ok (.iconst 0, 1) := by decide +kernel
theorem d_BT_reopen_39 : decode b_BT_reopen 39 = .ok (.iconst 0, 1) := by decide +kernel
theorem d_BT_reopen_40 : decode b_BT_reopen 40 = .ok (.invokevirtual 148, 3) := by decide +kernel
theorem d_BT_reopen_43 : decode b_BT_reopen 43 = .ok (.aload_n 0, 1) := by decide +kernel
theorem d_BT_reopen_44 : decode b_BT_reopen 44 = .ok (.getfield 35, 3) := by decide +kernel
theorem d_BT_reopen_47 : decode b_BT_reopen 47 = .ok (.invokevirtual 91, 3) := by decide +kernel
theorem d_BT_reopen_50 : decode b_BT_reopen 50 = .ok (.ireturn, 1) := by decide +kernel
theorem d_BT_reopen_51 : decode b_BT_reopen 51 = .ok (.aload_n 0, 1) := by decide +kernel
theorem d_BT_reopen_52 : decode b_BT_reopen 52 = .ok (.getfield 21, 3) := by decide +kernel
theorem d_BT_reopen_55 : decode b_BT_reopen 55 = .ok (.aload_n 0, 1) := by decide +kernel
theorem d_BT_reopen_56 : decode b_BT_reopen 56 = .ok (.getfield 21, 3) := by decide +kernel
theorem d_BT_reopen_59 : decode b_BT_reopen 59 = .ok (.iload_n 1, 1) := by decide +kernel
theorem d_BT_reopen_60 : decode b_BT_reopen 60 = .ok (.iconst 2, 1) := by decide +kernel
theorem d_BT_reopen_61 : decode b_BT_reopen 61 = .ok (.invokevirtual 130, 3) := by decide +kernel
theorem d_BT_reopen_64 : decode b_BT_reopen 64 = .ok (.aload_n 0, 1) := by decide +kernel
theorem d_BT_reopen_65 : decode b_BT_reopen 65 = .ok (.getfield 21, 3) := by decide +kernel
theorem d_BT_reopen_68 : decode b_BT_reopen 68 = .ok (.iload_n 1, 1) := by decide +kernel
theorem d_BT_reopen_69 : decode b_BT_reopen 69 = .ok (.invokevirtual 151, 3) := by decide +kernel
theorem d_BT_reopen_72 : decode b_BT_reopen 72 = .ok (.iconst 1, 1) := by decide +kernel
theorem d_BT_reopen_73 : decode b_BT_reopen 73 = .ok (.iadd, 1) := by decide +kernel
theorem d_BT_reopen_74 : decode b_BT_reopen 74 = .ok (.invokevirtual 148, 3) := by decide +kernel
theorem d_BT_reopen_77 : decode b_BT_reopen 77 = .ok (.iconst 0, 1) := by decide +kernel
theorem d_BT_reopen_78 : decode b_BT_reopen 78 = .ok (.istore_n 2, 1) := by decide +kernel
theorem d_BT_reopen_79 : decode b_BT_reopen 79 = .ok (.iload_n 2, 1) := by decide +kernel
theorem d_BT_reopen_80 : decode b_BT_reopen 80 = .ok (.aload_n 0, 1) := by decide +kernel
theorem d_BT_reopen_81 : decode b_BT_reopen 81 = .ok (.getfield 21, 3) := by decide +kernel
theorem d_BT_reopen_84 : decode b_BT_reopen 84 = .ok (.invokevirtual 154, 3) := by decide +kernel
theorem d_BT_reopen_87 : decode b_BT_reopen 87 = .ok (.if_icmp .ge 61, 3) := by decide +kernel
theorem d_BT_reopen_90 : decode b_BT_reopen 90 = .ok (.aload_n 0, 1) := by decide +kernel
theorem d_BT_reopen_91 : decode b_BT_reopen 91 = .ok (.getfield 21, 3) := by decide +kernel
theorem d_BT_reopen_94 : decode b_BT_reopen 94 = .ok (.iload_n 2, 1) := by decide +kernel
theorem d_BT_reopen_95 : decode b_BT_reopen 95 = .ok (.invokevirtual 157, 3) := by decide +kernel
theorem d_BT_reopen_98 : decode b_BT_reopen 98 = .ok (.ifCond .eq 44, 3) := by decide +kernel
theorem d_BT_reopen_101 : decode b_BT_reopen 101 = .ok (.aload_n 0, 1) := by decide +kernel
theorem d_BT_reopen_102 : decode b_BT_reopen 102 = .ok (.getfield 21, 3) := by decide +kernel
theorem d_BT_reopen_105 : decode b_BT_reopen 105 = .ok (.aload_n 0, 1) := by decide +kernel
theorem d_BT_reopen_106 : decode b_BT_reopen 106 = .ok (.getfield 21, 3) := by decide +kernel
theorem d_BT_reopen_109 : decode b_BT_reopen 109 = .ok (.iload_n 2, 1) := by decide +kernel
theorem d_BT_reopen_110 : decode b_BT_reopen 110 = .ok (.invokevirtual 151, 3) := by decide +kernel
theorem d_BT_reopen_113 : decode b_BT_reopen 113 = .ok (.invokevirtual 160, 3) := by decide +kernel
theorem d_BT_reopen_116 : decode b_BT_reopen 116 = .ok (.ifCond .eq 26, 3) := by decide +kernel
theorem d_BT_reopen_119 : decode b_BT_reopen 119 = .ok (.aload_n 0, 1) := by decide +kernel
theorem d_BT_reopen_120 : decode b_BT_reopen 120 = .ok (.getfield 35, 3) := by decide +kernel
theorem d_BT_reopen_123 : decode b_BT_reopen 123 = .ok (.aload_n 0, 1) := by decide +kernel
theorem d_BT_reopen_124 : decode b_BT_reopen 124 = .ok (.getfield 21, 3) := by decide +kernel
theorem d_BT_reopen_127 : decode b_BT_reopen 127 = .ok (.iload_n 2, 1) := by decide +kernel
theorem d_BT_reopen_128 : decode b_BT_reopen 128 = .ok (.invokevirtual 163, 3) := by decide +kernel
theorem d_BT_reopen_131 : decode b_BT_reopen 131 = .ok (.aload_n 0, 1) := by decide +kernel
theorem d_BT_reopen_132 : decode b_BT_reopen 132 = .ok (.getfield 21, 3) := by decide +kernel
theorem d_BT_reopen_135 : decode b_BT_reopen 135 = .ok (.iload_n 2, 1) := by decide +kernel
theorem d_BT_reopen_136 : decode b_BT_reopen 136 = .ok (.invokevirtual 151, 3) := by decide +kernel
theorem d_BT_reopen_139 : decode b_BT_reopen 139 = .ok (.invokevirtual 166, 3) := by decide +kernel
theorem d_BT_reopen_142 : decode b_BT_reopen 142 = .ok (.iinc 2 1, 3) := by decide +kernel
theorem d_BT_reopen_145 : decode b_BT_reopen 145 = .ok (.goto (-66), 3) := by decide +kernel
theorem d_BT_reopen_148 : decode b_BT_reopen 148 = .ok (.aload_n 0, 1) := by decide +kernel
theorem d_BT_reopen_149 : decode b_BT_reopen 149 = .ok (.getfield 35, 3) := by decide +kernel
theorem d_BT_reopen_152 : decode b_BT_reopen 152 = .ok (.invokevirtual 91, 3) := by decide +kernel
theorem d_BT_reopen_155 : decode b_BT_reopen 155 = .ok (.ireturn, 1) := by decide +kernel
theorem d_BT_isDown_0 : decode b_BT_isDown 0 = .ok (.aload_n 0, 1) := by decide +kernel
theorem d_BT_isDown_1 : decode b_BT_isDown 1 = .ok (.getfield 10, 3) := by decide +kernel
theorem d_BT_isDown_4 : decode b_BT_isDown 4 = .ok (.invokevirtual 169, 3) := by decide +kernel
theorem d_BT_isDown_7 : decode b_BT_isDown 7 = .ok (.ireturn, 1) := by decide +kernel
theorem d_BT_byteAt_0 : decode b_BT_byteAt 0 = .ok (.aload_n 0, 1) := by decide +kernel
theorem d_BT_byteAt_1 : decode b_BT_byteAt 1 = .ok (.aload_n 0, 1) := by decide +kernel
theorem d_BT_byteAt_2 : decode b_BT_byteAt 2 = .ok (.getfield 21, 3) := by decide +kernel
theorem d_BT_byteAt_5 : decode b_BT_byteAt 5 = .ok (.iload_n 1, 1) := by decide +kernel
theorem d_BT_byteAt_6 : decode b_BT_byteAt 6 = .ok (.invokevirtual 160, 3) := by decide +kernel
theorem d_BT_byteAt_9 : decode b_BT_byteAt 9 = .ok (.ifCond .eq 15, 3) := by decide +kernel
theorem d_BT_byteAt_12 : decode b_BT_byteAt 12 = .ok (.aload_n 0, 1) := by decide +kernel
theorem d_BT_byteAt_13 : decode b_BT_byteAt 13 = .ok (.iload_n 2, 1) := by decide +kernel
theorem d_BT_byteAt_14 : decode b_BT_byteAt 14 = .ok (.invokevirtual 173, 3) := by decide +kernel
theorem d_BT_byteAt_17 : decode b_BT_byteAt 17 = .ok (.ifCond .eq 7, 3) := by decide +kernel
theorem d_BT_byteAt_20 : decode b_BT_byteAt 20 = .ok (.iconst 1, 1) := by decide +kernel
theorem d_BT_byteAt_21 : decode b_BT_byteAt 21 = .ok (.goto 4, 3) := by decide +kernel
theorem d_BT_byteAt_24 : decode b_BT_byteAt 24 = .ok (.iconst 0, 1) := by decide +kernel
theorem d_BT_byteAt_25 : decode b_BT_byteAt 25 = .ok (.invokevirtual 50, 3) := by decide +kernel
theorem d_BT_byteAt_28 : decode b_BT_byteAt 28 = .ok (.aload_n 0, 1) := by decide +kernel
theorem d_BT_byteAt_29 : decode b_BT_byteAt 29 = .ok (.invokevirtual 54, 3) := by decide +kernel
theorem d_BT_byteAt_32 : decode b_BT_byteAt 32 = .ok (.aload_n 0, 1) := by decide +kernel
theorem d_BT_byteAt_33 : decode b_BT_byteAt 33 = .ok (.getfield 21, 3) := by decide +kernel
theorem d_BT_byteAt_36 : decode b_BT_byteAt 36 = .ok (.iload_n 1, 1) := by decide +kernel
theorem d_BT_byteAt_37 : decode b_BT_byteAt 37 = .ok (.iload_n 2, 1) := by decide +kernel
theorem d_BT_byteAt_38 : decode b_BT_byteAt 38 = .ok (.invokevirtual 176, 3) := by decide +kernel
theorem d_BT_byteAt_41 : decode b_BT_byteAt 41 = .ok (.ireturn, 1) := by decide +kernel
theorem d_BT_poke_0 : decode b_BT_poke 0 = .ok (.aload_n 0, 1) := by decide +kernel
theorem d_BT_poke_1 : decode b_BT_poke 1 = .ok (.aload_n 0, 1) := by decide +kernel
theorem d_BT_poke_2 : decode b_BT_poke 2 = .ok (.getfield 21, 3) := by decide +kernel
theorem d_BT_poke_5 : decode b_BT_poke 5 = .ok (.iload_n 1, 1) := by decide +kernel
theorem d_BT_poke_6 : decode b_BT_poke 6 = .ok (.invokevirtual 160, 3) := by decide +kernel
theorem d_BT_poke_9 : decode b_BT_poke 9 = .ok (.ifCond .eq 27, 3) := by decide +kernel
theorem d_BT_poke_12 : decode b_BT_poke 12 = .ok (.aload_n 0, 1) := by decide +kernel
theorem d_BT_poke_13 : decode b_BT_poke 13 = .ok (.iload_n 2, 1) := by decide +kernel
theorem d_BT_poke_14 : decode b_BT_poke 14 = .ok (.invokevirtual 173, 3) := by decide +kernel
theorem d_BT_poke_17 : decode b_BT_poke 17 = .ok (.ifCond .eq 19, 3) := by decide +kernel
theorem d_BT_poke_20 : decode b_BT_poke 20 = .ok (.iload_n 3, 1) := by decide +kernel
theorem d_BT_poke_21 : decode b_BT_poke 21 = .ok (.iconst 1, 1) := by decide +kernel
theorem d_BT_poke_22 : decode b_BT_poke 22 = .ok (.if_icmp .lt 14, 3) := by decide +kernel
theorem d_BT_poke_25 : decode b_BT_poke 25 = .ok (.iload_n 3, 1) := by decide +kernel
theorem d_BT_poke_26 : decode b_BT_poke 26 = .ok (.sipush 255, 3) := by decide +kernel
theorem d_BT_poke_29 : decode b_BT_poke 29 = .ok (.if_icmp .gt 7, 3) := by decide +kernel
theorem d_BT_poke_32 : decode b_BT_poke 32 = .ok (.iconst 1, 1) := by decide +kernel
theorem d_BT_poke_33 : decode b_BT_poke 33 = .ok (.goto 4, 3) := by decide +kernel
theorem d_BT_poke_36 : decode b_BT_poke 36 = .ok (.iconst 0, 1) := by decide +kernel
theorem d_BT_poke_37 : decode b_BT_poke 37 = .ok (.invokevirtual 50, 3) := by decide +kernel
theorem d_BT_poke_40 : decode b_BT_poke 40 = .ok (.aload_n 0, 1) := by decide +kernel
theorem d_BT_poke_41 : decode b_BT_poke 41 = .ok (.invokevirtual 54, 3) := by decide +kernel
theorem d_BT_poke_44 : decode b_BT_poke 44 = .ok (.aload_n 0, 1) := by decide +kernel
theorem d_BT_poke_45 : decode b_BT_poke 45 = .ok (.getfield 21, 3) := by decide +kernel
theorem d_BT_poke_48 : decode b_BT_poke 48 = .ok (.iload_n 1, 1) := by decide +kernel
theorem d_BT_poke_49 : decode b_BT_poke 49 = .ok (.iload_n 2, 1) := by decide +kernel
theorem d_BT_poke_50 : decode b_BT_poke 50 = .ok (.iload_n 3, 1) := by decide +kernel
theorem d_BT_poke_51 : decode b_BT_poke 51 = .ok (.invokevirtual 179, 3) := by decide +kernel
theorem d_BT_poke_54 : decode b_BT_poke 54 = .ok (.aload_n 0, 1) := by decide +kernel
theorem d_BT_poke_55 : decode b_BT_poke 55 = .ok (.getfield 21, 3) := by decide +kernel
theorem d_BT_poke_58 : decode b_BT_poke 58 = .ok (.iload_n 1, 1) := by decide +kernel
theorem d_BT_poke_59 : decode b_BT_poke 59 = .ok (.iload_n 2, 1) := by decide +kernel
theorem d_BT_poke_60 : decode b_BT_poke 60 = .ok (.invokevirtual 176, 3) := by decide +kernel
theorem d_BT_poke_63 : decode b_BT_poke 63 = .ok (.ireturn, 1) := by decide +kernel
theorem d_BT_badAt_0 : decode b_BT_badAt 0 = .ok (.aload_n 0, 1) := by decide +kernel
theorem d_BT_badAt_1 : decode b_BT_badAt 1 = .ok (.iload_n 1, 1) := by decide +kernel
theorem d_BT_badAt_2 : decode b_BT_badAt 2 = .ok (.ifCond .lt 7, 3) := by decide +kernel
theorem d_BT_badAt_5 : decode b_BT_badAt 5 = .ok (.iconst 1, 1) := by decide +kernel
theorem d_BT_badAt_6 : decode b_BT_badAt 6 = .ok (.goto 4, 3) := by decide +kernel
theorem d_BT_badAt_9 : decode b_BT_badAt 9 = .ok (.iconst 0, 1) := by decide +kernel
theorem d_BT_badAt_10 : decode b_BT_badAt 10 = .ok (.invokevirtual 50, 3) := by decide +kernel
theorem d_BT_badAt_13 : decode b_BT_badAt 13 = .ok (.aload_n 0, 1) := by decide +kernel
theorem d_BT_badAt_14 : decode b_BT_badAt 14 = .ok (.invokevirtual 54, 3) := by decide +kernel
theorem d_BT_badAt_17 : decode b_BT_badAt 17 = .ok (.iconst 0, 1) := by decide +kernel
theorem d_BT_badAt_18 : decode b_BT_badAt 18 = .ok (.istore_n 2, 1) := by decide +kernel
theorem d_BT_badAt_19 : decode b_BT_badAt 19 = .ok (.aload_n 0, 1) := by decide +kernel
theorem d_BT_badAt_20 : decode b_BT_badAt 20 = .ok (.getfield 21, 3) := by decide +kernel
theorem d_BT_badAt_23 : decode b_BT_badAt 23 = .ok (.invokevirtual 183, 3) := by decide +kernel
theorem d_BT_badAt_26 : decode b_BT_badAt 26 = .ok (.istore_n 3, 1) := by decide +kernel
theorem d_BT_badAt_27 : decode b_BT_badAt 27 = .ok (.iload_n 3, 1) := by decide +kernel
theorem d_BT_badAt_28 : decode b_BT_badAt 28 = .ok (.aload_n 0, 1) := by decide +kernel
theorem d_BT_badAt_29 : decode b_BT_badAt 29 = .ok (.getfield 21, 3) := by decide +kernel
theorem d_BT_badAt_32 : decode b_BT_badAt 32 = .ok (.invokevirtual 186, 3) := by decide +kernel
theorem d_BT_badAt_35 : decode b_BT_badAt 35 = .ok (.if_icmp .ge 30, 3) := by decide +kernel
theorem d_BT_badAt_38 : decode b_BT_badAt 38 = .ok (.aload_n 0, 1) := by decide +kernel
theorem d_BT_badAt_39 : decode b_BT_badAt 39 = .ok (.getfield 21, 3) := by decide +kernel
theorem d_BT_badAt_42 : decode b_BT_badAt 42 = .ok (.iload_n 3, 1) := by decide +kernel
theorem d_BT_badAt_43 : decode b_BT_badAt 43 = .ok (.invokevirtual 189, 3) := by decide +kernel
theorem d_BT_badAt_46 : decode b_BT_badAt 46 = .ok (.ifCond .ne 13, 3) := by decide +kernel
theorem d_BT_badAt_49 : decode b_BT_badAt 49 = .ok (.iload_n 2, 1) := by decide +kernel
theorem d_BT_badAt_50 : decode b_BT_badAt 50 = .ok (.iload_n 1, 1) := by decide +kernel
theorem d_BT_badAt_51 : decode b_BT_badAt 51 = .ok (.if_icmp .ne 5, 3) := by decide +kernel
theorem d_BT_badAt_54 : decode b_BT_badAt 54 = .ok (.iload_n 3, 1) := by decide +kernel
theorem d_BT_badAt_55 : decode b_BT_badAt 55 = .ok (.ireturn, 1) := by decide +kernel
theorem d_BT_badAt_56 : decode b_BT_badAt 56 = .ok (.iinc 2 1, 3) := by decide +kernel
theorem d_BT_badAt_59 : decode b_BT_badAt 59 = .ok (.iinc 3 1, 3) := by decide +kernel
theorem d_BT_badAt_62 : decode b_BT_badAt 62 = .ok (.goto (-35), 3) := by decide +kernel
theorem d_BT_badAt_65 : decode b_BT_badAt 65 = .ok (.iconst (-1), 1) := by decide +kernel
theorem d_BT_badAt_66 : decode b_BT_badAt 66 = .ok (.ireturn, 1) := by decide +kernel
theorem d_BT_told_0 : decode b_BT_told 0 = .ok (.aload_n 0, 1) := by decide +kernel
theorem d_BT_told_1 : decode b_BT_told 1 = .ok (.iload_n 1, 1) := by decide +kernel
theorem d_BT_told_2 : decode b_BT_told 2 = .ok (.ifCond .lt 12, 3) := by decide +kernel
theorem d_BT_told_5 : decode b_BT_told 5 = .ok (.iload_n 1, 1) := by decide +kernel
theorem d_BT_told_6 : decode b_BT_told 6 = .ok (.iconst 4, 1) := by decide +kernel
theorem d_BT_told_7 : decode b_BT_told 7 = .ok (.if_icmp .gt 7, 3) := by decide +kernel
theorem d_BT_told_10 : decode b_BT_told 10 = .ok (.iconst 1, 1) := by decide +kernel
theorem d_BT_told_11 : decode b_BT_told 11 = .ok (.goto 4, 3) := by decide +kernel
theorem d_BT_told_14 : decode b_BT_told 14 = .ok (.iconst 0, 1) := by decide +kernel
theorem d_BT_told_15 : decode b_BT_told 15 = .ok (.invokevirtual 50, 3) := by decide +kernel
theorem d_BT_told_18 : decode b_BT_told 18 = .ok (.aload_n 0, 1) := by decide +kernel
theorem d_BT_told_19 : decode b_BT_told 19 = .ok (.invokevirtual 54, 3) := by decide +kernel
theorem d_BT_told_22 : decode b_BT_told 22 = .ok (.iload_n 1, 1) := by decide +kernel
theorem d_BT_told_23 : decode b_BT_told 23 = .ok (.tableswitch 61 0 3 #[29, 37, 45, 53], 29) := by decide +kernel
theorem d_BT_told_52 : decode b_BT_told 52 = .ok (.aload_n 0, 1) := by decide +kernel
theorem d_BT_told_53 : decode b_BT_told 53 = .ok (.getfield 21, 3) := by decide +kernel
theorem d_BT_told_56 : decode b_BT_told 56 = .ok (.invokevirtual 183, 3) := by decide +kernel
theorem d_BT_told_59 : decode b_BT_told 59 = .ok (.ireturn, 1) := by decide +kernel
theorem d_BT_told_60 : decode b_BT_told 60 = .ok (.aload_n 0, 1) := by decide +kernel
theorem d_BT_told_61 : decode b_BT_told 61 = .ok (.getfield 21, 3) := by decide +kernel
theorem d_BT_told_64 : decode b_BT_told 64 = .ok (.invokevirtual 186, 3) := by decide +kernel
theorem d_BT_told_67 : decode b_BT_told 67 = .ok (.ireturn, 1) := by decide +kernel
theorem d_BT_told_68 : decode b_BT_told 68 = .ok (.aload_n 0, 1) := by decide +kernel
theorem d_BT_told_69 : decode b_BT_told 69 = .ok (.getfield 35, 3) := by decide +kernel
theorem d_BT_told_72 : decode b_BT_told 72 = .ok (.invokevirtual 91, 3) := by decide +kernel
theorem d_BT_told_75 : decode b_BT_told 75 = .ok (.ireturn, 1) := by decide +kernel
theorem d_BT_told_76 : decode b_BT_told 76 = .ok (.aload_n 0, 1) := by decide +kernel
theorem d_BT_told_77 : decode b_BT_told 77 = .ok (.getfield 10, 3) := by decide +kernel
theorem d_BT_told_80 : decode b_BT_told 80 = .ok (.invokevirtual 192, 3) := by decide +kernel
theorem d_BT_told_83 : decode b_BT_told 83 = .ok (.ireturn, 1) := by decide +kernel
theorem d_BT_told_84 : decode b_BT_told 84 = .ok (.aload_n 0, 1) := by decide +kernel
theorem d_BT_told_85 : decode b_BT_told 85 = .ok (.getfield 28, 3) := by decide +kernel
theorem d_BT_told_88 : decode b_BT_told 88 = .ok (.invokevirtual 61, 3) := by decide +kernel
theorem d_BT_told_91 : decode b_BT_told 91 = .ok (.ireturn, 1) := by decide +kernel
theorem d_BT_requireArgument_0 : decode b_BT_requireArgument 0 = .ok (.iload_n 1, 1) := by decide +kernel
theorem d_BT_requireArgument_1 : decode b_BT_requireArgument 1 = .ok (.ifCond .ne 13, 3) := by decide +kernel
theorem d_BT_requireArgument_4 : decode b_BT_requireArgument 4 = .ok (.new 195, 3) := by decide +kernel
theorem d_BT_requireArgument_7 : decode b_BT_requireArgument 7 = .ok (.dup, 1) := by decide +kernel
theorem d_BT_requireArgument_8 : decode b_BT_requireArgument 8 = .ok (.ldc 197, 2) := by decide +kernel
theorem d_BT_requireArgument_10 : decode b_BT_requireArgument 10 = .ok (.invokespecial 199, 3) := by decide +kernel
theorem d_BT_requireArgument_13 : decode b_BT_requireArgument 13 = .ok (.athrow, 1) := by decide +kernel
theorem d_BT_requireArgument_14 : decode b_BT_requireArgument 14 = .ok (.return_, 1) := by decide +kernel
theorem d_BT_requirePower_0 : decode b_BT_requirePower 0 = .ok (.aload_n 0, 1) := by decide +kernel
theorem d_BT_requirePower_1 : decode b_BT_requirePower 1 = .ok (.getfield 10, 3) := by decide +kernel
theorem d_BT_requirePower_4 : decode b_BT_requirePower 4 = .ok (.invokevirtual 169, 3) := by decide +kernel
theorem d_BT_requirePower_7 : decode b_BT_requirePower 7 = .ok (.ifCond .eq 13, 3) := by decide +kernel
theorem d_BT_requirePower_10 : decode b_BT_requirePower 10 = .ok (.new 202, 3) := by decide +kernel
theorem d_BT_requirePower_13 : decode b_BT_requirePower 13 = .ok (.dup, 1) := by decide +kernel
theorem d_BT_requirePower_14 : decode b_BT_requirePower 14 = .ok (.ldc 204, 2) := by decide +kernel
theorem d_BT_requirePower_16 : decode b_BT_requirePower 16 = .ok (.invokespecial 206, 3) := by decide +kernel
theorem d_BT_requirePower_19 : decode b_BT_requirePower 19 = .ok (.athrow, 1) := by decide +kernel
theorem d_BT_requirePower_20 : decode b_BT_requirePower 20 = .ok (.return_, 1) := by decide +kernel
theorem d_BT_isKey_0 : decode b_BT_isKey 0 = .ok (.iload_n 1, 1) := by decide +kernel
theorem d_BT_isKey_1 : decode b_BT_isKey 1 = .ok (.ifCond .lt 14, 3) := by decide +kernel
theorem d_BT_isKey_4 : decode b_BT_isKey 4 = .ok (.iload_n 1, 1) := by decide +kernel
theorem d_BT_isKey_5 : decode b_BT_isKey 5 = .ok (.sipush 512, 3) := by decide +kernel
theorem d_BT_isKey_8 : decode b_BT_isKey 8 = .ok (.if_icmp .ge 7, 3) := by decide +kernel
theorem d_BT_isKey_11 : decode b_BT_isKey 11 = .ok (.iconst 1, 1) := by decide +kernel
theorem d_BT_isKey_12 : decode b_BT_isKey 12 = .ok (.goto 4, 3) := by decide +kernel
theorem d_BT_isKey_15 : decode b_BT_isKey 15 = .ok (.iconst 0, 1) := by decide +kernel
theorem d_BT_isKey_16 : decode b_BT_isKey 16 = .ok (.ireturn, 1) := by decide +kernel
theorem d_BT_isByteIndex_0 : decode b_BT_isByteIndex 0 = .ok (.iload_n 1, 1) := by decide +kernel
theorem d_BT_isByteIndex_1 : decode b_BT_isByteIndex 1 = .ok (.ifCond .lt 13, 3) := by decide +kernel
theorem d_BT_isByteIndex_4 : decode b_BT_isByteIndex 4 = .ok (.iload_n 1, 1) := by decide +kernel
theorem d_BT_isByteIndex_5 : decode b_BT_isByteIndex 5 = .ok (.bipush 64, 2) := by decide +kernel
theorem d_BT_isByteIndex_7 : decode b_BT_isByteIndex 7 = .ok (.if_icmp .ge 7, 3) := by decide +kernel
theorem d_BT_isByteIndex_10 : decode b_BT_isByteIndex 10 = .ok (.iconst 1, 1) := by decide +kernel
theorem d_BT_isByteIndex_11 : decode b_BT_isByteIndex 11 = .ok (.goto 4, 3) := by decide +kernel
theorem d_BT_isByteIndex_14 : decode b_BT_isByteIndex 14 = .ok (.iconst 0, 1) := by decide +kernel
theorem d_BT_isByteIndex_15 : decode b_BT_isByteIndex 15 = .ok (.ireturn, 1) := by decide +kernel
theorem d_BT_isKept_0 : decode b_BT_isKept 0 = .ok (.iload_n 1, 1) := by decide +kernel
theorem d_BT_isKept_1 : decode b_BT_isKept 1 = .ok (.ifCond .ne 21, 3) := by decide +kernel
theorem d_BT_isKept_4 : decode b_BT_isKept 4 = .ok (.aload_n 0, 1) := by decide +kernel
theorem d_BT_isKept_5 : decode b_BT_isKept 5 = .ok (.getfield 21, 3) := by decide +kernel
theorem d_BT_isKept_8 : decode b_BT_isKept 8 = .ok (.invokevirtual 183, 3) := by decide +kernel
theorem d_BT_isKept_11 : decode b_BT_isKept 11 = .ok (.ifCond .ne 7, 3) := by decide +kernel
theorem d_BT_isKept_14 : decode b_BT_isKept 14 = .ok (.iconst 1, 1) := by decide +kernel
theorem d_BT_isKept_15 : decode b_BT_isKept 15 = .ok (.goto 24, 3) := by decide +kernel
theorem d_BT_isKept_18 : decode b_BT_isKept 18 = .ok (.iconst 0, 1) := by decide +kernel
theorem d_BT_isKept_19 : decode b_BT_isKept 19 = .ok (.goto 20, 3) := by decide +kernel
theorem d_BT_isKept_22 : decode b_BT_isKept 22 = .ok (.aload_n 0, 1) := by decide +kernel
theorem d_BT_isKept_23 : decode b_BT_isKept 23 = .ok (.getfield 35, 3) := by decide +kernel
theorem d_BT_isKept_26 : decode b_BT_isKept 26 = .ok (.iload_n 1, 1) := by decide +kernel
theorem d_BT_isKept_27 : decode b_BT_isKept 27 = .ok (.invokevirtual 116, 3) := by decide +kernel
theorem d_BT_isKept_30 : decode b_BT_isKept 30 = .ok (.iconst (-1), 1) := by decide +kernel
theorem d_BT_isKept_31 : decode b_BT_isKept 31 = .ok (.if_icmp .eq 7, 3) := by decide +kernel
theorem d_BT_isKept_34 : decode b_BT_isKept 34 = .ok (.iconst 1, 1) := by decide +kernel
theorem d_BT_isKept_35 : decode b_BT_isKept 35 = .ok (.goto 4, 3) := by decide +kernel
theorem d_BT_isKept_38 : decode b_BT_isKept 38 = .ok (.iconst 0, 1) := by decide +kernel
theorem d_BT_isKept_39 : decode b_BT_isKept 39 = .ok (.ireturn, 1) := by decide +kernel
theorem d_BT_rowOf_0 : decode b_BT_rowOf 0 = .ok (.aload_n 0, 1) := by decide +kernel
theorem d_BT_rowOf_1 : decode b_BT_rowOf 1 = .ok (.iload_n 1, 1) := by decide +kernel
theorem d_BT_rowOf_2 : decode b_BT_rowOf 2 = .ok (.iload_n 2, 1) := by decide +kernel
theorem d_BT_rowOf_3 : decode b_BT_rowOf 3 = .ok (.iconst 3, 1) := by decide +kernel
theorem d_BT_rowOf_4 : decode b_BT_rowOf 4 = .ok (.ishr, 1) := by decide +kernel
theorem d_BT_rowOf_5 : decode b_BT_rowOf 5 = .ok (.invokevirtual 119, 3) := by decide +kernel
theorem d_BT_rowOf_8 : decode b_BT_rowOf 8 = .ok (.istore_n 3, 1) := by decide +kernel
theorem d_BT_rowOf_9 : decode b_BT_rowOf 9 = .ok (.iload_n 3, 1) := by decide +kernel
theorem d_BT_rowOf_10 : decode b_BT_rowOf 10 = .ok (.bipush (-2), 2) := by decide +kernel
theorem d_BT_rowOf_12 : decode b_BT_rowOf 12 = .ok (.if_icmp .ne 7, 3) := by decide +kernel
theorem d_BT_rowOf_15 : decode b_BT_rowOf 15 = .ok (.ldc2_w 207, 3) := by decide +kernel
theorem d_BT_rowOf_18 : decode b_BT_rowOf 18 = .ok (.lreturn, 1) := by decide +kernel
theorem d_BT_rowOf_19 : decode b_BT_rowOf 19 = .ok (.iload_n 3, 1) := by decide +kernel
theorem d_BT_rowOf_20 : decode b_BT_rowOf 20 = .ok (.iconst (-1), 1) := by decide +kernel
theorem d_BT_rowOf_21 : decode b_BT_rowOf 21 = .ok (.if_icmp .eq 18, 3) := by decide +kernel
theorem d_BT_rowOf_24 : decode b_BT_rowOf 24 = .ok (.aload_n 0, 1) := by decide +kernel
theorem d_BT_rowOf_25 : decode b_BT_rowOf 25 = .ok (.getfield 21, 3) := by decide +kernel
theorem d_BT_rowOf_28 : decode b_BT_rowOf 28 = .ok (.iload_n 3, 1) := by decide +kernel
theorem d_BT_rowOf_29 : decode b_BT_rowOf 29 = .ok (.iload_n 2, 1) := by decide +kernel
theorem d_BT_rowOf_30 : decode b_BT_rowOf 30 = .ok (.bipush 7, 2) := by decide +kernel
theorem d_BT_rowOf_32 : decode b_BT_rowOf 32 = .ok (.iand, 1) := by decide +kernel
theorem d_BT_rowOf_33 : decode b_BT_rowOf 33 = .ok (.invokevirtual 209, 3) := by decide +kernel
theorem d_BT_rowOf_36 : decode b_BT_rowOf 36 = .ok (.ifCond .ne 7, 3) := by decide +kernel
theorem d_BT_rowOf_39 : decode b_BT_rowOf 39 = .ok (.ldc2_w 75, 3) := by decide +kernel
theorem d_BT_rowOf_42 : decode b_BT_rowOf 42 = .ok (.lreturn, 1) := by decide +kernel
theorem d_BT_rowOf_43 : decode b_BT_rowOf 43 = .ok (.aload_n 0, 1) := by decide +kernel
theorem d_BT_rowOf_44 : decode b_BT_rowOf 44 = .ok (.getfield 21, 3) := by decide +kernel
theorem d_BT_rowOf_47 : decode b_BT_rowOf 47 = .ok (.iload_n 3, 1) := by decide +kernel
theorem d_BT_rowOf_48 : decode b_BT_rowOf 48 = .ok (.iload_n 2, 1) := by decide +kernel
theorem d_BT_rowOf_49 : decode b_BT_rowOf 49 = .ok (.bipush 7, 2) := by decide +kernel
theorem d_BT_rowOf_51 : decode b_BT_rowOf 51 = .ok (.iand, 1) := by decide +kernel
theorem d_BT_rowOf_52 : decode b_BT_rowOf 52 = .ok (.invokevirtual 130, 3) := by decide +kernel
theorem d_BT_rowOf_55 : decode b_BT_rowOf 55 = .ok (.i2l, 1) := by decide +kernel
theorem d_BT_rowOf_56 : decode b_BT_rowOf 56 = .ok (.lreturn, 1) := by decide +kernel
theorem d_BT_leafBlock_0 : decode b_BT_leafBlock 0 = .ok (.iload_n 1, 1) := by decide +kernel
theorem d_BT_leafBlock_1 : decode b_BT_leafBlock 1 = .ok (.iconst (-1), 1) := by decide +kernel
theorem d_BT_leafBlock_2 : decode b_BT_leafBlock 2 = .ok (.if_icmp .ne 5, 3) := by decide +kernel
theorem d_BT_leafBlock_5 : decode b_BT_leafBlock 5 = .ok (.iconst (-1), 1) := by decide +kernel
theorem d_BT_leafBlock_6 : decode b_BT_leafBlock 6 = .ok (.ireturn, 1) := by decide +kernel
theorem d_BT_leafBlock_7 : decode b_BT_leafBlock 7 = .ok (.aload_n 0, 1) := by decide +kernel
theorem d_BT_leafBlock_8 : decode b_BT_leafBlock 8 = .ok (.getfield 21, 3) := by decide +kernel
theorem d_BT_leafBlock_11 : decode b_BT_leafBlock 11 = .ok (.iload_n 1, 1) := by decide +kernel
theorem d_BT_leafBlock_12 : decode b_BT_leafBlock 12 = .ok (.iconst 4, 1) := by decide +kernel
theorem d_BT_leafBlock_13 : decode b_BT_leafBlock 13 = .ok (.invokevirtual 126, 3) := by decide +kernel
theorem d_BT_leafBlock_16 : decode b_BT_leafBlock 16 = .ok (.ifCond .eq 6, 3) := by decide +kernel
theorem d_BT_leafBlock_19 : decode b_BT_leafBlock 19 = .ok (.bipush (-2), 2) := by decide +kernel
theorem d_BT_leafBlock_21 : decode b_BT_leafBlock 21 = .ok (.ireturn, 1) := by decide +kernel
theorem d_BT_leafBlock_22 : decode b_BT_leafBlock 22 = .ok (.aload_n 0, 1) := by decide +kernel
theorem d_BT_leafBlock_23 : decode b_BT_leafBlock 23 = .ok (.iload_n 1, 1) := by decide +kernel
theorem d_BT_leafBlock_24 : decode b_BT_leafBlock 24 = .ok (.iconst 0, 1) := by decide +kernel
theorem d_BT_leafBlock_25 : decode b_BT_leafBlock 25 = .ok (.iconst 3, 1) := by decide +kernel
theorem d_BT_leafBlock_26 : decode b_BT_leafBlock 26 = .ok (.invokevirtual 212, 3) := by decide +kernel
theorem d_BT_leafBlock_29 : decode b_BT_leafBlock 29 = .ok (.istore_n 3, 1) := by decide +kernel
theorem d_BT_leafBlock_30 : decode b_BT_leafBlock 30 = .ok (.aload_n 0, 1) := by decide +kernel
theorem d_BT_leafBlock_31 : decode b_BT_leafBlock 31 = .ok (.iload_n 3, 1) := by decide +kernel
theorem d_BT_leafBlock_32 : decode b_BT_leafBlock 32 = .ok (.iload_n 2, 1) := by decide +kernel
theorem d_BT_leafBlock_33 : decode b_BT_leafBlock 33 = .ok (.iconst 3, 1) := by decide +kernel
theorem d_BT_leafBlock_34 : decode b_BT_leafBlock 34 = .ok (.ishr, 1) := by decide +kernel
theorem d_BT_leafBlock_35 : decode b_BT_leafBlock 35 = .ok (.iconst 2, 1) := by decide +kernel
theorem d_BT_leafBlock_36 : decode b_BT_leafBlock 36 = .ok (.invokevirtual 212, 3) := by decide +kernel
theorem d_BT_leafBlock_39 : decode b_BT_leafBlock 39 = .ok (.istore 4, 2) := by decide +kernel
theorem d_BT_leafBlock_41 : decode b_BT_leafBlock 41 = .ok (.aload_n 0, 1) := by decide +kernel
theorem d_BT_leafBlock_42 : decode b_BT_leafBlock 42 = .ok (.iload 4, 2) := by decide +kernel
theorem d_BT_leafBlock_44 : decode b_BT_leafBlock 44 = .ok (.iload_n 2, 1) := by decide +kernel
theorem d_BT_leafBlock_45 : decode b_BT_leafBlock 45 = .ok (.bipush 7, 2) := by decide +kernel
theorem d_BT_leafBlock_47 : decode b_BT_leafBlock 47 = .ok (.iand, 1) := by decide +kernel
theorem d_BT_leafBlock_48 : decode b_BT_leafBlock 48 = .ok (.iconst 1, 1) := by decide +kernel
theorem d_BT_leafBlock_49 : decode b_BT_leafBlock 49 = .ok (.invokevirtual 212, 3) := by decide +kernel
theorem d_BT_leafBlock_52 : decode b_BT_leafBlock 52 = .ok (.ireturn, 1) := by decide +kernel
theorem d_BT_childBlock_0 : decode b_BT_childBlock 0 = .ok (.iload_n 1, 1) := by decide +kernel
theorem d_BT_childBlock_1 : decode b_BT_childBlock 1 = .ok (.iconst (-1), 1) := by decide +kernel
theorem d_BT_childBlock_2 : decode b_BT_childBlock 2 = .ok (.if_icmp .eq 9, 3) := by decide +kernel
theorem d_BT_childBlock_5 : decode b_BT_childBlock 5 = .ok (.iload_n 1, 1) := by decide +kernel
theorem d_BT_childBlock_6 : decode b_BT_childBlock 6 = .ok (.bipush (-2), 2) := by decide +kernel
theorem d_BT_childBlock_8 : decode b_BT_childBlock 8 = .ok (.if_icmp .ne 5, 3) := by decide +kernel
theorem d_BT_childBlock_11 : decode b_BT_childBlock 11 = .ok (.iload_n 1, 1) := by decide +kernel
theorem d_BT_childBlock_12 : decode b_BT_childBlock 12 = .ok (.ireturn, 1) := by decide +kernel
theorem d_BT_childBlock_13 : decode b_BT_childBlock 13 = .ok (.aload_n 0, 1) := by decide +kernel
theorem d_BT_childBlock_14 : decode b_BT_childBlock 14 = .ok (.getfield 21, 3) := by decide +kernel
theorem d_BT_childBlock_17 : decode b_BT_childBlock 17 = .ok (.iload_n 1, 1) := by decide +kernel
theorem d_BT_childBlock_18 : decode b_BT_childBlock 18 = .ok (.iload_n 2, 1) := by decide +kernel
theorem d_BT_childBlock_19 : decode b_BT_childBlock 19 = .ok (.invokevirtual 209, 3) := by decide +kernel
theorem d_BT_childBlock_22 : decode b_BT_childBlock 22 = .ok (.ifCond .ne 5, 3) := by decide +kernel
theorem d_BT_childBlock_25 : decode b_BT_childBlock 25 = .ok (.iconst (-1), 1) := by decide +kernel
theorem d_BT_childBlock_26 : decode b_BT_childBlock 26 = .ok (.ireturn, 1) := by decide +kernel
theorem d_BT_childBlock_27 : decode b_BT_childBlock 27 = .ok (.aload_n 0, 1) := by decide +kernel
theorem d_BT_childBlock_28 : decode b_BT_childBlock 28 = .ok (.getfield 21, 3) := by decide +kernel
theorem d_BT_childBlock_31 : decode b_BT_childBlock 31 = .ok (.iload_n 1, 1) := by decide +kernel
theorem d_BT_childBlock_32 : decode b_BT_childBlock 32 = .ok (.iload_n 2, 1) := by decide +kernel
theorem d_BT_childBlock_33 : decode b_BT_childBlock 33 = .ok (.invokevirtual 130, 3) := by decide +kernel
theorem d_BT_childBlock_36 : decode b_BT_childBlock 36 = .ok (.istore 4, 2) := by decide +kernel
theorem d_BT_childBlock_38 : decode b_BT_childBlock 38 = .ok (.aload_n 0, 1) := by decide +kernel
theorem d_BT_childBlock_39 : decode b_BT_childBlock 39 = .ok (.getfield 21, 3) := by decide +kernel
theorem d_BT_childBlock_42 : decode b_BT_childBlock 42 = .ok (.iload 4, 2) := by decide +kernel
theorem d_BT_childBlock_44 : decode b_BT_childBlock 44 = .ok (.iload_n 3, 1) := by decide +kernel
theorem d_BT_childBlock_45 : decode b_BT_childBlock 45 = .ok (.invokevirtual 126, 3) := by decide +kernel
theorem d_BT_childBlock_48 : decode b_BT_childBlock 48 = .ok (.ifCond .eq 8, 3) := by decide +kernel
theorem d_BT_childBlock_51 : decode b_BT_childBlock 51 = .ok (.bipush (-2), 2) := by decide +kernel
theorem d_BT_childBlock_53 : decode b_BT_childBlock 53 = .ok (.goto 5, 3) := by decide +kernel
theorem d_BT_childBlock_56 : decode b_BT_childBlock 56 = .ok (.iload 4, 2) := by decide +kernel
theorem d_BT_childBlock_58 : decode b_BT_childBlock 58 = .ok (.ireturn, 1) := by decide +kernel
theorem d_BT_appendVersion_0 : decode b_BT_appendVersion 0 = .ok (.aload_n 0, 1) := by decide +kernel
theorem d_BT_appendVersion_1 : decode b_BT_appendVersion 1 = .ok (.getfield 21, 3) := by decide +kernel
theorem d_BT_appendVersion_4 : decode b_BT_appendVersion 4 = .ok (.invokevirtual 186, 3) := by decide +kernel
theorem d_BT_appendVersion_7 : decode b_BT_appendVersion 7 = .ok (.istore_n 2, 1) := by decide +kernel
theorem d_BT_appendVersion_8 : decode b_BT_appendVersion 8 = .ok (.aload_n 0, 1) := by decide +kernel
theorem d_BT_appendVersion_9 : decode b_BT_appendVersion 9 = .ok (.getfield 42, 3) := by decide +kernel
theorem d_BT_appendVersion_12 : decode b_BT_appendVersion 12 = .ok (.iload_n 2, 1) := by decide +kernel
theorem d_BT_appendVersion_13 : decode b_BT_appendVersion 13 = .ok (.invokevirtual 216, 3) := by decide +kernel
theorem d_BT_appendVersion_16 : decode b_BT_appendVersion 16 = .ok (.istore_n 3, 1) := by decide +kernel
theorem d_BT_appendVersion_17 : decode b_BT_appendVersion 17 = .ok (.aload_n 0, 1) := by decide +kernel
theorem d_BT_appendVersion_18 : decode b_BT_appendVersion 18 = .ok (.getfield 21, 3) := by decide +kernel
theorem d_BT_appendVersion_21 : decode b_BT_appendVersion 21 = .ok (.iload_n 3, 1) := by decide +kernel
theorem d_BT_appendVersion_22 : decode b_BT_appendVersion 22 = .ok (.iconst 1, 1) := by decide +kernel
theorem d_BT_appendVersion_23 : decode b_BT_appendVersion 23 = .ok (.iadd, 1) := by decide +kernel
theorem d_BT_appendVersion_24 : decode b_BT_appendVersion 24 = .ok (.iload_n 2, 1) := by decide +kernel
theorem d_BT_appendVersion_25 : decode b_BT_appendVersion 25 = .ok (.isub, 1) := by decide +kernel
theorem d_BT_appendVersion_26 : decode b_BT_appendVersion 26 = .ok (.invokevirtual 219, 3) := by decide +kernel
theorem d_BT_appendVersion_29 : decode b_BT_appendVersion 29 = .ok (.ifCond .ne 6, 3) := by decide +kernel
theorem d_BT_appendVersion_32 : decode b_BT_appendVersion 32 = .ok (.bipush (-3), 2) := by decide +kernel
theorem d_BT_appendVersion_34 : decode b_BT_appendVersion 34 = .ok (.ireturn, 1) := by decide +kernel
theorem d_BT_appendVersion_35 : decode b_BT_appendVersion 35 = .ok (.aload_n 0, 1) := by decide +kernel
theorem d_BT_appendVersion_36 : decode b_BT_appendVersion 36 = .ok (.getfield 35, 3) := by decide +kernel
theorem d_BT_appendVersion_39 : decode b_BT_appendVersion 39 = .ok (.invokevirtual 91, 3) := by decide +kernel
theorem d_BT_appendVersion_42 : decode b_BT_appendVersion 42 = .ok (.iconst 1, 1) := by decide +kernel
theorem d_BT_appendVersion_43 : decode b_BT_appendVersion 43 = .ok (.iadd, 1) := by decide +kernel
theorem d_BT_appendVersion_44 : decode b_BT_appendVersion 44 = .ok (.istore 4, 2) := by decide +kernel
theorem d_BT_appendVersion_46 : decode b_BT_appendVersion 46 = .ok (.iload_n 1, 1) := by decide +kernel
theorem d_BT_appendVersion_47 : decode b_BT_appendVersion 47 = .ok (.ifCond .eq 7, 3) := by decide +kernel
theorem d_BT_appendVersion_50 : decode b_BT_appendVersion 50 = .ok (.iload_n 2, 1) := by decide +kernel
theorem d_BT_appendVersion_51 : decode b_BT_appendVersion 51 = .ok (.goto 10, 3) := by decide +kernel
theorem d_BT_appendVersion_54 : decode b_BT_appendVersion 54 = .ok (.aload_n 0, 1) := by decide +kernel
theorem d_BT_appendVersion_55 : decode b_BT_appendVersion 55 = .ok (.getfield 21, 3) := by decide +kernel
theorem d_BT_appendVersion_58 : decode b_BT_appendVersion 58 = .ok (.invokevirtual 183, 3) := by decide +kernel
theorem d_BT_appendVersion_61 : decode b_BT_appendVersion 61 = .ok (.istore 5, 2) := by decide +kernel
theorem d_BT_appendVersion_63 : decode b_BT_appendVersion 63 = .ok (.aload_n 0, 1) := by decide +kernel
theorem d_BT_appendVersion_64 : decode b_BT_appendVersion 64 = .ok (.getfield 42, 3) := by decide +kernel
theorem d_BT_appendVersion_67 : decode b_BT_appendVersion 67 = .ok (.aload_n 0, 1) := by decide +kernel
theorem d_BT_appendVersion_68 : decode b_BT_appendVersion 68 = .ok (.getfield 21, 3) := by decide +kernel
theorem d_BT_appendVersion_71 : decode b_BT_appendVersion 71 = .ok (.iload 4, 2) := by decide +kernel
theorem d_BT_appendVersion_73 : decode b_BT_appendVersion 73 = .ok (.invokevirtual 222, 3) := by decide +kernel
theorem d_BT_appendVersion_76 : decode b_BT_appendVersion 76 = .ok (.ifCond .eq 22, 3) := by decide +kernel
theorem d_BT_appendVersion_79 : decode b_BT_appendVersion 79 = .ok (.aload_n 0, 1) := by decide +kernel
theorem d_BT_appendVersion_80 : decode b_BT_appendVersion 80 = .ok (.getfield 42, 3) := by decide +kernel
theorem d_BT_appendVersion_83 : decode b_BT_appendVersion 83 = .ok (.aload_n 0, 1) := by decide +kernel
theorem d_BT_appendVersion_84 : decode b_BT_appendVersion 84 = .ok (.getfield 21, 3) := by decide +kernel
theorem d_BT_appendVersion_87 : decode b_BT_appendVersion 87 = .ok (.iload 4, 2) := by decide +kernel
theorem d_BT_appendVersion_89 : decode b_BT_appendVersion 89 = .ok (.iload_n 3, 1) := by decide +kernel
theorem d_BT_appendVersion_90 : decode b_BT_appendVersion 90 = .ok (.iload 5, 2) := by decide +kernel
theorem d_BT_appendVersion_92 : decode b_BT_appendVersion 92 = .ok (.invokevirtual 225, 3) := by decide +kernel
theorem d_BT_appendVersion_95 : decode b_BT_appendVersion 95 = .ok (.ifCond .ne 6, 3) := by decide +kernel
theorem d_BT_appendVersion_98 : decode b_BT_appendVersion 98 = .ok (.bipush (-4), 2) := by decide +kernel
theorem d_BT_appendVersion_100 : decode b_BT_appendVersion 100 = .ok (.ireturn, 1) := by decide +kernel
theorem d_BT_appendVersion_101 : decode b_BT_appendVersion 101 = .ok (.aload_n 0, 1) := by decide +kernel
theorem d_BT_appendVersion_102 : decode b_BT_appendVersion 102 = .ok (.getfield 21, 3) := by decide +kernel
theorem d_BT_appendVersion_105 : decode b_BT_appendVersion 105 = .ok (.iload 5, 2) := by decide +kernel
theorem d_BT_appendVersion_107 : decode b_BT_appendVersion 107 = .ok (.iload_n 3, 1) := by decide +kernel
theorem d_BT_appendVersion_108 : decode b_BT_appendVersion 108 = .ok (.iconst 1, 1) := by decide +kernel
theorem d_BT_appendVersion_109 : decode b_BT_appendVersion 109 = .ok (.iadd, 1) := by decide +kernel
theorem d_BT_appendVersion_110 : decode b_BT_appendVersion 110 = .ok (.invokevirtual 148, 3) := by decide +kernel
theorem d_BT_appendVersion_113 : decode b_BT_appendVersion 113 = .ok (.iload_n 1, 1) := by decide +kernel
theorem d_BT_appendVersion_114 : decode b_BT_appendVersion 114 = .ok (.ifCond .eq 10, 3) := by decide +kernel
theorem d_BT_appendVersion_117 : decode b_BT_appendVersion 117 = .ok (.aload_n 0, 1) := by decide +kernel
theorem d_BT_appendVersion_118 : decode b_BT_appendVersion 118 = .ok (.getfield 35, 3) := by decide +kernel
theorem d_BT_appendVersion_121 : decode b_BT_appendVersion 121 = .ok (.invokevirtual 144, 3) := by decide +kernel
theorem d_BT_appendVersion_124 : decode b_BT_appendVersion 124 = .ok (.aload_n 0, 1) := by decide +kernel
theorem d_BT_appendVersion_125 : decode b_BT_appendVersion 125 = .ok (.getfield 35, 3) := by decide +kernel
theorem d_BT_appendVersion_128 : decode b_BT_appendVersion 128 = .ok (.iload 4, 2) := by decide +kernel
theorem d_BT_appendVersion_130 : decode b_BT_appendVersion 130 = .ok (.iload_n 3, 1) := by decide +kernel
theorem d_BT_appendVersion_131 : decode b_BT_appendVersion 131 = .ok (.invokevirtual 166, 3) := by decide +kernel
theorem d_BT_appendVersion_134 : decode b_BT_appendVersion 134 = .ok (.iload 4, 2) := by decide +kernel
theorem d_BT_appendVersion_136 : decode b_BT_appendVersion 136 = .ok (.ireturn, 1) := by decide +kernel
theorem d_MO_init_0 : decode b_MO_init 0 = .ok (.aload_n 0, 1) := by decide +kernel
theorem d_MO_init_1 : decode b_MO_init 1 = .ok (.invokespecial 1, 3) := by decide +kernel
theorem d_MO_init_4 : decode b_MO_init 4 = .ok (.aload_n 0, 1) := by decide +kernel
theorem d_MO_init_5 : decode b_MO_init 5 = .ok (.sipush 12800, 3) := by decide +kernel
theorem d_MO_init_8 : decode b_MO_init 8 = .ok (.newarray .int, 2) := by decide +kernel
theorem d_MO_init_10 : decode b_MO_init 10 = .ok (.putfield 7, 3) := by decide +kernel
theorem d_MO_init_13 : decode b_MO_init 13 = .ok (.aload_n 0, 1) := by decide +kernel
theorem d_MO_init_14 : decode b_MO_init 14 = .ok (.sipush 200, 3) := by decide +kernel
theorem d_MO_init_17 : decode b_MO_init 17 = .ok (.newarray .boolean, 2) := by decide +kernel
theorem d_MO_init_19 : decode b_MO_init 19 = .ok (.putfield 13, 3) := by decide +kernel
theorem d_MO_init_22 : decode b_MO_init 22 = .ok (.aload_n 0, 1) := by decide +kernel
theorem d_MO_init_23 : decode b_MO_init 23 = .ok (.iconst (-1), 1) := by decide +kernel
theorem d_MO_init_24 : decode b_MO_init 24 = .ok (.putfield 17, 3) := by decide +kernel
theorem d_MO_init_27 : decode b_MO_init 27 = .ok (.aload_n 0, 1) := by decide +kernel
theorem d_MO_init_28 : decode b_MO_init 28 = .ok (.sipush 4000, 3) := by decide +kernel
theorem d_MO_init_31 : decode b_MO_init 31 = .ok (.newarray .int, 2) := by decide +kernel
theorem d_MO_init_33 : decode b_MO_init 33 = .ok (.putfield 21, 3) := by decide +kernel
theorem d_MO_init_36 : decode b_MO_init 36 = .ok (.aload_n 0, 1) := by decide +kernel
theorem d_MO_init_37 : decode b_MO_init 37 = .ok (.sipush 4000, 3) := by decide +kernel
theorem d_MO_init_40 : decode b_MO_init 40 = .ok (.newarray .int, 2) := by decide +kernel
theorem d_MO_init_42 : decode b_MO_init 42 = .ok (.putfield 24, 3) := by decide +kernel
theorem d_MO_init_45 : decode b_MO_init 45 = .ok (.aload_n 0, 1) := by decide +kernel
theorem d_MO_init_46 : decode b_MO_init 46 = .ok (.sipush 512, 3) := by decide +kernel
theorem d_MO_init_49 : decode b_MO_init 49 = .ok (.newarray .int, 2) := by decide +kernel
theorem d_MO_init_51 : decode b_MO_init 51 = .ok (.putfield 27, 3) := by decide +kernel
theorem d_MO_init_54 : decode b_MO_init 54 = .ok (.aload_n 0, 1) := by decide +kernel
theorem d_MO_init_55 : decode b_MO_init 55 = .ok (.sipush 512, 3) := by decide +kernel
theorem d_MO_init_58 : decode b_MO_init 58 = .ok (.newarray .int, 2) := by decide +kernel
theorem d_MO_init_60 : decode b_MO_init 60 = .ok (.putfield 30, 3) := by decide +kernel
theorem d_MO_init_63 : decode b_MO_init 63 = .ok (.aload_n 0, 1) := by decide +kernel
theorem d_MO_init_64 : decode b_MO_init 64 = .ok (.bipush 64, 2) := by decide +kernel
theorem d_MO_init_66 : decode b_MO_init 66 = .ok (.newarray .boolean, 2) := by decide +kernel
theorem d_MO_init_68 : decode b_MO_init 68 = .ok (.putfield 33, 3) := by decide +kernel
theorem d_MO_init_71 : decode b_MO_init 71 = .ok (.aload_n 0, 1) := by decide +kernel
theorem d_MO_init_72 : decode b_MO_init 72 = .ok (.bipush 64, 2) := by decide +kernel
theorem d_MO_init_74 : decode b_MO_init 74 = .ok (.newarray .int, 2) := by decide +kernel
theorem d_MO_init_76 : decode b_MO_init 76 = .ok (.putfield 36, 3) := by decide +kernel
theorem d_MO_init_79 : decode b_MO_init 79 = .ok (.aload_n 0, 1) := by decide +kernel
theorem d_MO_init_80 : decode b_MO_init 80 = .ok (.sipush 512, 3) := by decide +kernel
theorem d_MO_init_83 : decode b_MO_init 83 = .ok (.newarray .int, 2) := by decide +kernel
theorem d_MO_init_85 : decode b_MO_init 85 = .ok (.putfield 39, 3) := by decide +kernel
theorem d_MO_init_88 : decode b_MO_init 88 = .ok (.aload_n 0, 1) := by decide +kernel
theorem d_MO_init_89 : decode b_MO_init 89 = .ok (.bipush 8, 2) := by decide +kernel
theorem d_MO_init_91 : decode b_MO_init 91 = .ok (.newarray .int, 2) := by decide +kernel
theorem d_MO_init_93 : decode b_MO_init 93 = .ok (.putfield 42, 3) := by decide +kernel
theorem d_MO_init_96 : decode b_MO_init 96 = .ok (.aload_n 0, 1) := by decide +kernel
theorem d_MO_init_97 : decode b_MO_init 97 = .ok (.bipush 64, 2) := by decide +kernel
theorem d_MO_init_99 : decode b_MO_init 99 = .ok (.newarray .int, 2) := by decide +kernel
theorem d_MO_init_101 : decode b_MO_init 101 = .ok (.putfield 45, 3) := by decide +kernel
theorem d_MO_init_104 : decode b_MO_init 104 = .ok (.aload_n 0, 1) := by decide +kernel
theorem d_MO_init_105 : decode b_MO_init 105 = .ok (.bipush 8, 2) := by decide +kernel
theorem d_MO_init_107 : decode b_MO_init 107 = .ok (.newarray .int, 2) := by decide +kernel
theorem d_MO_init_109 : decode b_MO_init 109 = .ok (.putfield 48, 3) := by decide +kernel
theorem d_MO_init_112 : decode b_MO_init 112 = .ok (.aload_n 0, 1) := by decide +kernel
theorem d_MO_init_113 : decode b_MO_init 113 = .ok (.bipush 64, 2) := by decide +kernel
theorem d_MO_init_115 : decode b_MO_init 115 = .ok (.newarray .int, 2) := by decide +kernel
theorem d_MO_init_117 : decode b_MO_init 117 = .ok (.putfield 51, 3) := by decide +kernel
theorem d_MO_init_120 : decode b_MO_init 120 = .ok (.aload_n 0, 1) := by decide +kernel
theorem d_MO_init_121 : decode b_MO_init 121 = .ok (.iload_n 1, 1) := by decide +kernel
theorem d_MO_init_122 : decode b_MO_init 122 = .ok (.bipush 16, 2) := by decide +kernel
theorem d_MO_init_124 : decode b_MO_init 124 = .ok (.if_icmp .ge 8, 3) := by decide +kernel
theorem d_MO_init_127 : decode b_MO_init 127 = .ok (.bipush 16, 2) := by decide +kernel
theorem d_MO_init_129 : decode b_MO_init 129 = .ok (.goto 17, 3) := by decide +kernel
theorem d_MO_init_132 : decode b_MO_init 132 = .ok (.iload_n 1, 1) := by decide +kernel
theorem d_MO_init_133 : decode b_MO_init 133 = .ok (.sipush 200, 3) := by decide +kernel
theorem d_MO_init_136 : decode b_MO_init 136 = .ok (.if_icmp .le 9, 3) := by decide +kernel
theorem d_MO_init_139 : decode b_MO_init 139 = .ok (.sipush 200, 3) := by decide +kernel
theorem d_MO_init_142 : decode b_MO_init 142 = .ok (.goto 4, 3) := by decide +kernel
theorem d_MO_init_145 : decode b_MO_init 145 = .ok (.iload_n 1, 1) := by decide +kernel
theorem d_MO_init_146 : decode b_MO_init 146 = .ok (.putfield 54, 3) := by decide +kernel
theorem d_MO_init_149 : decode b_MO_init 149 = .ok (.return_, 1) := by decide +kernel
theorem d_MO_thrown_0 : decode b_MO_thrown 0 = .ok (.aload_n 0, 1) := by decide +kernel
theorem d_MO_thrown_1 : decode b_MO_thrown 1 = .ok (.getfield 57, 3) := by decide +kernel
theorem d_MO_thrown_4 : decode b_MO_thrown 4 = .ok (.ireturn, 1) := by decide +kernel
theorem d_MO_goes_0 : decode b_MO_goes 0 = .ok (.aload_n 0, 1) := by decide +kernel
theorem d_MO_goes_1 : decode b_MO_goes 1 = .ok (.iload_n 1, 1) := by decide +kernel
theorem d_MO_goes_2 : decode b_MO_goes 2 = .ok (.ifCond .ne 7, 3) := by decide +kernel
theorem d_MO_goes_5 : decode b_MO_goes 5 = .ok (.iconst 1, 1) := by decide +kernel
theorem d_MO_goes_6 : decode b_MO_goes 6 = .ok (.goto 15, 3) := by decide +kernel
theorem d_MO_goes_9 : decode b_MO_goes 9 = .ok (.aload_n 0, 1) := by decide +kernel
theorem d_MO_goes_10 : decode b_MO_goes 10 = .ok (.getfield 60, 3) := by decide +kernel
theorem d_MO_goes_13 : decode b_MO_goes 13 = .ok (.ifCond .eq 7, 3) := by decide +kernel
theorem d_MO_goes_16 : decode b_MO_goes 16 = .ok (.iconst 2, 1) := by decide +kernel
theorem d_MO_goes_17 : decode b_MO_goes 17 = .ok (.goto 4, 3) := by decide +kernel
theorem d_MO_goes_20 : decode b_MO_goes 20 = .ok (.iconst 0, 1) := by decide +kernel
theorem d_MO_goes_21 : decode b_MO_goes 21 = .ok (.putfield 57, 3) := by decide +kernel
theorem d_MO_goes_24 : decode b_MO_goes 24 = .ok (.aload_n 0, 1) := by decide +kernel
theorem d_MO_goes_25 : decode b_MO_goes 25 = .ok (.getfield 57, 3) := by decide +kernel
theorem d_MO_goes_28 : decode b_MO_goes 28 = .ok (.ifCond .ne 7, 3) := by decide +kernel
theorem d_MO_goes_31 : decode b_MO_goes 31 = .ok (.iconst 1, 1) := by decide +kernel
theorem d_MO_goes_32 : decode b_MO_goes 32 = .ok (.goto 4, 3) := by decide +kernel
theorem d_MO_goes_35 : decode b_MO_goes 35 = .ok (.iconst 0, 1) := by decide +kernel
theorem d_MO_goes_36 : decode b_MO_goes 36 = .ok (.ireturn, 1) := by decide +kernel
theorem d_MO_isUp_0 : decode b_MO_isUp 0 = .ok (.aload_n 0, 1) := by decide +kernel
theorem d_MO_isUp_1 : decode b_MO_isUp 1 = .ok (.aload_n 0, 1) := by decide +kernel
theorem d_MO_isUp_2 : decode b_MO_isUp 2 = .ok (.getfield 60, 3) := by decide +kernel
theorem d_MO_isUp_5 : decode b_MO_isUp 5 = .ok (.ifCond .eq 7, 3) := by decide +kernel
theorem d_MO_isUp_8 : decode b_MO_isUp 8 = .ok (.iconst 1, 1) := by decide +kernel
theorem d_MO_isUp_9 : decode b_MO_isUp 9 = .ok (.goto 4, 3) := by decide +kernel
theorem d_MO_isUp_12 : decode b_MO_isUp 12 = .ok (.iconst 0, 1) := by decide +kernel
theorem d_MO_isUp_13 : decode b_MO_isUp 13 = .ok (.putfield 57, 3) := by decide +kernel
theorem d_MO_isUp_16 : decode b_MO_isUp 16 = .ok (.aload_n 0, 1) := by decide +kernel
theorem d_MO_isUp_17 : decode b_MO_isUp 17 = .ok (.getfield 60, 3) := by decide +kernel
theorem d_MO_isUp_20 : decode b_MO_isUp 20 = .ok (.ifCond .ne 7, 3) := by decide +kernel
theorem d_MO_isUp_23 : decode b_MO_isUp 23 = .ok (.iconst 1, 1) := by decide +kernel
theorem d_MO_isUp_24 : decode b_MO_isUp 24 = .ok (.goto 4, 3) := by decide +kernel
theorem d_MO_isUp_27 : decode b_MO_isUp 27 = .ok (.iconst 0, 1) := by decide +kernel
theorem d_MO_isUp_28 : decode b_MO_isUp 28 = .ok (.ireturn, 1) := by decide +kernel
theorem d_MO_isKey_0 : decode b_MO_isKey 0 = .ok (.iload_n 0, 1) := by decide +kernel
theorem d_MO_isKey_1 : decode b_MO_isKey 1 = .ok (.ifCond .lt 14, 3) := by decide +kernel
theorem d_MO_isKey_4 : decode b_MO_isKey 4 = .ok (.iload_n 0, 1) := by decide +kernel
theorem d_MO_isKey_5 : decode b_MO_isKey 5 = .ok (.sipush 512, 3) := by decide +kernel
theorem d_MO_isKey_8 : decode b_MO_isKey 8 = .ok (.if_icmp .ge 7, 3) := by decide +kernel
theorem d_MO_isKey_11 : decode b_MO_isKey 11 = .ok (.iconst 1, 1) := by decide +kernel
theorem d_MO_isKey_12 : decode b_MO_isKey 12 = .ok (.goto 4, 3) := by decide +kernel
theorem d_MO_isKey_15 : decode b_MO_isKey 15 = .ok (.iconst 0, 1) := by decide +kernel
theorem d_MO_isKey_16 : decode b_MO_isKey 16 = .ok (.ireturn, 1) := by decide +kernel
theorem d_MO_placeOf_0 : decode b_MO_placeOf 0 = .ok (.bipush 64, 2) := by decide +kernel
theorem d_MO_placeOf_2 : decode b_MO_placeOf 2 = .ok (.iload_n 1, 1) := by decide +kernel
theorem d_MO_placeOf_3 : decode b_MO_placeOf 3 = .ok (.aload_n 0, 1) := by decide +kernel
theorem d_MO_placeOf_4 : decode b_MO_placeOf 4 = .ok (.getfield 54, 3) := by decide +kernel
theorem d_MO_placeOf_7 : decode b_MO_placeOf 7 = .ok (.irem, 1) := by decide +kernel
theorem d_MO_placeOf_8 : decode b_MO_placeOf 8 = .ok (.imul, 1) := by decide +kernel
theorem d_MO_placeOf_9 : decode b_MO_placeOf 9 = .ok (.ireturn, 1) := by decide +kernel
theorem d_MO_isUsed_0 : decode b_MO_isUsed 0 = .ok (.iload_n 1, 1) := by decide +kernel
theorem d_MO_isUsed_1 : decode b_MO_isUsed 1 = .ok (.aload_n 0, 1) := by decide +kernel
theorem d_MO_isUsed_2 : decode b_MO_isUsed 2 = .ok (.getfield 64, 3) := by decide +kernel
theorem d_MO_isUsed_5 : decode b_MO_isUsed 5 = .ok (.if_icmp .lt 15, 3) := by decide +kernel
theorem d_MO_isUsed_8 : decode b_MO_isUsed 8 = .ok (.iload_n 1, 1) := by decide +kernel
theorem d_MO_isUsed_9 : decode b_MO_isUsed 9 = .ok (.aload_n 0, 1) := by decide +kernel
theorem d_MO_isUsed_10 : decode b_MO_isUsed 10 = .ok (.getfield 67, 3) := by decide +kernel
theorem d_MO_isUsed_13 : decode b_MO_isUsed 13 = .ok (.if_icmp .ge 7, 3) := by decide +kernel
theorem d_MO_isUsed_16 : decode b_MO_isUsed 16 = .ok (.iconst 1, 1) := by decide +kernel
theorem d_MO_isUsed_17 : decode b_MO_isUsed 17 = .ok (.goto 4, 3) := by decide +kernel
theorem d_MO_isUsed_20 : decode b_MO_isUsed 20 = .ok (.iconst 0, 1) := by decide +kernel
theorem d_MO_isUsed_21 : decode b_MO_isUsed 21 = .ok (.ireturn, 1) := by decide +kernel
theorem d_MO_number_0 : decode b_MO_number 0 = .ok (.aload_n 0, 1) := by decide +kernel
theorem d_MO_number_1 : decode b_MO_number 1 = .ok (.getfield 7, 3) := by decide +kernel
theorem d_MO_number_4 : decode b_MO_number 4 = .ok (.iload_n 1, 1) := by decide +kernel
theorem d_MO_number_5 : decode b_MO_number 5 = .ok (.iaload, 1) := by decide +kernel
theorem d_MO_number_6 : decode b_MO_number 6 = .ok (.bipush 24, 2) := by decide +kernel
theorem d_MO_number_8 : decode b_MO_number 8 = .ok (.ishl, 1) := by decide +kernel
theorem d_MO_number_9 : decode b_MO_number 9 = .ok (.aload_n 0, 1) := by decide +kernel
theorem d_MO_number_10 : decode b_MO_number 10 = .ok (.getfield 7, 3) := by decide +kernel
theorem d_MO_number_13 : decode b_MO_number 13 = .ok (.iload_n 1, 1) := by decide +kernel
theorem d_MO_number_14 : decode b_MO_number 14 = .ok (.iconst 1, 1) := by decide +kernel
theorem d_MO_number_15 : decode b_MO_number 15 = .ok (.iadd, 1) := by decide +kernel
theorem d_MO_number_16 : decode b_MO_number 16 = .ok (.iaload, 1) := by decide +kernel
theorem d_MO_number_17 : decode b_MO_number 17 = .ok (.bipush 16, 2) := by decide +kernel
theorem d_MO_number_19 : decode b_MO_number 19 = .ok (.ishl, 1) := by decide +kernel
theorem d_MO_number_20 : decode b_MO_number 20 = .ok (.ior, 1) := by decide +kernel
theorem d_MO_number_21 : decode b_MO_number 21 = .ok (.aload_n 0, 1) := by decide +kernel
theorem d_MO_number_22 : decode b_MO_number 22 = .ok (.getfield 7, 3) := by decide +kernel
theorem d_MO_number_25 : decode b_MO_number 25 = .ok (.iload_n 1, 1) := by decide +kernel
theorem d_MO_number_26 : decode b_MO_number 26 = .ok (.iconst 2, 1) := by decide +kernel
theorem d_MO_number_27 : decode b_MO_number 27 = .ok (.iadd, 1) := by decide +kernel
theorem d_MO_number_28 : decode b_MO_number 28 = .ok (.iaload, 1) := by decide +kernel
theorem d_MO_number_29 : decode b_MO_number 29 = .ok (.bipush 8, 2) := by decide +kernel
theorem d_MO_number_31 : decode b_MO_number 31 = .ok (.ishl, 1) := by decide +kernel
theorem d_MO_number_32 : decode b_MO_number 32 = .ok (.ior, 1) := by decide +kernel
theorem d_MO_number_33 : decode b_MO_number 33 = .ok (.aload_n 0, 1) := by decide +kernel
theorem d_MO_number_34 : decode b_MO_number 34 = .ok (.getfield 7, 3) := by decide +kernel
theorem d_MO_number_37 : decode b_MO_number 37 = .ok (.iload_n 1, 1) := by decide +kernel
theorem d_MO_number_38 : decode b_MO_number 38 = .ok (.iconst 3, 1) := by decide +kernel
theorem d_MO_number_39 : decode b_MO_number 39 = .ok (.iadd, 1) := by decide +kernel
theorem d_MO_number_40 : decode b_MO_number 40 = .ok (.iaload, 1) := by decide +kernel
theorem d_MO_number_41 : decode b_MO_number 41 = .ok (.ior, 1) := by decide +kernel
theorem d_MO_number_42 : decode b_MO_number 42 = .ok (.ireturn, 1) := by decide +kernel
theorem d_MO_mixed_0 : decode b_MO_mixed 0 = .ok (.lload_n 0, 1) := by decide +kernel
theorem d_MO_mixed_1 : decode b_MO_mixed 1 = .ok (.iload_n 2, 1) := by decide +kernel
theorem d_MO_mixed_2 : decode b_MO_mixed 2 = .ok (.i2l, 1) := by decide +kernel
theorem d_MO_mixed_3 : decode b_MO_mixed 3 = .ok (.lxor, 1) := by decide +kernel
theorem d_MO_mixed_4 : decode b_MO_mixed 4 = .ok (.lstore_n 3, 1) := by decide +kernel
theorem d_MO_mixed_5 : decode b_MO_mixed 5 = .ok (.lload_n 3, 1) := by decide +kernel
theorem d_MO_mixed_6 : decode b_MO_mixed 6 = .ok (.bipush 47, 2) := by decide +kernel
theorem d_MO_mixed_8 : decode b_MO_mixed 8 = .ok (.lshl, 1) := by decide +kernel
theorem d_MO_mixed_9 : decode b_MO_mixed 9 = .ok (.lload_n 3, 1) := by decide +kernel
theorem d_MO_mixed_10 : decode b_MO_mixed 10 = .ok (.bipush 17, 2) := by decide +kernel
theorem d_MO_mixed_12 : decode b_MO_mixed 12 = .ok (.lushr, 1) := by decide +kernel
theorem d_MO_mixed_13 : decode b_MO_mixed 13 = .ok (.lor, 1) := by decide +kernel
theorem d_MO_mixed_14 : decode b_MO_mixed 14 = .ok (.ldc2_w 70, 3) := by decide +kernel
theorem d_MO_mixed_17 : decode b_MO_mixed 17 = .ok (.lmul, 1) := by decide +kernel
theorem d_MO_mixed_18 : decode b_MO_mixed 18 = .ok (.lreturn, 1) := by decide +kernel
theorem d_MO_hasSum_0 : decode b_MO_hasSum 0 = .ok (.lconst 0, 1) := by decide +kernel
theorem d_MO_hasSum_1 : decode b_MO_hasSum 1 = .ok (.lstore_n 2, 1) := by decide +kernel
theorem d_MO_hasSum_2 : decode b_MO_hasSum 2 = .ok (.iconst 0, 1) := by decide +kernel
theorem d_MO_hasSum_3 : decode b_MO_hasSum 3 = .ok (.istore 4, 2) := by decide +kernel
theorem d_MO_hasSum_5 : decode b_MO_hasSum 5 = .ok (.iload 4, 2) := by decide +kernel
theorem d_MO_hasSum_7 : decode b_MO_hasSum 7 = .ok (.bipush 56, 2) := by decide +kernel
theorem d_MO_hasSum_9 : decode b_MO_hasSum 9 = .ok (.if_icmp .ge 23, 3) := by decide +kernel
theorem d_MO_hasSum_12 : decode b_MO_hasSum 12 = .ok (.lload_n 2, 1) := by decide +kernel
theorem d_MO_hasSum_13 : decode b_MO_hasSum 13 = .ok (.aload_n 0, 1) := by decide +kernel
theorem d_MO_hasSum_14 : decode b_MO_hasSum 14 = .ok (.getfield 7, 3) := by decide +kernel
theorem d_MO_hasSum_17 : decode b_MO_hasSum 17 = .ok (.iload_n 1, 1) := by decide +kernel
theorem d_MO_hasSum_18 : decode b_MO_hasSum 18 = .ok (.iload 4, 2) := by decide +kernel
theorem d_MO_hasSum_20 : decode b_MO_hasSum 20 = .ok (.iadd, 1) := by decide +kernel
theorem d_MO_hasSum_21 : decode b_MO_hasSum 21 = .ok (.iaload, 1) := by decide +kernel
theorem d_MO_hasSum_22 : decode b_MO_hasSum 22 = .ok (.invokestatic 72, 3) := by decide +kernel
theorem d_MO_hasSum_25 : decode b_MO_hasSum 25 = .ok (.lstore_n 2, 1) := by decide +kernel
theorem d_MO_hasSum_26 : decode b_MO_hasSum 26 = .ok (.iinc 4 1, 3) := by decide +kernel
theorem d_MO_hasSum_29 : decode b_MO_hasSum 29 = .ok (.goto (-24), 3) := by decide +kernel
theorem d_MO_hasSum_32 : decode b_MO_hasSum 32 = .ok (.iconst 1, 1) := by decide +kernel
theorem d_MO_hasSum_33 : decode b_MO_hasSum 33 = .ok (.istore 4, 2) := by decide +kernel
theorem d_MO_hasSum_35 : decode b_MO_hasSum 35 = .ok (.iconst 0, 1) := by decide +kernel
theorem d_MO_hasSum_36 : decode b_MO_hasSum 36 = .ok (.istore 5, 2) := by decide +kernel
theorem d_MO_hasSum_38 : decode b_MO_hasSum 38 = .ok (.iload 5, 2) := by decide +kernel
theorem d_MO_hasSum_40 : decode b_MO_hasSum 40 = .ok (.bipush 8, 2) := by decide +kernel
theorem d_MO_hasSum_42 : decode b_MO_hasSum 42 = .ok (.if_icmp .ge 51, 3) := by decide +kernel
theorem d_MO_hasSum_45 : decode b_MO_hasSum 45 = .ok (.iload 4, 2) := by decide +kernel
theorem d_MO_hasSum_47 : decode b_MO_hasSum 47 = .ok (.ifCond .eq 37, 3) := by decide +kernel
theorem d_MO_hasSum_50 : decode b_MO_hasSum 50 = .ok (.aload_n 0, 1) := by decide +kernel
theorem d_MO_hasSum_51 : decode b_MO_hasSum 51 = .ok (.getfield 7, 3) := by decide +kernel
theorem d_MO_hasSum_54 : decode b_MO_hasSum 54 = .ok (.iload_n 1, 1) := by decide +kernel
theorem d_MO_hasSum_55 : decode b_MO_hasSum 55 = .ok (.bipush 56, 2) := by decide +kernel
theorem d_MO_hasSum_57 : decode b_MO_hasSum 57 = .ok (.iadd, 1) := by decide +kernel
theorem d_MO_hasSum_58 : decode b_MO_hasSum 58 = .ok (.iload 5, 2) := by decide +kernel
theorem d_MO_hasSum_60 : decode b_MO_hasSum 60 = .ok (.iadd, 1) := by decide +kernel
theorem d_MO_hasSum_61 : decode b_MO_hasSum 61 = .ok (.iaload, 1) := by decide +kernel
theorem d_MO_hasSum_62 : decode b_MO_hasSum 62 = .ok (.lload_n 2, 1) := by decide +kernel
theorem d_MO_hasSum_63 : decode b_MO_hasSum 63 = .ok (.bipush 56, 2) := by decide +kernel
theorem d_MO_hasSum_65 : decode b_MO_hasSum 65 = .ok (.bipush 8, 2) := by decide +kernel
theorem d_MO_hasSum_67 : decode b_MO_hasSum 67 = .ok (.iload 5, 2) := by decide +kernel
theorem d_MO_hasSum_69 : decode b_MO_hasSum 69 = .ok (.imul, 1) := by decide +kernel
theorem d_MO_hasSum_70 : decode b_MO_hasSum 70 = .ok (.isub, 1) := by decide +kernel
theorem d_MO_hasSum_71 : decode b_MO_hasSum 71 = .ok (.lushr, 1) := by decide +kernel
theorem d_MO_hasSum_72 : decode b_MO_hasSum 72 = .ok (.ldc2_w 76, 3) := by decide +kernel
theorem d_MO_hasSum_75 : decode b_MO_hasSum 75 = .ok (.land, 1) := by decide +kernel
theorem d_MO_hasSum_76 : decode b_MO_hasSum 76 = .ok (.l2i, 1) := by decide +kernel
theorem d_MO_hasSum_77 : decode b_MO_hasSum 77 = .ok (.if_icmp .ne 7, 3) := by decide +kernel
theorem d_MO_hasSum_80 : decode b_MO_hasSum 80 = .ok (.iconst 1, 1) := by decide +kernel
theorem d_MO_hasSum_81 : decode b_MO_hasSum 81 = .ok (.goto 4, 3) := by decide +kernel
theorem d_MO_hasSum_84 : decode b_MO_hasSum 84 = .ok (.iconst 0, 1) := by decide +kernel
theorem d_MO_hasSum_85 : decode b_MO_hasSum 85 = .ok (.istore 4, 2) := by decide +kernel
theorem d_MO_hasSum_87 : decode b_MO_hasSum 87 = .ok (.iinc 5 1, 3) := by decide +kernel
theorem d_MO_hasSum_90 : decode b_MO_hasSum 90 = .ok (.goto (-52), 3) := by decide +kernel
theorem d_MO_hasSum_93 : decode b_MO_hasSum 93 = .ok (.iload 4, 2) := by decide +kernel
theorem d_MO_hasSum_95 : decode b_MO_hasSum 95 = .ok (.ifCond .eq 19, 3) := by decide +kernel
theorem d_MO_hasSum_98 : decode b_MO_hasSum 98 = .ok (.aload_n 0, 1) := by decide +kernel
theorem d_MO_hasSum_99 : decode b_MO_hasSum 99 = .ok (.getfield 13, 3) := by decide +kernel
theorem d_MO_hasSum_102 : decode b_MO_hasSum 102 = .ok (.iload_n 1, 1) := by decide +kernel
theorem d_MO_hasSum_103 : decode b_MO_hasSum 103 = .ok (.bipush 64, 2) := by decide +kernel
theorem d_MO_hasSum_105 : decode b_MO_hasSum 105 = .ok (.idiv, 1) := by decide +kernel
theorem d_MO_hasSum_106 : decode b_MO_hasSum 106 = .ok (.baload, 1) := by decide +kernel
theorem d_MO_hasSum_107 : decode b_MO_hasSum 107 = .ok (.ifCond .ne 7, 3) := by decide +kernel
theorem d_MO_hasSum_110 : decode b_MO_hasSum 110 = .ok (.iconst 1, 1) := by decide +kernel
theorem d_MO_hasSum_111 : decode b_MO_hasSum 111 = .ok (.goto 4, 3) := by decide +kernel
theorem d_MO_hasSum_114 : decode b_MO_hasSum 114 = .ok (.iconst 0, 1) := by decide +kernel
theorem d_MO_hasSum_115 : decode b_MO_hasSum 115 = .ok (.ireturn, 1) := by decide +kernel
theorem d_MO_isBad_0 : decode b_MO_isBad 0 = .ok (.aload_n 0, 1) := by decide +kernel
theorem d_MO_isBad_1 : decode b_MO_isBad 1 = .ok (.iload_n 1, 1) := by decide +kernel
theorem d_MO_isBad_2 : decode b_MO_isBad 2 = .ok (.invokevirtual 78, 3) := by decide +kernel
theorem d_MO_isBad_5 : decode b_MO_isBad 5 = .ok (.ifCond .ne 5, 3) := by decide +kernel
theorem d_MO_isBad_8 : decode b_MO_isBad 8 = .ok (.iconst 1, 1) := by decide +kernel
theorem d_MO_isBad_9 : decode b_MO_isBad 9 = .ok (.ireturn, 1) := by decide +kernel
theorem d_MO_isBad_10 : decode b_MO_isBad 10 = .ok (.aload_n 0, 1) := by decide +kernel
theorem d_MO_isBad_11 : decode b_MO_isBad 11 = .ok (.iload_n 1, 1) := by decide +kernel
theorem d_MO_isBad_12 : decode b_MO_isBad 12 = .ok (.invokevirtual 82, 3) := by decide +kernel
theorem d_MO_isBad_15 : decode b_MO_isBad 15 = .ok (.istore_n 3, 1) := by decide +kernel
theorem d_MO_isBad_16 : decode b_MO_isBad 16 = .ok (.aload_n 0, 1) := by decide +kernel
theorem d_MO_isBad_17 : decode b_MO_isBad 17 = .ok (.iload_n 3, 1) := by decide +kernel
theorem d_MO_isBad_18 : decode b_MO_isBad 18 = .ok (.invokevirtual 86, 3) := by decide +kernel
theorem d_MO_isBad_21 : decode b_MO_isBad 21 = .ok (.ifCond .eq 25, 3) := by decide +kernel
theorem d_MO_isBad_24 : decode b_MO_isBad 24 = .ok (.aload_n 0, 1) := by decide +kernel
theorem d_MO_isBad_25 : decode b_MO_isBad 25 = .ok (.iload_n 3, 1) := by decide +kernel
theorem d_MO_isBad_26 : decode b_MO_isBad 26 = .ok (.bipush 40, 2) := by decide +kernel
theorem d_MO_isBad_28 : decode b_MO_isBad 28 = .ok (.iadd, 1) := by decide +kernel
theorem d_MO_isBad_29 : decode b_MO_isBad 29 = .ok (.invokevirtual 89, 3) := by decide +kernel
theorem d_MO_isBad_32 : decode b_MO_isBad 32 = .ok (.iload_n 1, 1) := by decide +kernel
theorem d_MO_isBad_33 : decode b_MO_isBad 33 = .ok (.if_icmp .ne 13, 3) := by decide +kernel
theorem d_MO_isBad_36 : decode b_MO_isBad 36 = .ok (.aload_n 0, 1) := by decide +kernel
theorem d_MO_isBad_37 : decode b_MO_isBad 37 = .ok (.getfield 7, 3) := by decide +kernel
theorem d_MO_isBad_40 : decode b_MO_isBad 40 = .ok (.iload_n 3, 1) := by decide +kernel
theorem d_MO_isBad_41 : decode b_MO_isBad 41 = .ok (.iaload, 1) := by decide +kernel
theorem d_MO_isBad_42 : decode b_MO_isBad 42 = .ok (.iload_n 2, 1) := by decide +kernel
theorem d_MO_isBad_43 : decode b_MO_isBad 43 = .ok (.if_icmp .eq 7, 3) := by decide +kernel
theorem d_MO_isBad_46 : decode b_MO_isBad 46 = .ok (.iconst 1, 1) := by decide +kernel
theorem d_MO_isBad_47 : decode b_MO_isBad 47 = .ok (.goto 4, 3) := by decide +kernel
theorem d_MO_isBad_50 : decode b_MO_isBad 50 = .ok (.iconst 0, 1) := by decide +kernel
theorem d_MO_isBad_51 : decode b_MO_isBad 51 = .ok (.ireturn, 1) := by decide +kernel
theorem d_MO_bitsOf_0 : decode b_MO_bitsOf 0 = .ok (.aload_n 0, 1) := by decide +kernel
theorem d_MO_bitsOf_1 : decode b_MO_bitsOf 1 = .ok (.getfield 7, 3) := by decide +kernel
theorem d_MO_bitsOf_4 : decode b_MO_bitsOf 4 = .ok (.aload_n 0, 1) := by decide +kernel
theorem d_MO_bitsOf_5 : decode b_MO_bitsOf 5 = .ok (.iload_n 1, 1) := by decide +kernel
theorem d_MO_bitsOf_6 : decode b_MO_bitsOf 6 = .ok (.invokevirtual 82, 3) := by decide +kernel
theorem d_MO_bitsOf_9 : decode b_MO_bitsOf 9 = .ok (.iconst 1, 1) := by decide +kernel
theorem d_MO_bitsOf_10 : decode b_MO_bitsOf 10 = .ok (.iadd, 1) := by decide +kernel
theorem d_MO_bitsOf_11 : decode b_MO_bitsOf 11 = .ok (.iaload, 1) := by decide +kernel
theorem d_MO_bitsOf_12 : decode b_MO_bitsOf 12 = .ok (.ireturn, 1) := by decide +kernel
theorem d_MO_entryOf_0 : decode b_MO_entryOf 0 = .ok (.aload_n 0, 1) := by decide +kernel
theorem d_MO_entryOf_1 : decode b_MO_entryOf 1 = .ok (.aload_n 0, 1) := by decide +kernel
theorem d_MO_entryOf_2 : decode b_MO_entryOf 2 = .ok (.iload_n 1, 1) := by decide +kernel
theorem d_MO_entryOf_3 : decode b_MO_entryOf 3 = .ok (.invokevirtual 82, 3) := by decide +kernel
theorem d_MO_entryOf_6 : decode b_MO_entryOf 6 = .ok (.bipush 8, 2) := by decide +kernel
theorem d_MO_entryOf_8 : decode b_MO_entryOf 8 = .ok (.iadd, 1) := by decide +kernel
theorem d_MO_entryOf_9 : decode b_MO_entryOf 9 = .ok (.iconst 4, 1) := by decide +kernel
theorem d_MO_entryOf_10 : decode b_MO_entryOf 10 = .ok (.iload_n 2, 1) := by decide +kernel
theorem d_MO_entryOf_11 : decode b_MO_entryOf 11 = .ok (.imul, 1) := by decide +kernel
theorem d_MO_entryOf_12 : decode b_MO_entryOf 12 = .ok (.iadd, 1) := by decide +kernel
theorem d_MO_entryOf_13 : decode b_MO_entryOf 13 = .ok (.invokevirtual 89, 3) := by decide +kernel
theorem d_MO_entryOf_16 : decode b_MO_entryOf 16 = .ok (.ireturn, 1) := by decide +kernel
theorem d_MO_hasEntry_0 : decode b_MO_hasEntry 0 = .ok (.aload_n 0, 1) := by decide +kernel
theorem d_MO_hasEntry_1 : decode b_MO_hasEntry 1 = .ok (.iload_n 1, 1) := by decide +kernel
theorem d_MO_hasEntry_2 : decode b_MO_hasEntry 2 = .ok (.invokevirtual 92, 3) := by decide +kernel
theorem d_MO_hasEntry_5 : decode b_MO_hasEntry 5 = .ok (.iload_n 2, 1) := by decide +kernel
theorem d_MO_hasEntry_6 : decode b_MO_hasEntry 6 = .ok (.ishr, 1) := by decide +kernel
theorem d_MO_hasEntry_7 : decode b_MO_hasEntry 7 = .ok (.iconst 1, 1) := by decide +kernel
theorem d_MO_hasEntry_8 : decode b_MO_hasEntry 8 = .ok (.iand, 1) := by decide +kernel
theorem d_MO_hasEntry_9 : decode b_MO_hasEntry 9 = .ok (.iconst 1, 1) := by decide +kernel
theorem d_MO_hasEntry_10 : decode b_MO_hasEntry 10 = .ok (.if_icmp .ne 7, 3) := by decide +kernel
theorem d_MO_hasEntry_13 : decode b_MO_hasEntry 13 = .ok (.iconst 1, 1) := by decide +kernel
theorem d_MO_hasEntry_14 : decode b_MO_hasEntry 14 = .ok (.goto 4, 3) := by decide +kernel
theorem d_MO_hasEntry_17 : decode b_MO_hasEntry 17 = .ok (.iconst 0, 1) := by decide +kernel
theorem d_MO_hasEntry_18 : decode b_MO_hasEntry 18 = .ok (.ireturn, 1) := by decide +kernel
theorem d_MO_change_0 : decode b_MO_change 0 = .ok (.aload_n 0, 1) := by decide +kernel
theorem d_MO_change_1 : decode b_MO_change 1 = .ok (.aload_n 0, 1) := by decide +kernel
theorem d_MO_change_2 : decode b_MO_change 2 = .ok (.getfield 27, 3) := by decide +kernel
theorem d_MO_change_5 : decode b_MO_change 5 = .ok (.iload_n 1, 1) := by decide +kernel
theorem d_MO_change_6 : decode b_MO_change 6 = .ok (.iaload, 1) := by decide +kernel
theorem d_MO_change_7 : decode b_MO_change 7 = .ok (.ifCond .ne 12, 3) := by decide +kernel
theorem d_MO_change_10 : decode b_MO_change 10 = .ok (.aload_n 0, 1) := by decide +kernel
theorem d_MO_change_11 : decode b_MO_change 11 = .ok (.getfield 95, 3) := by decide +kernel
theorem d_MO_change_14 : decode b_MO_change 14 = .ok (.iconst 1, 1) := by decide +kernel
theorem d_MO_change_15 : decode b_MO_change 15 = .ok (.iadd, 1) := by decide +kernel
theorem d_MO_change_16 : decode b_MO_change 16 = .ok (.goto 7, 3) := by decide +kernel
theorem d_MO_change_19 : decode b_MO_change 19 = .ok (.aload_n 0, 1) := by decide +kernel
theorem d_MO_change_20 : decode b_MO_change 20 = .ok (.getfield 95, 3) := by decide +kernel
theorem d_MO_change_23 : decode b_MO_change 23 = .ok (.putfield 95, 3) := by decide +kernel
theorem d_MO_change_26 : decode b_MO_change 26 = .ok (.aload_n 0, 1) := by decide +kernel
theorem d_MO_change_27 : decode b_MO_change 27 = .ok (.getfield 27, 3) := by decide +kernel
theorem d_MO_change_30 : decode b_MO_change 30 = .ok (.iload_n 1, 1) := by decide +kernel
theorem d_MO_change_31 : decode b_MO_change 31 = .ok (.iload_n 2, 1) := by decide +kernel
theorem d_MO_change_32 : decode b_MO_change 32 = .ok (.iastore, 1) := by decide +kernel
theorem d_MO_change_33 : decode b_MO_change 33 = .ok (.aload_n 0, 1) := by decide +kernel
theorem d_MO_change_34 : decode b_MO_change 34 = .ok (.getfield 30, 3) := by decide +kernel
theorem d_MO_change_37 : decode b_MO_change 37 = .ok (.iload_n 1, 1) := by decide +kernel
theorem d_MO_change_38 : decode b_MO_change 38 = .ok (.iload_n 3, 1) := by decide +kernel
theorem d_MO_change_39 : decode b_MO_change 39 = .ok (.iastore, 1) := by decide +kernel
theorem d_MO_change_40 : decode b_MO_change 40 = .ok (.return_, 1) := by decide +kernel
theorem d_MO_put_0 : decode b_MO_put 0 = .ok (.aload_n 0, 1) := by decide +kernel
theorem d_MO_put_1 : decode b_MO_put 1 = .ok (.iload_n 1, 1) := by decide +kernel
theorem d_MO_put_2 : decode b_MO_put 2 = .ok (.invokestatic 98, 3) := by decide +kernel
theorem d_MO_put_5 : decode b_MO_put 5 = .ok (.invokevirtual 101, 3) := by decide +kernel
theorem d_MO_put_8 : decode b_MO_put 8 = .ok (.ifCond .ne 5, 3) := by decide +kernel
theorem d_MO_put_11 : decode b_MO_put 11 = .ok (.iconst 0, 1) := by decide +kernel
theorem d_MO_put_12 : decode b_MO_put 12 = .ok (.ireturn, 1) := by decide +kernel
theorem d_MO_put_13 : decode b_MO_put 13 = .ok (.aload_n 0, 1) := by decide +kernel
theorem d_MO_put_14 : decode b_MO_put 14 = .ok (.iload_n 1, 1) := by decide +kernel
theorem d_MO_put_15 : decode b_MO_put 15 = .ok (.iconst 1, 1) := by decide +kernel
theorem d_MO_put_16 : decode b_MO_put 16 = .ok (.iload_n 2, 1) := by decide +kernel
theorem d_MO_put_17 : decode b_MO_put 17 = .ok (.invokevirtual 105, 3) := by decide +kernel
theorem d_MO_put_20 : decode b_MO_put 20 = .ok (.aload_n 0, 1) := by decide +kernel
theorem d_MO_put_21 : decode b_MO_put 21 = .ok (.getfield 95, 3) := by decide +kernel
theorem d_MO_put_24 : decode b_MO_put 24 = .ok (.ireturn, 1) := by decide +kernel
theorem d_MO_drop_0 : decode b_MO_drop 0 = .ok (.aload_n 0, 1) := by decide +kernel
theorem d_MO_drop_1 : decode b_MO_drop 1 = .ok (.iload_n 1, 1) := by decide +kernel
theorem d_MO_drop_2 : decode b_MO_drop 2 = .ok (.invokestatic 98, 3) := by decide +kernel
theorem d_MO_drop_5 : decode b_MO_drop 5 = .ok (.invokevirtual 101, 3) := by decide +kernel
theorem d_MO_drop_8 : decode b_MO_drop 8 = .ok (.ifCond .ne 5, 3) := by decide +kernel
theorem d_MO_drop_11 : decode b_MO_drop 11 = .ok (.iconst 0, 1) := by decide +kernel
theorem d_MO_drop_12 : decode b_MO_drop 12 = .ok (.ireturn, 1) := by decide +kernel
theorem d_MO_drop_13 : decode b_MO_drop 13 = .ok (.aload_n 0, 1) := by decide +kernel
theorem d_MO_drop_14 : decode b_MO_drop 14 = .ok (.iload_n 1, 1) := by decide +kernel
theorem d_MO_drop_15 : decode b_MO_drop 15 = .ok (.iconst 2, 1) := by decide +kernel
theorem d_MO_drop_16 : decode b_MO_drop 16 = .ok (.iconst 0, 1) := by decide +kernel
theorem d_MO_drop_17 : decode b_MO_drop 17 = .ok (.invokevirtual 105, 3) := by decide +kernel
theorem d_MO_drop_20 : decode b_MO_drop 20 = .ok (.aload_n 0, 1) := by decide +kernel
theorem d_MO_drop_21 : decode b_MO_drop 21 = .ok (.getfield 95, 3) := by decide +kernel
theorem d_MO_drop_24 : decode b_MO_drop 24 = .ok (.ireturn, 1) := by decide +kernel
theorem d_MO_clear_0 : decode b_MO_clear 0 = .ok (.aload_n 0, 1) := by decide +kernel
theorem d_MO_clear_1 : decode b_MO_clear 1 = .ok (.iconst 0, 1) := by decide +kernel
theorem d_MO_clear_2 : decode b_MO_clear 2 = .ok (.putfield 95, 3) := by decide +kernel
theorem d_MO_clear_5 : decode b_MO_clear 5 = .ok (.iconst 0, 1) := by decide +kernel
theorem d_MO_clear_6 : decode b_MO_clear 6 = .ok (.istore_n 1, 1) := by decide +kernel
theorem d_MO_clear_7 : decode b_MO_clear 7 = .ok (.iload_n 1, 1) := by decide +kernel
theorem d_MO_clear_8 : decode b_MO_clear 8 = .ok (.sipush 512, 3) := by decide +kernel
theorem d_MO_clear_11 : decode b_MO_clear 11 = .ok (.if_icmp .ge 16, 3) := by decide +kernel
theorem d_MO_clear_14 : decode b_MO_clear 14 = .ok (.aload_n 0, 1) := by decide +kernel
theorem d_MO_clear_15 : decode b_MO_clear 15 = .ok (.getfield 27, 3) := by decide +kernel
theorem d_MO_clear_18 : decode b_MO_clear 18 = .ok (.iload_n 1, 1) := by decide +kernel
theorem d_MO_clear_19 : decode b_MO_clear 19 = .ok (.iconst 0, 1) := by decide +kernel
theorem d_MO_clear_20 : decode b_MO_clear 20 = .ok (.iastore, 1) := by decide +kernel
theorem d_MO_clear_21 : decode b_MO_clear 21 = .ok (.iinc 1 1, 3) := by decide +kernel
theorem d_MO_clear_24 : decode b_MO_clear 24 = .ok (.goto (-17), 3) := by decide +kernel
theorem d_MO_clear_27 : decode b_MO_clear 27 = .ok (.return_, 1) := by decide +kernel
theorem d_MO_undo_0 : decode b_MO_undo 0 = .ok (.aload_n 0, 1) := by decide +kernel
theorem d_MO_undo_1 : decode b_MO_undo 1 = .ok (.invokevirtual 109, 3) := by decide +kernel
theorem d_MO_undo_4 : decode b_MO_undo 4 = .ok (.ifCond .ne 5, 3) := by decide +kernel
theorem d_MO_undo_7 : decode b_MO_undo 7 = .ok (.iconst 0, 1) := by decide +kernel
theorem d_MO_undo_8 : decode b_MO_undo 8 = .ok (.ireturn, 1) := by decide +kernel
theorem d_MO_undo_9 : decode b_MO_undo 9 = .ok (.aload_n 0, 1) := by decide +kernel
theorem d_MO_undo_10 : decode b_MO_undo 10 = .ok (.getfield 95, 3) := by decide +kernel
theorem d_MO_undo_13 : decode b_MO_undo 13 = .ok (.istore_n 1, 1) := by decide +kernel
theorem d_MO_undo_14 : decode b_MO_undo 14 = .ok (.aload_n 0, 1) := by decide +kernel
theorem d_MO_undo_15 : decode b_MO_undo 15 = .ok (.invokevirtual 113, 3) := by decide +kernel
theorem d_MO_undo_18 : decode b_MO_undo 18 = .ok (.iload_n 1, 1) := by decide +kernel
theorem d_MO_undo_19 : decode b_MO_undo 19 = .ok (.ireturn, 1) := by decide +kernel
theorem d_MO_rootOf_0 : decode b_MO_rootOf 0 = .ok (.iconst (-1), 1) := by decide +kernel
theorem d_MO_rootOf_1 : decode b_MO_rootOf 1 = .ok (.istore_n 2, 1) := by decide +kernel
theorem d_MO_rootOf_2 : decode b_MO_rootOf 2 = .ok (.iconst 0, 1) := by decide +kernel
theorem d_MO_rootOf_3 : decode b_MO_rootOf 3 = .ok (.istore_n 3, 1) := by decide +kernel
theorem d_MO_rootOf_4 : decode b_MO_rootOf 4 = .ok (.iload_n 3, 1) := by decide +kernel
theorem d_MO_rootOf_5 : decode b_MO_rootOf 5 = .ok (.aload_n 0, 1) := by decide +kernel
theorem d_MO_rootOf_6 : decode b_MO_rootOf 6 = .ok (.getfield 116, 3) := by decide +kernel
theorem d_MO_rootOf_9 : decode b_MO_rootOf 9 = .ok (.if_icmp .ge 30, 3) := by decide +kernel
theorem d_MO_rootOf_12 : decode b_MO_rootOf 12 = .ok (.aload_n 0, 1) := by decide +kernel
theorem d_MO_rootOf_13 : decode b_MO_rootOf 13 = .ok (.getfield 21, 3) := by decide +kernel
theorem d_MO_rootOf_16 : decode b_MO_rootOf 16 = .ok (.iload_n 3, 1) := by decide +kernel
theorem d_MO_rootOf_17 : decode b_MO_rootOf 17 = .ok (.iaload, 1) := by decide +kernel
theorem d_MO_rootOf_18 : decode b_MO_rootOf 18 = .ok (.iload_n 1, 1) := by decide +kernel
theorem d_MO_rootOf_19 : decode b_MO_rootOf 19 = .ok (.if_icmp .ne 12, 3) := by decide +kernel
theorem d_MO_rootOf_22 : decode b_MO_rootOf 22 = .ok (.aload_n 0, 1) := by decide +kernel
theorem d_MO_rootOf_23 : decode b_MO_rootOf 23 = .ok (.getfield 24, 3) := by decide +kernel
theorem d_MO_rootOf_26 : decode b_MO_rootOf 26 = .ok (.iload_n 3, 1) := by decide +kernel
theorem d_MO_rootOf_27 : decode b_MO_rootOf 27 = .ok (.iaload, 1) := by decide +kernel
theorem d_MO_rootOf_28 : decode b_MO_rootOf 28 = .ok (.goto 4, 3) := by decide +kernel
theorem d_MO_rootOf_31 : decode b_MO_rootOf 31 = .ok (.iload_n 2, 1) := by decide +kernel
theorem d_MO_rootOf_32 : decode b_MO_rootOf 32 = .ok (.istore_n 2, 1) := by decide +kernel
theorem d_MO_rootOf_33 : decode b_MO_rootOf 33 = .ok (.iinc 3 1, 3) := by decide +kernel
theorem d_MO_rootOf_36 : decode b_MO_rootOf 36 = .ok (.goto (-32), 3) := by decide +kernel
theorem d_MO_rootOf_39 : decode b_MO_rootOf 39 = .ok (.iload_n 2, 1) := by decide +kernel
theorem d_MO_rootOf_40 : decode b_MO_rootOf 40 = .ok (.ireturn, 1) := by decide +kernel
theorem d_MO_isKept_0 : decode b_MO_isKept 0 = .ok (.iload_n 1, 1) := by decide +kernel
theorem d_MO_isKept_1 : decode b_MO_isKept 1 = .ok (.ifCond .ne 18, 3) := by decide +kernel
theorem d_MO_isKept_4 : decode b_MO_isKept 4 = .ok (.aload_n 0, 1) := by decide +kernel
theorem d_MO_isKept_5 : decode b_MO_isKept 5 = .ok (.getfield 64, 3) := by decide +kernel
theorem d_MO_isKept_8 : decode b_MO_isKept 8 = .ok (.ifCond .ne 7, 3) := by decide +kernel
theorem d_MO_isKept_11 : decode b_MO_isKept 11 = .ok (.iconst 1, 1) := by decide +kernel
theorem d_MO_isKept_12 : decode b_MO_isKept 12 = .ok (.goto 20, 3) := by decide +kernel
theorem d_MO_isKept_15 : decode b_MO_isKept 15 = .ok (.iconst 0, 1) := by decide +kernel
theorem d_MO_isKept_16 : decode b_MO_isKept 16 = .ok (.goto 16, 3) := by decide +kernel
theorem d_MO_isKept_19 : decode b_MO_isKept 19 = .ok (.aload_n 0, 1) := by decide +kernel
theorem d_MO_isKept_20 : decode b_MO_isKept 20 = .ok (.iload_n 1, 1) := by decide +kernel
theorem d_MO_isKept_21 : decode b_MO_isKept 21 = .ok (.invokevirtual 119, 3) := by decide +kernel
theorem d_MO_isKept_24 : decode b_MO_isKept 24 = .ok (.ifCond .lt 7, 3) := by decide +kernel
theorem d_MO_isKept_27 : decode b_MO_isKept 27 = .ok (.iconst 1, 1) := by decide +kernel
theorem d_MO_isKept_28 : decode b_MO_isKept 28 = .ok (.goto 4, 3) := by decide +kernel
theorem d_MO_isKept_31 : decode b_MO_isKept 31 = .ok (.iconst 0, 1) := by decide +kernel
theorem d_MO_isKept_32 : decode b_MO_isKept 32 = .ok (.ireturn, 1) := by decide +kernel
theorem d_MO_look_0 : decode b_MO_look 0 = .ok (.iload_n 1, 1) := by decide +kernel
theorem d_MO_look_1 : decode b_MO_look 1 = .ok (.ifCond .ne 7, 3) := by decide +kernel
theorem d_MO_look_4 : decode b_MO_look 4 = .ok (.ldc2_w 122, 3) := by decide +kernel
theorem d_MO_look_7 : decode b_MO_look 7 = .ok (.lreturn, 1) := by decide +kernel
theorem d_MO_look_8 : decode b_MO_look 8 = .ok (.aload_n 0, 1) := by decide +kernel
theorem d_MO_look_9 : decode b_MO_look 9 = .ok (.iload_n 1, 1) := by decide +kernel
theorem d_MO_look_10 : decode b_MO_look 10 = .ok (.invokevirtual 119, 3) := by decide +kernel
theorem d_MO_look_13 : decode b_MO_look 13 = .ok (.istore_n 3, 1) := by decide +kernel
theorem d_MO_look_14 : decode b_MO_look 14 = .ok (.aload_n 0, 1) := by decide +kernel
theorem d_MO_look_15 : decode b_MO_look 15 = .ok (.iload_n 3, 1) := by decide +kernel
theorem d_MO_look_16 : decode b_MO_look 16 = .ok (.iconst 4, 1) := by decide +kernel
theorem d_MO_look_17 : decode b_MO_look 17 = .ok (.invokevirtual 124, 3) := by decide +kernel
theorem d_MO_look_20 : decode b_MO_look 20 = .ok (.ifCond .eq 7, 3) := by decide +kernel
theorem d_MO_look_23 : decode b_MO_look 23 = .ok (.ldc2_w 128, 3) := by decide +kernel
theorem d_MO_look_26 : decode b_MO_look 26 = .ok (.lreturn, 1) := by decide +kernel
theorem d_MO_look_27 : decode b_MO_look 27 = .ok (.aload_n 0, 1) := by decide +kernel
theorem d_MO_look_28 : decode b_MO_look 28 = .ok (.iload_n 3, 1) := by decide +kernel
theorem d_MO_look_29 : decode b_MO_look 29 = .ok (.invokevirtual 92, 3) := by decide +kernel
theorem d_MO_look_32 : decode b_MO_look 32 = .ok (.iconst 1, 1) := by decide +kernel
theorem d_MO_look_33 : decode b_MO_look 33 = .ok (.iand, 1) := by decide +kernel
theorem d_MO_look_34 : decode b_MO_look 34 = .ok (.ifCond .ne 7, 3) := by decide +kernel
theorem d_MO_look_37 : decode b_MO_look 37 = .ok (.ldc2_w 122, 3) := by decide +kernel
theorem d_MO_look_40 : decode b_MO_look 40 = .ok (.lreturn, 1) := by decide +kernel
theorem d_MO_look_41 : decode b_MO_look 41 = .ok (.aload_n 0, 1) := by decide +kernel
theorem d_MO_look_42 : decode b_MO_look 42 = .ok (.iload_n 3, 1) := by decide +kernel
theorem d_MO_look_43 : decode b_MO_look 43 = .ok (.iconst 0, 1) := by decide +kernel
theorem d_MO_look_44 : decode b_MO_look 44 = .ok (.invokevirtual 130, 3) := by decide +kernel
theorem d_MO_look_47 : decode b_MO_look 47 = .ok (.istore_n 3, 1) := by decide +kernel
theorem d_MO_look_48 : decode b_MO_look 48 = .ok (.iconst 3, 1) := by decide +kernel
theorem d_MO_look_49 : decode b_MO_look 49 = .ok (.istore 4, 2) := by decide +kernel
theorem d_MO_look_51 : decode b_MO_look 51 = .ok (.iload 4, 2) := by decide +kernel
theorem d_MO_look_53 : decode b_MO_look 53 = .ok (.iconst 1, 1) := by decide +kernel
theorem d_MO_look_54 : decode b_MO_look 54 = .ok (.if_icmp .lt 58, 3) := by decide +kernel
theorem d_MO_look_57 : decode b_MO_look 57 = .ok (.aload_n 0, 1) := by decide +kernel
theorem d_MO_look_58 : decode b_MO_look 58 = .ok (.iload_n 3, 1) := by decide +kernel
theorem d_MO_look_59 : decode b_MO_look 59 = .ok (.iload 4, 2) := by decide +kernel
theorem d_MO_look_61 : decode b_MO_look 61 = .ok (.invokevirtual 124, 3) := by decide +kernel
theorem d_MO_look_64 : decode b_MO_look 64 = .ok (.ifCond .eq 7, 3) := by decide +kernel
theorem d_MO_look_67 : decode b_MO_look 67 = .ok (.ldc2_w 128, 3) := by decide +kernel
theorem d_MO_look_70 : decode b_MO_look 70 = .ok (.lreturn, 1) := by decide +kernel
theorem d_MO_look_71 : decode b_MO_look 71 = .ok (.iload_n 2, 1) := by decide +kernel
theorem d_MO_look_72 : decode b_MO_look 72 = .ok (.iconst 3, 1) := by decide +kernel
theorem d_MO_look_73 : decode b_MO_look 73 = .ok (.iload 4, 2) := by decide +kernel
theorem d_MO_look_75 : decode b_MO_look 75 = .ok (.imul, 1) := by decide +kernel
theorem d_MO_look_76 : decode b_MO_look 76 = .ok (.iconst 3, 1) := by decide +kernel
theorem d_MO_look_77 : decode b_MO_look 77 = .ok (.isub, 1) := by decide +kernel
theorem d_MO_look_78 : decode b_MO_look 78 = .ok (.ishr, 1) := by decide +kernel
theorem d_MO_look_79 : decode b_MO_look 79 = .ok (.bipush 7, 2) := by decide +kernel
theorem d_MO_look_81 : decode b_MO_look 81 = .ok (.iand, 1) := by decide +kernel
theorem d_MO_look_82 : decode b_MO_look 82 = .ok (.istore 5, 2) := by decide +kernel
theorem d_MO_look_84 : decode b_MO_look 84 = .ok (.aload_n 0, 1) := by decide +kernel
theorem d_MO_look_85 : decode b_MO_look 85 = .ok (.iload_n 3, 1) := by decide +kernel
theorem d_MO_look_86 : decode b_MO_look 86 = .ok (.iload 5, 2) := by decide +kernel
theorem d_MO_look_88 : decode b_MO_look 88 = .ok (.invokevirtual 134, 3) := by decide +kernel
theorem d_MO_look_91 : decode b_MO_look 91 = .ok (.ifCond .ne 7, 3) := by decide +kernel
theorem d_MO_look_94 : decode b_MO_look 94 = .ok (.ldc2_w 122, 3) := by decide +kernel
theorem d_MO_look_97 : decode b_MO_look 97 = .ok (.lreturn, 1) := by decide +kernel
theorem d_MO_look_98 : decode b_MO_look 98 = .ok (.aload_n 0, 1) := by decide +kernel
theorem d_MO_look_99 : decode b_MO_look 99 = .ok (.iload_n 3, 1) := by decide +kernel
theorem d_MO_look_100 : decode b_MO_look 100 = .ok (.iload 5, 2) := by decide +kernel
theorem d_MO_look_102 : decode b_MO_look 102 = .ok (.invokevirtual 130, 3) := by decide +kernel
theorem d_MO_look_105 : decode b_MO_look 105 = .ok (.istore_n 3, 1) := by decide +kernel
theorem d_MO_look_106 : decode b_MO_look 106 = .ok (.iinc 4 (-1), 3) := by decide +kernel
theorem d_MO_look_109 : decode b_MO_look 109 = .ok (.goto (-58), 3) := by decide +kernel
theorem d_MO_look_112 : decode b_MO_look 112 = .ok (.iload_n 3, 1) := by decide +kernel
theorem d_MO_look_113 : decode b_MO_look 113 = .ok (.i2l, 1) := by decide +kernel
theorem d_MO_look_114 : decode b_MO_look 114 = .ok (.lreturn, 1) := by decide +kernel
theorem d_MO_get_0 : decode b_MO_get 0 = .ok (.aload_n 0, 1) := by decide +kernel
theorem d_MO_get_1 : decode b_MO_get 1 = .ok (.iload_n 1, 1) := by decide +kernel
theorem d_MO_get_2 : decode b_MO_get 2 = .ok (.invokestatic 98, 3) := by decide +kernel
theorem d_MO_get_5 : decode b_MO_get 5 = .ok (.invokevirtual 101, 3) := by decide +kernel
theorem d_MO_get_8 : decode b_MO_get 8 = .ok (.ifCond .ne 5, 3) := by decide +kernel
theorem d_MO_get_11 : decode b_MO_get 11 = .ok (.lconst 0, 1) := by decide +kernel
theorem d_MO_get_12 : decode b_MO_get 12 = .ok (.lreturn, 1) := by decide +kernel
theorem d_MO_get_13 : decode b_MO_get 13 = .ok (.aload_n 0, 1) := by decide +kernel
theorem d_MO_get_14 : decode b_MO_get 14 = .ok (.getfield 27, 3) := by decide +kernel
theorem d_MO_get_17 : decode b_MO_get 17 = .ok (.iload_n 1, 1) := by decide +kernel
theorem d_MO_get_18 : decode b_MO_get 18 = .ok (.iaload, 1) := by decide +kernel
theorem d_MO_get_19 : decode b_MO_get 19 = .ok (.iconst 1, 1) := by decide +kernel
theorem d_MO_get_20 : decode b_MO_get 20 = .ok (.if_icmp .ne 13, 3) := by decide +kernel
theorem d_MO_get_23 : decode b_MO_get 23 = .ok (.aload_n 0, 1) := by decide +kernel
theorem d_MO_get_24 : decode b_MO_get 24 = .ok (.getfield 30, 3) := by decide +kernel
theorem d_MO_get_27 : decode b_MO_get 27 = .ok (.iload_n 1, 1) := by decide +kernel
theorem d_MO_get_28 : decode b_MO_get 28 = .ok (.iaload, 1) := by decide +kernel
theorem d_MO_get_29 : decode b_MO_get 29 = .ok (.i2l, 1) := by decide +kernel
theorem d_MO_get_30 : decode b_MO_get 30 = .ok (.goto 28, 3) := by decide +kernel
theorem d_MO_get_33 : decode b_MO_get 33 = .ok (.aload_n 0, 1) := by decide +kernel
theorem d_MO_get_34 : decode b_MO_get 34 = .ok (.getfield 27, 3) := by decide +kernel
theorem d_MO_get_37 : decode b_MO_get 37 = .ok (.iload_n 1, 1) := by decide +kernel
theorem d_MO_get_38 : decode b_MO_get 38 = .ok (.iaload, 1) := by decide +kernel
theorem d_MO_get_39 : decode b_MO_get 39 = .ok (.iconst 2, 1) := by decide +kernel
theorem d_MO_get_40 : decode b_MO_get 40 = .ok (.if_icmp .ne 9, 3) := by decide +kernel
theorem d_MO_get_43 : decode b_MO_get 43 = .ok (.ldc2_w 122, 3) := by decide +kernel
theorem d_MO_get_46 : decode b_MO_get 46 = .ok (.goto 12, 3) := by decide +kernel
theorem d_MO_get_49 : decode b_MO_get 49 = .ok (.aload_n 0, 1) := by decide +kernel
theorem d_MO_get_50 : decode b_MO_get 50 = .ok (.aload_n 0, 1) := by decide +kernel
theorem d_MO_get_51 : decode b_MO_get 51 = .ok (.getfield 137, 3) := by decide +kernel
theorem d_MO_get_54 : decode b_MO_get 54 = .ok (.iload_n 1, 1) := by decide +kernel
theorem d_MO_get_55 : decode b_MO_get 55 = .ok (.invokevirtual 140, 3) := by decide +kernel
theorem d_MO_get_58 : decode b_MO_get 58 = .ok (.lreturn, 1) := by decide +kernel
theorem d_MO_find_0 : decode b_MO_find 0 = .ok (.aload_n 0, 1) := by decide +kernel
theorem d_MO_find_1 : decode b_MO_find 1 = .ok (.aload_n 0, 1) := by decide +kernel
theorem d_MO_find_2 : decode b_MO_find 2 = .ok (.iload_n 1, 1) := by decide +kernel
theorem d_MO_find_3 : decode b_MO_find 3 = .ok (.invokevirtual 144, 3) := by decide +kernel
theorem d_MO_find_6 : decode b_MO_find 6 = .ok (.ifCond .eq 14, 3) := by decide +kernel
theorem d_MO_find_9 : decode b_MO_find 9 = .ok (.iload_n 2, 1) := by decide +kernel
theorem d_MO_find_10 : decode b_MO_find 10 = .ok (.invokestatic 98, 3) := by decide +kernel
theorem d_MO_find_13 : decode b_MO_find 13 = .ok (.ifCond .eq 7, 3) := by decide +kernel
theorem d_MO_find_16 : decode b_MO_find 16 = .ok (.iconst 1, 1) := by decide +kernel
theorem d_MO_find_17 : decode b_MO_find 17 = .ok (.goto 4, 3) := by decide +kernel
theorem d_MO_find_20 : decode b_MO_find 20 = .ok (.iconst 0, 1) := by decide +kernel
theorem d_MO_find_21 : decode b_MO_find 21 = .ok (.invokevirtual 101, 3) := by decide +kernel
theorem d_MO_find_24 : decode b_MO_find 24 = .ok (.ifCond .eq 12, 3) := by decide +kernel
theorem d_MO_find_27 : decode b_MO_find 27 = .ok (.aload_n 0, 1) := by decide +kernel
theorem d_MO_find_28 : decode b_MO_find 28 = .ok (.iload_n 1, 1) := by decide +kernel
theorem d_MO_find_29 : decode b_MO_find 29 = .ok (.iload_n 2, 1) := by decide +kernel
theorem d_MO_find_30 : decode b_MO_find 30 = .ok (.invokevirtual 140, 3) := by decide +kernel
theorem d_MO_find_33 : decode b_MO_find 33 = .ok (.goto 4, 3) := by decide +kernel
theorem d_MO_find_36 : decode b_MO_find 36 = .ok (.lconst 0, 1) := by decide +kernel
theorem d_MO_find_37 : decode b_MO_find 37 = .ok (.lreturn, 1) := by decide +kernel
theorem d_MO_next_0 : decode b_MO_next 0 = .ok (.aload_n 0, 1) := by decide +kernel
theorem d_MO_next_1 : decode b_MO_next 1 = .ok (.aload_n 0, 1) := by decide +kernel
theorem d_MO_next_2 : decode b_MO_next 2 = .ok (.iload_n 1, 1) := by decide +kernel
theorem d_MO_next_3 : decode b_MO_next 3 = .ok (.invokevirtual 144, 3) := by decide +kernel
theorem d_MO_next_6 : decode b_MO_next 6 = .ok (.ifCond .eq 14, 3) := by decide +kernel
theorem d_MO_next_9 : decode b_MO_next 9 = .ok (.iload_n 2, 1) := by decide +kernel
theorem d_MO_next_10 : decode b_MO_next 10 = .ok (.invokestatic 98, 3) := by decide +kernel
theorem d_MO_next_13 : decode b_MO_next 13 = .ok (.ifCond .eq 7, 3) := by decide +kernel
theorem d_MO_next_16 : decode b_MO_next 16 = .ok (.iconst 1, 1) := by decide +kernel
theorem d_MO_next_17 : decode b_MO_next 17 = .ok (.goto 4, 3) := by decide +kernel
theorem d_MO_next_20 : decode b_MO_next 20 = .ok (.iconst 0, 1) := by decide +kernel
theorem d_MO_next_21 : decode b_MO_next 21 = .ok (.invokevirtual 101, 3) := by decide +kernel
theorem d_MO_next_24 : decode b_MO_next 24 = .ok (.ifCond .ne 5, 3) := by decide +kernel
theorem d_MO_next_27 : decode b_MO_next 27 = .ok (.iconst 0, 1) := by decide +kernel
theorem d_MO_next_28 : decode b_MO_next 28 = .ok (.ireturn, 1) := by decide +kernel
theorem d_MO_next_29 : decode b_MO_next 29 = .ok (.iload_n 2, 1) := by decide +kernel
theorem d_MO_next_30 : decode b_MO_next 30 = .ok (.istore_n 3, 1) := by decide +kernel
theorem d_MO_next_31 : decode b_MO_next 31 = .ok (.iload_n 3, 1) := by decide +kernel
theorem d_MO_next_32 : decode b_MO_next 32 = .ok (.sipush 512, 3) := by decide +kernel
theorem d_MO_next_35 : decode b_MO_next 35 = .ok (.if_icmp .ge 42, 3) := by decide +kernel
theorem d_MO_next_38 : decode b_MO_next 38 = .ok (.aload_n 0, 1) := by decide +kernel
theorem d_MO_next_39 : decode b_MO_next 39 = .ok (.iload_n 1, 1) := by decide +kernel
theorem d_MO_next_40 : decode b_MO_next 40 = .ok (.iload_n 3, 1) := by decide +kernel
theorem d_MO_next_41 : decode b_MO_next 41 = .ok (.invokevirtual 140, 3) := by decide +kernel
theorem d_MO_next_44 : decode b_MO_next 44 = .ok (.lstore 4, 2) := by decide +kernel
theorem d_MO_next_46 : decode b_MO_next 46 = .ok (.lload 4, 2) := by decide +kernel
theorem d_MO_next_48 : decode b_MO_next 48 = .ok (.ldc2_w 122, 3) := by decide +kernel
theorem d_MO_next_51 : decode b_MO_next 51 = .ok (.lcmp, 1) := by decide +kernel
theorem d_MO_next_52 : decode b_MO_next 52 = .ok (.ifCond .eq 19, 3) := by decide +kernel
theorem d_MO_next_55 : decode b_MO_next 55 = .ok (.lload 4, 2) := by decide +kernel
theorem d_MO_next_57 : decode b_MO_next 57 = .ok (.ldc2_w 128, 3) := by decide +kernel
theorem d_MO_next_60 : decode b_MO_next 60 = .ok (.lcmp, 1) := by decide +kernel
theorem d_MO_next_61 : decode b_MO_next 61 = .ok (.ifCond .ne 8, 3) := by decide +kernel
theorem d_MO_next_64 : decode b_MO_next 64 = .ok (.bipush (-2), 2) := by decide +kernel
theorem d_MO_next_66 : decode b_MO_next 66 = .ok (.goto 4, 3) := by decide +kernel
theorem d_MO_next_69 : decode b_MO_next 69 = .ok (.iload_n 3, 1) := by decide +kernel
theorem d_MO_next_70 : decode b_MO_next 70 = .ok (.ireturn, 1) := by decide +kernel
theorem d_MO_next_71 : decode b_MO_next 71 = .ok (.iinc 3 1, 3) := by decide +kernel
theorem d_MO_next_74 : decode b_MO_next 74 = .ok (.goto (-43), 3) := by decide +kernel
theorem d_MO_next_77 : decode b_MO_next 77 = .ok (.iconst (-1), 1) := by decide +kernel
theorem d_MO_next_78 : decode b_MO_next 78 = .ok (.ireturn, 1) := by decide +kernel
theorem d_MO_rows_0 : decode b_MO_rows 0 = .ok (.aload_n 0, 1) := by decide +kernel
theorem d_MO_rows_1 : decode b_MO_rows 1 = .ok (.aload_n 0, 1) := by decide +kernel
theorem d_MO_rows_2 : decode b_MO_rows 2 = .ok (.iload_n 1, 1) := by decide +kernel
theorem d_MO_rows_3 : decode b_MO_rows 3 = .ok (.invokevirtual 144, 3) := by decide +kernel
theorem d_MO_rows_6 : decode b_MO_rows 6 = .ok (.invokevirtual 101, 3) := by decide +kernel
theorem d_MO_rows_9 : decode b_MO_rows 9 = .ok (.ifCond .ne 5, 3) := by decide +kernel
theorem d_MO_rows_12 : decode b_MO_rows 12 = .ok (.iconst 0, 1) := by decide +kernel
theorem d_MO_rows_13 : decode b_MO_rows 13 = .ok (.ireturn, 1) := by decide +kernel
theorem d_MO_rows_14 : decode b_MO_rows 14 = .ok (.iload_n 1, 1) := by decide +kernel
theorem d_MO_rows_15 : decode b_MO_rows 15 = .ok (.ifCond .ne 5, 3) := by decide +kernel
theorem d_MO_rows_18 : decode b_MO_rows 18 = .ok (.iconst 0, 1) := by decide +kernel
theorem d_MO_rows_19 : decode b_MO_rows 19 = .ok (.ireturn, 1) := by decide +kernel
theorem d_MO_rows_20 : decode b_MO_rows 20 = .ok (.aload_n 0, 1) := by decide +kernel
theorem d_MO_rows_21 : decode b_MO_rows 21 = .ok (.iload_n 1, 1) := by decide +kernel
theorem d_MO_rows_22 : decode b_MO_rows 22 = .ok (.invokevirtual 119, 3) := by decide +kernel
theorem d_MO_rows_25 : decode b_MO_rows 25 = .ok (.istore_n 2, 1) := by decide +kernel
theorem d_MO_rows_26 : decode b_MO_rows 26 = .ok (.aload_n 0, 1) := by decide +kernel
theorem d_MO_rows_27 : decode b_MO_rows 27 = .ok (.iload_n 2, 1) := by decide +kernel
theorem d_MO_rows_28 : decode b_MO_rows 28 = .ok (.iconst 4, 1) := by decide +kernel
theorem d_MO_rows_29 : decode b_MO_rows 29 = .ok (.invokevirtual 124, 3) := by decide +kernel
theorem d_MO_rows_32 : decode b_MO_rows 32 = .ok (.ifCond .eq 8, 3) := by decide +kernel
theorem d_MO_rows_35 : decode b_MO_rows 35 = .ok (.bipush (-2), 2) := by decide +kernel
theorem d_MO_rows_37 : decode b_MO_rows 37 = .ok (.goto 9, 3) := by decide +kernel
theorem d_MO_rows_40 : decode b_MO_rows 40 = .ok (.aload_n 0, 1) := by decide +kernel
theorem d_MO_rows_41 : decode b_MO_rows 41 = .ok (.iload_n 2, 1) := by decide +kernel
theorem d_MO_rows_42 : decode b_MO_rows 42 = .ok (.iconst 1, 1) := by decide +kernel
theorem d_MO_rows_43 : decode b_MO_rows 43 = .ok (.invokevirtual 130, 3) := by decide +kernel
theorem d_MO_rows_46 : decode b_MO_rows 46 = .ok (.ireturn, 1) := by decide +kernel
theorem d_MO_kept_0 : decode b_MO_kept 0 = .ok (.aload_n 0, 1) := by decide +kernel
theorem d_MO_kept_1 : decode b_MO_kept 1 = .ok (.iload_n 1, 1) := by decide +kernel
theorem d_MO_kept_2 : decode b_MO_kept 2 = .ok (.ifCond .lt 7, 3) := by decide +kernel
theorem d_MO_kept_5 : decode b_MO_kept 5 = .ok (.iconst 1, 1) := by decide +kernel
theorem d_MO_kept_6 : decode b_MO_kept 6 = .ok (.goto 4, 3) := by decide +kernel
theorem d_MO_kept_9 : decode b_MO_kept 9 = .ok (.iconst 0, 1) := by decide +kernel
theorem d_MO_kept_10 : decode b_MO_kept 10 = .ok (.invokevirtual 101, 3) := by decide +kernel
theorem d_MO_kept_13 : decode b_MO_kept 13 = .ok (.ifCond .ne 5, 3) := by decide +kernel
theorem d_MO_kept_16 : decode b_MO_kept 16 = .ok (.iconst 0, 1) := by decide +kernel
theorem d_MO_kept_17 : decode b_MO_kept 17 = .ok (.ireturn, 1) := by decide +kernel
theorem d_MO_kept_18 : decode b_MO_kept 18 = .ok (.iload_n 1, 1) := by decide +kernel
theorem d_MO_kept_19 : decode b_MO_kept 19 = .ok (.aload_n 0, 1) := by decide +kernel
theorem d_MO_kept_20 : decode b_MO_kept 20 = .ok (.getfield 116, 3) := by decide +kernel
theorem d_MO_kept_23 : decode b_MO_kept 23 = .ok (.if_icmp .ge 19, 3) := by decide +kernel
theorem d_MO_kept_26 : decode b_MO_kept 26 = .ok (.aload_n 0, 1) := by decide +kernel
theorem d_MO_kept_27 : decode b_MO_kept 27 = .ok (.getfield 21, 3) := by decide +kernel
theorem d_MO_kept_30 : decode b_MO_kept 30 = .ok (.aload_n 0, 1) := by decide +kernel
theorem d_MO_kept_31 : decode b_MO_kept 31 = .ok (.getfield 116, 3) := by decide +kernel
theorem d_MO_kept_34 : decode b_MO_kept 34 = .ok (.iconst 1, 1) := by decide +kernel
theorem d_MO_kept_35 : decode b_MO_kept 35 = .ok (.isub, 1) := by decide +kernel
theorem d_MO_kept_36 : decode b_MO_kept 36 = .ok (.iload_n 1, 1) := by decide +kernel
theorem d_MO_kept_37 : decode b_MO_kept 37 = .ok (.isub, 1) := by decide +kernel
theorem d_MO_kept_38 : decode b_MO_kept 38 = .ok (.iaload, 1) := by decide +kernel
theorem d_MO_kept_39 : decode b_MO_kept 39 = .ok (.goto 23, 3) := by decide +kernel
theorem d_MO_kept_42 : decode b_MO_kept 42 = .ok (.iload_n 1, 1) := by decide +kernel
theorem d_MO_kept_43 : decode b_MO_kept 43 = .ok (.aload_n 0, 1) := by decide +kernel
theorem d_MO_kept_44 : decode b_MO_kept 44 = .ok (.getfield 116, 3) := by decide +kernel
theorem d_MO_kept_47 : decode b_MO_kept 47 = .ok (.if_icmp .ne 14, 3) := by decide +kernel
theorem d_MO_kept_50 : decode b_MO_kept 50 = .ok (.aload_n 0, 1) := by decide +kernel
theorem d_MO_kept_51 : decode b_MO_kept 51 = .ok (.getfield 64, 3) := by decide +kernel
theorem d_MO_kept_54 : decode b_MO_kept 54 = .ok (.ifCond .ne 7, 3) := by decide +kernel
theorem d_MO_kept_57 : decode b_MO_kept 57 = .ok (.iconst 0, 1) := by decide +kernel
theorem d_MO_kept_58 : decode b_MO_kept 58 = .ok (.goto 4, 3) := by decide +kernel
theorem d_MO_kept_61 : decode b_MO_kept 61 = .ok (.iconst (-1), 1) := by decide +kernel
theorem d_MO_kept_62 : decode b_MO_kept 62 = .ok (.ireturn, 1) := by decide +kernel
theorem d_MO_write_0 : decode b_MO_write 0 = .ok (.aload_n 0, 1) := by decide +kernel
theorem d_MO_write_1 : decode b_MO_write 1 = .ok (.getfield 7, 3) := by decide +kernel
theorem d_MO_write_4 : decode b_MO_write 4 = .ok (.iload_n 1, 1) := by decide +kernel
theorem d_MO_write_5 : decode b_MO_write 5 = .ok (.iload_n 2, 1) := by decide +kernel
theorem d_MO_write_6 : decode b_MO_write 6 = .ok (.iastore, 1) := by decide +kernel
theorem d_MO_write_7 : decode b_MO_write 7 = .ok (.aload_n 0, 1) := by decide +kernel
theorem d_MO_write_8 : decode b_MO_write 8 = .ok (.dup, 1) := by decide +kernel
theorem d_MO_write_9 : decode b_MO_write 9 = .ok (.getfield 147, 3) := by decide +kernel
theorem d_MO_write_12 : decode b_MO_write 12 = .ok (.iconst 1, 1) := by decide +kernel
theorem d_MO_write_13 : decode b_MO_write 13 = .ok (.iadd, 1) := by decide +kernel
theorem d_MO_write_14 : decode b_MO_write 14 = .ok (.putfield 147, 3) := by decide +kernel
theorem d_MO_write_17 : decode b_MO_write 17 = .ok (.aload_n 0, 1) := by decide +kernel
theorem d_MO_write_18 : decode b_MO_write 18 = .ok (.aload_n 0, 1) := by decide +kernel
theorem d_MO_write_19 : decode b_MO_write 19 = .ok (.getfield 17, 3) := by decide +kernel
theorem d_MO_write_22 : decode b_MO_write 22 = .ok (.ifCond .le 12, 3) := by decide +kernel
theorem d_MO_write_25 : decode b_MO_write 25 = .ok (.aload_n 0, 1) := by decide +kernel
theorem d_MO_write_26 : decode b_MO_write 26 = .ok (.getfield 17, 3) := by decide +kernel
theorem d_MO_write_29 : decode b_MO_write 29 = .ok (.iconst 1, 1) := by decide +kernel
theorem d_MO_write_30 : decode b_MO_write 30 = .ok (.isub, 1) := by decide +kernel
theorem d_MO_write_31 : decode b_MO_write 31 = .ok (.goto 7, 3) := by decide +kernel
theorem d_MO_write_34 : decode b_MO_write 34 = .ok (.aload_n 0, 1) := by decide +kernel
theorem d_MO_write_35 : decode b_MO_write 35 = .ok (.getfield 17, 3) := by decide +kernel
theorem d_MO_write_38 : decode b_MO_write 38 = .ok (.putfield 17, 3) := by decide +kernel
theorem d_MO_write_41 : decode b_MO_write 41 = .ok (.aload_n 0, 1) := by decide +kernel
theorem d_MO_write_42 : decode b_MO_write 42 = .ok (.aload_n 0, 1) := by decide +kernel
theorem d_MO_write_43 : decode b_MO_write 43 = .ok (.getfield 17, 3) := by decide +kernel
theorem d_MO_write_46 : decode b_MO_write 46 = .ok (.ifCond .ne 7, 3) := by decide +kernel
theorem d_MO_write_49 : decode b_MO_write 49 = .ok (.iconst 1, 1) := by decide +kernel
theorem d_MO_write_50 : decode b_MO_write 50 = .ok (.goto 4, 3) := by decide +kernel
theorem d_MO_write_53 : decode b_MO_write 53 = .ok (.iconst 0, 1) := by decide +kernel
theorem d_MO_write_54 : decode b_MO_write 54 = .ok (.putfield 60, 3) := by decide +kernel
theorem d_MO_write_57 : decode b_MO_write 57 = .ok (.aload_n 0, 1) := by decide +kernel
theorem d_MO_write_58 : decode b_MO_write 58 = .ok (.getfield 60, 3) := by decide +kernel
theorem d_MO_write_61 : decode b_MO_write 61 = .ok (.ifCond .ne 7, 3) := by decide +kernel
theorem d_MO_write_64 : decode b_MO_write 64 = .ok (.iconst 1, 1) := by decide +kernel
theorem d_MO_write_65 : decode b_MO_write 65 = .ok (.goto 4, 3) := by decide +kernel
theorem d_MO_write_68 : decode b_MO_write 68 = .ok (.iconst 0, 1) := by decide +kernel
theorem d_MO_write_69 : decode b_MO_write 69 = .ok (.ireturn, 1) := by decide +kernel
theorem d_MO_begin_0 : decode b_MO_begin 0 = .ok (.iconst 0, 1) := by decide +kernel
theorem d_MO_begin_1 : decode b_MO_begin 1 = .ok (.istore_n 3, 1) := by decide +kernel
theorem d_MO_begin_2 : decode b_MO_begin 2 = .ok (.iload_n 3, 1) := by decide +kernel
theorem d_MO_begin_3 : decode b_MO_begin 3 = .ok (.bipush 64, 2) := by decide +kernel
theorem d_MO_begin_5 : decode b_MO_begin 5 = .ok (.if_icmp .ge 16, 3) := by decide +kernel
theorem d_MO_begin_8 : decode b_MO_begin 8 = .ok (.aload_n 0, 1) := by decide +kernel
theorem d_MO_begin_9 : decode b_MO_begin 9 = .ok (.getfield 51, 3) := by decide +kernel
theorem d_MO_begin_12 : decode b_MO_begin 12 = .ok (.iload_n 3, 1) := by decide +kernel
theorem d_MO_begin_13 : decode b_MO_begin 13 = .ok (.iconst 0, 1) := by decide +kernel
theorem d_MO_begin_14 : decode b_MO_begin 14 = .ok (.iastore, 1) := by decide +kernel
theorem d_MO_begin_15 : decode b_MO_begin 15 = .ok (.iinc 3 1, 3) := by decide +kernel
theorem d_MO_begin_18 : decode b_MO_begin 18 = .ok (.goto (-16), 3) := by decide +kernel
theorem d_MO_begin_21 : decode b_MO_begin 21 = .ok (.aload_n 0, 1) := by decide +kernel
theorem d_MO_begin_22 : decode b_MO_begin 22 = .ok (.getfield 51, 3) := by decide +kernel
theorem d_MO_begin_25 : decode b_MO_begin 25 = .ok (.iconst 0, 1) := by decide +kernel
theorem d_MO_begin_26 : decode b_MO_begin 26 = .ok (.iload_n 1, 1) := by decide +kernel
theorem d_MO_begin_27 : decode b_MO_begin 27 = .ok (.iastore, 1) := by decide +kernel
theorem d_MO_begin_28 : decode b_MO_begin 28 = .ok (.aload_n 0, 1) := by decide +kernel
theorem d_MO_begin_29 : decode b_MO_begin 29 = .ok (.getfield 51, 3) := by decide +kernel
theorem d_MO_begin_32 : decode b_MO_begin 32 = .ok (.iconst 1, 1) := by decide +kernel
theorem d_MO_begin_33 : decode b_MO_begin 33 = .ok (.iload_n 2, 1) := by decide +kernel
theorem d_MO_begin_34 : decode b_MO_begin 34 = .ok (.iastore, 1) := by decide +kernel
theorem d_MO_begin_35 : decode b_MO_begin 35 = .ok (.aload_n 0, 1) := by decide +kernel
theorem d_MO_begin_36 : decode b_MO_begin 36 = .ok (.iconst 4, 1) := by decide +kernel
theorem d_MO_begin_37 : decode b_MO_begin 37 = .ok (.aload_n 0, 1) := by decide +kernel
theorem d_MO_begin_38 : decode b_MO_begin 38 = .ok (.getfield 137, 3) := by decide +kernel
theorem d_MO_begin_41 : decode b_MO_begin 41 = .ok (.iconst 1, 1) := by decide +kernel
theorem d_MO_begin_42 : decode b_MO_begin 42 = .ok (.iadd, 1) := by decide +kernel
theorem d_MO_begin_43 : decode b_MO_begin 43 = .ok (.invokevirtual 150, 3) := by decide +kernel
theorem d_MO_begin_46 : decode b_MO_begin 46 = .ok (.aload_n 0, 1) := by decide +kernel
theorem d_MO_begin_47 : decode b_MO_begin 47 = .ok (.bipush 40, 2) := by decide +kernel
theorem d_MO_begin_49 : decode b_MO_begin 49 = .ok (.aload_n 0, 1) := by decide +kernel
theorem d_MO_begin_50 : decode b_MO_begin 50 = .ok (.getfield 154, 3) := by decide +kernel
theorem d_MO_begin_53 : decode b_MO_begin 53 = .ok (.invokevirtual 150, 3) := by decide +kernel
theorem d_MO_begin_56 : decode b_MO_begin 56 = .ok (.return_, 1) := by decide +kernel
theorem d_MO_putNumber_0 : decode b_MO_putNumber 0 = .ok (.iconst 0, 1) := by decide +kernel
theorem d_MO_putNumber_1 : decode b_MO_putNumber 1 = .ok (.istore_n 3, 1) := by decide +kernel
theorem d_MO_putNumber_2 : decode b_MO_putNumber 2 = .ok (.iload_n 3, 1) := by decide +kernel
theorem d_MO_putNumber_3 : decode b_MO_putNumber 3 = .ok (.iconst 4, 1) := by decide +kernel
theorem d_MO_putNumber_4 : decode b_MO_putNumber 4 = .ok (.if_icmp .ge 30, 3) := by decide +kernel
theorem d_MO_putNumber_7 : decode b_MO_putNumber 7 = .ok (.aload_n 0, 1) := by decide +kernel
theorem d_MO_putNumber_8 : decode b_MO_putNumber 8 = .ok (.getfield 51, 3) := by decide +kernel
theorem d_MO_putNumber_11 : decode b_MO_putNumber 11 = .ok (.iload_n 1, 1) := by decide +kernel
theorem d_MO_putNumber_12 : decode b_MO_putNumber 12 = .ok (.iload_n 3, 1) := by decide +kernel
theorem d_MO_putNumber_13 : decode b_MO_putNumber 13 = .ok (.iadd, 1) := by decide +kernel
theorem d_MO_putNumber_14 : decode b_MO_putNumber 14 = .ok (.iload_n 2, 1) := by decide +kernel
theorem d_MO_putNumber_15 : decode b_MO_putNumber 15 = .ok (.bipush 24, 2) := by decide +kernel
theorem d_MO_putNumber_17 : decode b_MO_putNumber 17 = .ok (.bipush 8, 2) := by decide +kernel
theorem d_MO_putNumber_19 : decode b_MO_putNumber 19 = .ok (.iload_n 3, 1) := by decide +kernel
theorem d_MO_putNumber_20 : decode b_MO_putNumber 20 = .ok (.imul, 1) := by decide +kernel
theorem d_MO_putNumber_21 : decode b_MO_putNumber 21 = .ok (.isub, 1) := by decide +kernel
theorem d_MO_putNumber_22 : decode b_MO_putNumber 22 = .ok (.ishr, 1) := by decide +kernel
theorem d_MO_putNumber_23 : decode b_MO_putNumber 23 = .ok (.sipush 255, 3) := by decide +kernel
theorem d_MO_putNumber_26 : decode b_MO_putNumber 26 = .ok (.iand, 1) := by decide +kernel
theorem d_MO_putNumber_27 : decode b_MO_putNumber 27 = .ok (.iastore, 1) := by decide +kernel
theorem d_MO_putNumber_28 : decode b_MO_putNumber 28 = .ok (.iinc 3 1, 3) := by decide +kernel
theorem d_MO_putNumber_31 : decode b_MO_putNumber 31 = .ok (.goto (-29), 3) := by decide +kernel
theorem d_MO_putNumber_34 : decode b_MO_putNumber 34 = .ok (.return_, 1) := by decide +kernel
theorem d_MO_finish_0 : decode b_MO_finish 0 = .ok (.lconst 0, 1) := by decide +kernel
theorem d_MO_finish_1 : decode b_MO_finish 1 = .ok (.lstore_n 1, 1) := by decide +kernel
theorem d_MO_finish_2 : decode b_MO_finish 2 = .ok (.iconst 0, 1) := by decide +kernel
theorem d_MO_finish_3 : decode b_MO_finish 3 = .ok (.istore_n 3, 1) := by decide +kernel
theorem d_MO_finish_4 : decode b_MO_finish 4 = .ok (.iload_n 3, 1) := by decide +kernel
theorem d_MO_finish_5 : decode b_MO_finish 5 = .ok (.bipush 56, 2) := by decide +kernel
theorem d_MO_finish_7 : decode b_MO_finish 7 = .ok (.if_icmp .ge 20, 3) := by decide +kernel
theorem d_MO_finish_10 : decode b_MO_finish 10 = .ok (.lload_n 1, 1) := by decide +kernel
theorem d_MO_finish_11 : decode b_MO_finish 11 = .ok (.aload_n 0, 1) := by decide +kernel
theorem d_MO_finish_12 : decode b_MO_finish 12 = .ok (.getfield 51, 3) := by decide +kernel
theorem d_MO_finish_15 : decode b_MO_finish 15 = .ok (.iload_n 3, 1) := by decide +kernel
theorem d_MO_finish_16 : decode b_MO_finish 16 = .ok (.iaload, 1) := by decide +kernel
theorem d_MO_finish_17 : decode b_MO_finish 17 = .ok (.invokestatic 72, 3) := by decide +kernel
theorem d_MO_finish_20 : decode b_MO_finish 20 = .ok (.lstore_n 1, 1) := by decide +kernel
theorem d_MO_finish_21 : decode b_MO_finish 21 = .ok (.iinc 3 1, 3) := by decide +kernel
theorem d_MO_finish_24 : decode b_MO_finish 24 = .ok (.goto (-20), 3) := by decide +kernel
theorem d_MO_finish_27 : decode b_MO_finish 27 = .ok (.iconst 0, 1) := by decide +kernel
theorem d_MO_finish_28 : decode b_MO_finish 28 = .ok (.istore_n 3, 1) := by decide +kernel
theorem d_MO_finish_29 : decode b_MO_finish 29 = .ok (.iload_n 3, 1) := by decide +kernel
theorem d_MO_finish_30 : decode b_MO_finish 30 = .ok (.bipush 8, 2) := by decide +kernel
theorem d_MO_finish_32 : decode b_MO_finish 32 = .ok (.if_icmp .ge 32, 3) := by decide +kernel
theorem d_MO_finish_35 : decode b_MO_finish 35 = .ok (.aload_n 0, 1) := by decide +kernel
theorem d_MO_finish_36 : decode b_MO_finish 36 = .ok (.getfield 51, 3) := by decide +kernel
theorem d_MO_finish_39 : decode b_MO_finish 39 = .ok (.bipush 56, 2) := by decide +kernel
theorem d_MO_finish_41 : decode b_MO_finish 41 = .ok (.iload_n 3, 1) := by decide +kernel
theorem d_MO_finish_42 : decode b_MO_finish 42 = .ok (.iadd, 1) := by decide +kernel
theorem d_MO_finish_43 : decode b_MO_finish 43 = .ok (.lload_n 1, 1) := by decide +kernel
theorem d_MO_finish_44 : decode b_MO_finish 44 = .ok (.bipush 56, 2) := by decide +kernel
theorem d_MO_finish_46 : decode b_MO_finish 46 = .ok (.bipush 8, 2) := by decide +kernel
theorem d_MO_finish_48 : decode b_MO_finish 48 = .ok (.iload_n 3, 1) := by decide +kernel
theorem d_MO_finish_49 : decode b_MO_finish 49 = .ok (.imul, 1) := by decide +kernel
theorem d_MO_finish_50 : decode b_MO_finish 50 = .ok (.isub, 1) := by decide +kernel
theorem d_MO_finish_51 : decode b_MO_finish 51 = .ok (.lushr, 1) := by decide +kernel
theorem d_MO_finish_52 : decode b_MO_finish 52 = .ok (.ldc2_w 76, 3) := by decide +kernel
theorem d_MO_finish_55 : decode b_MO_finish 55 = .ok (.land, 1) := by decide +kernel
theorem d_MO_finish_56 : decode b_MO_finish 56 = .ok (.l2i, 1) := by decide +kernel
theorem d_MO_finish_57 : decode b_MO_finish 57 = .ok (.iastore, 1) := by decide +kernel
theorem d_MO_finish_58 : decode b_MO_finish 58 = .ok (.iinc 3 1, 3) := by decide +kernel
theorem d_MO_finish_61 : decode b_MO_finish 61 = .ok (.goto (-32), 3) := by decide +kernel
theorem d_MO_finish_64 : decode b_MO_finish 64 = .ok (.aload_n 0, 1) := by decide +kernel
theorem d_MO_finish_65 : decode b_MO_finish 65 = .ok (.aload_n 0, 1) := by decide +kernel
theorem d_MO_finish_66 : decode b_MO_finish 66 = .ok (.getfield 154, 3) := by decide +kernel
theorem d_MO_finish_69 : decode b_MO_finish 69 = .ok (.invokevirtual 82, 3) := by decide +kernel
theorem d_MO_finish_72 : decode b_MO_finish 72 = .ok (.istore_n 3, 1) := by decide +kernel
theorem d_MO_finish_73 : decode b_MO_finish 73 = .ok (.iconst 1, 1) := by decide +kernel
theorem d_MO_finish_74 : decode b_MO_finish 74 = .ok (.istore 4, 2) := by decide +kernel
theorem d_MO_finish_76 : decode b_MO_finish 76 = .ok (.iconst 0, 1) := by decide +kernel
theorem d_MO_finish_77 : decode b_MO_finish 77 = .ok (.istore 5, 2) := by decide +kernel
theorem d_MO_finish_79 : decode b_MO_finish 79 = .ok (.iload 5, 2) := by decide +kernel
theorem d_MO_finish_81 : decode b_MO_finish 81 = .ok (.bipush 64, 2) := by decide +kernel
theorem d_MO_finish_83 : decode b_MO_finish 83 = .ok (.if_icmp .ge 52, 3) := by decide +kernel
theorem d_MO_finish_86 : decode b_MO_finish 86 = .ok (.iload 4, 2) := by decide +kernel
theorem d_MO_finish_88 : decode b_MO_finish 88 = .ok (.ifCond .eq 47, 3) := by decide +kernel
theorem d_MO_finish_91 : decode b_MO_finish 91 = .ok (.aload_n 0, 1) := by decide +kernel
theorem d_MO_finish_92 : decode b_MO_finish 92 = .ok (.iload_n 3, 1) := by decide +kernel
theorem d_MO_finish_93 : decode b_MO_finish 93 = .ok (.iload 5, 2) := by decide +kernel
theorem d_MO_finish_95 : decode b_MO_finish 95 = .ok (.iadd, 1) := by decide +kernel
theorem d_MO_finish_96 : decode b_MO_finish 96 = .ok (.aload_n 0, 1) := by decide +kernel
theorem d_MO_finish_97 : decode b_MO_finish 97 = .ok (.getfield 51, 3) := by decide +kernel
theorem d_MO_finish_100 : decode b_MO_finish 100 = .ok (.iload 5, 2) := by decide +kernel
theorem d_MO_finish_102 : decode b_MO_finish 102 = .ok (.iaload, 1) := by decide +kernel
theorem d_MO_finish_103 : decode b_MO_finish 103 = .ok (.invokevirtual 157, 3) := by decide +kernel
theorem d_MO_finish_106 : decode b_MO_finish 106 = .ok (.istore 4, 2) := by decide +kernel
theorem d_MO_finish_108 : decode b_MO_finish 108 = .ok (.aload_n 0, 1) := by decide +kernel
theorem d_MO_finish_109 : decode b_MO_finish 109 = .ok (.getfield 13, 3) := by decide +kernel
theorem d_MO_finish_112 : decode b_MO_finish 112 = .ok (.iload_n 3, 1) := by decide +kernel
theorem d_MO_finish_113 : decode b_MO_finish 113 = .ok (.bipush 64, 2) := by decide +kernel
theorem d_MO_finish_115 : decode b_MO_finish 115 = .ok (.idiv, 1) := by decide +kernel
theorem d_MO_finish_116 : decode b_MO_finish 116 = .ok (.iload 5, 2) := by decide +kernel
theorem d_MO_finish_118 : decode b_MO_finish 118 = .ok (.bipush 63, 2) := by decide +kernel
theorem d_MO_finish_120 : decode b_MO_finish 120 = .ok (.if_icmp .ge 7, 3) := by decide +kernel
theorem d_MO_finish_123 : decode b_MO_finish 123 = .ok (.iconst 1, 1) := by decide +kernel
theorem d_MO_finish_124 : decode b_MO_finish 124 = .ok (.goto 4, 3) := by decide +kernel
theorem d_MO_finish_127 : decode b_MO_finish 127 = .ok (.iconst 0, 1) := by decide +kernel
theorem d_MO_finish_128 : decode b_MO_finish 128 = .ok (.bastore, 1) := by decide +kernel
theorem d_MO_finish_129 : decode b_MO_finish 129 = .ok (.iinc 5 1, 3) := by decide +kernel
theorem d_MO_finish_132 : decode b_MO_finish 132 = .ok (.goto (-53), 3) := by decide +kernel
theorem d_MO_finish_135 : decode b_MO_finish 135 = .ok (.aload_n 0, 1) := by decide +kernel
theorem d_MO_finish_136 : decode b_MO_finish 136 = .ok (.dup, 1) := by decide +kernel
theorem d_MO_finish_137 : decode b_MO_finish 137 = .ok (.getfield 154, 3) := by decide +kernel
theorem d_MO_finish_140 : decode b_MO_finish 140 = .ok (.iconst 1, 1) := by decide +kernel
theorem d_MO_finish_141 : decode b_MO_finish 141 = .ok (.iadd, 1) := by decide +kernel
theorem d_MO_finish_142 : decode b_MO_finish 142 = .ok (.putfield 154, 3) := by decide +kernel
theorem d_MO_finish_145 : decode b_MO_finish 145 = .ok (.iload 4, 2) := by decide +kernel
theorem d_MO_finish_147 : decode b_MO_finish 147 = .ok (.ireturn, 1) := by decide +kernel
theorem d_MO_readLeaf_0 : decode b_MO_readLeaf 0 = .ok (.aload_n 0, 1) := by decide +kernel
theorem d_MO_readLeaf_1 : decode b_MO_readLeaf 1 = .ok (.iload_n 2, 1) := by decide +kernel
theorem d_MO_readLeaf_2 : decode b_MO_readLeaf 2 = .ok (.iconst 1, 1) := by decide +kernel
theorem d_MO_readLeaf_3 : decode b_MO_readLeaf 3 = .ok (.invokevirtual 124, 3) := by decide +kernel
theorem d_MO_readLeaf_6 : decode b_MO_readLeaf 6 = .ok (.ifCond .eq 5, 3) := by decide +kernel
theorem d_MO_readLeaf_9 : decode b_MO_readLeaf 9 = .ok (.iconst 0, 1) := by decide +kernel
theorem d_MO_readLeaf_10 : decode b_MO_readLeaf 10 = .ok (.ireturn, 1) := by decide +kernel
theorem d_MO_readLeaf_11 : decode b_MO_readLeaf 11 = .ok (.aload_n 0, 1) := by decide +kernel
theorem d_MO_readLeaf_12 : decode b_MO_readLeaf 12 = .ok (.getfield 36, 3) := by decide +kernel
theorem d_MO_readLeaf_15 : decode b_MO_readLeaf 15 = .ok (.iload_n 1, 1) := by decide +kernel
theorem d_MO_readLeaf_16 : decode b_MO_readLeaf 16 = .ok (.aload_n 0, 1) := by decide +kernel
theorem d_MO_readLeaf_17 : decode b_MO_readLeaf 17 = .ok (.iload_n 2, 1) := by decide +kernel
theorem d_MO_readLeaf_18 : decode b_MO_readLeaf 18 = .ok (.invokevirtual 92, 3) := by decide +kernel
theorem d_MO_readLeaf_21 : decode b_MO_readLeaf 21 = .ok (.iastore, 1) := by decide +kernel
theorem d_MO_readLeaf_22 : decode b_MO_readLeaf 22 = .ok (.iconst 0, 1) := by decide +kernel
theorem d_MO_readLeaf_23 : decode b_MO_readLeaf 23 = .ok (.istore_n 3, 1) := by decide +kernel
theorem d_MO_readLeaf_24 : decode b_MO_readLeaf 24 = .ok (.iload_n 3, 1) := by decide +kernel
theorem d_MO_readLeaf_25 : decode b_MO_readLeaf 25 = .ok (.bipush 8, 2) := by decide +kernel
theorem d_MO_readLeaf_27 : decode b_MO_readLeaf 27 = .ok (.if_icmp .ge 39, 3) := by decide +kernel
theorem d_MO_readLeaf_30 : decode b_MO_readLeaf 30 = .ok (.aload_n 0, 1) := by decide +kernel
theorem d_MO_readLeaf_31 : decode b_MO_readLeaf 31 = .ok (.getfield 39, 3) := by decide +kernel
theorem d_MO_readLeaf_34 : decode b_MO_readLeaf 34 = .ok (.bipush 8, 2) := by decide +kernel
theorem d_MO_readLeaf_36 : decode b_MO_readLeaf 36 = .ok (.iload_n 1, 1) := by decide +kernel
theorem d_MO_readLeaf_37 : decode b_MO_readLeaf 37 = .ok (.imul, 1) := by decide +kernel
theorem d_MO_readLeaf_38 : decode b_MO_readLeaf 38 = .ok (.iload_n 3, 1) := by decide +kernel
theorem d_MO_readLeaf_39 : decode b_MO_readLeaf 39 = .ok (.iadd, 1) := by decide +kernel
theorem d_MO_readLeaf_40 : decode b_MO_readLeaf 40 = .ok (.aload_n 0, 1) := by decide +kernel
theorem d_MO_readLeaf_41 : decode b_MO_readLeaf 41 = .ok (.iload_n 2, 1) := by decide +kernel
theorem d_MO_readLeaf_42 : decode b_MO_readLeaf 42 = .ok (.iload_n 3, 1) := by decide +kernel
theorem d_MO_readLeaf_43 : decode b_MO_readLeaf 43 = .ok (.invokevirtual 134, 3) := by decide +kernel
theorem d_MO_readLeaf_46 : decode b_MO_readLeaf 46 = .ok (.ifCond .eq 12, 3) := by decide +kernel
theorem d_MO_readLeaf_49 : decode b_MO_readLeaf 49 = .ok (.aload_n 0, 1) := by decide +kernel
theorem d_MO_readLeaf_50 : decode b_MO_readLeaf 50 = .ok (.iload_n 2, 1) := by decide +kernel
theorem d_MO_readLeaf_51 : decode b_MO_readLeaf 51 = .ok (.iload_n 3, 1) := by decide +kernel
theorem d_MO_readLeaf_52 : decode b_MO_readLeaf 52 = .ok (.invokevirtual 130, 3) := by decide +kernel
theorem d_MO_readLeaf_55 : decode b_MO_readLeaf 55 = .ok (.goto 4, 3) := by decide +kernel
theorem d_MO_readLeaf_58 : decode b_MO_readLeaf 58 = .ok (.iconst 0, 1) := by decide +kernel
theorem d_MO_readLeaf_59 : decode b_MO_readLeaf 59 = .ok (.iastore, 1) := by decide +kernel
theorem d_MO_readLeaf_60 : decode b_MO_readLeaf 60 = .ok (.iinc 3 1, 3) := by decide +kernel
theorem d_MO_readLeaf_63 : decode b_MO_readLeaf 63 = .ok (.goto (-39), 3) := by decide +kernel
theorem d_MO_readLeaf_66 : decode b_MO_readLeaf 66 = .ok (.iconst 1, 1) := by decide +kernel
theorem d_MO_readLeaf_67 : decode b_MO_readLeaf 67 = .ok (.ireturn, 1) := by decide +kernel
theorem d_MO_readNode_0 : decode b_MO_readNode 0 = .ok (.aload_n 0, 1) := by decide +kernel
theorem d_MO_readNode_1 : decode b_MO_readNode 1 = .ok (.getfield 42, 3) := by decide +kernel
theorem d_MO_readNode_4 : decode b_MO_readNode 4 = .ok (.iload_n 1, 1) := by decide +kernel
theorem d_MO_readNode_5 : decode b_MO_readNode 5 = .ok (.iconst 0, 1) := by decide +kernel
theorem d_MO_readNode_6 : decode b_MO_readNode 6 = .ok (.iastore, 1) := by decide +kernel
theorem d_MO_readNode_7 : decode b_MO_readNode 7 = .ok (.iconst 0, 1) := by decide +kernel
theorem d_MO_readNode_8 : decode b_MO_readNode 8 = .ok (.istore_n 2, 1) := by decide +kernel
theorem d_MO_readNode_9 : decode b_MO_readNode 9 = .ok (.iload_n 2, 1) := by decide +kernel
theorem d_MO_readNode_10 : decode b_MO_readNode 10 = .ok (.bipush 8, 2) := by decide +kernel
theorem d_MO_readNode_12 : decode b_MO_readNode 12 = .ok (.if_icmp .ge 33, 3) := by decide +kernel
theorem d_MO_readNode_15 : decode b_MO_readNode 15 = .ok (.aload_n 0, 1) := by decide +kernel
theorem d_MO_readNode_16 : decode b_MO_readNode 16 = .ok (.getfield 36, 3) := by decide +kernel
theorem d_MO_readNode_19 : decode b_MO_readNode 19 = .ok (.bipush 8, 2) := by decide +kernel
theorem d_MO_readNode_21 : decode b_MO_readNode 21 = .ok (.iload_n 1, 1) := by decide +kernel
theorem d_MO_readNode_22 : decode b_MO_readNode 22 = .ok (.imul, 1) := by decide +kernel
theorem d_MO_readNode_23 : decode b_MO_readNode 23 = .ok (.iload_n 2, 1) := by decide +kernel
theorem d_MO_readNode_24 : decode b_MO_readNode 24 = .ok (.iadd, 1) := by decide +kernel
theorem d_MO_readNode_25 : decode b_MO_readNode 25 = .ok (.iconst 0, 1) := by decide +kernel
theorem d_MO_readNode_26 : decode b_MO_readNode 26 = .ok (.iastore, 1) := by decide +kernel
theorem d_MO_readNode_27 : decode b_MO_readNode 27 = .ok (.aload_n 0, 1) := by decide +kernel
theorem d_MO_readNode_28 : decode b_MO_readNode 28 = .ok (.getfield 45, 3) := by decide +kernel
theorem d_MO_readNode_31 : decode b_MO_readNode 31 = .ok (.bipush 8, 2) := by decide +kernel
theorem d_MO_readNode_33 : decode b_MO_readNode 33 = .ok (.iload_n 1, 1) := by decide +kernel
theorem d_MO_readNode_34 : decode b_MO_readNode 34 = .ok (.imul, 1) := by decide +kernel
theorem d_MO_readNode_35 : decode b_MO_readNode 35 = .ok (.iload_n 2, 1) := by decide +kernel
theorem d_MO_readNode_36 : decode b_MO_readNode 36 = .ok (.iadd, 1) := by decide +kernel
theorem d_MO_readNode_37 : decode b_MO_readNode 37 = .ok (.iconst 0, 1) := by decide +kernel
theorem d_MO_readNode_38 : decode b_MO_readNode 38 = .ok (.iastore, 1) := by decide +kernel
theorem d_MO_readNode_39 : decode b_MO_readNode 39 = .ok (.iinc 2 1, 3) := by decide +kernel
theorem d_MO_readNode_42 : decode b_MO_readNode 42 = .ok (.goto (-33), 3) := by decide +kernel
theorem d_MO_readNode_45 : decode b_MO_readNode 45 = .ok (.aload_n 0, 1) := by decide +kernel
theorem d_MO_readNode_46 : decode b_MO_readNode 46 = .ok (.getfield 160, 3) := by decide +kernel
theorem d_MO_readNode_49 : decode b_MO_readNode 49 = .ok (.iload_n 1, 1) := by decide +kernel
theorem d_MO_readNode_50 : decode b_MO_readNode 50 = .ok (.ishr, 1) := by decide +kernel
theorem d_MO_readNode_51 : decode b_MO_readNode 51 = .ok (.iconst 1, 1) := by decide +kernel
theorem d_MO_readNode_52 : decode b_MO_readNode 52 = .ok (.iand, 1) := by decide +kernel
theorem d_MO_readNode_53 : decode b_MO_readNode 53 = .ok (.ifCond .ne 5, 3) := by decide +kernel
theorem d_MO_readNode_56 : decode b_MO_readNode 56 = .ok (.iconst 1, 1) := by decide +kernel
theorem d_MO_readNode_57 : decode b_MO_readNode 57 = .ok (.ireturn, 1) := by decide +kernel
theorem d_MO_readNode_58 : decode b_MO_readNode 58 = .ok (.aload_n 0, 1) := by decide +kernel
theorem d_MO_readNode_59 : decode b_MO_readNode 59 = .ok (.getfield 48, 3) := by decide +kernel
theorem d_MO_readNode_62 : decode b_MO_readNode 62 = .ok (.iload_n 1, 1) := by decide +kernel
theorem d_MO_readNode_63 : decode b_MO_readNode 63 = .ok (.iaload, 1) := by decide +kernel
theorem d_MO_readNode_64 : decode b_MO_readNode 64 = .ok (.istore_n 2, 1) := by decide +kernel
theorem d_MO_readNode_65 : decode b_MO_readNode 65 = .ok (.aload_n 0, 1) := by decide +kernel
theorem d_MO_readNode_66 : decode b_MO_readNode 66 = .ok (.iload_n 2, 1) := by decide +kernel
theorem d_MO_readNode_67 : decode b_MO_readNode 67 = .ok (.iconst 2, 1) := by decide +kernel
theorem d_MO_readNode_68 : decode b_MO_readNode 68 = .ok (.invokevirtual 124, 3) := by decide +kernel
theorem d_MO_readNode_71 : decode b_MO_readNode 71 = .ok (.ifCond .eq 5, 3) := by decide +kernel
theorem d_MO_readNode_74 : decode b_MO_readNode 74 = .ok (.iconst 0, 1) := by decide +kernel
theorem d_MO_readNode_75 : decode b_MO_readNode 75 = .ok (.ireturn, 1) := by decide +kernel
theorem d_MO_readNode_76 : decode b_MO_readNode 76 = .ok (.aload_n 0, 1) := by decide +kernel
theorem d_MO_readNode_77 : decode b_MO_readNode 77 = .ok (.getfield 42, 3) := by decide +kernel
theorem d_MO_readNode_80 : decode b_MO_readNode 80 = .ok (.iload_n 1, 1) := by decide +kernel
theorem d_MO_readNode_81 : decode b_MO_readNode 81 = .ok (.aload_n 0, 1) := by decide +kernel
theorem d_MO_readNode_82 : decode b_MO_readNode 82 = .ok (.iload_n 2, 1) := by decide +kernel
theorem d_MO_readNode_83 : decode b_MO_readNode 83 = .ok (.invokevirtual 92, 3) := by decide +kernel
theorem d_MO_readNode_86 : decode b_MO_readNode 86 = .ok (.iastore, 1) := by decide +kernel
theorem d_MO_readNode_87 : decode b_MO_readNode 87 = .ok (.iconst 1, 1) := by decide +kernel
theorem d_MO_readNode_88 : decode b_MO_readNode 88 = .ok (.istore_n 3, 1) := by decide +kernel
theorem d_MO_readNode_89 : decode b_MO_readNode 89 = .ok (.iconst 0, 1) := by decide +kernel
theorem d_MO_readNode_90 : decode b_MO_readNode 90 = .ok (.istore 4, 2) := by decide +kernel
theorem d_MO_readNode_92 : decode b_MO_readNode 92 = .ok (.iload 4, 2) := by decide +kernel
theorem d_MO_readNode_94 : decode b_MO_readNode 94 = .ok (.bipush 8, 2) := by decide +kernel
theorem d_MO_readNode_96 : decode b_MO_readNode 96 = .ok (.if_icmp .ge 91, 3) := by decide +kernel
theorem d_MO_readNode_99 : decode b_MO_readNode 99 = .ok (.bipush 8, 2) := by decide +kernel
theorem d_MO_readNode_101 : decode b_MO_readNode 101 = .ok (.iload_n 1, 1) := by decide +kernel
theorem d_MO_readNode_102 : decode b_MO_readNode 102 = .ok (.imul, 1) := by decide +kernel
theorem d_MO_readNode_103 : decode b_MO_readNode 103 = .ok (.iload 4, 2) := by decide +kernel
theorem d_MO_readNode_105 : decode b_MO_readNode 105 = .ok (.iadd, 1) := by decide +kernel
theorem d_MO_readNode_106 : decode b_MO_readNode 106 = .ok (.istore 5, 2) := by decide +kernel
theorem d_MO_readNode_108 : decode b_MO_readNode 108 = .ok (.aload_n 0, 1) := by decide +kernel
theorem d_MO_readNode_109 : decode b_MO_readNode 109 = .ok (.iload_n 2, 1) := by decide +kernel
theorem d_MO_readNode_110 : decode b_MO_readNode 110 = .ok (.iload 4, 2) := by decide +kernel
theorem d_MO_readNode_112 : decode b_MO_readNode 112 = .ok (.invokevirtual 134, 3) := by decide +kernel
theorem d_MO_readNode_115 : decode b_MO_readNode 115 = .ok (.istore 6, 2) := by decide +kernel
theorem d_MO_readNode_117 : decode b_MO_readNode 117 = .ok (.aload_n 0, 1) := by decide +kernel
theorem d_MO_readNode_118 : decode b_MO_readNode 118 = .ok (.getfield 45, 3) := by decide +kernel
theorem d_MO_readNode_121 : decode b_MO_readNode 121 = .ok (.iload 5, 2) := by decide +kernel
theorem d_MO_readNode_123 : decode b_MO_readNode 123 = .ok (.iload 6, 2) := by decide +kernel
theorem d_MO_readNode_125 : decode b_MO_readNode 125 = .ok (.ifCond .eq 13, 3) := by decide +kernel
theorem d_MO_readNode_128 : decode b_MO_readNode 128 = .ok (.aload_n 0, 1) := by decide +kernel
theorem d_MO_readNode_129 : decode b_MO_readNode 129 = .ok (.iload_n 2, 1) := by decide +kernel
theorem d_MO_readNode_130 : decode b_MO_readNode 130 = .ok (.iload 4, 2) := by decide +kernel
theorem d_MO_readNode_132 : decode b_MO_readNode 132 = .ok (.invokevirtual 130, 3) := by decide +kernel
theorem d_MO_readNode_135 : decode b_MO_readNode 135 = .ok (.goto 4, 3) := by decide +kernel
theorem d_MO_readNode_138 : decode b_MO_readNode 138 = .ok (.iconst 0, 1) := by decide +kernel
theorem d_MO_readNode_139 : decode b_MO_readNode 139 = .ok (.iastore, 1) := by decide +kernel
theorem d_MO_readNode_140 : decode b_MO_readNode 140 = .ok (.iload_n 3, 1) := by decide +kernel
theorem d_MO_readNode_141 : decode b_MO_readNode 141 = .ok (.ifCond .eq 38, 3) := by decide +kernel
theorem d_MO_readNode_144 : decode b_MO_readNode 144 = .ok (.iload 6, 2) := by decide +kernel
theorem d_MO_readNode_146 : decode b_MO_readNode 146 = .ok (.ifCond .eq 29, 3) := by decide +kernel
theorem d_MO_readNode_149 : decode b_MO_readNode 149 = .ok (.aload_n 0, 1) := by decide +kernel
theorem d_MO_readNode_150 : decode b_MO_readNode 150 = .ok (.getfield 33, 3) := by decide +kernel
theorem d_MO_readNode_153 : decode b_MO_readNode 153 = .ok (.iload 5, 2) := by decide +kernel
theorem d_MO_readNode_155 : decode b_MO_readNode 155 = .ok (.baload, 1) := by decide +kernel
theorem d_MO_readNode_156 : decode b_MO_readNode 156 = .ok (.ifCond .eq 19, 3) := by decide +kernel
theorem d_MO_readNode_159 : decode b_MO_readNode 159 = .ok (.aload_n 0, 1) := by decide +kernel
theorem d_MO_readNode_160 : decode b_MO_readNode 160 = .ok (.iload 5, 2) := by decide +kernel
theorem d_MO_readNode_162 : decode b_MO_readNode 162 = .ok (.aload_n 0, 1) := by decide +kernel
theorem d_MO_readNode_163 : decode b_MO_readNode 163 = .ok (.getfield 45, 3) := by decide +kernel
theorem d_MO_readNode_166 : decode b_MO_readNode 166 = .ok (.iload 5, 2) := by decide +kernel
theorem d_MO_readNode_168 : decode b_MO_readNode 168 = .ok (.iaload, 1) := by decide +kernel
theorem d_MO_readNode_169 : decode b_MO_readNode 169 = .ok (.invokevirtual 163, 3) := by decide +kernel
theorem d_MO_readNode_172 : decode b_MO_readNode 172 = .ok (.ifCond .eq 7, 3) := by decide +kernel
theorem d_MO_readNode_175 : decode b_MO_readNode 175 = .ok (.iconst 1, 1) := by decide +kernel
theorem d_MO_readNode_176 : decode b_MO_readNode 176 = .ok (.goto 4, 3) := by decide +kernel
theorem d_MO_readNode_179 : decode b_MO_readNode 179 = .ok (.iconst 0, 1) := by decide +kernel
theorem d_MO_readNode_180 : decode b_MO_readNode 180 = .ok (.istore_n 3, 1) := by decide +kernel
theorem d_MO_readNode_181 : decode b_MO_readNode 181 = .ok (.iinc 4 1, 3) := by decide +kernel
theorem d_MO_readNode_184 : decode b_MO_readNode 184 = .ok (.goto (-92), 3) := by decide +kernel
theorem d_MO_readNode_187 : decode b_MO_readNode 187 = .ok (.iload_n 3, 1) := by decide +kernel
theorem d_MO_readNode_188 : decode b_MO_readNode 188 = .ok (.ireturn, 1) := by decide +kernel
theorem d_MO_isNodeChanged_0 : decode b_MO_isNodeChanged 0 = .ok (.iconst 0, 1) := by decide +kernel
theorem d_MO_isNodeChanged_1 : decode b_MO_isNodeChanged 1 = .ok (.istore_n 2, 1) := by decide +kernel
theorem d_MO_isNodeChanged_2 : decode b_MO_isNodeChanged 2 = .ok (.iconst 0, 1) := by decide +kernel
theorem d_MO_isNodeChanged_3 : decode b_MO_isNodeChanged 3 = .ok (.istore_n 3, 1) := by decide +kernel
theorem d_MO_isNodeChanged_4 : decode b_MO_isNodeChanged 4 = .ok (.iload_n 3, 1) := by decide +kernel
theorem d_MO_isNodeChanged_5 : decode b_MO_isNodeChanged 5 = .ok (.bipush 8, 2) := by decide +kernel
theorem d_MO_isNodeChanged_7 : decode b_MO_isNodeChanged 7 = .ok (.if_icmp .ge 33, 3) := by decide +kernel
theorem d_MO_isNodeChanged_10 : decode b_MO_isNodeChanged 10 = .ok (.iload_n 2, 1) := by decide +kernel
theorem d_MO_isNodeChanged_11 : decode b_MO_isNodeChanged 11 = .ok (.ifCond .ne 17, 3) := by decide +kernel
theorem d_MO_isNodeChanged_14 : decode b_MO_isNodeChanged 14 = .ok (.aload_n 0, 1) := by decide +kernel
theorem d_MO_isNodeChanged_15 : decode b_MO_isNodeChanged 15 = .ok (.getfield 33, 3) := by decide +kernel
theorem d_MO_isNodeChanged_18 : decode b_MO_isNodeChanged 18 = .ok (.bipush 8, 2) := by decide +kernel
theorem d_MO_isNodeChanged_20 : decode b_MO_isNodeChanged 20 = .ok (.iload_n 1, 1) := by decide +kernel
theorem d_MO_isNodeChanged_21 : decode b_MO_isNodeChanged 21 = .ok (.imul, 1) := by decide +kernel
theorem d_MO_isNodeChanged_22 : decode b_MO_isNodeChanged 22 = .ok (.iload_n 3, 1) := by decide +kernel
theorem d_MO_isNodeChanged_23 : decode b_MO_isNodeChanged 23 = .ok (.iadd, 1) := by decide +kernel
theorem d_MO_isNodeChanged_24 : decode b_MO_isNodeChanged 24 = .ok (.baload, 1) := by decide +kernel
theorem d_MO_isNodeChanged_25 : decode b_MO_isNodeChanged 25 = .ok (.ifCond .eq 7, 3) := by decide +kernel
theorem d_MO_isNodeChanged_28 : decode b_MO_isNodeChanged 28 = .ok (.iconst 1, 1) := by decide +kernel
theorem d_MO_isNodeChanged_29 : decode b_MO_isNodeChanged 29 = .ok (.goto 4, 3) := by decide +kernel
theorem d_MO_isNodeChanged_32 : decode b_MO_isNodeChanged 32 = .ok (.iconst 0, 1) := by decide +kernel
theorem d_MO_isNodeChanged_33 : decode b_MO_isNodeChanged 33 = .ok (.istore_n 2, 1) := by decide +kernel
theorem d_MO_isNodeChanged_34 : decode b_MO_isNodeChanged 34 = .ok (.iinc 3 1, 3) := by decide +kernel
theorem d_MO_isNodeChanged_37 : decode b_MO_isNodeChanged 37 = .ok (.goto (-33), 3) := by decide +kernel
theorem d_MO_isNodeChanged_40 : decode b_MO_isNodeChanged 40 = .ok (.iload_n 2, 1) := by decide +kernel
theorem d_MO_isNodeChanged_41 : decode b_MO_isNodeChanged 41 = .ok (.ireturn, 1) := by decide +kernel
theorem d_MO_readTop_0 : decode b_MO_readTop 0 = .ok (.aload_n 0, 1) := by decide +kernel
theorem d_MO_readTop_1 : decode b_MO_readTop 1 = .ok (.iconst 0, 1) := by decide +kernel
theorem d_MO_readTop_2 : decode b_MO_readTop 2 = .ok (.putfield 160, 3) := by decide +kernel
theorem d_MO_readTop_5 : decode b_MO_readTop 5 = .ok (.aload_n 0, 1) := by decide +kernel
theorem d_MO_readTop_6 : decode b_MO_readTop 6 = .ok (.iconst 0, 1) := by decide +kernel
theorem d_MO_readTop_7 : decode b_MO_readTop 7 = .ok (.putfield 166, 3) := by decide +kernel
theorem d_MO_readTop_10 : decode b_MO_readTop 10 = .ok (.aload_n 0, 1) := by decide +kernel
theorem d_MO_readTop_11 : decode b_MO_readTop 11 = .ok (.getfield 137, 3) := by decide +kernel
theorem d_MO_readTop_14 : decode b_MO_readTop 14 = .ok (.ifCond .ne 5, 3) := by decide +kernel
theorem d_MO_readTop_17 : decode b_MO_readTop 17 = .ok (.iconst 1, 1) := by decide +kernel
theorem d_MO_readTop_18 : decode b_MO_readTop 18 = .ok (.ireturn, 1) := by decide +kernel
theorem d_MO_readTop_19 : decode b_MO_readTop 19 = .ok (.aload_n 0, 1) := by decide +kernel
theorem d_MO_readTop_20 : decode b_MO_readTop 20 = .ok (.aload_n 0, 1) := by decide +kernel
theorem d_MO_readTop_21 : decode b_MO_readTop 21 = .ok (.getfield 137, 3) := by decide +kernel
theorem d_MO_readTop_24 : decode b_MO_readTop 24 = .ok (.invokevirtual 119, 3) := by decide +kernel
theorem d_MO_readTop_27 : decode b_MO_readTop 27 = .ok (.istore_n 1, 1) := by decide +kernel
theorem d_MO_readTop_28 : decode b_MO_readTop 28 = .ok (.aload_n 0, 1) := by decide +kernel
theorem d_MO_readTop_29 : decode b_MO_readTop 29 = .ok (.iload_n 1, 1) := by decide +kernel
theorem d_MO_readTop_30 : decode b_MO_readTop 30 = .ok (.iconst 4, 1) := by decide +kernel
theorem d_MO_readTop_31 : decode b_MO_readTop 31 = .ok (.invokevirtual 124, 3) := by decide +kernel
theorem d_MO_readTop_34 : decode b_MO_readTop 34 = .ok (.ifCond .eq 5, 3) := by decide +kernel
theorem d_MO_readTop_37 : decode b_MO_readTop 37 = .ok (.iconst 0, 1) := by decide +kernel
theorem d_MO_readTop_38 : decode b_MO_readTop 38 = .ok (.ireturn, 1) := by decide +kernel
theorem d_MO_readTop_39 : decode b_MO_readTop 39 = .ok (.aload_n 0, 1) := by decide +kernel
theorem d_MO_readTop_40 : decode b_MO_readTop 40 = .ok (.aload_n 0, 1) := by decide +kernel
theorem d_MO_readTop_41 : decode b_MO_readTop 41 = .ok (.iload_n 1, 1) := by decide +kernel
theorem d_MO_readTop_42 : decode b_MO_readTop 42 = .ok (.iconst 1, 1) := by decide +kernel
theorem d_MO_readTop_43 : decode b_MO_readTop 43 = .ok (.invokevirtual 130, 3) := by decide +kernel
theorem d_MO_readTop_46 : decode b_MO_readTop 46 = .ok (.putfield 166, 3) := by decide +kernel
theorem d_MO_readTop_49 : decode b_MO_readTop 49 = .ok (.aload_n 0, 1) := by decide +kernel
theorem d_MO_readTop_50 : decode b_MO_readTop 50 = .ok (.iload_n 1, 1) := by decide +kernel
theorem d_MO_readTop_51 : decode b_MO_readTop 51 = .ok (.invokevirtual 92, 3) := by decide +kernel
theorem d_MO_readTop_54 : decode b_MO_readTop 54 = .ok (.iconst 1, 1) := by decide +kernel
theorem d_MO_readTop_55 : decode b_MO_readTop 55 = .ok (.iand, 1) := by decide +kernel
theorem d_MO_readTop_56 : decode b_MO_readTop 56 = .ok (.ifCond .ne 5, 3) := by decide +kernel
theorem d_MO_readTop_59 : decode b_MO_readTop 59 = .ok (.iconst 1, 1) := by decide +kernel
theorem d_MO_readTop_60 : decode b_MO_readTop 60 = .ok (.ireturn, 1) := by decide +kernel
theorem d_MO_readTop_61 : decode b_MO_readTop 61 = .ok (.aload_n 0, 1) := by decide +kernel
theorem d_MO_readTop_62 : decode b_MO_readTop 62 = .ok (.iload_n 1, 1) := by decide +kernel
theorem d_MO_readTop_63 : decode b_MO_readTop 63 = .ok (.iconst 0, 1) := by decide +kernel
theorem d_MO_readTop_64 : decode b_MO_readTop 64 = .ok (.invokevirtual 130, 3) := by decide +kernel
theorem d_MO_readTop_67 : decode b_MO_readTop 67 = .ok (.istore_n 2, 1) := by decide +kernel
theorem d_MO_readTop_68 : decode b_MO_readTop 68 = .ok (.aload_n 0, 1) := by decide +kernel
theorem d_MO_readTop_69 : decode b_MO_readTop 69 = .ok (.iload_n 2, 1) := by decide +kernel
theorem d_MO_readTop_70 : decode b_MO_readTop 70 = .ok (.iconst 3, 1) := by decide +kernel
theorem d_MO_readTop_71 : decode b_MO_readTop 71 = .ok (.invokevirtual 124, 3) := by decide +kernel
theorem d_MO_readTop_74 : decode b_MO_readTop 74 = .ok (.ifCond .eq 5, 3) := by decide +kernel
theorem d_MO_readTop_77 : decode b_MO_readTop 77 = .ok (.iconst 0, 1) := by decide +kernel
theorem d_MO_readTop_78 : decode b_MO_readTop 78 = .ok (.ireturn, 1) := by decide +kernel
theorem d_MO_readTop_79 : decode b_MO_readTop 79 = .ok (.aload_n 0, 1) := by decide +kernel
theorem d_MO_readTop_80 : decode b_MO_readTop 80 = .ok (.aload_n 0, 1) := by decide +kernel
theorem d_MO_readTop_81 : decode b_MO_readTop 81 = .ok (.iload_n 2, 1) := by decide +kernel
theorem d_MO_readTop_82 : decode b_MO_readTop 82 = .ok (.invokevirtual 92, 3) := by decide +kernel
theorem d_MO_readTop_85 : decode b_MO_readTop 85 = .ok (.putfield 160, 3) := by decide +kernel
theorem d_MO_readTop_88 : decode b_MO_readTop 88 = .ok (.iconst 0, 1) := by decide +kernel
theorem d_MO_readTop_89 : decode b_MO_readTop 89 = .ok (.istore_n 3, 1) := by decide +kernel
theorem d_MO_readTop_90 : decode b_MO_readTop 90 = .ok (.iload_n 3, 1) := by decide +kernel
theorem d_MO_readTop_91 : decode b_MO_readTop 91 = .ok (.bipush 8, 2) := by decide +kernel
theorem d_MO_readTop_93 : decode b_MO_readTop 93 = .ok (.if_icmp .ge 34, 3) := by decide +kernel
theorem d_MO_readTop_96 : decode b_MO_readTop 96 = .ok (.aload_n 0, 1) := by decide +kernel
theorem d_MO_readTop_97 : decode b_MO_readTop 97 = .ok (.getfield 48, 3) := by decide +kernel
theorem d_MO_readTop_100 : decode b_MO_readTop 100 = .ok (.iload_n 3, 1) := by decide +kernel
theorem d_MO_readTop_101 : decode b_MO_readTop 101 = .ok (.aload_n 0, 1) := by decide +kernel
theorem d_MO_readTop_102 : decode b_MO_readTop 102 = .ok (.iload_n 2, 1) := by decide +kernel
theorem d_MO_readTop_103 : decode b_MO_readTop 103 = .ok (.iload_n 3, 1) := by decide +kernel
theorem d_MO_readTop_104 : decode b_MO_readTop 104 = .ok (.invokevirtual 134, 3) := by decide +kernel
theorem d_MO_readTop_107 : decode b_MO_readTop 107 = .ok (.ifCond .eq 12, 3) := by decide +kernel
theorem d_MO_readTop_110 : decode b_MO_readTop 110 = .ok (.aload_n 0, 1) := by decide +kernel
theorem d_MO_readTop_111 : decode b_MO_readTop 111 = .ok (.iload_n 2, 1) := by decide +kernel
theorem d_MO_readTop_112 : decode b_MO_readTop 112 = .ok (.iload_n 3, 1) := by decide +kernel
theorem d_MO_readTop_113 : decode b_MO_readTop 113 = .ok (.invokevirtual 130, 3) := by decide +kernel
theorem d_MO_readTop_116 : decode b_MO_readTop 116 = .ok (.goto 4, 3) := by decide +kernel
theorem d_MO_readTop_119 : decode b_MO_readTop 119 = .ok (.iconst 0, 1) := by decide +kernel
theorem d_MO_readTop_120 : decode b_MO_readTop 120 = .ok (.iastore, 1) := by decide +kernel
theorem d_MO_readTop_121 : decode b_MO_readTop 121 = .ok (.iinc 3 1, 3) := by decide +kernel
theorem d_MO_readTop_124 : decode b_MO_readTop 124 = .ok (.goto (-34), 3) := by decide +kernel
theorem d_MO_readTop_127 : decode b_MO_readTop 127 = .ok (.iconst 1, 1) := by decide +kernel
theorem d_MO_readTop_128 : decode b_MO_readTop 128 = .ok (.ireturn, 1) := by decide +kernel
theorem d_MO_readAll_0 : decode b_MO_readAll 0 = .ok (.aload_n 0, 1) := by decide +kernel
theorem d_MO_readAll_1 : decode b_MO_readAll 1 = .ok (.invokevirtual 169, 3) := by decide +kernel
theorem d_MO_readAll_4 : decode b_MO_readAll 4 = .ok (.istore_n 1, 1) := by decide +kernel
theorem d_MO_readAll_5 : decode b_MO_readAll 5 = .ok (.iconst 0, 1) := by decide +kernel
theorem d_MO_readAll_6 : decode b_MO_readAll 6 = .ok (.istore_n 2, 1) := by decide +kernel
theorem d_MO_readAll_7 : decode b_MO_readAll 7 = .ok (.iload_n 2, 1) := by decide +kernel
theorem d_MO_readAll_8 : decode b_MO_readAll 8 = .ok (.bipush 8, 2) := by decide +kernel
theorem d_MO_readAll_10 : decode b_MO_readAll 10 = .ok (.if_icmp .ge 35, 3) := by decide +kernel
theorem d_MO_readAll_13 : decode b_MO_readAll 13 = .ok (.iload_n 1, 1) := by decide +kernel
theorem d_MO_readAll_14 : decode b_MO_readAll 14 = .ok (.ifCond .eq 31, 3) := by decide +kernel
theorem d_MO_readAll_17 : decode b_MO_readAll 17 = .ok (.aload_n 0, 1) := by decide +kernel
theorem d_MO_readAll_18 : decode b_MO_readAll 18 = .ok (.iload_n 2, 1) := by decide +kernel
theorem d_MO_readAll_19 : decode b_MO_readAll 19 = .ok (.invokevirtual 172, 3) := by decide +kernel
theorem d_MO_readAll_22 : decode b_MO_readAll 22 = .ok (.ifCond .eq 11, 3) := by decide +kernel
theorem d_MO_readAll_25 : decode b_MO_readAll 25 = .ok (.aload_n 0, 1) := by decide +kernel
theorem d_MO_readAll_26 : decode b_MO_readAll 26 = .ok (.iload_n 2, 1) := by decide +kernel
theorem d_MO_readAll_27 : decode b_MO_readAll 27 = .ok (.invokevirtual 175, 3) := by decide +kernel
theorem d_MO_readAll_30 : decode b_MO_readAll 30 = .ok (.ifCond .eq 7, 3) := by decide +kernel
theorem d_MO_readAll_33 : decode b_MO_readAll 33 = .ok (.iconst 1, 1) := by decide +kernel
theorem d_MO_readAll_34 : decode b_MO_readAll 34 = .ok (.goto 4, 3) := by decide +kernel
theorem d_MO_readAll_37 : decode b_MO_readAll 37 = .ok (.iconst 0, 1) := by decide +kernel
theorem d_MO_readAll_38 : decode b_MO_readAll 38 = .ok (.istore_n 1, 1) := by decide +kernel
theorem d_MO_readAll_39 : decode b_MO_readAll 39 = .ok (.iinc 2 1, 3) := by decide +kernel
theorem d_MO_readAll_42 : decode b_MO_readAll 42 = .ok (.goto (-35), 3) := by decide +kernel
theorem d_MO_readAll_45 : decode b_MO_readAll 45 = .ok (.iload_n 1, 1) := by decide +kernel
theorem d_MO_readAll_46 : decode b_MO_readAll 46 = .ok (.ireturn, 1) := by decide +kernel
theorem d_MO_applyDraft_0 : decode b_MO_applyDraft 0 = .ok (.iconst 0, 1) := by decide +kernel
theorem d_MO_applyDraft_1 : decode b_MO_applyDraft 1 = .ok (.istore_n 1, 1) := by decide +kernel
theorem d_MO_applyDraft_2 : decode b_MO_applyDraft 2 = .ok (.iload_n 1, 1) := by decide +kernel
theorem d_MO_applyDraft_3 : decode b_MO_applyDraft 3 = .ok (.sipush 512, 3) := by decide +kernel
theorem d_MO_applyDraft_6 : decode b_MO_applyDraft 6 = .ok (.if_icmp .ge 155, 3) := by decide +kernel
theorem d_MO_applyDraft_9 : decode b_MO_applyDraft 9 = .ok (.iload_n 1, 1) := by decide +kernel
theorem d_MO_applyDraft_10 : decode b_MO_applyDraft 10 = .ok (.bipush 8, 2) := by decide +kernel
theorem d_MO_applyDraft_12 : decode b_MO_applyDraft 12 = .ok (.idiv, 1) := by decide +kernel
theorem d_MO_applyDraft_13 : decode b_MO_applyDraft 13 = .ok (.istore_n 2, 1) := by decide +kernel
theorem d_MO_applyDraft_14 : decode b_MO_applyDraft 14 = .ok (.iconst 1, 1) := by decide +kernel
theorem d_MO_applyDraft_15 : decode b_MO_applyDraft 15 = .ok (.iload_n 1, 1) := by decide +kernel
theorem d_MO_applyDraft_16 : decode b_MO_applyDraft 16 = .ok (.bipush 8, 2) := by decide +kernel
theorem d_MO_applyDraft_18 : decode b_MO_applyDraft 18 = .ok (.irem, 1) := by decide +kernel
theorem d_MO_applyDraft_19 : decode b_MO_applyDraft 19 = .ok (.ishl, 1) := by decide +kernel
theorem d_MO_applyDraft_20 : decode b_MO_applyDraft 20 = .ok (.istore_n 3, 1) := by decide +kernel
theorem d_MO_applyDraft_21 : decode b_MO_applyDraft 21 = .ok (.aload_n 0, 1) := by decide +kernel
theorem d_MO_applyDraft_22 : decode b_MO_applyDraft 22 = .ok (.getfield 36, 3) := by decide +kernel
theorem d_MO_applyDraft_25 : decode b_MO_applyDraft 25 = .ok (.iload_n 2, 1) := by decide +kernel
theorem d_MO_applyDraft_26 : decode b_MO_applyDraft 26 = .ok (.iaload, 1) := by decide +kernel
theorem d_MO_applyDraft_27 : decode b_MO_applyDraft 27 = .ok (.iload_n 3, 1) := by decide +kernel
theorem d_MO_applyDraft_28 : decode b_MO_applyDraft 28 = .ok (.iand, 1) := by decide +kernel
theorem d_MO_applyDraft_29 : decode b_MO_applyDraft 29 = .ok (.ifCond .eq 7, 3) := by decide +kernel
theorem d_MO_applyDraft_32 : decode b_MO_applyDraft 32 = .ok (.iconst 1, 1) := by decide +kernel
theorem d_MO_applyDraft_33 : decode b_MO_applyDraft 33 = .ok (.goto 4, 3) := by decide +kernel
theorem d_MO_applyDraft_36 : decode b_MO_applyDraft 36 = .ok (.iconst 0, 1) := by decide +kernel
theorem d_MO_applyDraft_37 : decode b_MO_applyDraft 37 = .ok (.istore 4, 2) := by decide +kernel
theorem d_MO_applyDraft_39 : decode b_MO_applyDraft 39 = .ok (.aload_n 0, 1) := by decide +kernel
theorem d_MO_applyDraft_40 : decode b_MO_applyDraft 40 = .ok (.getfield 27, 3) := by decide +kernel
theorem d_MO_applyDraft_43 : decode b_MO_applyDraft 43 = .ok (.iload_n 1, 1) := by decide +kernel
theorem d_MO_applyDraft_44 : decode b_MO_applyDraft 44 = .ok (.iaload, 1) := by decide +kernel
theorem d_MO_applyDraft_45 : decode b_MO_applyDraft 45 = .ok (.iconst 1, 1) := by decide +kernel
theorem d_MO_applyDraft_46 : decode b_MO_applyDraft 46 = .ok (.if_icmp .ne 54, 3) := by decide +kernel
theorem d_MO_applyDraft_49 : decode b_MO_applyDraft 49 = .ok (.aload_n 0, 1) := by decide +kernel
theorem d_MO_applyDraft_50 : decode b_MO_applyDraft 50 = .ok (.iload 4, 2) := by decide +kernel
theorem d_MO_applyDraft_52 : decode b_MO_applyDraft 52 = .ok (.ifCond .eq 10, 3) := by decide +kernel
theorem d_MO_applyDraft_55 : decode b_MO_applyDraft 55 = .ok (.aload_n 0, 1) := by decide +kernel
theorem d_MO_applyDraft_56 : decode b_MO_applyDraft 56 = .ok (.getfield 166, 3) := by decide +kernel
theorem d_MO_applyDraft_59 : decode b_MO_applyDraft 59 = .ok (.goto 9, 3) := by decide +kernel
theorem d_MO_applyDraft_62 : decode b_MO_applyDraft 62 = .ok (.aload_n 0, 1) := by decide +kernel
theorem d_MO_applyDraft_63 : decode b_MO_applyDraft 63 = .ok (.getfield 166, 3) := by decide +kernel
theorem d_MO_applyDraft_66 : decode b_MO_applyDraft 66 = .ok (.iconst 1, 1) := by decide +kernel
theorem d_MO_applyDraft_67 : decode b_MO_applyDraft 67 = .ok (.iadd, 1) := by decide +kernel
theorem d_MO_applyDraft_68 : decode b_MO_applyDraft 68 = .ok (.putfield 166, 3) := by decide +kernel
theorem d_MO_applyDraft_71 : decode b_MO_applyDraft 71 = .ok (.aload_n 0, 1) := by decide +kernel
theorem d_MO_applyDraft_72 : decode b_MO_applyDraft 72 = .ok (.getfield 36, 3) := by decide +kernel
theorem d_MO_applyDraft_75 : decode b_MO_applyDraft 75 = .ok (.iload_n 2, 1) := by decide +kernel
theorem d_MO_applyDraft_76 : decode b_MO_applyDraft 76 = .ok (.aload_n 0, 1) := by decide +kernel
theorem d_MO_applyDraft_77 : decode b_MO_applyDraft 77 = .ok (.getfield 36, 3) := by decide +kernel
theorem d_MO_applyDraft_80 : decode b_MO_applyDraft 80 = .ok (.iload_n 2, 1) := by decide +kernel
theorem d_MO_applyDraft_81 : decode b_MO_applyDraft 81 = .ok (.iaload, 1) := by decide +kernel
theorem d_MO_applyDraft_82 : decode b_MO_applyDraft 82 = .ok (.iload_n 3, 1) := by decide +kernel
theorem d_MO_applyDraft_83 : decode b_MO_applyDraft 83 = .ok (.ior, 1) := by decide +kernel
theorem d_MO_applyDraft_84 : decode b_MO_applyDraft 84 = .ok (.iastore, 1) := by decide +kernel
theorem d_MO_applyDraft_85 : decode b_MO_applyDraft 85 = .ok (.aload_n 0, 1) := by decide +kernel
theorem d_MO_applyDraft_86 : decode b_MO_applyDraft 86 = .ok (.getfield 39, 3) := by decide +kernel
theorem d_MO_applyDraft_89 : decode b_MO_applyDraft 89 = .ok (.iload_n 1, 1) := by decide +kernel
theorem d_MO_applyDraft_90 : decode b_MO_applyDraft 90 = .ok (.aload_n 0, 1) := by decide +kernel
theorem d_MO_applyDraft_91 : decode b_MO_applyDraft 91 = .ok (.getfield 30, 3) := by decide +kernel
theorem d_MO_applyDraft_94 : decode b_MO_applyDraft 94 = .ok (.iload_n 1, 1) := by decide +kernel
theorem d_MO_applyDraft_95 : decode b_MO_applyDraft 95 = .ok (.iaload, 1) := by decide +kernel
theorem d_MO_applyDraft_96 : decode b_MO_applyDraft 96 = .ok (.iastore, 1) := by decide +kernel
theorem d_MO_applyDraft_97 : decode b_MO_applyDraft 97 = .ok (.goto 58, 3) := by decide +kernel
theorem d_MO_applyDraft_100 : decode b_MO_applyDraft 100 = .ok (.aload_n 0, 1) := by decide +kernel
theorem d_MO_applyDraft_101 : decode b_MO_applyDraft 101 = .ok (.getfield 27, 3) := by decide +kernel
theorem d_MO_applyDraft_104 : decode b_MO_applyDraft 104 = .ok (.iload_n 1, 1) := by decide +kernel
theorem d_MO_applyDraft_105 : decode b_MO_applyDraft 105 = .ok (.iaload, 1) := by decide +kernel
theorem d_MO_applyDraft_106 : decode b_MO_applyDraft 106 = .ok (.iconst 2, 1) := by decide +kernel
theorem d_MO_applyDraft_107 : decode b_MO_applyDraft 107 = .ok (.if_icmp .ne 48, 3) := by decide +kernel
theorem d_MO_applyDraft_110 : decode b_MO_applyDraft 110 = .ok (.aload_n 0, 1) := by decide +kernel
theorem d_MO_applyDraft_111 : decode b_MO_applyDraft 111 = .ok (.iload 4, 2) := by decide +kernel
theorem d_MO_applyDraft_113 : decode b_MO_applyDraft 113 = .ok (.ifCond .eq 12, 3) := by decide +kernel
theorem d_MO_applyDraft_116 : decode b_MO_applyDraft 116 = .ok (.aload_n 0, 1) := by decide +kernel
theorem d_MO_applyDraft_117 : decode b_MO_applyDraft 117 = .ok (.getfield 166, 3) := by decide +kernel
theorem d_MO_applyDraft_120 : decode b_MO_applyDraft 120 = .ok (.iconst 1, 1) := by decide +kernel
theorem d_MO_applyDraft_121 : decode b_MO_applyDraft 121 = .ok (.isub, 1) := by decide +kernel
theorem d_MO_applyDraft_122 : decode b_MO_applyDraft 122 = .ok (.goto 7, 3) := by decide +kernel
theorem d_MO_applyDraft_125 : decode b_MO_applyDraft 125 = .ok (.aload_n 0, 1) := by decide +kernel
theorem d_MO_applyDraft_126 : decode b_MO_applyDraft 126 = .ok (.getfield 166, 3) := by decide +kernel
theorem d_MO_applyDraft_129 : decode b_MO_applyDraft 129 = .ok (.putfield 166, 3) := by decide +kernel
theorem d_MO_applyDraft_132 : decode b_MO_applyDraft 132 = .ok (.aload_n 0, 1) := by decide +kernel
theorem d_MO_applyDraft_133 : decode b_MO_applyDraft 133 = .ok (.getfield 36, 3) := by decide +kernel
theorem d_MO_applyDraft_136 : decode b_MO_applyDraft 136 = .ok (.iload_n 2, 1) := by decide +kernel
theorem d_MO_applyDraft_137 : decode b_MO_applyDraft 137 = .ok (.aload_n 0, 1) := by decide +kernel
theorem d_MO_applyDraft_138 : decode b_MO_applyDraft 138 = .ok (.getfield 36, 3) := by decide +kernel
theorem d_MO_applyDraft_141 : decode b_MO_applyDraft 141 = .ok (.iload_n 2, 1) := by decide +kernel
theorem d_MO_applyDraft_142 : decode b_MO_applyDraft 142 = .ok (.iaload, 1) := by decide +kernel
theorem d_MO_applyDraft_143 : decode b_MO_applyDraft 143 = .ok (.iload_n 3, 1) := by decide +kernel
theorem d_MO_applyDraft_144 : decode b_MO_applyDraft 144 = .ok (.iconst (-1), 1) := by decide +kernel
theorem d_MO_applyDraft_145 : decode b_MO_applyDraft 145 = .ok (.ixor, 1) := by decide +kernel
theorem d_MO_applyDraft_146 : decode b_MO_applyDraft 146 = .ok (.iand, 1) := by decide +kernel
theorem d_MO_applyDraft_147 : decode b_MO_applyDraft 147 = .ok (.iastore, 1) := by decide +kernel
theorem d_MO_applyDraft_148 : decode b_MO_applyDraft 148 = .ok (.aload_n 0, 1) := by decide +kernel
theorem d_MO_applyDraft_149 : decode b_MO_applyDraft 149 = .ok (.getfield 39, 3) := by decide +kernel
theorem d_MO_applyDraft_152 : decode b_MO_applyDraft 152 = .ok (.iload_n 1, 1) := by decide +kernel
theorem d_MO_applyDraft_153 : decode b_MO_applyDraft 153 = .ok (.iconst 0, 1) := by decide +kernel
theorem d_MO_applyDraft_154 : decode b_MO_applyDraft 154 = .ok (.iastore, 1) := by decide +kernel
theorem d_MO_applyDraft_155 : decode b_MO_applyDraft 155 = .ok (.iinc 1 1, 3) := by decide +kernel
theorem d_MO_applyDraft_158 : decode b_MO_applyDraft 158 = .ok (.goto (-156), 3) := by decide +kernel
theorem d_MO_applyDraft_161 : decode b_MO_applyDraft 161 = .ok (.return_, 1) := by decide +kernel
theorem d_MO_settle_0 : decode b_MO_settle 0 = .ok (.iconst 1, 1) := by decide +kernel
theorem d_MO_settle_1 : decode b_MO_settle 1 = .ok (.istore_n 1, 1) := by decide +kernel
theorem d_MO_settle_2 : decode b_MO_settle 2 = .ok (.iconst 0, 1) := by decide +kernel
theorem d_MO_settle_3 : decode b_MO_settle 3 = .ok (.istore_n 2, 1) := by decide +kernel
theorem d_MO_settle_4 : decode b_MO_settle 4 = .ok (.iload_n 2, 1) := by decide +kernel
theorem d_MO_settle_5 : decode b_MO_settle 5 = .ok (.bipush 8, 2) := by decide +kernel
theorem d_MO_settle_7 : decode b_MO_settle 7 = .ok (.if_icmp .ge 159, 3) := by decide +kernel
theorem d_MO_settle_10 : decode b_MO_settle 10 = .ok (.iconst 0, 1) := by decide +kernel
theorem d_MO_settle_11 : decode b_MO_settle 11 = .ok (.istore_n 3, 1) := by decide +kernel
theorem d_MO_settle_12 : decode b_MO_settle 12 = .ok (.iload_n 3, 1) := by decide +kernel
theorem d_MO_settle_13 : decode b_MO_settle 13 = .ok (.bipush 8, 2) := by decide +kernel
theorem d_MO_settle_15 : decode b_MO_settle 15 = .ok (.if_icmp .ge 86, 3) := by decide +kernel
theorem d_MO_settle_18 : decode b_MO_settle 18 = .ok (.bipush 8, 2) := by decide +kernel
theorem d_MO_settle_20 : decode b_MO_settle 20 = .ok (.iload_n 2, 1) := by decide +kernel
theorem d_MO_settle_21 : decode b_MO_settle 21 = .ok (.imul, 1) := by decide +kernel
theorem d_MO_settle_22 : decode b_MO_settle 22 = .ok (.iload_n 3, 1) := by decide +kernel
theorem d_MO_settle_23 : decode b_MO_settle 23 = .ok (.iadd, 1) := by decide +kernel
theorem d_MO_settle_24 : decode b_MO_settle 24 = .ok (.istore 4, 2) := by decide +kernel
theorem d_MO_settle_26 : decode b_MO_settle 26 = .ok (.aload_n 0, 1) := by decide +kernel
theorem d_MO_settle_27 : decode b_MO_settle 27 = .ok (.getfield 33, 3) := by decide +kernel
theorem d_MO_settle_30 : decode b_MO_settle 30 = .ok (.iload 4, 2) := by decide +kernel
theorem d_MO_settle_32 : decode b_MO_settle 32 = .ok (.baload, 1) := by decide +kernel
theorem d_MO_settle_33 : decode b_MO_settle 33 = .ok (.ifCond .eq 62, 3) := by decide +kernel
theorem d_MO_settle_36 : decode b_MO_settle 36 = .ok (.aload_n 0, 1) := by decide +kernel
theorem d_MO_settle_37 : decode b_MO_settle 37 = .ok (.getfield 42, 3) := by decide +kernel
theorem d_MO_settle_40 : decode b_MO_settle 40 = .ok (.iload_n 2, 1) := by decide +kernel
theorem d_MO_settle_41 : decode b_MO_settle 41 = .ok (.aload_n 0, 1) := by decide +kernel
theorem d_MO_settle_42 : decode b_MO_settle 42 = .ok (.getfield 36, 3) := by decide +kernel
theorem d_MO_settle_45 : decode b_MO_settle 45 = .ok (.iload 4, 2) := by decide +kernel
theorem d_MO_settle_47 : decode b_MO_settle 47 = .ok (.iaload, 1) := by decide +kernel
theorem d_MO_settle_48 : decode b_MO_settle 48 = .ok (.ifCond .eq 16, 3) := by decide +kernel
theorem d_MO_settle_51 : decode b_MO_settle 51 = .ok (.aload_n 0, 1) := by decide +kernel
theorem d_MO_settle_52 : decode b_MO_settle 52 = .ok (.getfield 42, 3) := by decide +kernel
theorem d_MO_settle_55 : decode b_MO_settle 55 = .ok (.iload_n 2, 1) := by decide +kernel
theorem d_MO_settle_56 : decode b_MO_settle 56 = .ok (.iaload, 1) := by decide +kernel
theorem d_MO_settle_57 : decode b_MO_settle 57 = .ok (.iconst 1, 1) := by decide +kernel
theorem d_MO_settle_58 : decode b_MO_settle 58 = .ok (.iload_n 3, 1) := by decide +kernel
theorem d_MO_settle_59 : decode b_MO_settle 59 = .ok (.ishl, 1) := by decide +kernel
theorem d_MO_settle_60 : decode b_MO_settle 60 = .ok (.ior, 1) := by decide +kernel
theorem d_MO_settle_61 : decode b_MO_settle 61 = .ok (.goto 15, 3) := by decide +kernel
theorem d_MO_settle_64 : decode b_MO_settle 64 = .ok (.aload_n 0, 1) := by decide +kernel
theorem d_MO_settle_65 : decode b_MO_settle 65 = .ok (.getfield 42, 3) := by decide +kernel
theorem d_MO_settle_68 : decode b_MO_settle 68 = .ok (.iload_n 2, 1) := by decide +kernel
theorem d_MO_settle_69 : decode b_MO_settle 69 = .ok (.iaload, 1) := by decide +kernel
theorem d_MO_settle_70 : decode b_MO_settle 70 = .ok (.iconst 1, 1) := by decide +kernel
theorem d_MO_settle_71 : decode b_MO_settle 71 = .ok (.iload_n 3, 1) := by decide +kernel
theorem d_MO_settle_72 : decode b_MO_settle 72 = .ok (.ishl, 1) := by decide +kernel
theorem d_MO_settle_73 : decode b_MO_settle 73 = .ok (.iconst (-1), 1) := by decide +kernel
theorem d_MO_settle_74 : decode b_MO_settle 74 = .ok (.ixor, 1) := by decide +kernel
theorem d_MO_settle_75 : decode b_MO_settle 75 = .ok (.iand, 1) := by decide +kernel
theorem d_MO_settle_76 : decode b_MO_settle 76 = .ok (.iastore, 1) := by decide +kernel
theorem d_MO_settle_77 : decode b_MO_settle 77 = .ok (.aload_n 0, 1) := by decide +kernel
theorem d_MO_settle_78 : decode b_MO_settle 78 = .ok (.getfield 36, 3) := by decide +kernel
theorem d_MO_settle_81 : decode b_MO_settle 81 = .ok (.iload 4, 2) := by decide +kernel
theorem d_MO_settle_83 : decode b_MO_settle 83 = .ok (.iaload, 1) := by decide +kernel
theorem d_MO_settle_84 : decode b_MO_settle 84 = .ok (.ifCond .eq 9, 3) := by decide +kernel
theorem d_MO_settle_87 : decode b_MO_settle 87 = .ok (.iload_n 1, 1) := by decide +kernel
theorem d_MO_settle_88 : decode b_MO_settle 88 = .ok (.iconst 1, 1) := by decide +kernel
theorem d_MO_settle_89 : decode b_MO_settle 89 = .ok (.iadd, 1) := by decide +kernel
theorem d_MO_settle_90 : decode b_MO_settle 90 = .ok (.goto 4, 3) := by decide +kernel
theorem d_MO_settle_93 : decode b_MO_settle 93 = .ok (.iload_n 1, 1) := by decide +kernel
theorem d_MO_settle_94 : decode b_MO_settle 94 = .ok (.istore_n 1, 1) := by decide +kernel
theorem d_MO_settle_95 : decode b_MO_settle 95 = .ok (.iinc 3 1, 3) := by decide +kernel
theorem d_MO_settle_98 : decode b_MO_settle 98 = .ok (.goto (-86), 3) := by decide +kernel
theorem d_MO_settle_101 : decode b_MO_settle 101 = .ok (.aload_n 0, 1) := by decide +kernel
theorem d_MO_settle_102 : decode b_MO_settle 102 = .ok (.iload_n 2, 1) := by decide +kernel
theorem d_MO_settle_103 : decode b_MO_settle 103 = .ok (.invokevirtual 172, 3) := by decide +kernel
theorem d_MO_settle_106 : decode b_MO_settle 106 = .ok (.ifCond .eq 54, 3) := by decide +kernel
theorem d_MO_settle_109 : decode b_MO_settle 109 = .ok (.aload_n 0, 1) := by decide +kernel
theorem d_MO_settle_110 : decode b_MO_settle 110 = .ok (.aload_n 0, 1) := by decide +kernel
theorem d_MO_settle_111 : decode b_MO_settle 111 = .ok (.getfield 42, 3) := by decide +kernel
theorem d_MO_settle_114 : decode b_MO_settle 114 = .ok (.iload_n 2, 1) := by decide +kernel
theorem d_MO_settle_115 : decode b_MO_settle 115 = .ok (.iaload, 1) := by decide +kernel
theorem d_MO_settle_116 : decode b_MO_settle 116 = .ok (.ifCond .eq 14, 3) := by decide +kernel
theorem d_MO_settle_119 : decode b_MO_settle 119 = .ok (.aload_n 0, 1) := by decide +kernel
theorem d_MO_settle_120 : decode b_MO_settle 120 = .ok (.getfield 160, 3) := by decide +kernel
theorem d_MO_settle_123 : decode b_MO_settle 123 = .ok (.iconst 1, 1) := by decide +kernel
theorem d_MO_settle_124 : decode b_MO_settle 124 = .ok (.iload_n 2, 1) := by decide +kernel
theorem d_MO_settle_125 : decode b_MO_settle 125 = .ok (.ishl, 1) := by decide +kernel
theorem d_MO_settle_126 : decode b_MO_settle 126 = .ok (.ior, 1) := by decide +kernel
theorem d_MO_settle_127 : decode b_MO_settle 127 = .ok (.goto 13, 3) := by decide +kernel
theorem d_MO_settle_130 : decode b_MO_settle 130 = .ok (.aload_n 0, 1) := by decide +kernel
theorem d_MO_settle_131 : decode b_MO_settle 131 = .ok (.getfield 160, 3) := by decide +kernel
theorem d_MO_settle_134 : decode b_MO_settle 134 = .ok (.iconst 1, 1) := by decide +kernel
theorem d_MO_settle_135 : decode b_MO_settle 135 = .ok (.iload_n 2, 1) := by decide +kernel
theorem d_MO_settle_136 : decode b_MO_settle 136 = .ok (.ishl, 1) := by decide +kernel
theorem d_MO_settle_137 : decode b_MO_settle 137 = .ok (.iconst (-1), 1) := by decide +kernel
theorem d_MO_settle_138 : decode b_MO_settle 138 = .ok (.ixor, 1) := by decide +kernel
theorem d_MO_settle_139 : decode b_MO_settle 139 = .ok (.iand, 1) := by decide +kernel
theorem d_MO_settle_140 : decode b_MO_settle 140 = .ok (.putfield 160, 3) := by decide +kernel
theorem d_MO_settle_143 : decode b_MO_settle 143 = .ok (.aload_n 0, 1) := by decide +kernel
theorem d_MO_settle_144 : decode b_MO_settle 144 = .ok (.getfield 42, 3) := by decide +kernel
theorem d_MO_settle_147 : decode b_MO_settle 147 = .ok (.iload_n 2, 1) := by decide +kernel
theorem d_MO_settle_148 : decode b_MO_settle 148 = .ok (.iaload, 1) := by decide +kernel
theorem d_MO_settle_149 : decode b_MO_settle 149 = .ok (.ifCond .eq 9, 3) := by decide +kernel
theorem d_MO_settle_152 : decode b_MO_settle 152 = .ok (.iload_n 1, 1) := by decide +kernel
theorem d_MO_settle_153 : decode b_MO_settle 153 = .ok (.iconst 1, 1) := by decide +kernel
theorem d_MO_settle_154 : decode b_MO_settle 154 = .ok (.iadd, 1) := by decide +kernel
theorem d_MO_settle_155 : decode b_MO_settle 155 = .ok (.goto 4, 3) := by decide +kernel
theorem d_MO_settle_158 : decode b_MO_settle 158 = .ok (.iload_n 1, 1) := by decide +kernel
theorem d_MO_settle_159 : decode b_MO_settle 159 = .ok (.istore_n 1, 1) := by decide +kernel
theorem d_MO_settle_160 : decode b_MO_settle 160 = .ok (.iinc 2 1, 3) := by decide +kernel
theorem d_MO_settle_163 : decode b_MO_settle 163 = .ok (.goto (-159), 3) := by decide +kernel
theorem d_MO_settle_166 : decode b_MO_settle 166 = .ok (.aload_n 0, 1) := by decide +kernel
theorem d_MO_settle_167 : decode b_MO_settle 167 = .ok (.getfield 160, 3) := by decide +kernel
theorem d_MO_settle_170 : decode b_MO_settle 170 = .ok (.ifCond .eq 9, 3) := by decide +kernel
theorem d_MO_settle_173 : decode b_MO_settle 173 = .ok (.iload_n 1, 1) := by decide +kernel
theorem d_MO_settle_174 : decode b_MO_settle 174 = .ok (.iconst 1, 1) := by decide +kernel
theorem d_MO_settle_175 : decode b_MO_settle 175 = .ok (.iadd, 1) := by decide +kernel
theorem d_MO_settle_176 : decode b_MO_settle 176 = .ok (.goto 4, 3) := by decide +kernel
theorem d_MO_settle_179 : decode b_MO_settle 179 = .ok (.iload_n 1, 1) := by decide +kernel
theorem d_MO_settle_180 : decode b_MO_settle 180 = .ok (.ireturn, 1) := by decide +kernel
theorem d_MO_writeLeaf_0 : decode b_MO_writeLeaf 0 = .ok (.aload_n 0, 1) := by decide +kernel
theorem d_MO_writeLeaf_1 : decode b_MO_writeLeaf 1 = .ok (.getfield 45, 3) := by decide +kernel
theorem d_MO_writeLeaf_4 : decode b_MO_writeLeaf 4 = .ok (.iload_n 1, 1) := by decide +kernel
theorem d_MO_writeLeaf_5 : decode b_MO_writeLeaf 5 = .ok (.aload_n 0, 1) := by decide +kernel
theorem d_MO_writeLeaf_6 : decode b_MO_writeLeaf 6 = .ok (.getfield 154, 3) := by decide +kernel
theorem d_MO_writeLeaf_9 : decode b_MO_writeLeaf 9 = .ok (.iastore, 1) := by decide +kernel
theorem d_MO_writeLeaf_10 : decode b_MO_writeLeaf 10 = .ok (.aload_n 0, 1) := by decide +kernel
theorem d_MO_writeLeaf_11 : decode b_MO_writeLeaf 11 = .ok (.iconst 1, 1) := by decide +kernel
theorem d_MO_writeLeaf_12 : decode b_MO_writeLeaf 12 = .ok (.aload_n 0, 1) := by decide +kernel
theorem d_MO_writeLeaf_13 : decode b_MO_writeLeaf 13 = .ok (.getfield 36, 3) := by decide +kernel
theorem d_MO_writeLeaf_16 : decode b_MO_writeLeaf 16 = .ok (.iload_n 1, 1) := by decide +kernel
theorem d_MO_writeLeaf_17 : decode b_MO_writeLeaf 17 = .ok (.iaload, 1) := by decide +kernel
theorem d_MO_writeLeaf_18 : decode b_MO_writeLeaf 18 = .ok (.invokevirtual 178, 3) := by decide +kernel
theorem d_MO_writeLeaf_21 : decode b_MO_writeLeaf 21 = .ok (.iconst 0, 1) := by decide +kernel
theorem d_MO_writeLeaf_22 : decode b_MO_writeLeaf 22 = .ok (.istore_n 2, 1) := by decide +kernel
theorem d_MO_writeLeaf_23 : decode b_MO_writeLeaf 23 = .ok (.iload_n 2, 1) := by decide +kernel
theorem d_MO_writeLeaf_24 : decode b_MO_writeLeaf 24 = .ok (.bipush 8, 2) := by decide +kernel
theorem d_MO_writeLeaf_26 : decode b_MO_writeLeaf 26 = .ok (.if_icmp .ge 48, 3) := by decide +kernel
theorem d_MO_writeLeaf_29 : decode b_MO_writeLeaf 29 = .ok (.aload_n 0, 1) := by decide +kernel
theorem d_MO_writeLeaf_30 : decode b_MO_writeLeaf 30 = .ok (.bipush 8, 2) := by decide +kernel
theorem d_MO_writeLeaf_32 : decode b_MO_writeLeaf 32 = .ok (.iconst 4, 1) := by decide +kernel
theorem d_MO_writeLeaf_33 : decode b_MO_writeLeaf 33 = .ok (.iload_n 2, 1) := by decide +kernel
theorem d_MO_writeLeaf_34 : decode b_MO_writeLeaf 34 = .ok (.imul, 1) := by decide +kernel
theorem d_MO_writeLeaf_35 : decode b_MO_writeLeaf 35 = .ok (.iadd, 1) := by decide +kernel
theorem d_MO_writeLeaf_36 : decode b_MO_writeLeaf 36 = .ok (.aload_n 0, 1) := by decide +kernel
theorem d_MO_writeLeaf_37 : decode b_MO_writeLeaf 37 = .ok (.getfield 36, 3) := by decide +kernel
theorem d_MO_writeLeaf_40 : decode b_MO_writeLeaf 40 = .ok (.iload_n 1, 1) := by decide +kernel
theorem d_MO_writeLeaf_41 : decode b_MO_writeLeaf 41 = .ok (.iaload, 1) := by decide +kernel
theorem d_MO_writeLeaf_42 : decode b_MO_writeLeaf 42 = .ok (.iload_n 2, 1) := by decide +kernel
theorem d_MO_writeLeaf_43 : decode b_MO_writeLeaf 43 = .ok (.ishr, 1) := by decide +kernel
theorem d_MO_writeLeaf_44 : decode b_MO_writeLeaf 44 = .ok (.iconst 1, 1) := by decide +kernel
theorem d_MO_writeLeaf_45 : decode b_MO_writeLeaf 45 = .ok (.iand, 1) := by decide +kernel
theorem d_MO_writeLeaf_46 : decode b_MO_writeLeaf 46 = .ok (.iconst 1, 1) := by decide +kernel
theorem d_MO_writeLeaf_47 : decode b_MO_writeLeaf 47 = .ok (.if_icmp .ne 17, 3) := by decide +kernel
theorem d_MO_writeLeaf_50 : decode b_MO_writeLeaf 50 = .ok (.aload_n 0, 1) := by decide +kernel
theorem d_MO_writeLeaf_51 : decode b_MO_writeLeaf 51 = .ok (.getfield 39, 3) := by decide +kernel
theorem d_MO_writeLeaf_54 : decode b_MO_writeLeaf 54 = .ok (.bipush 8, 2) := by decide +kernel
theorem d_MO_writeLeaf_56 : decode b_MO_writeLeaf 56 = .ok (.iload_n 1, 1) := by decide +kernel
theorem d_MO_writeLeaf_57 : decode b_MO_writeLeaf 57 = .ok (.imul, 1) := by decide +kernel
theorem d_MO_writeLeaf_58 : decode b_MO_writeLeaf 58 = .ok (.iload_n 2, 1) := by decide +kernel
theorem d_MO_writeLeaf_59 : decode b_MO_writeLeaf 59 = .ok (.iadd, 1) := by decide +kernel
theorem d_MO_writeLeaf_60 : decode b_MO_writeLeaf 60 = .ok (.iaload, 1) := by decide +kernel
theorem d_MO_writeLeaf_61 : decode b_MO_writeLeaf 61 = .ok (.goto 4, 3) := by decide +kernel
theorem d_MO_writeLeaf_64 : decode b_MO_writeLeaf 64 = .ok (.iconst 0, 1) := by decide +kernel
theorem d_MO_writeLeaf_65 : decode b_MO_writeLeaf 65 = .ok (.invokevirtual 150, 3) := by decide +kernel
theorem d_MO_writeLeaf_68 : decode b_MO_writeLeaf 68 = .ok (.iinc 2 1, 3) := by decide +kernel
theorem d_MO_writeLeaf_71 : decode b_MO_writeLeaf 71 = .ok (.goto (-48), 3) := by decide +kernel
theorem d_MO_writeLeaf_74 : decode b_MO_writeLeaf 74 = .ok (.aload_n 0, 1) := by decide +kernel
theorem d_MO_writeLeaf_75 : decode b_MO_writeLeaf 75 = .ok (.invokevirtual 181, 3) := by decide +kernel
theorem d_MO_writeLeaf_78 : decode b_MO_writeLeaf 78 = .ok (.ireturn, 1) := by decide +kernel
theorem d_MO_writeNode_0 : decode b_MO_writeNode 0 = .ok (.aload_n 0, 1) := by decide +kernel
theorem d_MO_writeNode_1 : decode b_MO_writeNode 1 = .ok (.getfield 48, 3) := by decide +kernel
theorem d_MO_writeNode_4 : decode b_MO_writeNode 4 = .ok (.iload_n 1, 1) := by decide +kernel
theorem d_MO_writeNode_5 : decode b_MO_writeNode 5 = .ok (.aload_n 0, 1) := by decide +kernel
theorem d_MO_writeNode_6 : decode b_MO_writeNode 6 = .ok (.getfield 154, 3) := by decide +kernel
theorem d_MO_writeNode_9 : decode b_MO_writeNode 9 = .ok (.iastore, 1) := by decide +kernel
theorem d_MO_writeNode_10 : decode b_MO_writeNode 10 = .ok (.aload_n 0, 1) := by decide +kernel
theorem d_MO_writeNode_11 : decode b_MO_writeNode 11 = .ok (.iconst 2, 1) := by decide +kernel
theorem d_MO_writeNode_12 : decode b_MO_writeNode 12 = .ok (.aload_n 0, 1) := by decide +kernel
theorem d_MO_writeNode_13 : decode b_MO_writeNode 13 = .ok (.getfield 42, 3) := by decide +kernel
theorem d_MO_writeNode_16 : decode b_MO_writeNode 16 = .ok (.iload_n 1, 1) := by decide +kernel
theorem d_MO_writeNode_17 : decode b_MO_writeNode 17 = .ok (.iaload, 1) := by decide +kernel
theorem d_MO_writeNode_18 : decode b_MO_writeNode 18 = .ok (.invokevirtual 178, 3) := by decide +kernel
theorem d_MO_writeNode_21 : decode b_MO_writeNode 21 = .ok (.iconst 0, 1) := by decide +kernel
theorem d_MO_writeNode_22 : decode b_MO_writeNode 22 = .ok (.istore_n 2, 1) := by decide +kernel
theorem d_MO_writeNode_23 : decode b_MO_writeNode 23 = .ok (.iload_n 2, 1) := by decide +kernel
theorem d_MO_writeNode_24 : decode b_MO_writeNode 24 = .ok (.bipush 8, 2) := by decide +kernel
theorem d_MO_writeNode_26 : decode b_MO_writeNode 26 = .ok (.if_icmp .ge 48, 3) := by decide +kernel
theorem d_MO_writeNode_29 : decode b_MO_writeNode 29 = .ok (.aload_n 0, 1) := by decide +kernel
theorem d_MO_writeNode_30 : decode b_MO_writeNode 30 = .ok (.bipush 8, 2) := by decide +kernel
theorem d_MO_writeNode_32 : decode b_MO_writeNode 32 = .ok (.iconst 4, 1) := by decide +kernel
theorem d_MO_writeNode_33 : decode b_MO_writeNode 33 = .ok (.iload_n 2, 1) := by decide +kernel
theorem d_MO_writeNode_34 : decode b_MO_writeNode 34 = .ok (.imul, 1) := by decide +kernel
theorem d_MO_writeNode_35 : decode b_MO_writeNode 35 = .ok (.iadd, 1) := by decide +kernel
theorem d_MO_writeNode_36 : decode b_MO_writeNode 36 = .ok (.aload_n 0, 1) := by decide +kernel
theorem d_MO_writeNode_37 : decode b_MO_writeNode 37 = .ok (.getfield 42, 3) := by decide +kernel
theorem d_MO_writeNode_40 : decode b_MO_writeNode 40 = .ok (.iload_n 1, 1) := by decide +kernel
theorem d_MO_writeNode_41 : decode b_MO_writeNode 41 = .ok (.iaload, 1) := by decide +kernel
theorem d_MO_writeNode_42 : decode b_MO_writeNode 42 = .ok (.iload_n 2, 1) := by decide +kernel
theorem d_MO_writeNode_43 : decode b_MO_writeNode 43 = .ok (.ishr, 1) := by decide +kernel
theorem d_MO_writeNode_44 : decode b_MO_writeNode 44 = .ok (.iconst 1, 1) := by decide +kernel
theorem d_MO_writeNode_45 : decode b_MO_writeNode 45 = .ok (.iand, 1) := by decide +kernel
theorem d_MO_writeNode_46 : decode b_MO_writeNode 46 = .ok (.iconst 1, 1) := by decide +kernel
theorem d_MO_writeNode_47 : decode b_MO_writeNode 47 = .ok (.if_icmp .ne 17, 3) := by decide +kernel
theorem d_MO_writeNode_50 : decode b_MO_writeNode 50 = .ok (.aload_n 0, 1) := by decide +kernel
theorem d_MO_writeNode_51 : decode b_MO_writeNode 51 = .ok (.getfield 45, 3) := by decide +kernel
theorem d_MO_writeNode_54 : decode b_MO_writeNode 54 = .ok (.bipush 8, 2) := by decide +kernel
theorem d_MO_writeNode_56 : decode b_MO_writeNode 56 = .ok (.iload_n 1, 1) := by decide +kernel
theorem d_MO_writeNode_57 : decode b_MO_writeNode 57 = .ok (.imul, 1) := by decide +kernel
theorem d_MO_writeNode_58 : decode b_MO_writeNode 58 = .ok (.iload_n 2, 1) := by decide +kernel
theorem d_MO_writeNode_59 : decode b_MO_writeNode 59 = .ok (.iadd, 1) := by decide +kernel
theorem d_MO_writeNode_60 : decode b_MO_writeNode 60 = .ok (.iaload, 1) := by decide +kernel
theorem d_MO_writeNode_61 : decode b_MO_writeNode 61 = .ok (.goto 4, 3) := by decide +kernel
theorem d_MO_writeNode_64 : decode b_MO_writeNode 64 = .ok (.iconst 0, 1) := by decide +kernel
theorem d_MO_writeNode_65 : decode b_MO_writeNode 65 = .ok (.invokevirtual 150, 3) := by decide +kernel
theorem d_MO_writeNode_68 : decode b_MO_writeNode 68 = .ok (.iinc 2 1, 3) := by decide +kernel
theorem d_MO_writeNode_71 : decode b_MO_writeNode 71 = .ok (.goto (-48), 3) := by decide +kernel
theorem d_MO_writeNode_74 : decode b_MO_writeNode 74 = .ok (.aload_n 0, 1) := by decide +kernel
theorem d_MO_writeNode_75 : decode b_MO_writeNode 75 = .ok (.invokevirtual 181, 3) := by decide +kernel
theorem d_MO_writeNode_78 : decode b_MO_writeNode 78 = .ok (.ireturn, 1) := by decide +kernel
theorem d_MO_writeTop_0 : decode b_MO_writeTop 0 = .ok (.aload_n 0, 1) := by decide +kernel
theorem d_MO_writeTop_1 : decode b_MO_writeTop 1 = .ok (.iconst 3, 1) := by decide +kernel
theorem d_MO_writeTop_2 : decode b_MO_writeTop 2 = .ok (.aload_n 0, 1) := by decide +kernel
theorem d_MO_writeTop_3 : decode b_MO_writeTop 3 = .ok (.getfield 160, 3) := by decide +kernel
theorem d_MO_writeTop_6 : decode b_MO_writeTop 6 = .ok (.invokevirtual 178, 3) := by decide +kernel
theorem d_MO_writeTop_9 : decode b_MO_writeTop 9 = .ok (.iconst 0, 1) := by decide +kernel
theorem d_MO_writeTop_10 : decode b_MO_writeTop 10 = .ok (.istore_n 1, 1) := by decide +kernel
theorem d_MO_writeTop_11 : decode b_MO_writeTop 11 = .ok (.iload_n 1, 1) := by decide +kernel
theorem d_MO_writeTop_12 : decode b_MO_writeTop 12 = .ok (.bipush 8, 2) := by decide +kernel
theorem d_MO_writeTop_14 : decode b_MO_writeTop 14 = .ok (.if_icmp .ge 41, 3) := by decide +kernel
theorem d_MO_writeTop_17 : decode b_MO_writeTop 17 = .ok (.aload_n 0, 1) := by decide +kernel
theorem d_MO_writeTop_18 : decode b_MO_writeTop 18 = .ok (.bipush 8, 2) := by decide +kernel
theorem d_MO_writeTop_20 : decode b_MO_writeTop 20 = .ok (.iconst 4, 1) := by decide +kernel
theorem d_MO_writeTop_21 : decode b_MO_writeTop 21 = .ok (.iload_n 1, 1) := by decide +kernel
theorem d_MO_writeTop_22 : decode b_MO_writeTop 22 = .ok (.imul, 1) := by decide +kernel
theorem d_MO_writeTop_23 : decode b_MO_writeTop 23 = .ok (.iadd, 1) := by decide +kernel
theorem d_MO_writeTop_24 : decode b_MO_writeTop 24 = .ok (.aload_n 0, 1) := by decide +kernel
theorem d_MO_writeTop_25 : decode b_MO_writeTop 25 = .ok (.getfield 160, 3) := by decide +kernel
theorem d_MO_writeTop_28 : decode b_MO_writeTop 28 = .ok (.iload_n 1, 1) := by decide +kernel
theorem d_MO_writeTop_29 : decode b_MO_writeTop 29 = .ok (.ishr, 1) := by decide +kernel
theorem d_MO_writeTop_30 : decode b_MO_writeTop 30 = .ok (.iconst 1, 1) := by decide +kernel
theorem d_MO_writeTop_31 : decode b_MO_writeTop 31 = .ok (.iand, 1) := by decide +kernel
theorem d_MO_writeTop_32 : decode b_MO_writeTop 32 = .ok (.iconst 1, 1) := by decide +kernel
theorem d_MO_writeTop_33 : decode b_MO_writeTop 33 = .ok (.if_icmp .ne 12, 3) := by decide +kernel
theorem d_MO_writeTop_36 : decode b_MO_writeTop 36 = .ok (.aload_n 0, 1) := by decide +kernel
theorem d_MO_writeTop_37 : decode b_MO_writeTop 37 = .ok (.getfield 48, 3) := by decide +kernel
theorem d_MO_writeTop_40 : decode b_MO_writeTop 40 = .ok (.iload_n 1, 1) := by decide +kernel
theorem d_MO_writeTop_41 : decode b_MO_writeTop 41 = .ok (.iaload, 1) := by decide +kernel
theorem d_MO_writeTop_42 : decode b_MO_writeTop 42 = .ok (.goto 4, 3) := by decide +kernel
theorem d_MO_writeTop_45 : decode b_MO_writeTop 45 = .ok (.iconst 0, 1) := by decide +kernel
theorem d_MO_writeTop_46 : decode b_MO_writeTop 46 = .ok (.invokevirtual 150, 3) := by decide +kernel
theorem d_MO_writeTop_49 : decode b_MO_writeTop 49 = .ok (.iinc 1 1, 3) := by decide +kernel
theorem d_MO_writeTop_52 : decode b_MO_writeTop 52 = .ok (.goto (-41), 3) := by decide +kernel
theorem d_MO_writeTop_55 : decode b_MO_writeTop 55 = .ok (.aload_n 0, 1) := by decide +kernel
theorem d_MO_writeTop_56 : decode b_MO_writeTop 56 = .ok (.invokevirtual 181, 3) := by decide +kernel
theorem d_MO_writeTop_59 : decode b_MO_writeTop 59 = .ok (.ireturn, 1) := by decide +kernel
theorem d_MO_writeRoot_0 : decode b_MO_writeRoot 0 = .ok (.aload_n 0, 1) := by decide +kernel
theorem d_MO_writeRoot_1 : decode b_MO_writeRoot 1 = .ok (.getfield 154, 3) := by decide +kernel
theorem d_MO_writeRoot_4 : decode b_MO_writeRoot 4 = .ok (.iconst 1, 1) := by decide +kernel
theorem d_MO_writeRoot_5 : decode b_MO_writeRoot 5 = .ok (.isub, 1) := by decide +kernel
theorem d_MO_writeRoot_6 : decode b_MO_writeRoot 6 = .ok (.istore_n 2, 1) := by decide +kernel
theorem d_MO_writeRoot_7 : decode b_MO_writeRoot 7 = .ok (.aload_n 0, 1) := by decide +kernel
theorem d_MO_writeRoot_8 : decode b_MO_writeRoot 8 = .ok (.iconst 4, 1) := by decide +kernel
theorem d_MO_writeRoot_9 : decode b_MO_writeRoot 9 = .ok (.aload_n 0, 1) := by decide +kernel
theorem d_MO_writeRoot_10 : decode b_MO_writeRoot 10 = .ok (.getfield 160, 3) := by decide +kernel
theorem d_MO_writeRoot_13 : decode b_MO_writeRoot 13 = .ok (.ifCond .eq 7, 3) := by decide +kernel
theorem d_MO_writeRoot_16 : decode b_MO_writeRoot 16 = .ok (.iconst 1, 1) := by decide +kernel
theorem d_MO_writeRoot_17 : decode b_MO_writeRoot 17 = .ok (.goto 4, 3) := by decide +kernel
theorem d_MO_writeRoot_20 : decode b_MO_writeRoot 20 = .ok (.iconst 0, 1) := by decide +kernel
theorem d_MO_writeRoot_21 : decode b_MO_writeRoot 21 = .ok (.invokevirtual 178, 3) := by decide +kernel
theorem d_MO_writeRoot_24 : decode b_MO_writeRoot 24 = .ok (.aload_n 0, 1) := by decide +kernel
theorem d_MO_writeRoot_25 : decode b_MO_writeRoot 25 = .ok (.bipush 8, 2) := by decide +kernel
theorem d_MO_writeRoot_27 : decode b_MO_writeRoot 27 = .ok (.aload_n 0, 1) := by decide +kernel
theorem d_MO_writeRoot_28 : decode b_MO_writeRoot 28 = .ok (.getfield 160, 3) := by decide +kernel
theorem d_MO_writeRoot_31 : decode b_MO_writeRoot 31 = .ok (.ifCond .eq 7, 3) := by decide +kernel
theorem d_MO_writeRoot_34 : decode b_MO_writeRoot 34 = .ok (.iload_n 2, 1) := by decide +kernel
theorem d_MO_writeRoot_35 : decode b_MO_writeRoot 35 = .ok (.goto 4, 3) := by decide +kernel
theorem d_MO_writeRoot_38 : decode b_MO_writeRoot 38 = .ok (.iconst 0, 1) := by decide +kernel
theorem d_MO_writeRoot_39 : decode b_MO_writeRoot 39 = .ok (.invokevirtual 150, 3) := by decide +kernel
theorem d_MO_writeRoot_42 : decode b_MO_writeRoot 42 = .ok (.aload_n 0, 1) := by decide +kernel
theorem d_MO_writeRoot_43 : decode b_MO_writeRoot 43 = .ok (.bipush 12, 2) := by decide +kernel
theorem d_MO_writeRoot_45 : decode b_MO_writeRoot 45 = .ok (.aload_n 0, 1) := by decide +kernel
theorem d_MO_writeRoot_46 : decode b_MO_writeRoot 46 = .ok (.getfield 166, 3) := by decide +kernel
theorem d_MO_writeRoot_49 : decode b_MO_writeRoot 49 = .ok (.invokevirtual 150, 3) := by decide +kernel
theorem d_MO_writeRoot_52 : decode b_MO_writeRoot 52 = .ok (.aload_n 0, 1) := by decide +kernel
theorem d_MO_writeRoot_53 : decode b_MO_writeRoot 53 = .ok (.bipush 16, 2) := by decide +kernel
theorem d_MO_writeRoot_55 : decode b_MO_writeRoot 55 = .ok (.iload_n 1, 1) := by decide +kernel
theorem d_MO_writeRoot_56 : decode b_MO_writeRoot 56 = .ok (.invokevirtual 150, 3) := by decide +kernel
theorem d_MO_writeRoot_59 : decode b_MO_writeRoot 59 = .ok (.aload_n 0, 1) := by decide +kernel
theorem d_MO_writeRoot_60 : decode b_MO_writeRoot 60 = .ok (.invokevirtual 181, 3) := by decide +kernel
theorem d_MO_writeRoot_63 : decode b_MO_writeRoot 63 = .ok (.ireturn, 1) := by decide +kernel
theorem d_MO_writeAll_0 : decode b_MO_writeAll 0 = .ok (.aload_n 0, 1) := by decide +kernel
theorem d_MO_writeAll_1 : decode b_MO_writeAll 1 = .ok (.aload_n 0, 1) := by decide +kernel
theorem d_MO_writeAll_2 : decode b_MO_writeAll 2 = .ok (.getfield 67, 3) := by decide +kernel
theorem d_MO_writeAll_5 : decode b_MO_writeAll 5 = .ok (.putfield 154, 3) := by decide +kernel
theorem d_MO_writeAll_8 : decode b_MO_writeAll 8 = .ok (.iconst 1, 1) := by decide +kernel
theorem d_MO_writeAll_9 : decode b_MO_writeAll 9 = .ok (.istore_n 2, 1) := by decide +kernel
theorem d_MO_writeAll_10 : decode b_MO_writeAll 10 = .ok (.iconst 0, 1) := by decide +kernel
theorem d_MO_writeAll_11 : decode b_MO_writeAll 11 = .ok (.istore_n 3, 1) := by decide +kernel
theorem d_MO_writeAll_12 : decode b_MO_writeAll 12 = .ok (.iload_n 3, 1) := by decide +kernel
theorem d_MO_writeAll_13 : decode b_MO_writeAll 13 = .ok (.bipush 64, 2) := by decide +kernel
theorem d_MO_writeAll_15 : decode b_MO_writeAll 15 = .ok (.if_icmp .ge 45, 3) := by decide +kernel
theorem d_MO_writeAll_18 : decode b_MO_writeAll 18 = .ok (.iload_n 2, 1) := by decide +kernel
theorem d_MO_writeAll_19 : decode b_MO_writeAll 19 = .ok (.ifCond .eq 41, 3) := by decide +kernel
theorem d_MO_writeAll_22 : decode b_MO_writeAll 22 = .ok (.aload_n 0, 1) := by decide +kernel
theorem d_MO_writeAll_23 : decode b_MO_writeAll 23 = .ok (.getfield 33, 3) := by decide +kernel
theorem d_MO_writeAll_26 : decode b_MO_writeAll 26 = .ok (.iload_n 3, 1) := by decide +kernel
theorem d_MO_writeAll_27 : decode b_MO_writeAll 27 = .ok (.baload, 1) := by decide +kernel
theorem d_MO_writeAll_28 : decode b_MO_writeAll 28 = .ok (.ifCond .eq 20, 3) := by decide +kernel
theorem d_MO_writeAll_31 : decode b_MO_writeAll 31 = .ok (.aload_n 0, 1) := by decide +kernel
theorem d_MO_writeAll_32 : decode b_MO_writeAll 32 = .ok (.getfield 36, 3) := by decide +kernel
theorem d_MO_writeAll_35 : decode b_MO_writeAll 35 = .ok (.iload_n 3, 1) := by decide +kernel
theorem d_MO_writeAll_36 : decode b_MO_writeAll 36 = .ok (.iaload, 1) := by decide +kernel
theorem d_MO_writeAll_37 : decode b_MO_writeAll 37 = .ok (.ifCond .eq 11, 3) := by decide +kernel
theorem d_MO_writeAll_40 : decode b_MO_writeAll 40 = .ok (.aload_n 0, 1) := by decide +kernel
theorem d_MO_writeAll_41 : decode b_MO_writeAll 41 = .ok (.iload_n 3, 1) := by decide +kernel
theorem d_MO_writeAll_42 : decode b_MO_writeAll 42 = .ok (.invokevirtual 184, 3) := by decide +kernel
theorem d_MO_writeAll_45 : decode b_MO_writeAll 45 = .ok (.ifCond .eq 7, 3) := by decide +kernel
theorem d_MO_writeAll_48 : decode b_MO_writeAll 48 = .ok (.iconst 1, 1) := by decide +kernel
theorem d_MO_writeAll_49 : decode b_MO_writeAll 49 = .ok (.goto 4, 3) := by decide +kernel
theorem d_MO_writeAll_52 : decode b_MO_writeAll 52 = .ok (.iconst 0, 1) := by decide +kernel
theorem d_MO_writeAll_53 : decode b_MO_writeAll 53 = .ok (.istore_n 2, 1) := by decide +kernel
theorem d_MO_writeAll_54 : decode b_MO_writeAll 54 = .ok (.iinc 3 1, 3) := by decide +kernel
theorem d_MO_writeAll_57 : decode b_MO_writeAll 57 = .ok (.goto (-45), 3) := by decide +kernel
theorem d_MO_writeAll_60 : decode b_MO_writeAll 60 = .ok (.iconst 0, 1) := by decide +kernel
theorem d_MO_writeAll_61 : decode b_MO_writeAll 61 = .ok (.istore_n 3, 1) := by decide +kernel
theorem d_MO_writeAll_62 : decode b_MO_writeAll 62 = .ok (.iload_n 3, 1) := by decide +kernel
theorem d_MO_writeAll_63 : decode b_MO_writeAll 63 = .ok (.bipush 8, 2) := by decide +kernel
theorem d_MO_writeAll_65 : decode b_MO_writeAll 65 = .ok (.if_icmp .ge 44, 3) := by decide +kernel
theorem d_MO_writeAll_68 : decode b_MO_writeAll 68 = .ok (.iload_n 2, 1) := by decide +kernel
theorem d_MO_writeAll_69 : decode b_MO_writeAll 69 = .ok (.ifCond .eq 40, 3) := by decide +kernel
theorem d_MO_writeAll_72 : decode b_MO_writeAll 72 = .ok (.aload_n 0, 1) := by decide +kernel
theorem d_MO_writeAll_73 : decode b_MO_writeAll 73 = .ok (.iload_n 3, 1) := by decide +kernel
theorem d_MO_writeAll_74 : decode b_MO_writeAll 74 = .ok (.invokevirtual 172, 3) := by decide +kernel
theorem d_MO_writeAll_77 : decode b_MO_writeAll 77 = .ok (.ifCond .eq 20, 3) := by decide +kernel
theorem d_MO_writeAll_80 : decode b_MO_writeAll 80 = .ok (.aload_n 0, 1) := by decide +kernel
theorem d_MO_writeAll_81 : decode b_MO_writeAll 81 = .ok (.getfield 42, 3) := by decide +kernel
theorem d_MO_writeAll_84 : decode b_MO_writeAll 84 = .ok (.iload_n 3, 1) := by decide +kernel
theorem d_MO_writeAll_85 : decode b_MO_writeAll 85 = .ok (.iaload, 1) := by decide +kernel
theorem d_MO_writeAll_86 : decode b_MO_writeAll 86 = .ok (.ifCond .eq 11, 3) := by decide +kernel
theorem d_MO_writeAll_89 : decode b_MO_writeAll 89 = .ok (.aload_n 0, 1) := by decide +kernel
theorem d_MO_writeAll_90 : decode b_MO_writeAll 90 = .ok (.iload_n 3, 1) := by decide +kernel
theorem d_MO_writeAll_91 : decode b_MO_writeAll 91 = .ok (.invokevirtual 187, 3) := by decide +kernel
theorem d_MO_writeAll_94 : decode b_MO_writeAll 94 = .ok (.ifCond .eq 7, 3) := by decide +kernel
theorem d_MO_writeAll_97 : decode b_MO_writeAll 97 = .ok (.iconst 1, 1) := by decide +kernel
theorem d_MO_writeAll_98 : decode b_MO_writeAll 98 = .ok (.goto 4, 3) := by decide +kernel
theorem d_MO_writeAll_101 : decode b_MO_writeAll 101 = .ok (.iconst 0, 1) := by decide +kernel
theorem d_MO_writeAll_102 : decode b_MO_writeAll 102 = .ok (.istore_n 2, 1) := by decide +kernel
theorem d_MO_writeAll_103 : decode b_MO_writeAll 103 = .ok (.iinc 3 1, 3) := by decide +kernel
theorem d_MO_writeAll_106 : decode b_MO_writeAll 106 = .ok (.goto (-44), 3) := by decide +kernel
theorem d_MO_writeAll_109 : decode b_MO_writeAll 109 = .ok (.iload_n 2, 1) := by decide +kernel
theorem d_MO_writeAll_110 : decode b_MO_writeAll 110 = .ok (.ifCond .eq 29, 3) := by decide +kernel
theorem d_MO_writeAll_113 : decode b_MO_writeAll 113 = .ok (.aload_n 0, 1) := by decide +kernel
theorem d_MO_writeAll_114 : decode b_MO_writeAll 114 = .ok (.getfield 160, 3) := by decide +kernel
theorem d_MO_writeAll_117 : decode b_MO_writeAll 117 = .ok (.ifCond .eq 10, 3) := by decide +kernel
theorem d_MO_writeAll_120 : decode b_MO_writeAll 120 = .ok (.aload_n 0, 1) := by decide +kernel
theorem d_MO_writeAll_121 : decode b_MO_writeAll 121 = .ok (.invokevirtual 190, 3) := by decide +kernel
theorem d_MO_writeAll_124 : decode b_MO_writeAll 124 = .ok (.ifCond .eq 15, 3) := by decide +kernel
theorem d_MO_writeAll_127 : decode b_MO_writeAll 127 = .ok (.aload_n 0, 1) := by decide +kernel
theorem d_MO_writeAll_128 : decode b_MO_writeAll 128 = .ok (.iload_n 1, 1) := by decide +kernel
theorem d_MO_writeAll_129 : decode b_MO_writeAll 129 = .ok (.invokevirtual 193, 3) := by decide +kernel
theorem d_MO_writeAll_132 : decode b_MO_writeAll 132 = .ok (.ifCond .eq 7, 3) := by decide +kernel
theorem d_MO_writeAll_135 : decode b_MO_writeAll 135 = .ok (.iconst 1, 1) := by decide +kernel
theorem d_MO_writeAll_136 : decode b_MO_writeAll 136 = .ok (.goto 4, 3) := by decide +kernel
theorem d_MO_writeAll_139 : decode b_MO_writeAll 139 = .ok (.iconst 0, 1) := by decide +kernel
theorem d_MO_writeAll_140 : decode b_MO_writeAll 140 = .ok (.istore_n 2, 1) := by decide +kernel
theorem d_MO_writeAll_141 : decode b_MO_writeAll 141 = .ok (.iload_n 2, 1) := by decide +kernel
theorem d_MO_writeAll_142 : decode b_MO_writeAll 142 = .ok (.ifCond .ne 6, 3) := by decide +kernel
theorem d_MO_writeAll_145 : decode b_MO_writeAll 145 = .ok (.bipush (-4), 2) := by decide +kernel
theorem d_MO_writeAll_147 : decode b_MO_writeAll 147 = .ok (.ireturn, 1) := by decide +kernel
theorem d_MO_writeAll_148 : decode b_MO_writeAll 148 = .ok (.aload_n 0, 1) := by decide +kernel
theorem d_MO_writeAll_149 : decode b_MO_writeAll 149 = .ok (.aload_n 0, 1) := by decide +kernel
theorem d_MO_writeAll_150 : decode b_MO_writeAll 150 = .ok (.getfield 154, 3) := by decide +kernel
theorem d_MO_writeAll_153 : decode b_MO_writeAll 153 = .ok (.putfield 67, 3) := by decide +kernel
theorem d_MO_writeAll_156 : decode b_MO_writeAll 156 = .ok (.aload_n 0, 1) := by decide +kernel
theorem d_MO_writeAll_157 : decode b_MO_writeAll 157 = .ok (.iload_n 1, 1) := by decide +kernel
theorem d_MO_writeAll_158 : decode b_MO_writeAll 158 = .ok (.putfield 64, 3) := by decide +kernel
theorem d_MO_writeAll_161 : decode b_MO_writeAll 161 = .ok (.aload_n 0, 1) := by decide +kernel
theorem d_MO_writeAll_162 : decode b_MO_writeAll 162 = .ok (.dup, 1) := by decide +kernel
theorem d_MO_writeAll_163 : decode b_MO_writeAll 163 = .ok (.getfield 137, 3) := by decide +kernel
theorem d_MO_writeAll_166 : decode b_MO_writeAll 166 = .ok (.iconst 1, 1) := by decide +kernel
theorem d_MO_writeAll_167 : decode b_MO_writeAll 167 = .ok (.iadd, 1) := by decide +kernel
theorem d_MO_writeAll_168 : decode b_MO_writeAll 168 = .ok (.putfield 137, 3) := by decide +kernel
theorem d_MO_writeAll_171 : decode b_MO_writeAll 171 = .ok (.iconst 0, 1) := by decide +kernel
theorem d_MO_writeAll_172 : decode b_MO_writeAll 172 = .ok (.istore_n 3, 1) := by decide +kernel
theorem d_MO_writeAll_173 : decode b_MO_writeAll 173 = .ok (.iconst 0, 1) := by decide +kernel
theorem d_MO_writeAll_174 : decode b_MO_writeAll 174 = .ok (.istore 4, 2) := by decide +kernel
theorem d_MO_writeAll_176 : decode b_MO_writeAll 176 = .ok (.iload 4, 2) := by decide +kernel
theorem d_MO_writeAll_178 : decode b_MO_writeAll 178 = .ok (.aload_n 0, 1) := by decide +kernel
theorem d_MO_writeAll_179 : decode b_MO_writeAll 179 = .ok (.getfield 116, 3) := by decide +kernel
theorem d_MO_writeAll_182 : decode b_MO_writeAll 182 = .ok (.if_icmp .ge 52, 3) := by decide +kernel
theorem d_MO_writeAll_185 : decode b_MO_writeAll 185 = .ok (.aload_n 0, 1) := by decide +kernel
theorem d_MO_writeAll_186 : decode b_MO_writeAll 186 = .ok (.getfield 24, 3) := by decide +kernel
theorem d_MO_writeAll_189 : decode b_MO_writeAll 189 = .ok (.iload 4, 2) := by decide +kernel
theorem d_MO_writeAll_191 : decode b_MO_writeAll 191 = .ok (.iaload, 1) := by decide +kernel
theorem d_MO_writeAll_192 : decode b_MO_writeAll 192 = .ok (.aload_n 0, 1) := by decide +kernel
theorem d_MO_writeAll_193 : decode b_MO_writeAll 193 = .ok (.getfield 64, 3) := by decide +kernel
theorem d_MO_writeAll_196 : decode b_MO_writeAll 196 = .ok (.if_icmp .lt 32, 3) := by decide +kernel
theorem d_MO_writeAll_199 : decode b_MO_writeAll 199 = .ok (.aload_n 0, 1) := by decide +kernel
theorem d_MO_writeAll_200 : decode b_MO_writeAll 200 = .ok (.getfield 21, 3) := by decide +kernel
theorem d_MO_writeAll_203 : decode b_MO_writeAll 203 = .ok (.iload_n 3, 1) := by decide +kernel
theorem d_MO_writeAll_204 : decode b_MO_writeAll 204 = .ok (.aload_n 0, 1) := by decide +kernel
theorem d_MO_writeAll_205 : decode b_MO_writeAll 205 = .ok (.getfield 21, 3) := by decide +kernel
theorem d_MO_writeAll_208 : decode b_MO_writeAll 208 = .ok (.iload 4, 2) := by decide +kernel
theorem d_MO_writeAll_210 : decode b_MO_writeAll 210 = .ok (.iaload, 1) := by decide +kernel
theorem d_MO_writeAll_211 : decode b_MO_writeAll 211 = .ok (.iastore, 1) := by decide +kernel
theorem d_MO_writeAll_212 : decode b_MO_writeAll 212 = .ok (.aload_n 0, 1) := by decide +kernel
theorem d_MO_writeAll_213 : decode b_MO_writeAll 213 = .ok (.getfield 24, 3) := by decide +kernel
theorem d_MO_writeAll_216 : decode b_MO_writeAll 216 = .ok (.iload_n 3, 1) := by decide +kernel
theorem d_MO_writeAll_217 : decode b_MO_writeAll 217 = .ok (.aload_n 0, 1) := by decide +kernel
theorem d_MO_writeAll_218 : decode b_MO_writeAll 218 = .ok (.getfield 24, 3) := by decide +kernel
theorem d_MO_writeAll_221 : decode b_MO_writeAll 221 = .ok (.iload 4, 2) := by decide +kernel
theorem d_MO_writeAll_223 : decode b_MO_writeAll 223 = .ok (.iaload, 1) := by decide +kernel
theorem d_MO_writeAll_224 : decode b_MO_writeAll 224 = .ok (.iastore, 1) := by decide +kernel
theorem d_MO_writeAll_225 : decode b_MO_writeAll 225 = .ok (.iinc 3 1, 3) := by decide +kernel
theorem d_MO_writeAll_228 : decode b_MO_writeAll 228 = .ok (.iinc 4 1, 3) := by decide +kernel
theorem d_MO_writeAll_231 : decode b_MO_writeAll 231 = .ok (.goto (-55), 3) := by decide +kernel
theorem d_MO_writeAll_234 : decode b_MO_writeAll 234 = .ok (.aload_n 0, 1) := by decide +kernel
theorem d_MO_writeAll_235 : decode b_MO_writeAll 235 = .ok (.getfield 21, 3) := by decide +kernel
theorem d_MO_writeAll_238 : decode b_MO_writeAll 238 = .ok (.iload_n 3, 1) := by decide +kernel
theorem d_MO_writeAll_239 : decode b_MO_writeAll 239 = .ok (.aload_n 0, 1) := by decide +kernel
theorem d_MO_writeAll_240 : decode b_MO_writeAll 240 = .ok (.getfield 137, 3) := by decide +kernel
theorem d_MO_writeAll_243 : decode b_MO_writeAll 243 = .ok (.iastore, 1) := by decide +kernel
theorem d_MO_writeAll_244 : decode b_MO_writeAll 244 = .ok (.aload_n 0, 1) := by decide +kernel
theorem d_MO_writeAll_245 : decode b_MO_writeAll 245 = .ok (.getfield 24, 3) := by decide +kernel
theorem d_MO_writeAll_248 : decode b_MO_writeAll 248 = .ok (.iload_n 3, 1) := by decide +kernel
theorem d_MO_writeAll_249 : decode b_MO_writeAll 249 = .ok (.aload_n 0, 1) := by decide +kernel
theorem d_MO_writeAll_250 : decode b_MO_writeAll 250 = .ok (.getfield 67, 3) := by decide +kernel
theorem d_MO_writeAll_253 : decode b_MO_writeAll 253 = .ok (.iconst 1, 1) := by decide +kernel
theorem d_MO_writeAll_254 : decode b_MO_writeAll 254 = .ok (.isub, 1) := by decide +kernel
theorem d_MO_writeAll_255 : decode b_MO_writeAll 255 = .ok (.iastore, 1) := by decide +kernel
theorem d_MO_writeAll_256 : decode b_MO_writeAll 256 = .ok (.aload_n 0, 1) := by decide +kernel
theorem d_MO_writeAll_257 : decode b_MO_writeAll 257 = .ok (.iload_n 3, 1) := by decide +kernel
theorem d_MO_writeAll_258 : decode b_MO_writeAll 258 = .ok (.iconst 1, 1) := by decide +kernel
theorem d_MO_writeAll_259 : decode b_MO_writeAll 259 = .ok (.iadd, 1) := by decide +kernel
theorem d_MO_writeAll_260 : decode b_MO_writeAll 260 = .ok (.putfield 116, 3) := by decide +kernel
theorem d_MO_writeAll_263 : decode b_MO_writeAll 263 = .ok (.aload_n 0, 1) := by decide +kernel
theorem d_MO_writeAll_264 : decode b_MO_writeAll 264 = .ok (.getfield 137, 3) := by decide +kernel
theorem d_MO_writeAll_267 : decode b_MO_writeAll 267 = .ok (.ireturn, 1) := by decide +kernel
theorem d_MO_commit_0 : decode b_MO_commit 0 = .ok (.aload_n 0, 1) := by decide +kernel
theorem d_MO_commit_1 : decode b_MO_commit 1 = .ok (.invokevirtual 109, 3) := by decide +kernel
theorem d_MO_commit_4 : decode b_MO_commit 4 = .ok (.ifCond .ne 5, 3) := by decide +kernel
theorem d_MO_commit_7 : decode b_MO_commit 7 = .ok (.iconst 0, 1) := by decide +kernel
theorem d_MO_commit_8 : decode b_MO_commit 8 = .ok (.ireturn, 1) := by decide +kernel
theorem d_MO_commit_9 : decode b_MO_commit 9 = .ok (.aload_n 0, 1) := by decide +kernel
theorem d_MO_commit_10 : decode b_MO_commit 10 = .ok (.getfield 95, 3) := by decide +kernel
theorem d_MO_commit_13 : decode b_MO_commit 13 = .ok (.ifCond .ne 8, 3) := by decide +kernel
theorem d_MO_commit_16 : decode b_MO_commit 16 = .ok (.aload_n 0, 1) := by decide +kernel
theorem d_MO_commit_17 : decode b_MO_commit 17 = .ok (.getfield 137, 3) := by decide +kernel
theorem d_MO_commit_20 : decode b_MO_commit 20 = .ok (.ireturn, 1) := by decide +kernel
theorem d_MO_commit_21 : decode b_MO_commit 21 = .ok (.iconst 0, 1) := by decide +kernel
theorem d_MO_commit_22 : decode b_MO_commit 22 = .ok (.istore_n 1, 1) := by decide +kernel
theorem d_MO_commit_23 : decode b_MO_commit 23 = .ok (.iload_n 1, 1) := by decide +kernel
theorem d_MO_commit_24 : decode b_MO_commit 24 = .ok (.bipush 64, 2) := by decide +kernel
theorem d_MO_commit_26 : decode b_MO_commit 26 = .ok (.if_icmp .ge 16, 3) := by decide +kernel
theorem d_MO_commit_29 : decode b_MO_commit 29 = .ok (.aload_n 0, 1) := by decide +kernel
theorem d_MO_commit_30 : decode b_MO_commit 30 = .ok (.getfield 33, 3) := by decide +kernel
theorem d_MO_commit_33 : decode b_MO_commit 33 = .ok (.iload_n 1, 1) := by decide +kernel
theorem d_MO_commit_34 : decode b_MO_commit 34 = .ok (.iconst 0, 1) := by decide +kernel
theorem d_MO_commit_35 : decode b_MO_commit 35 = .ok (.bastore, 1) := by decide +kernel
theorem d_MO_commit_36 : decode b_MO_commit 36 = .ok (.iinc 1 1, 3) := by decide +kernel
theorem d_MO_commit_39 : decode b_MO_commit 39 = .ok (.goto (-16), 3) := by decide +kernel
theorem d_MO_commit_42 : decode b_MO_commit 42 = .ok (.iconst 0, 1) := by decide +kernel
theorem d_MO_commit_43 : decode b_MO_commit 43 = .ok (.istore_n 1, 1) := by decide +kernel
theorem d_MO_commit_44 : decode b_MO_commit 44 = .ok (.iload_n 1, 1) := by decide +kernel
theorem d_MO_commit_45 : decode b_MO_commit 45 = .ok (.sipush 512, 3) := by decide +kernel
theorem d_MO_commit_48 : decode b_MO_commit 48 = .ok (.if_icmp .ge 44, 3) := by decide +kernel
theorem d_MO_commit_51 : decode b_MO_commit 51 = .ok (.aload_n 0, 1) := by decide +kernel
theorem d_MO_commit_52 : decode b_MO_commit 52 = .ok (.getfield 33, 3) := by decide +kernel
theorem d_MO_commit_55 : decode b_MO_commit 55 = .ok (.iload_n 1, 1) := by decide +kernel
theorem d_MO_commit_56 : decode b_MO_commit 56 = .ok (.bipush 8, 2) := by decide +kernel
theorem d_MO_commit_58 : decode b_MO_commit 58 = .ok (.idiv, 1) := by decide +kernel
theorem d_MO_commit_59 : decode b_MO_commit 59 = .ok (.aload_n 0, 1) := by decide +kernel
theorem d_MO_commit_60 : decode b_MO_commit 60 = .ok (.getfield 33, 3) := by decide +kernel
theorem d_MO_commit_63 : decode b_MO_commit 63 = .ok (.iload_n 1, 1) := by decide +kernel
theorem d_MO_commit_64 : decode b_MO_commit 64 = .ok (.bipush 8, 2) := by decide +kernel
theorem d_MO_commit_66 : decode b_MO_commit 66 = .ok (.idiv, 1) := by decide +kernel
theorem d_MO_commit_67 : decode b_MO_commit 67 = .ok (.baload, 1) := by decide +kernel
theorem d_MO_commit_68 : decode b_MO_commit 68 = .ok (.ifCond .ne 12, 3) := by decide +kernel
theorem d_MO_commit_71 : decode b_MO_commit 71 = .ok (.aload_n 0, 1) := by decide +kernel
theorem d_MO_commit_72 : decode b_MO_commit 72 = .ok (.getfield 27, 3) := by decide +kernel
theorem d_MO_commit_75 : decode b_MO_commit 75 = .ok (.iload_n 1, 1) := by decide +kernel
theorem d_MO_commit_76 : decode b_MO_commit 76 = .ok (.iaload, 1) := by decide +kernel
theorem d_MO_commit_77 : decode b_MO_commit 77 = .ok (.ifCond .eq 7, 3) := by decide +kernel
theorem d_MO_commit_80 : decode b_MO_commit 80 = .ok (.iconst 1, 1) := by decide +kernel
theorem d_MO_commit_81 : decode b_MO_commit 81 = .ok (.goto 4, 3) := by decide +kernel
theorem d_MO_commit_84 : decode b_MO_commit 84 = .ok (.iconst 0, 1) := by decide +kernel
theorem d_MO_commit_85 : decode b_MO_commit 85 = .ok (.bastore, 1) := by decide +kernel
theorem d_MO_commit_86 : decode b_MO_commit 86 = .ok (.iinc 1 1, 3) := by decide +kernel
theorem d_MO_commit_89 : decode b_MO_commit 89 = .ok (.goto (-45), 3) := by decide +kernel
theorem d_MO_commit_92 : decode b_MO_commit 92 = .ok (.aload_n 0, 1) := by decide +kernel
theorem d_MO_commit_93 : decode b_MO_commit 93 = .ok (.invokevirtual 196, 3) := by decide +kernel
theorem d_MO_commit_96 : decode b_MO_commit 96 = .ok (.ifCond .ne 6, 3) := by decide +kernel
theorem d_MO_commit_99 : decode b_MO_commit 99 = .ok (.bipush (-2), 2) := by decide +kernel
theorem d_MO_commit_101 : decode b_MO_commit 101 = .ok (.ireturn, 1) := by decide +kernel
theorem d_MO_commit_102 : decode b_MO_commit 102 = .ok (.aload_n 0, 1) := by decide +kernel
theorem d_MO_commit_103 : decode b_MO_commit 103 = .ok (.invokevirtual 199, 3) := by decide +kernel
theorem d_MO_commit_106 : decode b_MO_commit 106 = .ok (.aload_n 0, 1) := by decide +kernel
theorem d_MO_commit_107 : decode b_MO_commit 107 = .ok (.invokevirtual 202, 3) := by decide +kernel
theorem d_MO_commit_110 : decode b_MO_commit 110 = .ok (.aload_n 0, 1) := by decide +kernel
theorem d_MO_commit_111 : decode b_MO_commit 111 = .ok (.getfield 54, 3) := by decide +kernel
theorem d_MO_commit_114 : decode b_MO_commit 114 = .ok (.aload_n 0, 1) := by decide +kernel
theorem d_MO_commit_115 : decode b_MO_commit 115 = .ok (.getfield 67, 3) := by decide +kernel
theorem d_MO_commit_118 : decode b_MO_commit 118 = .ok (.isub, 1) := by decide +kernel
theorem d_MO_commit_119 : decode b_MO_commit 119 = .ok (.aload_n 0, 1) := by decide +kernel
theorem d_MO_commit_120 : decode b_MO_commit 120 = .ok (.getfield 64, 3) := by decide +kernel
theorem d_MO_commit_123 : decode b_MO_commit 123 = .ok (.iadd, 1) := by decide +kernel
theorem d_MO_commit_124 : decode b_MO_commit 124 = .ok (.if_icmp .le 6, 3) := by decide +kernel
theorem d_MO_commit_127 : decode b_MO_commit 127 = .ok (.bipush (-3), 2) := by decide +kernel
theorem d_MO_commit_129 : decode b_MO_commit 129 = .ok (.ireturn, 1) := by decide +kernel
theorem d_MO_commit_130 : decode b_MO_commit 130 = .ok (.aload_n 0, 1) := by decide +kernel
theorem d_MO_commit_131 : decode b_MO_commit 131 = .ok (.aload_n 0, 1) := by decide +kernel
theorem d_MO_commit_132 : decode b_MO_commit 132 = .ok (.getfield 64, 3) := by decide +kernel
theorem d_MO_commit_135 : decode b_MO_commit 135 = .ok (.invokevirtual 206, 3) := by decide +kernel
theorem d_MO_commit_138 : decode b_MO_commit 138 = .ok (.istore_n 1, 1) := by decide +kernel
theorem d_MO_commit_139 : decode b_MO_commit 139 = .ok (.iload_n 1, 1) := by decide +kernel
theorem d_MO_commit_140 : decode b_MO_commit 140 = .ok (.bipush (-4), 2) := by decide +kernel
theorem d_MO_commit_142 : decode b_MO_commit 142 = .ok (.if_icmp .eq 7, 3) := by decide +kernel
theorem d_MO_commit_145 : decode b_MO_commit 145 = .ok (.aload_n 0, 1) := by decide +kernel
theorem d_MO_commit_146 : decode b_MO_commit 146 = .ok (.invokevirtual 113, 3) := by decide +kernel
theorem d_MO_commit_149 : decode b_MO_commit 149 = .ok (.iload_n 1, 1) := by decide +kernel
theorem d_MO_commit_150 : decode b_MO_commit 150 = .ok (.ireturn, 1) := by decide +kernel
theorem d_MO_copy_0 : decode b_MO_copy 0 = .ok (.aload_n 0, 1) := by decide +kernel
theorem d_MO_copy_1 : decode b_MO_copy 1 = .ok (.invokevirtual 109, 3) := by decide +kernel
theorem d_MO_copy_4 : decode b_MO_copy 4 = .ok (.ifCond .ne 5, 3) := by decide +kernel
theorem d_MO_copy_7 : decode b_MO_copy 7 = .ok (.iconst 0, 1) := by decide +kernel
theorem d_MO_copy_8 : decode b_MO_copy 8 = .ok (.ireturn, 1) := by decide +kernel
theorem d_MO_copy_9 : decode b_MO_copy 9 = .ok (.iconst 0, 1) := by decide +kernel
theorem d_MO_copy_10 : decode b_MO_copy 10 = .ok (.istore_n 1, 1) := by decide +kernel
theorem d_MO_copy_11 : decode b_MO_copy 11 = .ok (.iload_n 1, 1) := by decide +kernel
theorem d_MO_copy_12 : decode b_MO_copy 12 = .ok (.bipush 64, 2) := by decide +kernel
theorem d_MO_copy_14 : decode b_MO_copy 14 = .ok (.if_icmp .ge 16, 3) := by decide +kernel
theorem d_MO_copy_17 : decode b_MO_copy 17 = .ok (.aload_n 0, 1) := by decide +kernel
theorem d_MO_copy_18 : decode b_MO_copy 18 = .ok (.getfield 33, 3) := by decide +kernel
theorem d_MO_copy_21 : decode b_MO_copy 21 = .ok (.iload_n 1, 1) := by decide +kernel
theorem d_MO_copy_22 : decode b_MO_copy 22 = .ok (.iconst 1, 1) := by decide +kernel
theorem d_MO_copy_23 : decode b_MO_copy 23 = .ok (.bastore, 1) := by decide +kernel
theorem d_MO_copy_24 : decode b_MO_copy 24 = .ok (.iinc 1 1, 3) := by decide +kernel
theorem d_MO_copy_27 : decode b_MO_copy 27 = .ok (.goto (-16), 3) := by decide +kernel
theorem d_MO_copy_30 : decode b_MO_copy 30 = .ok (.aload_n 0, 1) := by decide +kernel
theorem d_MO_copy_31 : decode b_MO_copy 31 = .ok (.invokevirtual 196, 3) := by decide +kernel
theorem d_MO_copy_34 : decode b_MO_copy 34 = .ok (.ifCond .ne 6, 3) := by decide +kernel
theorem d_MO_copy_37 : decode b_MO_copy 37 = .ok (.bipush (-2), 2) := by decide +kernel
theorem d_MO_copy_39 : decode b_MO_copy 39 = .ok (.ireturn, 1) := by decide +kernel
theorem d_MO_copy_40 : decode b_MO_copy 40 = .ok (.aload_n 0, 1) := by decide +kernel
theorem d_MO_copy_41 : decode b_MO_copy 41 = .ok (.invokevirtual 202, 3) := by decide +kernel
theorem d_MO_copy_44 : decode b_MO_copy 44 = .ok (.aload_n 0, 1) := by decide +kernel
theorem d_MO_copy_45 : decode b_MO_copy 45 = .ok (.getfield 54, 3) := by decide +kernel
theorem d_MO_copy_48 : decode b_MO_copy 48 = .ok (.aload_n 0, 1) := by decide +kernel
theorem d_MO_copy_49 : decode b_MO_copy 49 = .ok (.getfield 67, 3) := by decide +kernel
theorem d_MO_copy_52 : decode b_MO_copy 52 = .ok (.isub, 1) := by decide +kernel
theorem d_MO_copy_53 : decode b_MO_copy 53 = .ok (.aload_n 0, 1) := by decide +kernel
theorem d_MO_copy_54 : decode b_MO_copy 54 = .ok (.getfield 64, 3) := by decide +kernel
theorem d_MO_copy_57 : decode b_MO_copy 57 = .ok (.iadd, 1) := by decide +kernel
theorem d_MO_copy_58 : decode b_MO_copy 58 = .ok (.if_icmp .le 8, 3) := by decide +kernel
theorem d_MO_copy_61 : decode b_MO_copy 61 = .ok (.bipush (-3), 2) := by decide +kernel
theorem d_MO_copy_63 : decode b_MO_copy 63 = .ok (.goto 11, 3) := by decide +kernel
theorem d_MO_copy_66 : decode b_MO_copy 66 = .ok (.aload_n 0, 1) := by decide +kernel
theorem d_MO_copy_67 : decode b_MO_copy 67 = .ok (.aload_n 0, 1) := by decide +kernel
theorem d_MO_copy_68 : decode b_MO_copy 68 = .ok (.getfield 67, 3) := by decide +kernel
theorem d_MO_copy_71 : decode b_MO_copy 71 = .ok (.invokevirtual 206, 3) := by decide +kernel
theorem d_MO_copy_74 : decode b_MO_copy 74 = .ok (.ireturn, 1) := by decide +kernel
theorem d_MO_crash_0 : decode b_MO_crash 0 = .ok (.aload_n 0, 1) := by decide +kernel
theorem d_MO_crash_1 : decode b_MO_crash 1 = .ok (.iload_n 1, 1) := by decide +kernel
theorem d_MO_crash_2 : decode b_MO_crash 2 = .ok (.iconst (-1), 1) := by decide +kernel
theorem d_MO_crash_3 : decode b_MO_crash 3 = .ok (.if_icmp .lt 13, 3) := by decide +kernel
theorem d_MO_crash_6 : decode b_MO_crash 6 = .ok (.iload_n 1, 1) := by decide +kernel
theorem d_MO_crash_7 : decode b_MO_crash 7 = .ok (.ldc 209, 2) := by decide +kernel
theorem d_MO_crash_9 : decode b_MO_crash 9 = .ok (.if_icmp .gt 7, 3) := by decide +kernel
theorem d_MO_crash_12 : decode b_MO_crash 12 = .ok (.iconst 1, 1) := by decide +kernel
theorem d_MO_crash_13 : decode b_MO_crash 13 = .ok (.goto 4, 3) := by decide +kernel
theorem d_MO_crash_16 : decode b_MO_crash 16 = .ok (.iconst 0, 1) := by decide +kernel
theorem d_MO_crash_17 : decode b_MO_crash 17 = .ok (.invokevirtual 101, 3) := by decide +kernel
theorem d_MO_crash_20 : decode b_MO_crash 20 = .ok (.ifCond .eq 21, 3) := by decide +kernel
theorem d_MO_crash_23 : decode b_MO_crash 23 = .ok (.aload_n 0, 1) := by decide +kernel
theorem d_MO_crash_24 : decode b_MO_crash 24 = .ok (.iload_n 1, 1) := by decide +kernel
theorem d_MO_crash_25 : decode b_MO_crash 25 = .ok (.putfield 17, 3) := by decide +kernel
theorem d_MO_crash_28 : decode b_MO_crash 28 = .ok (.aload_n 0, 1) := by decide +kernel
theorem d_MO_crash_29 : decode b_MO_crash 29 = .ok (.iload_n 1, 1) := by decide +kernel
theorem d_MO_crash_30 : decode b_MO_crash 30 = .ok (.ifCond .ne 7, 3) := by decide +kernel
theorem d_MO_crash_33 : decode b_MO_crash 33 = .ok (.iconst 1, 1) := by decide +kernel
theorem d_MO_crash_34 : decode b_MO_crash 34 = .ok (.goto 4, 3) := by decide +kernel
theorem d_MO_crash_37 : decode b_MO_crash 37 = .ok (.iconst 0, 1) := by decide +kernel
theorem d_MO_crash_38 : decode b_MO_crash 38 = .ok (.putfield 60, 3) := by decide +kernel
theorem d_MO_crash_41 : decode b_MO_crash 41 = .ok (.return_, 1) := by decide +kernel
theorem d_MO_isWhole_0 : decode b_MO_isWhole 0 = .ok (.bipush 64, 2) := by decide +kernel
theorem d_MO_isWhole_2 : decode b_MO_isWhole 2 = .ok (.iload_n 1, 1) := by decide +kernel
theorem d_MO_isWhole_3 : decode b_MO_isWhole 3 = .ok (.imul, 1) := by decide +kernel
theorem d_MO_isWhole_4 : decode b_MO_isWhole 4 = .ok (.istore_n 2, 1) := by decide +kernel
theorem d_MO_isWhole_5 : decode b_MO_isWhole 5 = .ok (.aload_n 0, 1) := by decide +kernel
theorem d_MO_isWhole_6 : decode b_MO_isWhole 6 = .ok (.iload_n 2, 1) := by decide +kernel
theorem d_MO_isWhole_7 : decode b_MO_isWhole 7 = .ok (.bipush 40, 2) := by decide +kernel
theorem d_MO_isWhole_9 : decode b_MO_isWhole 9 = .ok (.iadd, 1) := by decide +kernel
theorem d_MO_isWhole_10 : decode b_MO_isWhole 10 = .ok (.invokevirtual 89, 3) := by decide +kernel
theorem d_MO_isWhole_13 : decode b_MO_isWhole 13 = .ok (.istore_n 3, 1) := by decide +kernel
theorem d_MO_isWhole_14 : decode b_MO_isWhole 14 = .ok (.aload_n 0, 1) := by decide +kernel
theorem d_MO_isWhole_15 : decode b_MO_isWhole 15 = .ok (.iload_n 2, 1) := by decide +kernel
theorem d_MO_isWhole_16 : decode b_MO_isWhole 16 = .ok (.iconst 4, 1) := by decide +kernel
theorem d_MO_isWhole_17 : decode b_MO_isWhole 17 = .ok (.iadd, 1) := by decide +kernel
theorem d_MO_isWhole_18 : decode b_MO_isWhole 18 = .ok (.invokevirtual 89, 3) := by decide +kernel
theorem d_MO_isWhole_21 : decode b_MO_isWhole 21 = .ok (.istore 4, 2) := by decide +kernel
theorem d_MO_isWhole_23 : decode b_MO_isWhole 23 = .ok (.aload_n 0, 1) := by decide +kernel
theorem d_MO_isWhole_24 : decode b_MO_isWhole 24 = .ok (.iload_n 2, 1) := by decide +kernel
theorem d_MO_isWhole_25 : decode b_MO_isWhole 25 = .ok (.bipush 16, 2) := by decide +kernel
theorem d_MO_isWhole_27 : decode b_MO_isWhole 27 = .ok (.iadd, 1) := by decide +kernel
theorem d_MO_isWhole_28 : decode b_MO_isWhole 28 = .ok (.invokevirtual 89, 3) := by decide +kernel
theorem d_MO_isWhole_31 : decode b_MO_isWhole 31 = .ok (.istore 5, 2) := by decide +kernel
theorem d_MO_isWhole_33 : decode b_MO_isWhole 33 = .ok (.aload_n 0, 1) := by decide +kernel
theorem d_MO_isWhole_34 : decode b_MO_isWhole 34 = .ok (.iload_n 2, 1) := by decide +kernel
theorem d_MO_isWhole_35 : decode b_MO_isWhole 35 = .ok (.invokevirtual 86, 3) := by decide +kernel
theorem d_MO_isWhole_38 : decode b_MO_isWhole 38 = .ok (.ifCond .eq 72, 3) := by decide +kernel
theorem d_MO_isWhole_41 : decode b_MO_isWhole 41 = .ok (.aload_n 0, 1) := by decide +kernel
theorem d_MO_isWhole_42 : decode b_MO_isWhole 42 = .ok (.getfield 7, 3) := by decide +kernel
theorem d_MO_isWhole_45 : decode b_MO_isWhole 45 = .ok (.iload_n 2, 1) := by decide +kernel
theorem d_MO_isWhole_46 : decode b_MO_isWhole 46 = .ok (.iaload, 1) := by decide +kernel
theorem d_MO_isWhole_47 : decode b_MO_isWhole 47 = .ok (.iconst 4, 1) := by decide +kernel
theorem d_MO_isWhole_48 : decode b_MO_isWhole 48 = .ok (.if_icmp .ne 62, 3) := by decide +kernel
theorem d_MO_isWhole_51 : decode b_MO_isWhole 51 = .ok (.iload_n 3, 1) := by decide +kernel
theorem d_MO_isWhole_52 : decode b_MO_isWhole 52 = .ok (.ifCond .lt 58, 3) := by decide +kernel
theorem d_MO_isWhole_55 : decode b_MO_isWhole 55 = .ok (.iload_n 3, 1) := by decide +kernel
theorem d_MO_isWhole_56 : decode b_MO_isWhole 56 = .ok (.ldc 210, 2) := by decide +kernel
theorem d_MO_isWhole_58 : decode b_MO_isWhole 58 = .ok (.if_icmp .gt 52, 3) := by decide +kernel
theorem d_MO_isWhole_61 : decode b_MO_isWhole 61 = .ok (.iload_n 3, 1) := by decide +kernel
theorem d_MO_isWhole_62 : decode b_MO_isWhole 62 = .ok (.aload_n 0, 1) := by decide +kernel
theorem d_MO_isWhole_63 : decode b_MO_isWhole 63 = .ok (.getfield 54, 3) := by decide +kernel
theorem d_MO_isWhole_66 : decode b_MO_isWhole 66 = .ok (.irem, 1) := by decide +kernel
theorem d_MO_isWhole_67 : decode b_MO_isWhole 67 = .ok (.iload_n 1, 1) := by decide +kernel
theorem d_MO_isWhole_68 : decode b_MO_isWhole 68 = .ok (.if_icmp .ne 42, 3) := by decide +kernel
theorem d_MO_isWhole_71 : decode b_MO_isWhole 71 = .ok (.iload 4, 2) := by decide +kernel
theorem d_MO_isWhole_73 : decode b_MO_isWhole 73 = .ok (.iconst 1, 1) := by decide +kernel
theorem d_MO_isWhole_74 : decode b_MO_isWhole 74 = .ok (.if_icmp .lt 36, 3) := by decide +kernel
theorem d_MO_isWhole_77 : decode b_MO_isWhole 77 = .ok (.iload 4, 2) := by decide +kernel
theorem d_MO_isWhole_79 : decode b_MO_isWhole 79 = .ok (.ldc 210, 2) := by decide +kernel
theorem d_MO_isWhole_81 : decode b_MO_isWhole 81 = .ok (.if_icmp .gt 29, 3) := by decide +kernel
theorem d_MO_isWhole_84 : decode b_MO_isWhole 84 = .ok (.iload 5, 2) := by decide +kernel
theorem d_MO_isWhole_86 : decode b_MO_isWhole 86 = .ok (.ifCond .lt 24, 3) := by decide +kernel
theorem d_MO_isWhole_89 : decode b_MO_isWhole 89 = .ok (.iload 5, 2) := by decide +kernel
theorem d_MO_isWhole_91 : decode b_MO_isWhole 91 = .ok (.iload_n 3, 1) := by decide +kernel
theorem d_MO_isWhole_92 : decode b_MO_isWhole 92 = .ok (.if_icmp .gt 18, 3) := by decide +kernel
theorem d_MO_isWhole_95 : decode b_MO_isWhole 95 = .ok (.iload_n 3, 1) := by decide +kernel
theorem d_MO_isWhole_96 : decode b_MO_isWhole 96 = .ok (.iload 5, 2) := by decide +kernel
theorem d_MO_isWhole_98 : decode b_MO_isWhole 98 = .ok (.isub, 1) := by decide +kernel
theorem d_MO_isWhole_99 : decode b_MO_isWhole 99 = .ok (.aload_n 0, 1) := by decide +kernel
theorem d_MO_isWhole_100 : decode b_MO_isWhole 100 = .ok (.getfield 54, 3) := by decide +kernel
theorem d_MO_isWhole_103 : decode b_MO_isWhole 103 = .ok (.if_icmp .ge 7, 3) := by decide +kernel
theorem d_MO_isWhole_106 : decode b_MO_isWhole 106 = .ok (.iconst 1, 1) := by decide +kernel
theorem d_MO_isWhole_107 : decode b_MO_isWhole 107 = .ok (.goto 4, 3) := by decide +kernel
theorem d_MO_isWhole_110 : decode b_MO_isWhole 110 = .ok (.iconst 0, 1) := by decide +kernel
theorem d_MO_isWhole_111 : decode b_MO_isWhole 111 = .ok (.ireturn, 1) := by decide +kernel
theorem d_MO_keep_0 : decode b_MO_keep 0 = .ok (.iconst 0, 1) := by decide +kernel
theorem d_MO_keep_1 : decode b_MO_keep 1 = .ok (.istore_n 3, 1) := by decide +kernel
theorem d_MO_keep_2 : decode b_MO_keep 2 = .ok (.iload_n 3, 1) := by decide +kernel
theorem d_MO_keep_3 : decode b_MO_keep 3 = .ok (.aload_n 0, 1) := by decide +kernel
theorem d_MO_keep_4 : decode b_MO_keep 4 = .ok (.getfield 116, 3) := by decide +kernel
theorem d_MO_keep_7 : decode b_MO_keep 7 = .ok (.if_icmp .ge 19, 3) := by decide +kernel
theorem d_MO_keep_10 : decode b_MO_keep 10 = .ok (.aload_n 0, 1) := by decide +kernel
theorem d_MO_keep_11 : decode b_MO_keep 11 = .ok (.getfield 21, 3) := by decide +kernel
theorem d_MO_keep_14 : decode b_MO_keep 14 = .ok (.iload_n 3, 1) := by decide +kernel
theorem d_MO_keep_15 : decode b_MO_keep 15 = .ok (.iaload, 1) := by decide +kernel
theorem d_MO_keep_16 : decode b_MO_keep 16 = .ok (.iload_n 1, 1) := by decide +kernel
theorem d_MO_keep_17 : decode b_MO_keep 17 = .ok (.if_icmp .ge 9, 3) := by decide +kernel
theorem d_MO_keep_20 : decode b_MO_keep 20 = .ok (.iinc 3 1, 3) := by decide +kernel
theorem d_MO_keep_23 : decode b_MO_keep 23 = .ok (.goto (-21), 3) := by decide +kernel
theorem d_MO_keep_26 : decode b_MO_keep 26 = .ok (.iload_n 3, 1) := by decide +kernel
theorem d_MO_keep_27 : decode b_MO_keep 27 = .ok (.aload_n 0, 1) := by decide +kernel
theorem d_MO_keep_28 : decode b_MO_keep 28 = .ok (.getfield 116, 3) := by decide +kernel
theorem d_MO_keep_31 : decode b_MO_keep 31 = .ok (.if_icmp .ge 40, 3) := by decide +kernel
theorem d_MO_keep_34 : decode b_MO_keep 34 = .ok (.aload_n 0, 1) := by decide +kernel
theorem d_MO_keep_35 : decode b_MO_keep 35 = .ok (.getfield 21, 3) := by decide +kernel
theorem d_MO_keep_38 : decode b_MO_keep 38 = .ok (.iload_n 3, 1) := by decide +kernel
theorem d_MO_keep_39 : decode b_MO_keep 39 = .ok (.iaload, 1) := by decide +kernel
theorem d_MO_keep_40 : decode b_MO_keep 40 = .ok (.iload_n 1, 1) := by decide +kernel
theorem d_MO_keep_41 : decode b_MO_keep 41 = .ok (.if_icmp .ne 30, 3) := by decide +kernel
theorem d_MO_keep_44 : decode b_MO_keep 44 = .ok (.aload_n 0, 1) := by decide +kernel
theorem d_MO_keep_45 : decode b_MO_keep 45 = .ok (.getfield 24, 3) := by decide +kernel
theorem d_MO_keep_48 : decode b_MO_keep 48 = .ok (.iload_n 3, 1) := by decide +kernel
theorem d_MO_keep_49 : decode b_MO_keep 49 = .ok (.aload_n 0, 1) := by decide +kernel
theorem d_MO_keep_50 : decode b_MO_keep 50 = .ok (.getfield 24, 3) := by decide +kernel
theorem d_MO_keep_53 : decode b_MO_keep 53 = .ok (.iload_n 3, 1) := by decide +kernel
theorem d_MO_keep_54 : decode b_MO_keep 54 = .ok (.iaload, 1) := by decide +kernel
theorem d_MO_keep_55 : decode b_MO_keep 55 = .ok (.iload_n 2, 1) := by decide +kernel
theorem d_MO_keep_56 : decode b_MO_keep 56 = .ok (.if_icmp .le 12, 3) := by decide +kernel
theorem d_MO_keep_59 : decode b_MO_keep 59 = .ok (.aload_n 0, 1) := by decide +kernel
theorem d_MO_keep_60 : decode b_MO_keep 60 = .ok (.getfield 24, 3) := by decide +kernel
theorem d_MO_keep_63 : decode b_MO_keep 63 = .ok (.iload_n 3, 1) := by decide +kernel
theorem d_MO_keep_64 : decode b_MO_keep 64 = .ok (.iaload, 1) := by decide +kernel
theorem d_MO_keep_65 : decode b_MO_keep 65 = .ok (.goto 4, 3) := by decide +kernel
theorem d_MO_keep_68 : decode b_MO_keep 68 = .ok (.iload_n 2, 1) := by decide +kernel
theorem d_MO_keep_69 : decode b_MO_keep 69 = .ok (.iastore, 1) := by decide +kernel
theorem d_MO_keep_70 : decode b_MO_keep 70 = .ok (.return_, 1) := by decide +kernel
theorem d_MO_keep_71 : decode b_MO_keep 71 = .ok (.aload_n 0, 1) := by decide +kernel
theorem d_MO_keep_72 : decode b_MO_keep 72 = .ok (.getfield 116, 3) := by decide +kernel
theorem d_MO_keep_75 : decode b_MO_keep 75 = .ok (.istore 4, 2) := by decide +kernel
theorem d_MO_keep_77 : decode b_MO_keep 77 = .ok (.iload 4, 2) := by decide +kernel
theorem d_MO_keep_79 : decode b_MO_keep 79 = .ok (.iload_n 3, 1) := by decide +kernel
theorem d_MO_keep_80 : decode b_MO_keep 80 = .ok (.if_icmp .le 41, 3) := by decide +kernel
theorem d_MO_keep_83 : decode b_MO_keep 83 = .ok (.aload_n 0, 1) := by decide +kernel
theorem d_MO_keep_84 : decode b_MO_keep 84 = .ok (.getfield 21, 3) := by decide +kernel
theorem d_MO_keep_87 : decode b_MO_keep 87 = .ok (.iload 4, 2) := by decide +kernel
theorem d_MO_keep_89 : decode b_MO_keep 89 = .ok (.aload_n 0, 1) := by decide +kernel
theorem d_MO_keep_90 : decode b_MO_keep 90 = .ok (.getfield 21, 3) := by decide +kernel
theorem d_MO_keep_93 : decode b_MO_keep 93 = .ok (.iload 4, 2) := by decide +kernel
theorem d_MO_keep_95 : decode b_MO_keep 95 = .ok (.iconst 1, 1) := by decide +kernel
theorem d_MO_keep_96 : decode b_MO_keep 96 = .ok (.isub, 1) := by decide +kernel
theorem d_MO_keep_97 : decode b_MO_keep 97 = .ok (.iaload, 1) := by decide +kernel
theorem d_MO_keep_98 : decode b_MO_keep 98 = .ok (.iastore, 1) := by decide +kernel
theorem d_MO_keep_99 : decode b_MO_keep 99 = .ok (.aload_n 0, 1) := by decide +kernel
theorem d_MO_keep_100 : decode b_MO_keep 100 = .ok (.getfield 24, 3) := by decide +kernel
theorem d_MO_keep_103 : decode b_MO_keep 103 = .ok (.iload 4, 2) := by decide +kernel
theorem d_MO_keep_105 : decode b_MO_keep 105 = .ok (.aload_n 0, 1) := by decide +kernel
theorem d_MO_keep_106 : decode b_MO_keep 106 = .ok (.getfield 24, 3) := by decide +kernel
theorem d_MO_keep_109 : decode b_MO_keep 109 = .ok (.iload 4, 2) := by decide +kernel
theorem d_MO_keep_111 : decode b_MO_keep 111 = .ok (.iconst 1, 1) := by decide +kernel
theorem d_MO_keep_112 : decode b_MO_keep 112 = .ok (.isub, 1) := by decide +kernel
theorem d_MO_keep_113 : decode b_MO_keep 113 = .ok (.iaload, 1) := by decide +kernel
theorem d_MO_keep_114 : decode b_MO_keep 114 = .ok (.iastore, 1) := by decide +kernel
theorem d_MO_keep_115 : decode b_MO_keep 115 = .ok (.iinc 4 (-1), 3) := by decide +kernel
theorem d_MO_keep_118 : decode b_MO_keep 118 = .ok (.goto (-41), 3) := by decide +kernel
theorem d_MO_keep_121 : decode b_MO_keep 121 = .ok (.aload_n 0, 1) := by decide +kernel
theorem d_MO_keep_122 : decode b_MO_keep 122 = .ok (.getfield 21, 3) := by decide +kernel
theorem d_MO_keep_125 : decode b_MO_keep 125 = .ok (.iload_n 3, 1) := by decide +kernel
theorem d_MO_keep_126 : decode b_MO_keep 126 = .ok (.iload_n 1, 1) := by decide +kernel
theorem d_MO_keep_127 : decode b_MO_keep 127 = .ok (.iastore, 1) := by decide +kernel
theorem d_MO_keep_128 : decode b_MO_keep 128 = .ok (.aload_n 0, 1) := by decide +kernel
theorem d_MO_keep_129 : decode b_MO_keep 129 = .ok (.getfield 24, 3) := by decide +kernel
theorem d_MO_keep_132 : decode b_MO_keep 132 = .ok (.iload_n 3, 1) := by decide +kernel
theorem d_MO_keep_133 : decode b_MO_keep 133 = .ok (.iload_n 2, 1) := by decide +kernel
theorem d_MO_keep_134 : decode b_MO_keep 134 = .ok (.iastore, 1) := by decide +kernel
theorem d_MO_keep_135 : decode b_MO_keep 135 = .ok (.aload_n 0, 1) := by decide +kernel
theorem d_MO_keep_136 : decode b_MO_keep 136 = .ok (.dup, 1) := by decide +kernel
theorem d_MO_keep_137 : decode b_MO_keep 137 = .ok (.getfield 116, 3) := by decide +kernel
theorem d_MO_keep_140 : decode b_MO_keep 140 = .ok (.iconst 1, 1) := by decide +kernel
theorem d_MO_keep_141 : decode b_MO_keep 141 = .ok (.iadd, 1) := by decide +kernel
theorem d_MO_keep_142 : decode b_MO_keep 142 = .ok (.putfield 116, 3) := by decide +kernel
theorem d_MO_keep_145 : decode b_MO_keep 145 = .ok (.return_, 1) := by decide +kernel
theorem d_MO_reopen_0 : decode b_MO_reopen 0 = .ok (.aload_n 0, 1) := by decide +kernel
theorem d_MO_reopen_1 : decode b_MO_reopen 1 = .ok (.iconst 0, 1) := by decide +kernel
theorem d_MO_reopen_2 : decode b_MO_reopen 2 = .ok (.putfield 57, 3) := by decide +kernel
theorem d_MO_reopen_5 : decode b_MO_reopen 5 = .ok (.aload_n 0, 1) := by decide +kernel
theorem d_MO_reopen_6 : decode b_MO_reopen 6 = .ok (.iconst 0, 1) := by decide +kernel
theorem d_MO_reopen_7 : decode b_MO_reopen 7 = .ok (.putfield 60, 3) := by decide +kernel
theorem d_MO_reopen_10 : decode b_MO_reopen 10 = .ok (.aload_n 0, 1) := by decide +kernel
theorem d_MO_reopen_11 : decode b_MO_reopen 11 = .ok (.iconst (-1), 1) := by decide +kernel
theorem d_MO_reopen_12 : decode b_MO_reopen 12 = .ok (.putfield 17, 3) := by decide +kernel
theorem d_MO_reopen_15 : decode b_MO_reopen 15 = .ok (.aload_n 0, 1) := by decide +kernel
theorem d_MO_reopen_16 : decode b_MO_reopen 16 = .ok (.invokevirtual 113, 3) := by decide +kernel
theorem d_MO_reopen_19 : decode b_MO_reopen 19 = .ok (.aload_n 0, 1) := by decide +kernel
theorem d_MO_reopen_20 : decode b_MO_reopen 20 = .ok (.iconst 0, 1) := by decide +kernel
theorem d_MO_reopen_21 : decode b_MO_reopen 21 = .ok (.putfield 137, 3) := by decide +kernel
theorem d_MO_reopen_24 : decode b_MO_reopen 24 = .ok (.aload_n 0, 1) := by decide +kernel
theorem d_MO_reopen_25 : decode b_MO_reopen 25 = .ok (.iconst 0, 1) := by decide +kernel
theorem d_MO_reopen_26 : decode b_MO_reopen 26 = .ok (.putfield 64, 3) := by decide +kernel
theorem d_MO_reopen_29 : decode b_MO_reopen 29 = .ok (.aload_n 0, 1) := by decide +kernel
theorem d_MO_reopen_30 : decode b_MO_reopen 30 = .ok (.iconst 0, 1) := by decide +kernel
theorem d_MO_reopen_31 : decode b_MO_reopen 31 = .ok (.putfield 67, 3) := by decide +kernel
theorem d_MO_reopen_34 : decode b_MO_reopen 34 = .ok (.aload_n 0, 1) := by decide +kernel
theorem d_MO_reopen_35 : decode b_MO_reopen 35 = .ok (.iconst 0, 1) := by decide +kernel
theorem d_MO_reopen_36 : decode b_MO_reopen 36 = .ok (.putfield 116, 3) := by decide +kernel
theorem d_MO_reopen_39 : decode b_MO_reopen 39 = .ok (.iconst 0, 1) := by decide +kernel
theorem d_MO_reopen_40 : decode b_MO_reopen 40 = .ok (.istore_n 1, 1) := by decide +kernel
theorem d_MO_reopen_41 : decode b_MO_reopen 41 = .ok (.iload_n 1, 1) := by decide +kernel
theorem d_MO_reopen_42 : decode b_MO_reopen 42 = .ok (.aload_n 0, 1) := by decide +kernel
theorem d_MO_reopen_43 : decode b_MO_reopen 43 = .ok (.getfield 54, 3) := by decide +kernel
theorem d_MO_reopen_46 : decode b_MO_reopen 46 = .ok (.if_icmp .ge 102, 3) := by decide +kernel
theorem d_MO_reopen_49 : decode b_MO_reopen 49 = .ok (.bipush 64, 2) := by decide +kernel
theorem d_MO_reopen_51 : decode b_MO_reopen 51 = .ok (.iload_n 1, 1) := by decide +kernel
theorem d_MO_reopen_52 : decode b_MO_reopen 52 = .ok (.imul, 1) := by decide +kernel
theorem d_MO_reopen_53 : decode b_MO_reopen 53 = .ok (.istore_n 2, 1) := by decide +kernel
theorem d_MO_reopen_54 : decode b_MO_reopen 54 = .ok (.aload_n 0, 1) := by decide +kernel
theorem d_MO_reopen_55 : decode b_MO_reopen 55 = .ok (.iload_n 1, 1) := by decide +kernel
theorem d_MO_reopen_56 : decode b_MO_reopen 56 = .ok (.invokevirtual 211, 3) := by decide +kernel
theorem d_MO_reopen_59 : decode b_MO_reopen 59 = .ok (.ifCond .eq 83, 3) := by decide +kernel
theorem d_MO_reopen_62 : decode b_MO_reopen 62 = .ok (.aload_n 0, 1) := by decide +kernel
theorem d_MO_reopen_63 : decode b_MO_reopen 63 = .ok (.iload_n 2, 1) := by decide +kernel
theorem d_MO_reopen_64 : decode b_MO_reopen 64 = .ok (.iconst 4, 1) := by decide +kernel
theorem d_MO_reopen_65 : decode b_MO_reopen 65 = .ok (.iadd, 1) := by decide +kernel
theorem d_MO_reopen_66 : decode b_MO_reopen 66 = .ok (.invokevirtual 89, 3) := by decide +kernel
theorem d_MO_reopen_69 : decode b_MO_reopen 69 = .ok (.aload_n 0, 1) := by decide +kernel
theorem d_MO_reopen_70 : decode b_MO_reopen 70 = .ok (.getfield 137, 3) := by decide +kernel
theorem d_MO_reopen_73 : decode b_MO_reopen 73 = .ok (.if_icmp .gt 32, 3) := by decide +kernel
theorem d_MO_reopen_76 : decode b_MO_reopen 76 = .ok (.aload_n 0, 1) := by decide +kernel
theorem d_MO_reopen_77 : decode b_MO_reopen 77 = .ok (.iload_n 2, 1) := by decide +kernel
theorem d_MO_reopen_78 : decode b_MO_reopen 78 = .ok (.iconst 4, 1) := by decide +kernel
theorem d_MO_reopen_79 : decode b_MO_reopen 79 = .ok (.iadd, 1) := by decide +kernel
theorem d_MO_reopen_80 : decode b_MO_reopen 80 = .ok (.invokevirtual 89, 3) := by decide +kernel
theorem d_MO_reopen_83 : decode b_MO_reopen 83 = .ok (.aload_n 0, 1) := by decide +kernel
theorem d_MO_reopen_84 : decode b_MO_reopen 84 = .ok (.getfield 137, 3) := by decide +kernel
theorem d_MO_reopen_87 : decode b_MO_reopen 87 = .ok (.if_icmp .ne 55, 3) := by decide +kernel
theorem d_MO_reopen_90 : decode b_MO_reopen 90 = .ok (.aload_n 0, 1) := by decide +kernel
theorem d_MO_reopen_91 : decode b_MO_reopen 91 = .ok (.iload_n 2, 1) := by decide +kernel
theorem d_MO_reopen_92 : decode b_MO_reopen 92 = .ok (.bipush 40, 2) := by decide +kernel
theorem d_MO_reopen_94 : decode b_MO_reopen 94 = .ok (.iadd, 1) := by decide +kernel
theorem d_MO_reopen_95 : decode b_MO_reopen 95 = .ok (.invokevirtual 89, 3) := by decide +kernel
theorem d_MO_reopen_98 : decode b_MO_reopen 98 = .ok (.aload_n 0, 1) := by decide +kernel
theorem d_MO_reopen_99 : decode b_MO_reopen 99 = .ok (.getfield 67, 3) := by decide +kernel
theorem d_MO_reopen_102 : decode b_MO_reopen 102 = .ok (.if_icmp .lt 40, 3) := by decide +kernel
theorem d_MO_reopen_105 : decode b_MO_reopen 105 = .ok (.aload_n 0, 1) := by decide +kernel
theorem d_MO_reopen_106 : decode b_MO_reopen 106 = .ok (.aload_n 0, 1) := by decide +kernel
theorem d_MO_reopen_107 : decode b_MO_reopen 107 = .ok (.iload_n 2, 1) := by decide +kernel
theorem d_MO_reopen_108 : decode b_MO_reopen 108 = .ok (.iconst 4, 1) := by decide +kernel
theorem d_MO_reopen_109 : decode b_MO_reopen 109 = .ok (.iadd, 1) := by decide +kernel
theorem d_MO_reopen_110 : decode b_MO_reopen 110 = .ok (.invokevirtual 89, 3) := by decide +kernel
theorem d_MO_reopen_113 : decode b_MO_reopen 113 = .ok (.putfield 137, 3) := by decide +kernel
theorem d_MO_reopen_116 : decode b_MO_reopen 116 = .ok (.aload_n 0, 1) := by decide +kernel
theorem d_MO_reopen_117 : decode b_MO_reopen 117 = .ok (.aload_n 0, 1) := by decide +kernel
theorem d_MO_reopen_118 : decode b_MO_reopen 118 = .ok (.iload_n 2, 1) := by decide +kernel
theorem d_MO_reopen_119 : decode b_MO_reopen 119 = .ok (.bipush 40, 2) := by decide +kernel
theorem d_MO_reopen_121 : decode b_MO_reopen 121 = .ok (.iadd, 1) := by decide +kernel
theorem d_MO_reopen_122 : decode b_MO_reopen 122 = .ok (.invokevirtual 89, 3) := by decide +kernel
theorem d_MO_reopen_125 : decode b_MO_reopen 125 = .ok (.iconst 1, 1) := by decide +kernel
theorem d_MO_reopen_126 : decode b_MO_reopen 126 = .ok (.iadd, 1) := by decide +kernel
theorem d_MO_reopen_127 : decode b_MO_reopen 127 = .ok (.putfield 67, 3) := by decide +kernel
theorem d_MO_reopen_130 : decode b_MO_reopen 130 = .ok (.aload_n 0, 1) := by decide +kernel
theorem d_MO_reopen_131 : decode b_MO_reopen 131 = .ok (.aload_n 0, 1) := by decide +kernel
theorem d_MO_reopen_132 : decode b_MO_reopen 132 = .ok (.iload_n 2, 1) := by decide +kernel
theorem d_MO_reopen_133 : decode b_MO_reopen 133 = .ok (.bipush 16, 2) := by decide +kernel
theorem d_MO_reopen_135 : decode b_MO_reopen 135 = .ok (.iadd, 1) := by decide +kernel
theorem d_MO_reopen_136 : decode b_MO_reopen 136 = .ok (.invokevirtual 89, 3) := by decide +kernel
theorem d_MO_reopen_139 : decode b_MO_reopen 139 = .ok (.putfield 64, 3) := by decide +kernel
theorem d_MO_reopen_142 : decode b_MO_reopen 142 = .ok (.iinc 1 1, 3) := by decide +kernel
theorem d_MO_reopen_145 : decode b_MO_reopen 145 = .ok (.goto (-104), 3) := by decide +kernel
theorem d_MO_reopen_148 : decode b_MO_reopen 148 = .ok (.iconst 0, 1) := by decide +kernel
theorem d_MO_reopen_149 : decode b_MO_reopen 149 = .ok (.istore_n 1, 1) := by decide +kernel
theorem d_MO_reopen_150 : decode b_MO_reopen 150 = .ok (.iload_n 1, 1) := by decide +kernel
theorem d_MO_reopen_151 : decode b_MO_reopen 151 = .ok (.aload_n 0, 1) := by decide +kernel
theorem d_MO_reopen_152 : decode b_MO_reopen 152 = .ok (.getfield 54, 3) := by decide +kernel
theorem d_MO_reopen_155 : decode b_MO_reopen 155 = .ok (.if_icmp .ge 56, 3) := by decide +kernel
theorem d_MO_reopen_158 : decode b_MO_reopen 158 = .ok (.bipush 64, 2) := by decide +kernel
theorem d_MO_reopen_160 : decode b_MO_reopen 160 = .ok (.iload_n 1, 1) := by decide +kernel
theorem d_MO_reopen_161 : decode b_MO_reopen 161 = .ok (.imul, 1) := by decide +kernel
theorem d_MO_reopen_162 : decode b_MO_reopen 162 = .ok (.istore_n 2, 1) := by decide +kernel
theorem d_MO_reopen_163 : decode b_MO_reopen 163 = .ok (.aload_n 0, 1) := by decide +kernel
theorem d_MO_reopen_164 : decode b_MO_reopen 164 = .ok (.iload_n 1, 1) := by decide +kernel
theorem d_MO_reopen_165 : decode b_MO_reopen 165 = .ok (.invokevirtual 211, 3) := by decide +kernel
theorem d_MO_reopen_168 : decode b_MO_reopen 168 = .ok (.ifCond .eq 37, 3) := by decide +kernel
theorem d_MO_reopen_171 : decode b_MO_reopen 171 = .ok (.aload_n 0, 1) := by decide +kernel
theorem d_MO_reopen_172 : decode b_MO_reopen 172 = .ok (.aload_n 0, 1) := by decide +kernel
theorem d_MO_reopen_173 : decode b_MO_reopen 173 = .ok (.iload_n 2, 1) := by decide +kernel
theorem d_MO_reopen_174 : decode b_MO_reopen 174 = .ok (.bipush 40, 2) := by decide +kernel
theorem d_MO_reopen_176 : decode b_MO_reopen 176 = .ok (.iadd, 1) := by decide +kernel
theorem d_MO_reopen_177 : decode b_MO_reopen 177 = .ok (.invokevirtual 89, 3) := by decide +kernel
theorem d_MO_reopen_180 : decode b_MO_reopen 180 = .ok (.invokevirtual 78, 3) := by decide +kernel
theorem d_MO_reopen_183 : decode b_MO_reopen 183 = .ok (.ifCond .eq 22, 3) := by decide +kernel
theorem d_MO_reopen_186 : decode b_MO_reopen 186 = .ok (.aload_n 0, 1) := by decide +kernel
theorem d_MO_reopen_187 : decode b_MO_reopen 187 = .ok (.aload_n 0, 1) := by decide +kernel
theorem d_MO_reopen_188 : decode b_MO_reopen 188 = .ok (.iload_n 2, 1) := by decide +kernel
theorem d_MO_reopen_189 : decode b_MO_reopen 189 = .ok (.iconst 4, 1) := by decide +kernel
theorem d_MO_reopen_190 : decode b_MO_reopen 190 = .ok (.iadd, 1) := by decide +kernel
theorem d_MO_reopen_191 : decode b_MO_reopen 191 = .ok (.invokevirtual 89, 3) := by decide +kernel
theorem d_MO_reopen_194 : decode b_MO_reopen 194 = .ok (.aload_n 0, 1) := by decide +kernel
theorem d_MO_reopen_195 : decode b_MO_reopen 195 = .ok (.iload_n 2, 1) := by decide +kernel
theorem d_MO_reopen_196 : decode b_MO_reopen 196 = .ok (.bipush 40, 2) := by decide +kernel
theorem d_MO_reopen_198 : decode b_MO_reopen 198 = .ok (.iadd, 1) := by decide +kernel
theorem d_MO_reopen_199 : decode b_MO_reopen 199 = .ok (.invokevirtual 89, 3) := by decide +kernel
theorem d_MO_reopen_202 : decode b_MO_reopen 202 = .ok (.invokevirtual 214, 3) := by decide +kernel
theorem d_MO_reopen_205 : decode b_MO_reopen 205 = .ok (.iinc 1 1, 3) := by decide +kernel
theorem d_MO_reopen_208 : decode b_MO_reopen 208 = .ok (.goto (-58), 3) := by decide +kernel
theorem d_MO_reopen_211 : decode b_MO_reopen 211 = .ok (.aload_n 0, 1) := by decide +kernel
theorem d_MO_reopen_212 : decode b_MO_reopen 212 = .ok (.getfield 137, 3) := by decide +kernel
theorem d_MO_reopen_215 : decode b_MO_reopen 215 = .ok (.ireturn, 1) := by decide +kernel
theorem d_MO_isDown_0 : decode b_MO_isDown 0 = .ok (.aload_n 0, 1) := by decide +kernel
theorem d_MO_isDown_1 : decode b_MO_isDown 1 = .ok (.iconst 0, 1) := by decide +kernel
theorem d_MO_isDown_2 : decode b_MO_isDown 2 = .ok (.putfield 57, 3) := by decide +kernel
theorem d_MO_isDown_5 : decode b_MO_isDown 5 = .ok (.aload_n 0, 1) := by decide +kernel
theorem d_MO_isDown_6 : decode b_MO_isDown 6 = .ok (.getfield 60, 3) := by decide +kernel
theorem d_MO_isDown_9 : decode b_MO_isDown 9 = .ok (.ireturn, 1) := by decide +kernel
theorem d_MO_byteAt_0 : decode b_MO_byteAt 0 = .ok (.aload_n 0, 1) := by decide +kernel
theorem d_MO_byteAt_1 : decode b_MO_byteAt 1 = .ok (.aload_n 0, 1) := by decide +kernel
theorem d_MO_byteAt_2 : decode b_MO_byteAt 2 = .ok (.iload_n 1, 1) := by decide +kernel
theorem d_MO_byteAt_3 : decode b_MO_byteAt 3 = .ok (.invokevirtual 78, 3) := by decide +kernel
theorem d_MO_byteAt_6 : decode b_MO_byteAt 6 = .ok (.ifCond .eq 17, 3) := by decide +kernel
theorem d_MO_byteAt_9 : decode b_MO_byteAt 9 = .ok (.iload_n 2, 1) := by decide +kernel
theorem d_MO_byteAt_10 : decode b_MO_byteAt 10 = .ok (.ifCond .lt 13, 3) := by decide +kernel
theorem d_MO_byteAt_13 : decode b_MO_byteAt 13 = .ok (.iload_n 2, 1) := by decide +kernel
theorem d_MO_byteAt_14 : decode b_MO_byteAt 14 = .ok (.bipush 64, 2) := by decide +kernel
theorem d_MO_byteAt_16 : decode b_MO_byteAt 16 = .ok (.if_icmp .ge 7, 3) := by decide +kernel
theorem d_MO_byteAt_19 : decode b_MO_byteAt 19 = .ok (.iconst 1, 1) := by decide +kernel
theorem d_MO_byteAt_20 : decode b_MO_byteAt 20 = .ok (.goto 4, 3) := by decide +kernel
theorem d_MO_byteAt_23 : decode b_MO_byteAt 23 = .ok (.iconst 0, 1) := by decide +kernel
theorem d_MO_byteAt_24 : decode b_MO_byteAt 24 = .ok (.invokevirtual 101, 3) := by decide +kernel
theorem d_MO_byteAt_27 : decode b_MO_byteAt 27 = .ok (.ifCond .eq 18, 3) := by decide +kernel
theorem d_MO_byteAt_30 : decode b_MO_byteAt 30 = .ok (.aload_n 0, 1) := by decide +kernel
theorem d_MO_byteAt_31 : decode b_MO_byteAt 31 = .ok (.getfield 7, 3) := by decide +kernel
theorem d_MO_byteAt_34 : decode b_MO_byteAt 34 = .ok (.aload_n 0, 1) := by decide +kernel
theorem d_MO_byteAt_35 : decode b_MO_byteAt 35 = .ok (.iload_n 1, 1) := by decide +kernel
theorem d_MO_byteAt_36 : decode b_MO_byteAt 36 = .ok (.invokevirtual 82, 3) := by decide +kernel
theorem d_MO_byteAt_39 : decode b_MO_byteAt 39 = .ok (.iload_n 2, 1) := by decide +kernel
theorem d_MO_byteAt_40 : decode b_MO_byteAt 40 = .ok (.iadd, 1) := by decide +kernel
theorem d_MO_byteAt_41 : decode b_MO_byteAt 41 = .ok (.iaload, 1) := by decide +kernel
theorem d_MO_byteAt_42 : decode b_MO_byteAt 42 = .ok (.goto 4, 3) := by decide +kernel
theorem d_MO_byteAt_45 : decode b_MO_byteAt 45 = .ok (.iconst 0, 1) := by decide +kernel
theorem d_MO_byteAt_46 : decode b_MO_byteAt 46 = .ok (.ireturn, 1) := by decide +kernel
theorem d_MO_poke_0 : decode b_MO_poke 0 = .ok (.aload_n 0, 1) := by decide +kernel
theorem d_MO_poke_1 : decode b_MO_poke 1 = .ok (.aload_n 0, 1) := by decide +kernel
theorem d_MO_poke_2 : decode b_MO_poke 2 = .ok (.iload_n 1, 1) := by decide +kernel
theorem d_MO_poke_3 : decode b_MO_poke 3 = .ok (.invokevirtual 78, 3) := by decide +kernel
theorem d_MO_poke_6 : decode b_MO_poke 6 = .ok (.ifCond .eq 29, 3) := by decide +kernel
theorem d_MO_poke_9 : decode b_MO_poke 9 = .ok (.iload_n 2, 1) := by decide +kernel
theorem d_MO_poke_10 : decode b_MO_poke 10 = .ok (.ifCond .lt 25, 3) := by decide +kernel
theorem d_MO_poke_13 : decode b_MO_poke 13 = .ok (.iload_n 2, 1) := by decide +kernel
theorem d_MO_poke_14 : decode b_MO_poke 14 = .ok (.bipush 64, 2) := by decide +kernel
theorem d_MO_poke_16 : decode b_MO_poke 16 = .ok (.if_icmp .ge 19, 3) := by decide +kernel
theorem d_MO_poke_19 : decode b_MO_poke 19 = .ok (.iload_n 3, 1) := by decide +kernel
theorem d_MO_poke_20 : decode b_MO_poke 20 = .ok (.iconst 1, 1) := by decide +kernel
theorem d_MO_poke_21 : decode b_MO_poke 21 = .ok (.if_icmp .lt 14, 3) := by decide +kernel
theorem d_MO_poke_24 : decode b_MO_poke 24 = .ok (.iload_n 3, 1) := by decide +kernel
theorem d_MO_poke_25 : decode b_MO_poke 25 = .ok (.sipush 255, 3) := by decide +kernel
theorem d_MO_poke_28 : decode b_MO_poke 28 = .ok (.if_icmp .gt 7, 3) := by decide +kernel
theorem d_MO_poke_31 : decode b_MO_poke 31 = .ok (.iconst 1, 1) := by decide +kernel
theorem d_MO_poke_32 : decode b_MO_poke 32 = .ok (.goto 4, 3) := by decide +kernel
theorem d_MO_poke_35 : decode b_MO_poke 35 = .ok (.iconst 0, 1) := by decide +kernel
theorem d_MO_poke_36 : decode b_MO_poke 36 = .ok (.invokevirtual 101, 3) := by decide +kernel
theorem d_MO_poke_39 : decode b_MO_poke 39 = .ok (.ifCond .ne 5, 3) := by decide +kernel
theorem d_MO_poke_42 : decode b_MO_poke 42 = .ok (.iconst 0, 1) := by decide +kernel
theorem d_MO_poke_43 : decode b_MO_poke 43 = .ok (.ireturn, 1) := by decide +kernel
theorem d_MO_poke_44 : decode b_MO_poke 44 = .ok (.aload_n 0, 1) := by decide +kernel
theorem d_MO_poke_45 : decode b_MO_poke 45 = .ok (.iload_n 1, 1) := by decide +kernel
theorem d_MO_poke_46 : decode b_MO_poke 46 = .ok (.invokevirtual 82, 3) := by decide +kernel
theorem d_MO_poke_49 : decode b_MO_poke 49 = .ok (.iload_n 2, 1) := by decide +kernel
theorem d_MO_poke_50 : decode b_MO_poke 50 = .ok (.iadd, 1) := by decide +kernel
theorem d_MO_poke_51 : decode b_MO_poke 51 = .ok (.istore 4, 2) := by decide +kernel
theorem d_MO_poke_53 : decode b_MO_poke 53 = .ok (.aload_n 0, 1) := by decide +kernel
theorem d_MO_poke_54 : decode b_MO_poke 54 = .ok (.getfield 7, 3) := by decide +kernel
theorem d_MO_poke_57 : decode b_MO_poke 57 = .ok (.iload 4, 2) := by decide +kernel
theorem d_MO_poke_59 : decode b_MO_poke 59 = .ok (.aload_n 0, 1) := by decide +kernel
theorem d_MO_poke_60 : decode b_MO_poke 60 = .ok (.getfield 7, 3) := by decide +kernel
theorem d_MO_poke_63 : decode b_MO_poke 63 = .ok (.iload 4, 2) := by decide +kernel
theorem d_MO_poke_65 : decode b_MO_poke 65 = .ok (.iaload, 1) := by decide +kernel
theorem d_MO_poke_66 : decode b_MO_poke 66 = .ok (.iload_n 3, 1) := by decide +kernel
theorem d_MO_poke_67 : decode b_MO_poke 67 = .ok (.ixor, 1) := by decide +kernel
theorem d_MO_poke_68 : decode b_MO_poke 68 = .ok (.iastore, 1) := by decide +kernel
theorem d_MO_poke_69 : decode b_MO_poke 69 = .ok (.aload_n 0, 1) := by decide +kernel
theorem d_MO_poke_70 : decode b_MO_poke 70 = .ok (.getfield 7, 3) := by decide +kernel
theorem d_MO_poke_73 : decode b_MO_poke 73 = .ok (.iload 4, 2) := by decide +kernel
theorem d_MO_poke_75 : decode b_MO_poke 75 = .ok (.iaload, 1) := by decide +kernel
theorem d_MO_poke_76 : decode b_MO_poke 76 = .ok (.ireturn, 1) := by decide +kernel
theorem d_MO_badAt_0 : decode b_MO_badAt 0 = .ok (.aload_n 0, 1) := by decide +kernel
theorem d_MO_badAt_1 : decode b_MO_badAt 1 = .ok (.iload_n 1, 1) := by decide +kernel
theorem d_MO_badAt_2 : decode b_MO_badAt 2 = .ok (.ifCond .lt 7, 3) := by decide +kernel
theorem d_MO_badAt_5 : decode b_MO_badAt 5 = .ok (.iconst 1, 1) := by decide +kernel
theorem d_MO_badAt_6 : decode b_MO_badAt 6 = .ok (.goto 4, 3) := by decide +kernel
theorem d_MO_badAt_9 : decode b_MO_badAt 9 = .ok (.iconst 0, 1) := by decide +kernel
theorem d_MO_badAt_10 : decode b_MO_badAt 10 = .ok (.invokevirtual 101, 3) := by decide +kernel
theorem d_MO_badAt_13 : decode b_MO_badAt 13 = .ok (.ifCond .ne 5, 3) := by decide +kernel
theorem d_MO_badAt_16 : decode b_MO_badAt 16 = .ok (.iconst 0, 1) := by decide +kernel
theorem d_MO_badAt_17 : decode b_MO_badAt 17 = .ok (.ireturn, 1) := by decide +kernel
theorem d_MO_badAt_18 : decode b_MO_badAt 18 = .ok (.iconst 0, 1) := by decide +kernel
theorem d_MO_badAt_19 : decode b_MO_badAt 19 = .ok (.istore_n 2, 1) := by decide +kernel
theorem d_MO_badAt_20 : decode b_MO_badAt 20 = .ok (.aload_n 0, 1) := by decide +kernel
theorem d_MO_badAt_21 : decode b_MO_badAt 21 = .ok (.getfield 64, 3) := by decide +kernel
theorem d_MO_badAt_24 : decode b_MO_badAt 24 = .ok (.istore_n 3, 1) := by decide +kernel
theorem d_MO_badAt_25 : decode b_MO_badAt 25 = .ok (.iload_n 3, 1) := by decide +kernel
theorem d_MO_badAt_26 : decode b_MO_badAt 26 = .ok (.aload_n 0, 1) := by decide +kernel
theorem d_MO_badAt_27 : decode b_MO_badAt 27 = .ok (.getfield 67, 3) := by decide +kernel
theorem d_MO_badAt_30 : decode b_MO_badAt 30 = .ok (.if_icmp .ge 48, 3) := by decide +kernel
theorem d_MO_badAt_33 : decode b_MO_badAt 33 = .ok (.aload_n 0, 1) := by decide +kernel
theorem d_MO_badAt_34 : decode b_MO_badAt 34 = .ok (.iload_n 3, 1) := by decide +kernel
theorem d_MO_badAt_35 : decode b_MO_badAt 35 = .ok (.invokevirtual 82, 3) := by decide +kernel
theorem d_MO_badAt_38 : decode b_MO_badAt 38 = .ok (.istore 4, 2) := by decide +kernel
theorem d_MO_badAt_40 : decode b_MO_badAt 40 = .ok (.aload_n 0, 1) := by decide +kernel
theorem d_MO_badAt_41 : decode b_MO_badAt 41 = .ok (.iload 4, 2) := by decide +kernel
theorem d_MO_badAt_43 : decode b_MO_badAt 43 = .ok (.invokevirtual 86, 3) := by decide +kernel
theorem d_MO_badAt_46 : decode b_MO_badAt 46 = .ok (.ifCond .eq 16, 3) := by decide +kernel
theorem d_MO_badAt_49 : decode b_MO_badAt 49 = .ok (.aload_n 0, 1) := by decide +kernel
theorem d_MO_badAt_50 : decode b_MO_badAt 50 = .ok (.iload 4, 2) := by decide +kernel
theorem d_MO_badAt_52 : decode b_MO_badAt 52 = .ok (.bipush 40, 2) := by decide +kernel
theorem d_MO_badAt_54 : decode b_MO_badAt 54 = .ok (.iadd, 1) := by decide +kernel
theorem d_MO_badAt_55 : decode b_MO_badAt 55 = .ok (.invokevirtual 89, 3) := by decide +kernel
theorem d_MO_badAt_58 : decode b_MO_badAt 58 = .ok (.iload_n 3, 1) := by decide +kernel
theorem d_MO_badAt_59 : decode b_MO_badAt 59 = .ok (.if_icmp .eq 13, 3) := by decide +kernel
theorem d_MO_badAt_62 : decode b_MO_badAt 62 = .ok (.iload_n 2, 1) := by decide +kernel
theorem d_MO_badAt_63 : decode b_MO_badAt 63 = .ok (.iload_n 1, 1) := by decide +kernel
theorem d_MO_badAt_64 : decode b_MO_badAt 64 = .ok (.if_icmp .ne 5, 3) := by decide +kernel
theorem d_MO_badAt_67 : decode b_MO_badAt 67 = .ok (.iload_n 3, 1) := by decide +kernel
theorem d_MO_badAt_68 : decode b_MO_badAt 68 = .ok (.ireturn, 1) := by decide +kernel
theorem d_MO_badAt_69 : decode b_MO_badAt 69 = .ok (.iinc 2 1, 3) := by decide +kernel
theorem d_MO_badAt_72 : decode b_MO_badAt 72 = .ok (.iinc 3 1, 3) := by decide +kernel
theorem d_MO_badAt_75 : decode b_MO_badAt 75 = .ok (.goto (-50), 3) := by decide +kernel
theorem d_MO_badAt_78 : decode b_MO_badAt 78 = .ok (.iconst (-1), 1) := by decide +kernel
theorem d_MO_badAt_79 : decode b_MO_badAt 79 = .ok (.ireturn, 1) := by decide +kernel
theorem d_MO_told_0 : decode b_MO_told 0 = .ok (.aload_n 0, 1) := by decide +kernel
theorem d_MO_told_1 : decode b_MO_told 1 = .ok (.iload_n 1, 1) := by decide +kernel
theorem d_MO_told_2 : decode b_MO_told 2 = .ok (.ifCond .lt 12, 3) := by decide +kernel
theorem d_MO_told_5 : decode b_MO_told 5 = .ok (.iload_n 1, 1) := by decide +kernel
theorem d_MO_told_6 : decode b_MO_told 6 = .ok (.iconst 4, 1) := by decide +kernel
theorem d_MO_told_7 : decode b_MO_told 7 = .ok (.if_icmp .gt 7, 3) := by decide +kernel
theorem d_MO_told_10 : decode b_MO_told 10 = .ok (.iconst 1, 1) := by decide +kernel
theorem d_MO_told_11 : decode b_MO_told 11 = .ok (.goto 4, 3) := by decide +kernel
theorem d_MO_told_14 : decode b_MO_told 14 = .ok (.iconst 0, 1) := by decide +kernel
theorem d_MO_told_15 : decode b_MO_told 15 = .ok (.invokevirtual 101, 3) := by decide +kernel
theorem d_MO_told_18 : decode b_MO_told 18 = .ok (.ifCond .ne 5, 3) := by decide +kernel
theorem d_MO_told_21 : decode b_MO_told 21 = .ok (.iconst 0, 1) := by decide +kernel
theorem d_MO_told_22 : decode b_MO_told 22 = .ok (.ireturn, 1) := by decide +kernel
theorem d_MO_told_23 : decode b_MO_told 23 = .ok (.iload_n 1, 1) := by decide +kernel
theorem d_MO_told_24 : decode b_MO_told 24 = .ok (.ifCond .ne 10, 3) := by decide +kernel
theorem d_MO_told_27 : decode b_MO_told 27 = .ok (.aload_n 0, 1) := by decide +kernel
theorem d_MO_told_28 : decode b_MO_told 28 = .ok (.getfield 64, 3) := by decide +kernel
theorem d_MO_told_31 : decode b_MO_told 31 = .ok (.goto 43, 3) := by decide +kernel
theorem d_MO_told_34 : decode b_MO_told 34 = .ok (.iload_n 1, 1) := by decide +kernel
theorem d_MO_told_35 : decode b_MO_told 35 = .ok (.iconst 1, 1) := by decide +kernel
theorem d_MO_told_36 : decode b_MO_told 36 = .ok (.if_icmp .ne 10, 3) := by decide +kernel
theorem d_MO_told_39 : decode b_MO_told 39 = .ok (.aload_n 0, 1) := by decide +kernel
theorem d_MO_told_40 : decode b_MO_told 40 = .ok (.getfield 67, 3) := by decide +kernel
theorem d_MO_told_43 : decode b_MO_told 43 = .ok (.goto 31, 3) := by decide +kernel
theorem d_MO_told_46 : decode b_MO_told 46 = .ok (.iload_n 1, 1) := by decide +kernel
theorem d_MO_told_47 : decode b_MO_told 47 = .ok (.iconst 2, 1) := by decide +kernel
theorem d_MO_told_48 : decode b_MO_told 48 = .ok (.if_icmp .ne 10, 3) := by decide +kernel
theorem d_MO_told_51 : decode b_MO_told 51 = .ok (.aload_n 0, 1) := by decide +kernel
theorem d_MO_told_52 : decode b_MO_told 52 = .ok (.getfield 137, 3) := by decide +kernel
theorem d_MO_told_55 : decode b_MO_told 55 = .ok (.goto 19, 3) := by decide +kernel
theorem d_MO_told_58 : decode b_MO_told 58 = .ok (.iload_n 1, 1) := by decide +kernel
theorem d_MO_told_59 : decode b_MO_told 59 = .ok (.iconst 3, 1) := by decide +kernel
theorem d_MO_told_60 : decode b_MO_told 60 = .ok (.if_icmp .ne 10, 3) := by decide +kernel
theorem d_MO_told_63 : decode b_MO_told 63 = .ok (.aload_n 0, 1) := by decide +kernel
theorem d_MO_told_64 : decode b_MO_told 64 = .ok (.getfield 147, 3) := by decide +kernel
theorem d_MO_told_67 : decode b_MO_told 67 = .ok (.goto 7, 3) := by decide +kernel
theorem d_MO_told_70 : decode b_MO_told 70 = .ok (.aload_n 0, 1) := by decide +kernel
theorem d_MO_told_71 : decode b_MO_told 71 = .ok (.getfield 95, 3) := by decide +kernel
theorem d_MO_told_74 : decode b_MO_told 74 = .ok (.ireturn, 1) := by decide +kernel
theorem d_DR_init_0 : decode b_DR_init 0 = .ok (.aload_n 0, 1) := by decide +kernel
theorem d_DR_init_1 : decode b_DR_init 1 = .ok (.invokespecial 3, 3) := by decide +kernel
theorem d_DR_init_4 : decode b_DR_init 4 = .ok (.aload_n 0, 1) := by decide +kernel
theorem d_DR_init_5 : decode b_DR_init 5 = .ok (.sipush 512, 3) := by decide +kernel
theorem d_DR_init_8 : decode b_DR_init 8 = .ok (.newarray .int, 2) := by decide +kernel
theorem d_DR_init_10 : decode b_DR_init 10 = .ok (.putfield 9, 3) := by decide +kernel
theorem d_DR_init_13 : decode b_DR_init 13 = .ok (.aload_n 0, 1) := by decide +kernel
theorem d_DR_init_14 : decode b_DR_init 14 = .ok (.sipush 512, 3) := by decide +kernel
theorem d_DR_init_17 : decode b_DR_init 17 = .ok (.newarray .int, 2) := by decide +kernel
theorem d_DR_init_19 : decode b_DR_init 19 = .ok (.putfield 15, 3) := by decide +kernel
theorem d_DR_init_22 : decode b_DR_init 22 = .ok (.return_, 1) := by decide +kernel
theorem d_DR_size_0 : decode b_DR_size 0 = .ok (.aload_n 0, 1) := by decide +kernel
theorem d_DR_size_1 : decode b_DR_size 1 = .ok (.getfield 18, 3) := by decide +kernel
theorem d_DR_size_4 : decode b_DR_size 4 = .ok (.ireturn, 1) := by decide +kernel
theorem d_DR_has_0 : decode b_DR_has 0 = .ok (.aload_n 0, 1) := by decide +kernel
theorem d_DR_has_1 : decode b_DR_has 1 = .ok (.getfield 9, 3) := by decide +kernel
theorem d_DR_has_4 : decode b_DR_has 4 = .ok (.iload_n 1, 1) := by decide +kernel
theorem d_DR_has_5 : decode b_DR_has 5 = .ok (.iaload, 1) := by decide +kernel
theorem d_DR_has_6 : decode b_DR_has 6 = .ok (.ifCond .eq 7, 3) := by decide +kernel
theorem d_DR_has_9 : decode b_DR_has 9 = .ok (.iconst 1, 1) := by decide +kernel
theorem d_DR_has_10 : decode b_DR_has 10 = .ok (.goto 4, 3) := by decide +kernel
theorem d_DR_has_13 : decode b_DR_has 13 = .ok (.iconst 0, 1) := by decide +kernel
theorem d_DR_has_14 : decode b_DR_has 14 = .ok (.ireturn, 1) := by decide +kernel
theorem d_DR_isDropped_0 : decode b_DR_isDropped 0 = .ok (.aload_n 0, 1) := by decide +kernel
theorem d_DR_isDropped_1 : decode b_DR_isDropped 1 = .ok (.getfield 9, 3) := by decide +kernel
theorem d_DR_isDropped_4 : decode b_DR_isDropped 4 = .ok (.iload_n 1, 1) := by decide +kernel
theorem d_DR_isDropped_5 : decode b_DR_isDropped 5 = .ok (.iaload, 1) := by decide +kernel
theorem d_DR_isDropped_6 : decode b_DR_isDropped 6 = .ok (.iconst 2, 1) := by decide +kernel
theorem d_DR_isDropped_7 : decode b_DR_isDropped 7 = .ok (.if_icmp .ne 7, 3) := by decide +kernel
theorem d_DR_isDropped_10 : decode b_DR_isDropped 10 = .ok (.iconst 1, 1) := by decide +kernel
theorem d_DR_isDropped_11 : decode b_DR_isDropped 11 = .ok (.goto 4, 3) := by decide +kernel
theorem d_DR_isDropped_14 : decode b_DR_isDropped 14 = .ok (.iconst 0, 1) := by decide +kernel
theorem d_DR_isDropped_15 : decode b_DR_isDropped 15 = .ok (.ireturn, 1) := by decide +kernel
theorem d_DR_valueOf_0 : decode b_DR_valueOf 0 = .ok (.aload_n 0, 1) := by decide +kernel
theorem d_DR_valueOf_1 : decode b_DR_valueOf 1 = .ok (.getfield 15, 3) := by decide +kernel
theorem d_DR_valueOf_4 : decode b_DR_valueOf 4 = .ok (.iload_n 1, 1) := by decide +kernel
theorem d_DR_valueOf_5 : decode b_DR_valueOf 5 = .ok (.iaload, 1) := by decide +kernel
theorem d_DR_valueOf_6 : decode b_DR_valueOf 6 = .ok (.ireturn, 1) := by decide +kernel
theorem d_DR_setValue_0 : decode b_DR_setValue 0 = .ok (.aload_n 0, 1) := by decide +kernel
theorem d_DR_setValue_1 : decode b_DR_setValue 1 = .ok (.iload_n 1, 1) := by decide +kernel
theorem d_DR_setValue_2 : decode b_DR_setValue 2 = .ok (.iconst 1, 1) := by decide +kernel
theorem d_DR_setValue_3 : decode b_DR_setValue 3 = .ok (.invokevirtual 22, 3) := by decide +kernel
theorem d_DR_setValue_6 : decode b_DR_setValue 6 = .ok (.aload_n 0, 1) := by decide +kernel
theorem d_DR_setValue_7 : decode b_DR_setValue 7 = .ok (.getfield 15, 3) := by decide +kernel
theorem d_DR_setValue_10 : decode b_DR_setValue 10 = .ok (.iload_n 1, 1) := by decide +kernel
theorem d_DR_setValue_11 : decode b_DR_setValue 11 = .ok (.iload_n 2, 1) := by decide +kernel
theorem d_DR_setValue_12 : decode b_DR_setValue 12 = .ok (.iastore, 1) := by decide +kernel
theorem d_DR_setValue_13 : decode b_DR_setValue 13 = .ok (.return_, 1) := by decide +kernel
theorem d_DR_setDropped_0 : decode b_DR_setDropped 0 = .ok (.aload_n 0, 1) := by decide +kernel
theorem d_DR_setDropped_1 : decode b_DR_setDropped 1 = .ok (.iload_n 1, 1) := by decide +kernel
theorem d_DR_setDropped_2 : decode b_DR_setDropped 2 = .ok (.iconst 2, 1) := by decide +kernel
theorem d_DR_setDropped_3 : decode b_DR_setDropped 3 = .ok (.invokevirtual 22, 3) := by decide +kernel
theorem d_DR_setDropped_6 : decode b_DR_setDropped 6 = .ok (.return_, 1) := by decide +kernel
theorem d_DR_clear_0 : decode b_DR_clear 0 = .ok (.iconst 0, 1) := by decide +kernel
theorem d_DR_clear_1 : decode b_DR_clear 1 = .ok (.istore_n 1, 1) := by decide +kernel
theorem d_DR_clear_2 : decode b_DR_clear 2 = .ok (.iload_n 1, 1) := by decide +kernel
theorem d_DR_clear_3 : decode b_DR_clear 3 = .ok (.sipush 512, 3) := by decide +kernel
theorem d_DR_clear_6 : decode b_DR_clear 6 = .ok (.if_icmp .ge 16, 3) := by decide +kernel
theorem d_DR_clear_9 : decode b_DR_clear 9 = .ok (.aload_n 0, 1) := by decide +kernel
theorem d_DR_clear_10 : decode b_DR_clear 10 = .ok (.getfield 9, 3) := by decide +kernel
theorem d_DR_clear_13 : decode b_DR_clear 13 = .ok (.iload_n 1, 1) := by decide +kernel
theorem d_DR_clear_14 : decode b_DR_clear 14 = .ok (.iconst 0, 1) := by decide +kernel
theorem d_DR_clear_15 : decode b_DR_clear 15 = .ok (.iastore, 1) := by decide +kernel
theorem d_DR_clear_16 : decode b_DR_clear 16 = .ok (.iinc 1 1, 3) := by decide +kernel
theorem d_DR_clear_19 : decode b_DR_clear 19 = .ok (.goto (-17), 3) := by decide +kernel
theorem d_DR_clear_22 : decode b_DR_clear 22 = .ok (.aload_n 0, 1) := by decide +kernel
theorem d_DR_clear_23 : decode b_DR_clear 23 = .ok (.iconst 0, 1) := by decide +kernel
theorem d_DR_clear_24 : decode b_DR_clear 24 = .ok (.putfield 18, 3) := by decide +kernel
theorem d_DR_clear_27 : decode b_DR_clear 27 = .ok (.return_, 1) := by decide +kernel
theorem d_DR_note_0 : decode b_DR_note 0 = .ok (.aload_n 0, 1) := by decide +kernel
theorem d_DR_note_1 : decode b_DR_note 1 = .ok (.iload_n 1, 1) := by decide +kernel
theorem d_DR_note_2 : decode b_DR_note 2 = .ok (.invokevirtual 26, 3) := by decide +kernel
theorem d_DR_note_5 : decode b_DR_note 5 = .ok (.ifCond .ne 13, 3) := by decide +kernel
theorem d_DR_note_8 : decode b_DR_note 8 = .ok (.aload_n 0, 1) := by decide +kernel
theorem d_DR_note_9 : decode b_DR_note 9 = .ok (.dup, 1) := by decide +kernel
theorem d_DR_note_10 : decode b_DR_note 10 = .ok (.getfield 18, 3) := by decide +kernel
theorem d_DR_note_13 : decode b_DR_note 13 = .ok (.iconst 1, 1) := by decide +kernel
theorem d_DR_note_14 : decode b_DR_note 14 = .ok (.iadd, 1) := by decide +kernel
theorem d_DR_note_15 : decode b_DR_note 15 = .ok (.putfield 18, 3) := by decide +kernel
theorem d_DR_note_18 : decode b_DR_note 18 = .ok (.aload_n 0, 1) := by decide +kernel
theorem d_DR_note_19 : decode b_DR_note 19 = .ok (.getfield 9, 3) := by decide +kernel
theorem d_DR_note_22 : decode b_DR_note 22 = .ok (.iload_n 1, 1) := by decide +kernel
theorem d_DR_note_23 : decode b_DR_note 23 = .ok (.iload_n 2, 1) := by decide +kernel
theorem d_DR_note_24 : decode b_DR_note 24 = .ok (.iastore, 1) := by decide +kernel
theorem d_DR_note_25 : decode b_DR_note 25 = .ok (.return_, 1) := by decide +kernel
theorem d_PG_init_0 : decode b_PG_init 0 = .ok (.aload_n 0, 1) := by decide +kernel
theorem d_PG_init_1 : decode b_PG_init 1 = .ok (.invokespecial 3, 3) := by decide +kernel
theorem d_PG_init_4 : decode b_PG_init 4 = .ok (.aload_n 0, 1) := by decide +kernel
theorem d_PG_init_5 : decode b_PG_init 5 = .ok (.bipush 73, 2) := by decide +kernel
theorem d_PG_init_7 : decode b_PG_init 7 = .ok (.newarray .boolean, 2) := by decide +kernel
theorem d_PG_init_9 : decode b_PG_init 9 = .ok (.putfield 11, 3) := by decide +kernel
theorem d_PG_init_12 : decode b_PG_init 12 = .ok (.aload_n 0, 1) := by decide +kernel
theorem d_PG_init_13 : decode b_PG_init 13 = .ok (.bipush 73, 2) := by decide +kernel
theorem d_PG_init_15 : decode b_PG_init 15 = .ok (.newarray .int, 2) := by decide +kernel
theorem d_PG_init_17 : decode b_PG_init 17 = .ok (.putfield 15, 3) := by decide +kernel
theorem d_PG_init_20 : decode b_PG_init 20 = .ok (.aload_n 0, 1) := by decide +kernel
theorem d_PG_init_21 : decode b_PG_init 21 = .ok (.sipush 584, 3) := by decide +kernel
theorem d_PG_init_24 : decode b_PG_init 24 = .ok (.newarray .int, 2) := by decide +kernel
theorem d_PG_init_26 : decode b_PG_init 26 = .ok (.putfield 19, 3) := by decide +kernel
theorem d_PG_init_29 : decode b_PG_init 29 = .ok (.aload_n 0, 1) := by decide +kernel
theorem d_PG_init_30 : decode b_PG_init 30 = .ok (.bipush 73, 2) := by decide +kernel
theorem d_PG_init_32 : decode b_PG_init 32 = .ok (.newarray .int, 2) := by decide +kernel
theorem d_PG_init_34 : decode b_PG_init 34 = .ok (.putfield 22, 3) := by decide +kernel
theorem d_PG_init_37 : decode b_PG_init 37 = .ok (.aload_n 0, 1) := by decide +kernel
theorem d_PG_init_38 : decode b_PG_init 38 = .ok (.bipush 8, 2) := by decide +kernel
theorem d_PG_init_40 : decode b_PG_init 40 = .ok (.newarray .int, 2) := by decide +kernel
theorem d_PG_init_42 : decode b_PG_init 42 = .ok (.putfield 25, 3) := by decide +kernel
theorem d_PG_init_45 : decode b_PG_init 45 = .ok (.return_, 1) := by decide +kernel
theorem d_PG_clear_0 : decode b_PG_clear 0 = .ok (.iconst 0, 1) := by decide +kernel
theorem d_PG_clear_1 : decode b_PG_clear 1 = .ok (.istore_n 1, 1) := by decide +kernel
theorem d_PG_clear_2 : decode b_PG_clear 2 = .ok (.iload_n 1, 1) := by decide +kernel
theorem d_PG_clear_3 : decode b_PG_clear 3 = .ok (.bipush 73, 2) := by decide +kernel
theorem d_PG_clear_5 : decode b_PG_clear 5 = .ok (.if_icmp .ge 23, 3) := by decide +kernel
theorem d_PG_clear_8 : decode b_PG_clear 8 = .ok (.aload_n 0, 1) := by decide +kernel
theorem d_PG_clear_9 : decode b_PG_clear 9 = .ok (.getfield 11, 3) := by decide +kernel
theorem d_PG_clear_12 : decode b_PG_clear 12 = .ok (.iload_n 1, 1) := by decide +kernel
theorem d_PG_clear_13 : decode b_PG_clear 13 = .ok (.iconst 0, 1) := by decide +kernel
theorem d_PG_clear_14 : decode b_PG_clear 14 = .ok (.bastore, 1) := by decide +kernel
theorem d_PG_clear_15 : decode b_PG_clear 15 = .ok (.aload_n 0, 1) := by decide +kernel
theorem d_PG_clear_16 : decode b_PG_clear 16 = .ok (.getfield 15, 3) := by decide +kernel
theorem d_PG_clear_19 : decode b_PG_clear 19 = .ok (.iload_n 1, 1) := by decide +kernel
theorem d_PG_clear_20 : decode b_PG_clear 20 = .ok (.iconst 0, 1) := by decide +kernel
theorem d_PG_clear_21 : decode b_PG_clear 21 = .ok (.iastore, 1) := by decide +kernel
theorem d_PG_clear_22 : decode b_PG_clear 22 = .ok (.iinc 1 1, 3) := by decide +kernel
theorem d_PG_clear_25 : decode b_PG_clear 25 = .ok (.goto (-23), 3) := by decide +kernel
theorem d_PG_clear_28 : decode b_PG_clear 28 = .ok (.iconst 0, 1) := by decide +kernel
theorem d_PG_clear_29 : decode b_PG_clear 29 = .ok (.istore_n 1, 1) := by decide +kernel
theorem d_PG_clear_30 : decode b_PG_clear 30 = .ok (.iload_n 1, 1) := by decide +kernel
theorem d_PG_clear_31 : decode b_PG_clear 31 = .ok (.sipush 584, 3) := by decide +kernel
theorem d_PG_clear_34 : decode b_PG_clear 34 = .ok (.if_icmp .ge 16, 3) := by decide +kernel
theorem d_PG_clear_37 : decode b_PG_clear 37 = .ok (.aload_n 0, 1) := by decide +kernel
theorem d_PG_clear_38 : decode b_PG_clear 38 = .ok (.getfield 19, 3) := by decide +kernel
theorem d_PG_clear_41 : decode b_PG_clear 41 = .ok (.iload_n 1, 1) := by decide +kernel
theorem d_PG_clear_42 : decode b_PG_clear 42 = .ok (.iconst 0, 1) := by decide +kernel
theorem d_PG_clear_43 : decode b_PG_clear 43 = .ok (.iastore, 1) := by decide +kernel
theorem d_PG_clear_44 : decode b_PG_clear 44 = .ok (.iinc 1 1, 3) := by decide +kernel
theorem d_PG_clear_47 : decode b_PG_clear 47 = .ok (.goto (-17), 3) := by decide +kernel
theorem d_PG_clear_50 : decode b_PG_clear 50 = .ok (.aload_n 0, 1) := by decide +kernel
theorem d_PG_clear_51 : decode b_PG_clear 51 = .ok (.iconst 0, 1) := by decide +kernel
theorem d_PG_clear_52 : decode b_PG_clear 52 = .ok (.putfield 28, 3) := by decide +kernel
theorem d_PG_clear_55 : decode b_PG_clear 55 = .ok (.return_, 1) := by decide +kernel
theorem d_PG_markAll_0 : decode b_PG_markAll 0 = .ok (.iconst 0, 1) := by decide +kernel
theorem d_PG_markAll_1 : decode b_PG_markAll 1 = .ok (.istore_n 1, 1) := by decide +kernel
theorem d_PG_markAll_2 : decode b_PG_markAll 2 = .ok (.iload_n 1, 1) := by decide +kernel
theorem d_PG_markAll_3 : decode b_PG_markAll 3 = .ok (.bipush 73, 2) := by decide +kernel
theorem d_PG_markAll_5 : decode b_PG_markAll 5 = .ok (.if_icmp .ge 16, 3) := by decide +kernel
theorem d_PG_markAll_8 : decode b_PG_markAll 8 = .ok (.aload_n 0, 1) := by decide +kernel
theorem d_PG_markAll_9 : decode b_PG_markAll 9 = .ok (.getfield 11, 3) := by decide +kernel
theorem d_PG_markAll_12 : decode b_PG_markAll 12 = .ok (.iload_n 1, 1) := by decide +kernel
theorem d_PG_markAll_13 : decode b_PG_markAll 13 = .ok (.iconst 1, 1) := by decide +kernel
theorem d_PG_markAll_14 : decode b_PG_markAll 14 = .ok (.bastore, 1) := by decide +kernel
theorem d_PG_markAll_15 : decode b_PG_markAll 15 = .ok (.iinc 1 1, 3) := by decide +kernel
theorem d_PG_markAll_18 : decode b_PG_markAll 18 = .ok (.goto (-16), 3) := by decide +kernel
theorem d_PG_markAll_21 : decode b_PG_markAll 21 = .ok (.return_, 1) := by decide +kernel
theorem d_PG_markKeysOf_0 : decode b_PG_markKeysOf 0 = .ok (.iconst 0, 1) := by decide +kernel
theorem d_PG_markKeysOf_1 : decode b_PG_markKeysOf 1 = .ok (.istore_n 2, 1) := by decide +kernel
theorem d_PG_markKeysOf_2 : decode b_PG_markKeysOf 2 = .ok (.iload_n 2, 1) := by decide +kernel
theorem d_PG_markKeysOf_3 : decode b_PG_markKeysOf 3 = .ok (.sipush 512, 3) := by decide +kernel
theorem d_PG_markKeysOf_6 : decode b_PG_markKeysOf 6 = .ok (.if_icmp .ge 46, 3) := by decide +kernel
theorem d_PG_markKeysOf_9 : decode b_PG_markKeysOf 9 = .ok (.aload_n 1, 1) := by decide +kernel
theorem d_PG_markKeysOf_10 : decode b_PG_markKeysOf 10 = .ok (.iload_n 2, 1) := by decide +kernel
theorem d_PG_markKeysOf_11 : decode b_PG_markKeysOf 11 = .ok (.invokevirtual 32, 3) := by decide +kernel
theorem d_PG_markKeysOf_14 : decode b_PG_markKeysOf 14 = .ok (.ifCond .eq 32, 3) := by decide +kernel
theorem d_PG_markKeysOf_17 : decode b_PG_markKeysOf 17 = .ok (.iload_n 2, 1) := by decide +kernel
theorem d_PG_markKeysOf_18 : decode b_PG_markKeysOf 18 = .ok (.iconst 3, 1) := by decide +kernel
theorem d_PG_markKeysOf_19 : decode b_PG_markKeysOf 19 = .ok (.ishr, 1) := by decide +kernel
theorem d_PG_markKeysOf_20 : decode b_PG_markKeysOf 20 = .ok (.istore_n 3, 1) := by decide +kernel
theorem d_PG_markKeysOf_21 : decode b_PG_markKeysOf 21 = .ok (.aload_n 0, 1) := by decide +kernel
theorem d_PG_markKeysOf_22 : decode b_PG_markKeysOf 22 = .ok (.getfield 11, 3) := by decide +kernel
theorem d_PG_markKeysOf_25 : decode b_PG_markKeysOf 25 = .ok (.iload_n 3, 1) := by decide +kernel
theorem d_PG_markKeysOf_26 : decode b_PG_markKeysOf 26 = .ok (.iconst 1, 1) := by decide +kernel
theorem d_PG_markKeysOf_27 : decode b_PG_markKeysOf 27 = .ok (.bastore, 1) := by decide +kernel
theorem d_PG_markKeysOf_28 : decode b_PG_markKeysOf 28 = .ok (.aload_n 0, 1) := by decide +kernel
theorem d_PG_markKeysOf_29 : decode b_PG_markKeysOf 29 = .ok (.getfield 11, 3) := by decide +kernel
theorem d_PG_markKeysOf_32 : decode b_PG_markKeysOf 32 = .ok (.iload_n 3, 1) := by decide +kernel
theorem d_PG_markKeysOf_33 : decode b_PG_markKeysOf 33 = .ok (.invokestatic 38, 3) := by decide +kernel
theorem d_PG_markKeysOf_36 : decode b_PG_markKeysOf 36 = .ok (.iconst 1, 1) := by decide +kernel
theorem d_PG_markKeysOf_37 : decode b_PG_markKeysOf 37 = .ok (.bastore, 1) := by decide +kernel
theorem d_PG_markKeysOf_38 : decode b_PG_markKeysOf 38 = .ok (.aload_n 0, 1) := by decide +kernel
theorem d_PG_markKeysOf_39 : decode b_PG_markKeysOf 39 = .ok (.getfield 11, 3) := by decide +kernel
theorem d_PG_markKeysOf_42 : decode b_PG_markKeysOf 42 = .ok (.bipush 72, 2) := by decide +kernel
theorem d_PG_markKeysOf_44 : decode b_PG_markKeysOf 44 = .ok (.iconst 1, 1) := by decide +kernel
theorem d_PG_markKeysOf_45 : decode b_PG_markKeysOf 45 = .ok (.bastore, 1) := by decide +kernel
theorem d_PG_markKeysOf_46 : decode b_PG_markKeysOf 46 = .ok (.iinc 2 1, 3) := by decide +kernel
theorem d_PG_markKeysOf_49 : decode b_PG_markKeysOf 49 = .ok (.goto (-47), 3) := by decide +kernel
theorem d_PG_markKeysOf_52 : decode b_PG_markKeysOf 52 = .ok (.return_, 1) := by decide +kernel
theorem d_PG_readTree_0 : decode b_PG_readTree 0 = .ok (.iload_n 2, 1) := by decide +kernel
theorem d_PG_readTree_1 : decode b_PG_readTree 1 = .ok (.iconst (-1), 1) := by decide +kernel
theorem d_PG_readTree_2 : decode b_PG_readTree 2 = .ok (.if_icmp .ne 5, 3) := by decide +kernel
theorem d_PG_readTree_5 : decode b_PG_readTree 5 = .ok (.iconst 1, 1) := by decide +kernel
theorem d_PG_readTree_6 : decode b_PG_readTree 6 = .ok (.ireturn, 1) := by decide +kernel
theorem d_PG_readTree_7 : decode b_PG_readTree 7 = .ok (.aload_n 1, 1) := by decide +kernel
theorem d_PG_readTree_8 : decode b_PG_readTree 8 = .ok (.iload_n 2, 1) := by decide +kernel
theorem d_PG_readTree_9 : decode b_PG_readTree 9 = .ok (.iconst 4, 1) := by decide +kernel
theorem d_PG_readTree_10 : decode b_PG_readTree 10 = .ok (.invokevirtual 42, 3) := by decide +kernel
theorem d_PG_readTree_13 : decode b_PG_readTree 13 = .ok (.ifCond .eq 5, 3) := by decide +kernel
theorem d_PG_readTree_16 : decode b_PG_readTree 16 = .ok (.iconst 0, 1) := by decide +kernel
theorem d_PG_readTree_17 : decode b_PG_readTree 17 = .ok (.ireturn, 1) := by decide +kernel
theorem d_PG_readTree_18 : decode b_PG_readTree 18 = .ok (.aload_n 0, 1) := by decide +kernel
theorem d_PG_readTree_19 : decode b_PG_readTree 19 = .ok (.aload_n 1, 1) := by decide +kernel
theorem d_PG_readTree_20 : decode b_PG_readTree 20 = .ok (.iload_n 2, 1) := by decide +kernel
theorem d_PG_readTree_21 : decode b_PG_readTree 21 = .ok (.iconst 1, 1) := by decide +kernel
theorem d_PG_readTree_22 : decode b_PG_readTree 22 = .ok (.invokevirtual 48, 3) := by decide +kernel
theorem d_PG_readTree_25 : decode b_PG_readTree 25 = .ok (.putfield 28, 3) := by decide +kernel
theorem d_PG_readTree_28 : decode b_PG_readTree 28 = .ok (.aload_n 1, 1) := by decide +kernel
theorem d_PG_readTree_29 : decode b_PG_readTree 29 = .ok (.iload_n 2, 1) := by decide +kernel
theorem d_PG_readTree_30 : decode b_PG_readTree 30 = .ok (.iconst 0, 1) := by decide +kernel
theorem d_PG_readTree_31 : decode b_PG_readTree 31 = .ok (.invokevirtual 52, 3) := by decide +kernel
theorem d_PG_readTree_34 : decode b_PG_readTree 34 = .ok (.ifCond .ne 5, 3) := by decide +kernel
theorem d_PG_readTree_37 : decode b_PG_readTree 37 = .ok (.iconst 1, 1) := by decide +kernel
theorem d_PG_readTree_38 : decode b_PG_readTree 38 = .ok (.ireturn, 1) := by decide +kernel
theorem d_PG_readTree_39 : decode b_PG_readTree 39 = .ok (.aload_n 0, 1) := by decide +kernel
theorem d_PG_readTree_40 : decode b_PG_readTree 40 = .ok (.aload_n 1, 1) := by decide +kernel
theorem d_PG_readTree_41 : decode b_PG_readTree 41 = .ok (.bipush 72, 2) := by decide +kernel
theorem d_PG_readTree_43 : decode b_PG_readTree 43 = .ok (.aload_n 1, 1) := by decide +kernel
theorem d_PG_readTree_44 : decode b_PG_readTree 44 = .ok (.iload_n 2, 1) := by decide +kernel
theorem d_PG_readTree_45 : decode b_PG_readTree 45 = .ok (.iconst 0, 1) := by decide +kernel
theorem d_PG_readTree_46 : decode b_PG_readTree 46 = .ok (.invokevirtual 48, 3) := by decide +kernel
theorem d_PG_readTree_49 : decode b_PG_readTree 49 = .ok (.invokevirtual 55, 3) := by decide +kernel
theorem d_PG_readTree_52 : decode b_PG_readTree 52 = .ok (.ifCond .ne 5, 3) := by decide +kernel
theorem d_PG_readTree_55 : decode b_PG_readTree 55 = .ok (.iconst 0, 1) := by decide +kernel
theorem d_PG_readTree_56 : decode b_PG_readTree 56 = .ok (.ireturn, 1) := by decide +kernel
theorem d_PG_readTree_57 : decode b_PG_readTree 57 = .ok (.bipush 71, 2) := by decide +kernel
theorem d_PG_readTree_59 : decode b_PG_readTree 59 = .ok (.istore_n 3, 1) := by decide +kernel
theorem d_PG_readTree_60 : decode b_PG_readTree 60 = .ok (.iload_n 3, 1) := by decide +kernel
theorem d_PG_readTree_61 : decode b_PG_readTree 61 = .ok (.ifCond .lt 46, 3) := by decide +kernel
theorem d_PG_readTree_64 : decode b_PG_readTree 64 = .ok (.aload_n 0, 1) := by decide +kernel
theorem d_PG_readTree_65 : decode b_PG_readTree 65 = .ok (.getfield 11, 3) := by decide +kernel
theorem d_PG_readTree_68 : decode b_PG_readTree 68 = .ok (.iload_n 3, 1) := by decide +kernel
theorem d_PG_readTree_69 : decode b_PG_readTree 69 = .ok (.baload, 1) := by decide +kernel
theorem d_PG_readTree_70 : decode b_PG_readTree 70 = .ok (.ifCond .eq 31, 3) := by decide +kernel
theorem d_PG_readTree_73 : decode b_PG_readTree 73 = .ok (.aload_n 0, 1) := by decide +kernel
theorem d_PG_readTree_74 : decode b_PG_readTree 74 = .ok (.iload_n 3, 1) := by decide +kernel
theorem d_PG_readTree_75 : decode b_PG_readTree 75 = .ok (.invokevirtual 59, 3) := by decide +kernel
theorem d_PG_readTree_78 : decode b_PG_readTree 78 = .ok (.ifCond .eq 23, 3) := by decide +kernel
theorem d_PG_readTree_81 : decode b_PG_readTree 81 = .ok (.aload_n 0, 1) := by decide +kernel
theorem d_PG_readTree_82 : decode b_PG_readTree 82 = .ok (.aload_n 1, 1) := by decide +kernel
theorem d_PG_readTree_83 : decode b_PG_readTree 83 = .ok (.iload_n 3, 1) := by decide +kernel
theorem d_PG_readTree_84 : decode b_PG_readTree 84 = .ok (.aload_n 0, 1) := by decide +kernel
theorem d_PG_readTree_85 : decode b_PG_readTree 85 = .ok (.getfield 19, 3) := by decide +kernel
theorem d_PG_readTree_88 : decode b_PG_readTree 88 = .ok (.iload_n 3, 1) := by decide +kernel
theorem d_PG_readTree_89 : decode b_PG_readTree 89 = .ok (.invokestatic 62, 3) := by decide +kernel
theorem d_PG_readTree_92 : decode b_PG_readTree 92 = .ok (.iaload, 1) := by decide +kernel
theorem d_PG_readTree_93 : decode b_PG_readTree 93 = .ok (.invokevirtual 55, 3) := by decide +kernel
theorem d_PG_readTree_96 : decode b_PG_readTree 96 = .ok (.ifCond .ne 5, 3) := by decide +kernel
theorem d_PG_readTree_99 : decode b_PG_readTree 99 = .ok (.iconst 0, 1) := by decide +kernel
theorem d_PG_readTree_100 : decode b_PG_readTree 100 = .ok (.ireturn, 1) := by decide +kernel
theorem d_PG_readTree_101 : decode b_PG_readTree 101 = .ok (.iinc 3 (-1), 3) := by decide +kernel
theorem d_PG_readTree_104 : decode b_PG_readTree 104 = .ok (.goto (-44), 3) := by decide +kernel
theorem d_PG_readTree_107 : decode b_PG_readTree 107 = .ok (.iconst 1, 1) := by decide +kernel
theorem d_PG_readTree_108 : decode b_PG_readTree 108 = .ok (.ireturn, 1) := by decide +kernel
theorem d_PG_change_0 : decode b_PG_change 0 = .ok (.iconst 0, 1) := by decide +kernel
theorem d_PG_change_1 : decode b_PG_change 1 = .ok (.istore_n 2, 1) := by decide +kernel
theorem d_PG_change_2 : decode b_PG_change 2 = .ok (.iload_n 2, 1) := by decide +kernel
theorem d_PG_change_3 : decode b_PG_change 3 = .ok (.sipush 512, 3) := by decide +kernel
theorem d_PG_change_6 : decode b_PG_change 6 = .ok (.if_icmp .ge 80, 3) := by decide +kernel
theorem d_PG_change_9 : decode b_PG_change 9 = .ok (.aload_n 1, 1) := by decide +kernel
theorem d_PG_change_10 : decode b_PG_change 10 = .ok (.iload_n 2, 1) := by decide +kernel
theorem d_PG_change_11 : decode b_PG_change 11 = .ok (.invokevirtual 32, 3) := by decide +kernel
theorem d_PG_change_14 : decode b_PG_change 14 = .ok (.ifCond .eq 66, 3) := by decide +kernel
theorem d_PG_change_17 : decode b_PG_change 17 = .ok (.iload_n 2, 1) := by decide +kernel
theorem d_PG_change_18 : decode b_PG_change 18 = .ok (.iconst 3, 1) := by decide +kernel
theorem d_PG_change_19 : decode b_PG_change 19 = .ok (.ishr, 1) := by decide +kernel
theorem d_PG_change_20 : decode b_PG_change 20 = .ok (.istore_n 3, 1) := by decide +kernel
theorem d_PG_change_21 : decode b_PG_change 21 = .ok (.aload_n 0, 1) := by decide +kernel
theorem d_PG_change_22 : decode b_PG_change 22 = .ok (.iload_n 3, 1) := by decide +kernel
theorem d_PG_change_23 : decode b_PG_change 23 = .ok (.iload_n 2, 1) := by decide +kernel
theorem d_PG_change_24 : decode b_PG_change 24 = .ok (.bipush 7, 2) := by decide +kernel
theorem d_PG_change_26 : decode b_PG_change 26 = .ok (.iand, 1) := by decide +kernel
theorem d_PG_change_27 : decode b_PG_change 27 = .ok (.invokevirtual 65, 3) := by decide +kernel
theorem d_PG_change_30 : decode b_PG_change 30 = .ok (.istore 4, 2) := by decide +kernel
theorem d_PG_change_32 : decode b_PG_change 32 = .ok (.aload_n 0, 1) := by decide +kernel
theorem d_PG_change_33 : decode b_PG_change 33 = .ok (.iload_n 3, 1) := by decide +kernel
theorem d_PG_change_34 : decode b_PG_change 34 = .ok (.iload_n 2, 1) := by decide +kernel
theorem d_PG_change_35 : decode b_PG_change 35 = .ok (.bipush 7, 2) := by decide +kernel
theorem d_PG_change_37 : decode b_PG_change 37 = .ok (.iand, 1) := by decide +kernel
theorem d_PG_change_38 : decode b_PG_change 38 = .ok (.aload_n 1, 1) := by decide +kernel
theorem d_PG_change_39 : decode b_PG_change 39 = .ok (.iload_n 2, 1) := by decide +kernel
theorem d_PG_change_40 : decode b_PG_change 40 = .ok (.invokevirtual 68, 3) := by decide +kernel
theorem d_PG_change_43 : decode b_PG_change 43 = .ok (.ifCond .ne 7, 3) := by decide +kernel
theorem d_PG_change_46 : decode b_PG_change 46 = .ok (.iconst 1, 1) := by decide +kernel
theorem d_PG_change_47 : decode b_PG_change 47 = .ok (.goto 4, 3) := by decide +kernel
theorem d_PG_change_50 : decode b_PG_change 50 = .ok (.iconst 0, 1) := by decide +kernel
theorem d_PG_change_51 : decode b_PG_change 51 = .ok (.aload_n 1, 1) := by decide +kernel
theorem d_PG_change_52 : decode b_PG_change 52 = .ok (.iload_n 2, 1) := by decide +kernel
theorem d_PG_change_53 : decode b_PG_change 53 = .ok (.invokevirtual 71, 3) := by decide +kernel
theorem d_PG_change_56 : decode b_PG_change 56 = .ok (.invokevirtual 74, 3) := by decide +kernel
theorem d_PG_change_59 : decode b_PG_change 59 = .ok (.aload_n 0, 1) := by decide +kernel
theorem d_PG_change_60 : decode b_PG_change 60 = .ok (.dup, 1) := by decide +kernel
theorem d_PG_change_61 : decode b_PG_change 61 = .ok (.getfield 28, 3) := by decide +kernel
theorem d_PG_change_64 : decode b_PG_change 64 = .ok (.aload_n 0, 1) := by decide +kernel
theorem d_PG_change_65 : decode b_PG_change 65 = .ok (.iload_n 3, 1) := by decide +kernel
theorem d_PG_change_66 : decode b_PG_change 66 = .ok (.iload_n 2, 1) := by decide +kernel
theorem d_PG_change_67 : decode b_PG_change 67 = .ok (.bipush 7, 2) := by decide +kernel
theorem d_PG_change_69 : decode b_PG_change 69 = .ok (.iand, 1) := by decide +kernel
theorem d_PG_change_70 : decode b_PG_change 70 = .ok (.invokevirtual 65, 3) := by decide +kernel
theorem d_PG_change_73 : decode b_PG_change 73 = .ok (.iload 4, 2) := by decide +kernel
theorem d_PG_change_75 : decode b_PG_change 75 = .ok (.isub, 1) := by decide +kernel
theorem d_PG_change_76 : decode b_PG_change 76 = .ok (.iadd, 1) := by decide +kernel
theorem d_PG_change_77 : decode b_PG_change 77 = .ok (.putfield 28, 3) := by decide +kernel
theorem d_PG_change_80 : decode b_PG_change 80 = .ok (.iinc 2 1, 3) := by decide +kernel
theorem d_PG_change_83 : decode b_PG_change 83 = .ok (.goto (-81), 3) := by decide +kernel
theorem d_PG_change_86 : decode b_PG_change 86 = .ok (.return_, 1) := by decide +kernel
theorem d_PG_place_0 : decode b_PG_place 0 = .ok (.iload_n 1, 1) := by decide +kernel
theorem d_PG_place_1 : decode b_PG_place 1 = .ok (.istore_n 2, 1) := by decide +kernel
theorem d_PG_place_2 : decode b_PG_place 2 = .ok (.iconst 0, 1) := by decide +kernel
theorem d_PG_place_3 : decode b_PG_place 3 = .ok (.istore_n 3, 1) := by decide +kernel
theorem d_PG_place_4 : decode b_PG_place 4 = .ok (.iload_n 3, 1) := by decide +kernel
theorem d_PG_place_5 : decode b_PG_place 5 = .ok (.bipush 73, 2) := by decide +kernel
theorem d_PG_place_7 : decode b_PG_place 7 = .ok (.if_icmp .ge 89, 3) := by decide +kernel
theorem d_PG_place_10 : decode b_PG_place 10 = .ok (.aload_n 0, 1) := by decide +kernel
theorem d_PG_place_11 : decode b_PG_place 11 = .ok (.getfield 11, 3) := by decide +kernel
theorem d_PG_place_14 : decode b_PG_place 14 = .ok (.iload_n 3, 1) := by decide +kernel
theorem d_PG_place_15 : decode b_PG_place 15 = .ok (.baload, 1) := by decide +kernel
theorem d_PG_place_16 : decode b_PG_place 16 = .ok (.ifCond .eq 74, 3) := by decide +kernel
theorem d_PG_place_19 : decode b_PG_place 19 = .ok (.aload_n 0, 1) := by decide +kernel
theorem d_PG_place_20 : decode b_PG_place 20 = .ok (.getfield 15, 3) := by decide +kernel
theorem d_PG_place_23 : decode b_PG_place 23 = .ok (.iload_n 3, 1) := by decide +kernel
theorem d_PG_place_24 : decode b_PG_place 24 = .ok (.iaload, 1) := by decide +kernel
theorem d_PG_place_25 : decode b_PG_place 25 = .ok (.ifCond .eq 7, 3) := by decide +kernel
theorem d_PG_place_28 : decode b_PG_place 28 = .ok (.iconst 1, 1) := by decide +kernel
theorem d_PG_place_29 : decode b_PG_place 29 = .ok (.goto 4, 3) := by decide +kernel
theorem d_PG_place_32 : decode b_PG_place 32 = .ok (.iconst 0, 1) := by decide +kernel
theorem d_PG_place_33 : decode b_PG_place 33 = .ok (.istore 4, 2) := by decide +kernel
theorem d_PG_place_35 : decode b_PG_place 35 = .ok (.aload_n 0, 1) := by decide +kernel
theorem d_PG_place_36 : decode b_PG_place 36 = .ok (.getfield 22, 3) := by decide +kernel
theorem d_PG_place_39 : decode b_PG_place 39 = .ok (.iload_n 3, 1) := by decide +kernel
theorem d_PG_place_40 : decode b_PG_place 40 = .ok (.iload 4, 2) := by decide +kernel
theorem d_PG_place_42 : decode b_PG_place 42 = .ok (.ifCond .eq 7, 3) := by decide +kernel
theorem d_PG_place_45 : decode b_PG_place 45 = .ok (.iload_n 2, 1) := by decide +kernel
theorem d_PG_place_46 : decode b_PG_place 46 = .ok (.goto 4, 3) := by decide +kernel
theorem d_PG_place_49 : decode b_PG_place 49 = .ok (.iconst 0, 1) := by decide +kernel
theorem d_PG_place_50 : decode b_PG_place 50 = .ok (.iastore, 1) := by decide +kernel
theorem d_PG_place_51 : decode b_PG_place 51 = .ok (.iload_n 2, 1) := by decide +kernel
theorem d_PG_place_52 : decode b_PG_place 52 = .ok (.iload 4, 2) := by decide +kernel
theorem d_PG_place_54 : decode b_PG_place 54 = .ok (.ifCond .eq 7, 3) := by decide +kernel
theorem d_PG_place_57 : decode b_PG_place 57 = .ok (.iconst 1, 1) := by decide +kernel
theorem d_PG_place_58 : decode b_PG_place 58 = .ok (.goto 4, 3) := by decide +kernel
theorem d_PG_place_61 : decode b_PG_place 61 = .ok (.iconst 0, 1) := by decide +kernel
theorem d_PG_place_62 : decode b_PG_place 62 = .ok (.iadd, 1) := by decide +kernel
theorem d_PG_place_63 : decode b_PG_place 63 = .ok (.istore_n 2, 1) := by decide +kernel
theorem d_PG_place_64 : decode b_PG_place 64 = .ok (.iload_n 3, 1) := by decide +kernel
theorem d_PG_place_65 : decode b_PG_place 65 = .ok (.bipush 72, 2) := by decide +kernel
theorem d_PG_place_67 : decode b_PG_place 67 = .ok (.if_icmp .ge 23, 3) := by decide +kernel
theorem d_PG_place_70 : decode b_PG_place 70 = .ok (.aload_n 0, 1) := by decide +kernel
theorem d_PG_place_71 : decode b_PG_place 71 = .ok (.iload_n 3, 1) := by decide +kernel
theorem d_PG_place_72 : decode b_PG_place 72 = .ok (.invokestatic 38, 3) := by decide +kernel
theorem d_PG_place_75 : decode b_PG_place 75 = .ok (.iload_n 3, 1) := by decide +kernel
theorem d_PG_place_76 : decode b_PG_place 76 = .ok (.bipush 7, 2) := by decide +kernel
theorem d_PG_place_78 : decode b_PG_place 78 = .ok (.iand, 1) := by decide +kernel
theorem d_PG_place_79 : decode b_PG_place 79 = .ok (.iload 4, 2) := by decide +kernel
theorem d_PG_place_81 : decode b_PG_place 81 = .ok (.aload_n 0, 1) := by decide +kernel
theorem d_PG_place_82 : decode b_PG_place 82 = .ok (.getfield 22, 3) := by decide +kernel
theorem d_PG_place_85 : decode b_PG_place 85 = .ok (.iload_n 3, 1) := by decide +kernel
theorem d_PG_place_86 : decode b_PG_place 86 = .ok (.iaload, 1) := by decide +kernel
theorem d_PG_place_87 : decode b_PG_place 87 = .ok (.invokevirtual 74, 3) := by decide +kernel
theorem d_PG_place_90 : decode b_PG_place 90 = .ok (.iinc 3 1, 3) := by decide +kernel
theorem d_PG_place_93 : decode b_PG_place 93 = .ok (.goto (-89), 3) := by decide +kernel
theorem d_PG_place_96 : decode b_PG_place 96 = .ok (.iload_n 2, 1) := by decide +kernel
theorem d_PG_place_97 : decode b_PG_place 97 = .ok (.ireturn, 1) := by decide +kernel
theorem d_PG_writeTree_0 : decode b_PG_writeTree 0 = .ok (.iconst 0, 1) := by decide +kernel
theorem d_PG_writeTree_1 : decode b_PG_writeTree 1 = .ok (.istore_n 3, 1) := by decide +kernel
theorem d_PG_writeTree_2 : decode b_PG_writeTree 2 = .ok (.iload_n 3, 1) := by decide +kernel
theorem d_PG_writeTree_3 : decode b_PG_writeTree 3 = .ok (.bipush 73, 2) := by decide +kernel
theorem d_PG_writeTree_5 : decode b_PG_writeTree 5 = .ok (.if_icmp .ge 61, 3) := by decide +kernel
theorem d_PG_writeTree_8 : decode b_PG_writeTree 8 = .ok (.aload_n 0, 1) := by decide +kernel
theorem d_PG_writeTree_9 : decode b_PG_writeTree 9 = .ok (.getfield 11, 3) := by decide +kernel
theorem d_PG_writeTree_12 : decode b_PG_writeTree 12 = .ok (.iload_n 3, 1) := by decide +kernel
theorem d_PG_writeTree_13 : decode b_PG_writeTree 13 = .ok (.baload, 1) := by decide +kernel
theorem d_PG_writeTree_14 : decode b_PG_writeTree 14 = .ok (.ifCond .eq 46, 3) := by decide +kernel
theorem d_PG_writeTree_17 : decode b_PG_writeTree 17 = .ok (.aload_n 0, 1) := by decide +kernel
theorem d_PG_writeTree_18 : decode b_PG_writeTree 18 = .ok (.getfield 15, 3) := by decide +kernel
theorem d_PG_writeTree_21 : decode b_PG_writeTree 21 = .ok (.iload_n 3, 1) := by decide +kernel
theorem d_PG_writeTree_22 : decode b_PG_writeTree 22 = .ok (.iaload, 1) := by decide +kernel
theorem d_PG_writeTree_23 : decode b_PG_writeTree 23 = .ok (.ifCond .eq 37, 3) := by decide +kernel
theorem d_PG_writeTree_26 : decode b_PG_writeTree 26 = .ok (.aload_n 1, 1) := by decide +kernel
theorem d_PG_writeTree_27 : decode b_PG_writeTree 27 = .ok (.aload_n 0, 1) := by decide +kernel
theorem d_PG_writeTree_28 : decode b_PG_writeTree 28 = .ok (.getfield 22, 3) := by decide +kernel
theorem d_PG_writeTree_31 : decode b_PG_writeTree 31 = .ok (.iload_n 3, 1) := by decide +kernel
theorem d_PG_writeTree_32 : decode b_PG_writeTree 32 = .ok (.iaload, 1) := by decide +kernel
theorem d_PG_writeTree_33 : decode b_PG_writeTree 33 = .ok (.iload_n 3, 1) := by decide +kernel
theorem d_PG_writeTree_34 : decode b_PG_writeTree 34 = .ok (.invokestatic 78, 3) := by decide +kernel
theorem d_PG_writeTree_37 : decode b_PG_writeTree 37 = .ok (.aload_n 0, 1) := by decide +kernel
theorem d_PG_writeTree_38 : decode b_PG_writeTree 38 = .ok (.getfield 15, 3) := by decide +kernel
theorem d_PG_writeTree_41 : decode b_PG_writeTree 41 = .ok (.iload_n 3, 1) := by decide +kernel
theorem d_PG_writeTree_42 : decode b_PG_writeTree 42 = .ok (.iaload, 1) := by decide +kernel
theorem d_PG_writeTree_43 : decode b_PG_writeTree 43 = .ok (.iload_n 2, 1) := by decide +kernel
theorem d_PG_writeTree_44 : decode b_PG_writeTree 44 = .ok (.aload_n 0, 1) := by decide +kernel
theorem d_PG_writeTree_45 : decode b_PG_writeTree 45 = .ok (.getfield 19, 3) := by decide +kernel
theorem d_PG_writeTree_48 : decode b_PG_writeTree 48 = .ok (.iload_n 3, 1) := by decide +kernel
theorem d_PG_writeTree_49 : decode b_PG_writeTree 49 = .ok (.bipush 8, 2) := by decide +kernel
theorem d_PG_writeTree_51 : decode b_PG_writeTree 51 = .ok (.imul, 1) := by decide +kernel
theorem d_PG_writeTree_52 : decode b_PG_writeTree 52 = .ok (.invokevirtual 81, 3) := by decide +kernel
theorem d_PG_writeTree_55 : decode b_PG_writeTree 55 = .ok (.ifCond .ne 5, 3) := by decide +kernel
theorem d_PG_writeTree_58 : decode b_PG_writeTree 58 = .ok (.iconst 0, 1) := by decide +kernel
theorem d_PG_writeTree_59 : decode b_PG_writeTree 59 = .ok (.ireturn, 1) := by decide +kernel
theorem d_PG_writeTree_60 : decode b_PG_writeTree 60 = .ok (.iinc 3 1, 3) := by decide +kernel
theorem d_PG_writeTree_63 : decode b_PG_writeTree 63 = .ok (.goto (-61), 3) := by decide +kernel
theorem d_PG_writeTree_66 : decode b_PG_writeTree 66 = .ok (.iconst 1, 1) := by decide +kernel
theorem d_PG_writeTree_67 : decode b_PG_writeTree 67 = .ok (.ireturn, 1) := by decide +kernel
theorem d_PG_writeRoot_0 : decode b_PG_writeRoot 0 = .ok (.aload_n 0, 1) := by decide +kernel
theorem d_PG_writeRoot_1 : decode b_PG_writeRoot 1 = .ok (.getfield 25, 3) := by decide +kernel
theorem d_PG_writeRoot_4 : decode b_PG_writeRoot 4 = .ok (.iconst 0, 1) := by decide +kernel
theorem d_PG_writeRoot_5 : decode b_PG_writeRoot 5 = .ok (.aload_n 0, 1) := by decide +kernel
theorem d_PG_writeRoot_6 : decode b_PG_writeRoot 6 = .ok (.getfield 22, 3) := by decide +kernel
theorem d_PG_writeRoot_9 : decode b_PG_writeRoot 9 = .ok (.bipush 72, 2) := by decide +kernel
theorem d_PG_writeRoot_11 : decode b_PG_writeRoot 11 = .ok (.iaload, 1) := by decide +kernel
theorem d_PG_writeRoot_12 : decode b_PG_writeRoot 12 = .ok (.iastore, 1) := by decide +kernel
theorem d_PG_writeRoot_13 : decode b_PG_writeRoot 13 = .ok (.aload_n 0, 1) := by decide +kernel
theorem d_PG_writeRoot_14 : decode b_PG_writeRoot 14 = .ok (.getfield 25, 3) := by decide +kernel
theorem d_PG_writeRoot_17 : decode b_PG_writeRoot 17 = .ok (.iconst 1, 1) := by decide +kernel
theorem d_PG_writeRoot_18 : decode b_PG_writeRoot 18 = .ok (.aload_n 0, 1) := by decide +kernel
theorem d_PG_writeRoot_19 : decode b_PG_writeRoot 19 = .ok (.getfield 28, 3) := by decide +kernel
theorem d_PG_writeRoot_22 : decode b_PG_writeRoot 22 = .ok (.iastore, 1) := by decide +kernel
theorem d_PG_writeRoot_23 : decode b_PG_writeRoot 23 = .ok (.aload_n 0, 1) := by decide +kernel
theorem d_PG_writeRoot_24 : decode b_PG_writeRoot 24 = .ok (.getfield 25, 3) := by decide +kernel
theorem d_PG_writeRoot_27 : decode b_PG_writeRoot 27 = .ok (.iconst 2, 1) := by decide +kernel
theorem d_PG_writeRoot_28 : decode b_PG_writeRoot 28 = .ok (.iload 4, 2) := by decide +kernel
theorem d_PG_writeRoot_30 : decode b_PG_writeRoot 30 = .ok (.iastore, 1) := by decide +kernel
theorem d_PG_writeRoot_31 : decode b_PG_writeRoot 31 = .ok (.aload_n 1, 1) := by decide +kernel
theorem d_PG_writeRoot_32 : decode b_PG_writeRoot 32 = .ok (.iload_n 3, 1) := by decide +kernel
theorem d_PG_writeRoot_33 : decode b_PG_writeRoot 33 = .ok (.iconst 4, 1) := by decide +kernel
theorem d_PG_writeRoot_34 : decode b_PG_writeRoot 34 = .ok (.aload_n 0, 1) := by decide +kernel
theorem d_PG_writeRoot_35 : decode b_PG_writeRoot 35 = .ok (.getfield 15, 3) := by decide +kernel
theorem d_PG_writeRoot_38 : decode b_PG_writeRoot 38 = .ok (.bipush 72, 2) := by decide +kernel
theorem d_PG_writeRoot_40 : decode b_PG_writeRoot 40 = .ok (.iaload, 1) := by decide +kernel
theorem d_PG_writeRoot_41 : decode b_PG_writeRoot 41 = .ok (.ifCond .ne 7, 3) := by decide +kernel
theorem d_PG_writeRoot_44 : decode b_PG_writeRoot 44 = .ok (.iconst 0, 1) := by decide +kernel
theorem d_PG_writeRoot_45 : decode b_PG_writeRoot 45 = .ok (.goto 4, 3) := by decide +kernel
theorem d_PG_writeRoot_48 : decode b_PG_writeRoot 48 = .ok (.iconst 1, 1) := by decide +kernel
theorem d_PG_writeRoot_49 : decode b_PG_writeRoot 49 = .ok (.iload_n 2, 1) := by decide +kernel
theorem d_PG_writeRoot_50 : decode b_PG_writeRoot 50 = .ok (.aload_n 0, 1) := by decide +kernel
theorem d_PG_writeRoot_51 : decode b_PG_writeRoot 51 = .ok (.getfield 25, 3) := by decide +kernel
theorem d_PG_writeRoot_54 : decode b_PG_writeRoot 54 = .ok (.iconst 0, 1) := by decide +kernel
theorem d_PG_writeRoot_55 : decode b_PG_writeRoot 55 = .ok (.invokevirtual 81, 3) := by decide +kernel
theorem d_PG_writeRoot_58 : decode b_PG_writeRoot 58 = .ok (.ireturn, 1) := by decide +kernel
theorem d_PG_readPage_0 : decode b_PG_readPage 0 = .ok (.aload_n 1, 1) := by decide +kernel
theorem d_PG_readPage_1 : decode b_PG_readPage 1 = .ok (.iload_n 3, 1) := by decide +kernel
theorem d_PG_readPage_2 : decode b_PG_readPage 2 = .ok (.iload_n 2, 1) := by decide +kernel
theorem d_PG_readPage_3 : decode b_PG_readPage 3 = .ok (.invokestatic 78, 3) := by decide +kernel
theorem d_PG_readPage_6 : decode b_PG_readPage 6 = .ok (.invokevirtual 42, 3) := by decide +kernel
theorem d_PG_readPage_9 : decode b_PG_readPage 9 = .ok (.ifCond .eq 5, 3) := by decide +kernel
theorem d_PG_readPage_12 : decode b_PG_readPage 12 = .ok (.iconst 0, 1) := by decide +kernel
theorem d_PG_readPage_13 : decode b_PG_readPage 13 = .ok (.ireturn, 1) := by decide +kernel
theorem d_PG_readPage_14 : decode b_PG_readPage 14 = .ok (.iconst 0, 1) := by decide +kernel
theorem d_PG_readPage_15 : decode b_PG_readPage 15 = .ok (.istore 4, 2) := by decide +kernel
theorem d_PG_readPage_17 : decode b_PG_readPage 17 = .ok (.iload 4, 2) := by decide +kernel
theorem d_PG_readPage_19 : decode b_PG_readPage 19 = .ok (.bipush 8, 2) := by decide +kernel
theorem d_PG_readPage_21 : decode b_PG_readPage 21 = .ok (.if_icmp .ge 30, 3) := by decide +kernel
theorem d_PG_readPage_24 : decode b_PG_readPage 24 = .ok (.aload_n 0, 1) := by decide +kernel
theorem d_PG_readPage_25 : decode b_PG_readPage 25 = .ok (.iload_n 2, 1) := by decide +kernel
theorem d_PG_readPage_26 : decode b_PG_readPage 26 = .ok (.iload 4, 2) := by decide +kernel
theorem d_PG_readPage_28 : decode b_PG_readPage 28 = .ok (.aload_n 1, 1) := by decide +kernel
theorem d_PG_readPage_29 : decode b_PG_readPage 29 = .ok (.iload_n 3, 1) := by decide +kernel
theorem d_PG_readPage_30 : decode b_PG_readPage 30 = .ok (.iload 4, 2) := by decide +kernel
theorem d_PG_readPage_32 : decode b_PG_readPage 32 = .ok (.invokevirtual 52, 3) := by decide +kernel
theorem d_PG_readPage_35 : decode b_PG_readPage 35 = .ok (.aload_n 1, 1) := by decide +kernel
theorem d_PG_readPage_36 : decode b_PG_readPage 36 = .ok (.iload_n 3, 1) := by decide +kernel
theorem d_PG_readPage_37 : decode b_PG_readPage 37 = .ok (.iload 4, 2) := by decide +kernel
theorem d_PG_readPage_39 : decode b_PG_readPage 39 = .ok (.invokevirtual 48, 3) := by decide +kernel
theorem d_PG_readPage_42 : decode b_PG_readPage 42 = .ok (.invokevirtual 74, 3) := by decide +kernel
theorem d_PG_readPage_45 : decode b_PG_readPage 45 = .ok (.iinc 4 1, 3) := by decide +kernel
theorem d_PG_readPage_48 : decode b_PG_readPage 48 = .ok (.goto (-31), 3) := by decide +kernel
theorem d_PG_readPage_51 : decode b_PG_readPage 51 = .ok (.iconst 1, 1) := by decide +kernel
theorem d_PG_readPage_52 : decode b_PG_readPage 52 = .ok (.ireturn, 1) := by decide +kernel
theorem d_PG_setEntry_0 : decode b_PG_setEntry 0 = .ok (.iconst 1, 1) := by decide +kernel
theorem d_PG_setEntry_1 : decode b_PG_setEntry 1 = .ok (.iload_n 2, 1) := by decide +kernel
theorem d_PG_setEntry_2 : decode b_PG_setEntry 2 = .ok (.ishl, 1) := by decide +kernel
theorem d_PG_setEntry_3 : decode b_PG_setEntry 3 = .ok (.istore 5, 2) := by decide +kernel
theorem d_PG_setEntry_5 : decode b_PG_setEntry 5 = .ok (.aload_n 0, 1) := by decide +kernel
theorem d_PG_setEntry_6 : decode b_PG_setEntry 6 = .ok (.getfield 15, 3) := by decide +kernel
theorem d_PG_setEntry_9 : decode b_PG_setEntry 9 = .ok (.iload_n 1, 1) := by decide +kernel
theorem d_PG_setEntry_10 : decode b_PG_setEntry 10 = .ok (.iload_n 3, 1) := by decide +kernel
theorem d_PG_setEntry_11 : decode b_PG_setEntry 11 = .ok (.ifCond .eq 15, 3) := by decide +kernel
theorem d_PG_setEntry_14 : decode b_PG_setEntry 14 = .ok (.aload_n 0, 1) := by decide +kernel
theorem d_PG_setEntry_15 : decode b_PG_setEntry 15 = .ok (.getfield 15, 3) := by decide +kernel
theorem d_PG_setEntry_18 : decode b_PG_setEntry 18 = .ok (.iload_n 1, 1) := by decide +kernel
theorem d_PG_setEntry_19 : decode b_PG_setEntry 19 = .ok (.iaload, 1) := by decide +kernel
theorem d_PG_setEntry_20 : decode b_PG_setEntry 20 = .ok (.iload 5, 2) := by decide +kernel
theorem d_PG_setEntry_22 : decode b_PG_setEntry 22 = .ok (.ior, 1) := by decide +kernel
theorem d_PG_setEntry_23 : decode b_PG_setEntry 23 = .ok (.goto 14, 3) := by decide +kernel
theorem d_PG_setEntry_26 : decode b_PG_setEntry 26 = .ok (.aload_n 0, 1) := by decide +kernel
theorem d_PG_setEntry_27 : decode b_PG_setEntry 27 = .ok (.getfield 15, 3) := by decide +kernel
theorem d_PG_setEntry_30 : decode b_PG_setEntry 30 = .ok (.iload_n 1, 1) := by decide +kernel
theorem d_PG_setEntry_31 : decode b_PG_setEntry 31 = .ok (.iaload, 1) := by decide +kernel
theorem d_PG_setEntry_32 : decode b_PG_setEntry 32 = .ok (.iload 5, 2) := by decide +kernel
theorem d_PG_setEntry_34 : decode b_PG_setEntry 34 = .ok (.iconst (-1), 1) := by decide +kernel
theorem d_PG_setEntry_35 : decode b_PG_setEntry 35 = .ok (.ixor, 1) := by decide +kernel
theorem d_PG_setEntry_36 : decode b_PG_setEntry 36 = .ok (.iand, 1) := by decide +kernel
theorem d_PG_setEntry_37 : decode b_PG_setEntry 37 = .ok (.iastore, 1) := by decide +kernel
theorem d_PG_setEntry_38 : decode b_PG_setEntry 38 = .ok (.aload_n 0, 1) := by decide +kernel
theorem d_PG_setEntry_39 : decode b_PG_setEntry 39 = .ok (.getfield 19, 3) := by decide +kernel
theorem d_PG_setEntry_42 : decode b_PG_setEntry 42 = .ok (.iload_n 1, 1) := by decide +kernel
theorem d_PG_setEntry_43 : decode b_PG_setEntry 43 = .ok (.bipush 8, 2) := by decide +kernel
theorem d_PG_setEntry_45 : decode b_PG_setEntry 45 = .ok (.imul, 1) := by decide +kernel
theorem d_PG_setEntry_46 : decode b_PG_setEntry 46 = .ok (.iload_n 2, 1) := by decide +kernel
theorem d_PG_setEntry_47 : decode b_PG_setEntry 47 = .ok (.iadd, 1) := by decide +kernel
theorem d_PG_setEntry_48 : decode b_PG_setEntry 48 = .ok (.iload_n 3, 1) := by decide +kernel
theorem d_PG_setEntry_49 : decode b_PG_setEntry 49 = .ok (.ifCond .eq 8, 3) := by decide +kernel
theorem d_PG_setEntry_52 : decode b_PG_setEntry 52 = .ok (.iload 4, 2) := by decide +kernel
theorem d_PG_setEntry_54 : decode b_PG_setEntry 54 = .ok (.goto 4, 3) := by decide +kernel
theorem d_PG_setEntry_57 : decode b_PG_setEntry 57 = .ok (.iconst 0, 1) := by decide +kernel
theorem d_PG_setEntry_58 : decode b_PG_setEntry 58 = .ok (.iastore, 1) := by decide +kernel
theorem d_PG_setEntry_59 : decode b_PG_setEntry 59 = .ok (.return_, 1) := by decide +kernel
theorem d_PG_bitOf_0 : decode b_PG_bitOf 0 = .ok (.aload_n 0, 1) := by decide +kernel
theorem d_PG_bitOf_1 : decode b_PG_bitOf 1 = .ok (.getfield 15, 3) := by decide +kernel
theorem d_PG_bitOf_4 : decode b_PG_bitOf 4 = .ok (.iload_n 1, 1) := by decide +kernel
theorem d_PG_bitOf_5 : decode b_PG_bitOf 5 = .ok (.iaload, 1) := by decide +kernel
theorem d_PG_bitOf_6 : decode b_PG_bitOf 6 = .ok (.iload_n 2, 1) := by decide +kernel
theorem d_PG_bitOf_7 : decode b_PG_bitOf 7 = .ok (.ishr, 1) := by decide +kernel
theorem d_PG_bitOf_8 : decode b_PG_bitOf 8 = .ok (.iconst 1, 1) := by decide +kernel
theorem d_PG_bitOf_9 : decode b_PG_bitOf 9 = .ok (.iand, 1) := by decide +kernel
theorem d_PG_bitOf_10 : decode b_PG_bitOf 10 = .ok (.ireturn, 1) := by decide +kernel
theorem d_PG_isInParent_0 : decode b_PG_isInParent 0 = .ok (.aload_n 0, 1) := by decide +kernel
theorem d_PG_isInParent_1 : decode b_PG_isInParent 1 = .ok (.iload_n 1, 1) := by decide +kernel
theorem d_PG_isInParent_2 : decode b_PG_isInParent 2 = .ok (.invokestatic 38, 3) := by decide +kernel
theorem d_PG_isInParent_5 : decode b_PG_isInParent 5 = .ok (.iload_n 1, 1) := by decide +kernel
theorem d_PG_isInParent_6 : decode b_PG_isInParent 6 = .ok (.bipush 7, 2) := by decide +kernel
theorem d_PG_isInParent_8 : decode b_PG_isInParent 8 = .ok (.iand, 1) := by decide +kernel
theorem d_PG_isInParent_9 : decode b_PG_isInParent 9 = .ok (.invokevirtual 65, 3) := by decide +kernel
theorem d_PG_isInParent_12 : decode b_PG_isInParent 12 = .ok (.iconst 1, 1) := by decide +kernel
theorem d_PG_isInParent_13 : decode b_PG_isInParent 13 = .ok (.if_icmp .ne 7, 3) := by decide +kernel
theorem d_PG_isInParent_16 : decode b_PG_isInParent 16 = .ok (.iconst 1, 1) := by decide +kernel
theorem d_PG_isInParent_17 : decode b_PG_isInParent 17 = .ok (.goto 4, 3) := by decide +kernel
theorem d_PG_isInParent_20 : decode b_PG_isInParent 20 = .ok (.iconst 0, 1) := by decide +kernel
theorem d_PG_isInParent_21 : decode b_PG_isInParent 21 = .ok (.ireturn, 1) := by decide +kernel
theorem d_PG_parentOf_0 : decode b_PG_parentOf 0 = .ok (.bipush 64, 2) := by decide +kernel
theorem d_PG_parentOf_2 : decode b_PG_parentOf 2 = .ok (.iload_n 0, 1) := by decide +kernel
theorem d_PG_parentOf_3 : decode b_PG_parentOf 3 = .ok (.iconst 3, 1) := by decide +kernel
theorem d_PG_parentOf_4 : decode b_PG_parentOf 4 = .ok (.ishr, 1) := by decide +kernel
theorem d_PG_parentOf_5 : decode b_PG_parentOf 5 = .ok (.iadd, 1) := by decide +kernel
theorem d_PG_parentOf_6 : decode b_PG_parentOf 6 = .ok (.ireturn, 1) := by decide +kernel
theorem d_PG_placeInParent_0 : decode b_PG_placeInParent 0 = .ok (.iload_n 0, 1) := by decide +kernel
theorem d_PG_placeInParent_1 : decode b_PG_placeInParent 1 = .ok (.invokestatic 38, 3) := by decide +kernel
theorem d_PG_placeInParent_4 : decode b_PG_placeInParent 4 = .ok (.bipush 8, 2) := by decide +kernel
theorem d_PG_placeInParent_6 : decode b_PG_placeInParent 6 = .ok (.imul, 1) := by decide +kernel
theorem d_PG_placeInParent_7 : decode b_PG_placeInParent 7 = .ok (.iload_n 0, 1) := by decide +kernel
theorem d_PG_placeInParent_8 : decode b_PG_placeInParent 8 = .ok (.bipush 7, 2) := by decide +kernel
theorem d_PG_placeInParent_10 : decode b_PG_placeInParent 10 = .ok (.iand, 1) := by decide +kernel
theorem d_PG_placeInParent_11 : decode b_PG_placeInParent 11 = .ok (.iadd, 1) := by decide +kernel
theorem d_PG_placeInParent_12 : decode b_PG_placeInParent 12 = .ok (.ireturn, 1) := by decide +kernel
theorem d_PG_kindOf_0 : decode b_PG_kindOf 0 = .ok (.iload_n 0, 1) := by decide +kernel
theorem d_PG_kindOf_1 : decode b_PG_kindOf 1 = .ok (.bipush 72, 2) := by decide +kernel
theorem d_PG_kindOf_3 : decode b_PG_kindOf 3 = .ok (.if_icmp .ne 5, 3) := by decide +kernel
theorem d_PG_kindOf_6 : decode b_PG_kindOf 6 = .ok (.iconst 3, 1) := by decide +kernel
theorem d_PG_kindOf_7 : decode b_PG_kindOf 7 = .ok (.ireturn, 1) := by decide +kernel
theorem d_PG_kindOf_8 : decode b_PG_kindOf 8 = .ok (.iload_n 0, 1) := by decide +kernel
theorem d_PG_kindOf_9 : decode b_PG_kindOf 9 = .ok (.bipush 64, 2) := by decide +kernel
theorem d_PG_kindOf_11 : decode b_PG_kindOf 11 = .ok (.if_icmp .ge 7, 3) := by decide +kernel
theorem d_PG_kindOf_14 : decode b_PG_kindOf 14 = .ok (.iconst 1, 1) := by decide +kernel
theorem d_PG_kindOf_15 : decode b_PG_kindOf 15 = .ok (.goto 4, 3) := by decide +kernel
theorem d_PG_kindOf_18 : decode b_PG_kindOf 18 = .ok (.iconst 2, 1) := by decide +kernel
theorem d_PG_kindOf_19 : decode b_PG_kindOf 19 = .ok (.ireturn, 1) := by decide +kernel
theorem d_PW_init_0 : decode b_PW_init 0 = .ok (.aload_n 0, 1) := by decide +kernel
theorem d_PW_init_1 : decode b_PW_init 1 = .ok (.invokespecial 3, 3) := by decide +kernel
theorem d_PW_init_4 : decode b_PW_init 4 = .ok (.aload_n 0, 1) := by decide +kernel
theorem d_PW_init_5 : decode b_PW_init 5 = .ok (.iconst (-1), 1) := by decide +kernel
theorem d_PW_init_6 : decode b_PW_init 6 = .ok (.putfield 9, 3) := by decide +kernel
theorem d_PW_init_9 : decode b_PW_init 9 = .ok (.return_, 1) := by decide +kernel
theorem d_PW_hasFailed_0 : decode b_PW_hasFailed 0 = .ok (.aload_n 0, 1) := by decide +kernel
theorem d_PW_hasFailed_1 : decode b_PW_hasFailed 1 = .ok (.getfield 15, 3) := by decide +kernel
theorem d_PW_hasFailed_4 : decode b_PW_hasFailed 4 = .ok (.ireturn, 1) := by decide +kernel
theorem d_PW_written_0 : decode b_PW_written 0 = .ok (.aload_n 0, 1) := by decide +kernel
theorem d_PW_written_1 : decode b_PW_written 1 = .ok (.getfield 19, 3) := by decide +kernel
theorem d_PW_written_4 : decode b_PW_written 4 = .ok (.ireturn, 1) := by decide +kernel
theorem d_PW_failAfter_0 : decode b_PW_failAfter 0 = .ok (.aload_n 0, 1) := by decide +kernel
theorem d_PW_failAfter_1 : decode b_PW_failAfter 1 = .ok (.iload_n 1, 1) := by decide +kernel
theorem d_PW_failAfter_2 : decode b_PW_failAfter 2 = .ok (.putfield 9, 3) := by decide +kernel
theorem d_PW_failAfter_5 : decode b_PW_failAfter 5 = .ok (.aload_n 0, 1) := by decide +kernel
theorem d_PW_failAfter_6 : decode b_PW_failAfter 6 = .ok (.iload_n 1, 1) := by decide +kernel
theorem d_PW_failAfter_7 : decode b_PW_failAfter 7 = .ok (.ifCond .ne 7, 3) := by decide +kernel
theorem d_PW_failAfter_10 : decode b_PW_failAfter 10 = .ok (.iconst 1, 1) := by decide +kernel
theorem d_PW_failAfter_11 : decode b_PW_failAfter 11 = .ok (.goto 4, 3) := by decide +kernel
theorem d_PW_failAfter_14 : decode b_PW_failAfter 14 = .ok (.iconst 0, 1) := by decide +kernel
theorem d_PW_failAfter_15 : decode b_PW_failAfter 15 = .ok (.putfield 15, 3) := by decide +kernel
theorem d_PW_failAfter_18 : decode b_PW_failAfter 18 = .ok (.return_, 1) := by decide +kernel
theorem d_PW_restore_0 : decode b_PW_restore 0 = .ok (.aload_n 0, 1) := by decide +kernel
theorem d_PW_restore_1 : decode b_PW_restore 1 = .ok (.iconst (-1), 1) := by decide +kernel
theorem d_PW_restore_2 : decode b_PW_restore 2 = .ok (.putfield 9, 3) := by decide +kernel
theorem d_PW_restore_5 : decode b_PW_restore 5 = .ok (.aload_n 0, 1) := by decide +kernel
theorem d_PW_restore_6 : decode b_PW_restore 6 = .ok (.iconst 0, 1) := by decide +kernel
theorem d_PW_restore_7 : decode b_PW_restore 7 = .ok (.putfield 15, 3) := by decide +kernel
theorem d_PW_restore_10 : decode b_PW_restore 10 = .ok (.return_, 1) := by decide +kernel
theorem d_PW_spend_0 : decode b_PW_spend 0 = .ok (.aload_n 0, 1) := by decide +kernel
theorem d_PW_spend_1 : decode b_PW_spend 1 = .ok (.getfield 9, 3) := by decide +kernel
theorem d_PW_spend_4 : decode b_PW_spend 4 = .ok (.iconst (-1), 1) := by decide +kernel
theorem d_PW_spend_5 : decode b_PW_spend 5 = .ok (.if_icmp .ne 7, 3) := by decide +kernel
theorem d_PW_spend_8 : decode b_PW_spend 8 = .ok (.iload_n 1, 1) := by decide +kernel
theorem d_PW_spend_9 : decode b_PW_spend 9 = .ok (.goto 11, 3) := by decide +kernel
theorem d_PW_spend_12 : decode b_PW_spend 12 = .ok (.aload_n 0, 1) := by decide +kernel
theorem d_PW_spend_13 : decode b_PW_spend 13 = .ok (.getfield 9, 3) := by decide +kernel
theorem d_PW_spend_16 : decode b_PW_spend 16 = .ok (.iload_n 1, 1) := by decide +kernel
theorem d_PW_spend_17 : decode b_PW_spend 17 = .ok (.invokestatic 22, 3) := by decide +kernel
theorem d_PW_spend_20 : decode b_PW_spend 20 = .ok (.istore_n 2, 1) := by decide +kernel
theorem d_PW_spend_21 : decode b_PW_spend 21 = .ok (.aload_n 0, 1) := by decide +kernel
theorem d_PW_spend_22 : decode b_PW_spend 22 = .ok (.dup, 1) := by decide +kernel
theorem d_PW_spend_23 : decode b_PW_spend 23 = .ok (.getfield 19, 3) := by decide +kernel
theorem d_PW_spend_26 : decode b_PW_spend 26 = .ok (.iload_n 2, 1) := by decide +kernel
theorem d_PW_spend_27 : decode b_PW_spend 27 = .ok (.iadd, 1) := by decide +kernel
theorem d_PW_spend_28 : decode b_PW_spend 28 = .ok (.putfield 19, 3) := by decide +kernel
theorem d_PW_spend_31 : decode b_PW_spend 31 = .ok (.aload_n 0, 1) := by decide +kernel
theorem d_PW_spend_32 : decode b_PW_spend 32 = .ok (.getfield 9, 3) := by decide +kernel
theorem d_PW_spend_35 : decode b_PW_spend 35 = .ok (.iconst (-1), 1) := by decide +kernel
theorem d_PW_spend_36 : decode b_PW_spend 36 = .ok (.if_icmp .eq 29, 3) := by decide +kernel
theorem d_PW_spend_39 : decode b_PW_spend 39 = .ok (.aload_n 0, 1) := by decide +kernel
theorem d_PW_spend_40 : decode b_PW_spend 40 = .ok (.dup, 1) := by decide +kernel
theorem d_PW_spend_41 : decode b_PW_spend 41 = .ok (.getfield 9, 3) := by decide +kernel
theorem d_PW_spend_44 : decode b_PW_spend 44 = .ok (.iload_n 2, 1) := by decide +kernel
theorem d_PW_spend_45 : decode b_PW_spend 45 = .ok (.isub, 1) := by decide +kernel
theorem d_PW_spend_46 : decode b_PW_spend 46 = .ok (.putfield 9, 3) := by decide +kernel
theorem d_PW_spend_49 : decode b_PW_spend 49 = .ok (.aload_n 0, 1) := by decide +kernel
theorem d_PW_spend_50 : decode b_PW_spend 50 = .ok (.aload_n 0, 1) := by decide +kernel
theorem d_PW_spend_51 : decode b_PW_spend 51 = .ok (.getfield 9, 3) := by decide +kernel
theorem d_PW_spend_54 : decode b_PW_spend 54 = .ok (.ifCond .ne 7, 3) := by decide +kernel
theorem d_PW_spend_57 : decode b_PW_spend 57 = .ok (.iconst 1, 1) := by decide +kernel
theorem d_PW_spend_58 : decode b_PW_spend 58 = .ok (.goto 4, 3) := by decide +kernel
theorem d_PW_spend_61 : decode b_PW_spend 61 = .ok (.iconst 0, 1) := by decide +kernel
theorem d_PW_spend_62 : decode b_PW_spend 62 = .ok (.putfield 15, 3) := by decide +kernel
theorem d_PW_spend_65 : decode b_PW_spend 65 = .ok (.iload_n 2, 1) := by decide +kernel
theorem d_PW_spend_66 : decode b_PW_spend 66 = .ok (.ireturn, 1) := by decide +kernel
theorem d_RL_init_0 : decode b_RL_init 0 = .ok (.aload_n 0, 1) := by decide +kernel
theorem d_RL_init_1 : decode b_RL_init 1 = .ok (.invokespecial 3, 3) := by decide +kernel
theorem d_RL_init_4 : decode b_RL_init 4 = .ok (.aload_n 0, 1) := by decide +kernel
theorem d_RL_init_5 : decode b_RL_init 5 = .ok (.bipush 64, 2) := by decide +kernel
theorem d_RL_init_7 : decode b_RL_init 7 = .ok (.newarray .byte, 2) := by decide +kernel
theorem d_RL_init_9 : decode b_RL_init 9 = .ok (.putfield 11, 3) := by decide +kernel
theorem d_RL_init_12 : decode b_RL_init 12 = .ok (.aload_n 0, 1) := by decide +kernel
theorem d_RL_init_13 : decode b_RL_init 13 = .ok (.aload_n 2, 1) := by decide +kernel
theorem d_RL_init_14 : decode b_RL_init 14 = .ok (.putfield 15, 3) := by decide +kernel
theorem d_RL_init_17 : decode b_RL_init 17 = .ok (.aload_n 0, 1) := by decide +kernel
theorem d_RL_init_18 : decode b_RL_init 18 = .ok (.bipush 16, 2) := by decide +kernel
theorem d_RL_init_20 : decode b_RL_init 20 = .ok (.sipush 200, 3) := by decide +kernel
theorem d_RL_init_23 : decode b_RL_init 23 = .ok (.iload_n 1, 1) := by decide +kernel
theorem d_RL_init_24 : decode b_RL_init 24 = .ok (.invokestatic 19, 3) := by decide +kernel
theorem d_RL_init_27 : decode b_RL_init 27 = .ok (.invokestatic 25, 3) := by decide +kernel
theorem d_RL_init_30 : decode b_RL_init 30 = .ok (.putfield 28, 3) := by decide +kernel
theorem d_RL_init_33 : decode b_RL_init 33 = .ok (.aload_n 0, 1) := by decide +kernel
theorem d_RL_init_34 : decode b_RL_init 34 = .ok (.aload_n 0, 1) := by decide +kernel
theorem d_RL_init_35 : decode b_RL_init 35 = .ok (.getfield 28, 3) := by decide +kernel
theorem d_RL_init_38 : decode b_RL_init 38 = .ok (.bipush 64, 2) := by decide +kernel
theorem d_RL_init_40 : decode b_RL_init 40 = .ok (.imul, 1) := by decide +kernel
theorem d_RL_init_41 : decode b_RL_init 41 = .ok (.newarray .byte, 2) := by decide +kernel
theorem d_RL_init_43 : decode b_RL_init 43 = .ok (.putfield 32, 3) := by decide +kernel
theorem d_RL_init_46 : decode b_RL_init 46 = .ok (.aload_n 0, 1) := by decide +kernel
theorem d_RL_init_47 : decode b_RL_init 47 = .ok (.aload_n 0, 1) := by decide +kernel
theorem d_RL_init_48 : decode b_RL_init 48 = .ok (.getfield 28, 3) := by decide +kernel
theorem d_RL_init_51 : decode b_RL_init 51 = .ok (.newarray .boolean, 2) := by decide +kernel
theorem d_RL_init_53 : decode b_RL_init 53 = .ok (.putfield 35, 3) := by decide +kernel
theorem d_RL_init_56 : decode b_RL_init 56 = .ok (.return_, 1) := by decide +kernel
theorem d_RL_slots_0 : decode b_RL_slots 0 = .ok (.aload_n 0, 1) := by decide +kernel
theorem d_RL_slots_1 : decode b_RL_slots 1 = .ok (.getfield 28, 3) := by decide +kernel
theorem d_RL_slots_4 : decode b_RL_slots 4 = .ok (.ireturn, 1) := by decide +kernel
theorem d_RL_start_0 : decode b_RL_start 0 = .ok (.aload_n 0, 1) := by decide +kernel
theorem d_RL_start_1 : decode b_RL_start 1 = .ok (.getfield 39, 3) := by decide +kernel
theorem d_RL_start_4 : decode b_RL_start 4 = .ok (.ireturn, 1) := by decide +kernel
theorem d_RL_end_0 : decode b_RL_end 0 = .ok (.aload_n 0, 1) := by decide +kernel
theorem d_RL_end_1 : decode b_RL_end 1 = .ok (.getfield 42, 3) := by decide +kernel
theorem d_RL_end_4 : decode b_RL_end 4 = .ok (.ireturn, 1) := by decide +kernel
theorem d_RL_use_0 : decode b_RL_use 0 = .ok (.aload_n 0, 1) := by decide +kernel
theorem d_RL_use_1 : decode b_RL_use 1 = .ok (.iload_n 1, 1) := by decide +kernel
theorem d_RL_use_2 : decode b_RL_use 2 = .ok (.putfield 39, 3) := by decide +kernel
theorem d_RL_use_5 : decode b_RL_use 5 = .ok (.aload_n 0, 1) := by decide +kernel
theorem d_RL_use_6 : decode b_RL_use 6 = .ok (.iload_n 2, 1) := by decide +kernel
theorem d_RL_use_7 : decode b_RL_use 7 = .ok (.putfield 42, 3) := by decide +kernel
theorem d_RL_use_10 : decode b_RL_use 10 = .ok (.return_, 1) := by decide +kernel
theorem d_RL_isUsed_0 : decode b_RL_isUsed 0 = .ok (.iload_n 1, 1) := by decide +kernel
theorem d_RL_isUsed_1 : decode b_RL_isUsed 1 = .ok (.aload_n 0, 1) := by decide +kernel
theorem d_RL_isUsed_2 : decode b_RL_isUsed 2 = .ok (.getfield 39, 3) := by decide +kernel
theorem d_RL_isUsed_5 : decode b_RL_isUsed 5 = .ok (.if_icmp .lt 15, 3) := by decide +kernel
theorem d_RL_isUsed_8 : decode b_RL_isUsed 8 = .ok (.iload_n 1, 1) := by decide +kernel
theorem d_RL_isUsed_9 : decode b_RL_isUsed 9 = .ok (.aload_n 0, 1) := by decide +kernel
theorem d_RL_isUsed_10 : decode b_RL_isUsed 10 = .ok (.getfield 42, 3) := by decide +kernel
theorem d_RL_isUsed_13 : decode b_RL_isUsed 13 = .ok (.if_icmp .ge 7, 3) := by decide +kernel
theorem d_RL_isUsed_16 : decode b_RL_isUsed 16 = .ok (.iconst 1, 1) := by decide +kernel
theorem d_RL_isUsed_17 : decode b_RL_isUsed 17 = .ok (.goto 4, 3) := by decide +kernel
theorem d_RL_isUsed_20 : decode b_RL_isUsed 20 = .ok (.iconst 0, 1) := by decide +kernel
theorem d_RL_isUsed_21 : decode b_RL_isUsed 21 = .ok (.ireturn, 1) := by decide +kernel
theorem d_RL_hasRoom_0 : decode b_RL_hasRoom 0 = .ok (.aload_n 0, 1) := by decide +kernel
theorem d_RL_hasRoom_1 : decode b_RL_hasRoom 1 = .ok (.getfield 42, 3) := by decide +kernel
theorem d_RL_hasRoom_4 : decode b_RL_hasRoom 4 = .ok (.aload_n 0, 1) := by decide +kernel
theorem d_RL_hasRoom_5 : decode b_RL_hasRoom 5 = .ok (.getfield 39, 3) := by decide +kernel
theorem d_RL_hasRoom_8 : decode b_RL_hasRoom 8 = .ok (.isub, 1) := by decide +kernel
theorem d_RL_hasRoom_9 : decode b_RL_hasRoom 9 = .ok (.iload_n 1, 1) := by decide +kernel
theorem d_RL_hasRoom_10 : decode b_RL_hasRoom 10 = .ok (.iadd, 1) := by decide +kernel
theorem d_RL_hasRoom_11 : decode b_RL_hasRoom 11 = .ok (.aload_n 0, 1) := by decide +kernel
theorem d_RL_hasRoom_12 : decode b_RL_hasRoom 12 = .ok (.getfield 28, 3) := by decide +kernel
theorem d_RL_hasRoom_15 : decode b_RL_hasRoom 15 = .ok (.if_icmp .gt 7, 3) := by decide +kernel
theorem d_RL_hasRoom_18 : decode b_RL_hasRoom 18 = .ok (.iconst 1, 1) := by decide +kernel
theorem d_RL_hasRoom_19 : decode b_RL_hasRoom 19 = .ok (.goto 4, 3) := by decide +kernel
theorem d_RL_hasRoom_22 : decode b_RL_hasRoom 22 = .ok (.iconst 0, 1) := by decide +kernel
theorem d_RL_hasRoom_23 : decode b_RL_hasRoom 23 = .ok (.ireturn, 1) := by decide +kernel
theorem d_RL_byteOf_0 : decode b_RL_byteOf 0 = .ok (.aload_n 0, 1) := by decide +kernel
theorem d_RL_byteOf_1 : decode b_RL_byteOf 1 = .ok (.getfield 32, 3) := by decide +kernel
theorem d_RL_byteOf_4 : decode b_RL_byteOf 4 = .ok (.aload_n 0, 1) := by decide +kernel
theorem d_RL_byteOf_5 : decode b_RL_byteOf 5 = .ok (.iload_n 1, 1) := by decide +kernel
theorem d_RL_byteOf_6 : decode b_RL_byteOf 6 = .ok (.invokevirtual 45, 3) := by decide +kernel
theorem d_RL_byteOf_9 : decode b_RL_byteOf 9 = .ok (.iload_n 2, 1) := by decide +kernel
theorem d_RL_byteOf_10 : decode b_RL_byteOf 10 = .ok (.iadd, 1) := by decide +kernel
theorem d_RL_byteOf_11 : decode b_RL_byteOf 11 = .ok (.baload, 1) := by decide +kernel
theorem d_RL_byteOf_12 : decode b_RL_byteOf 12 = .ok (.sipush 255, 3) := by decide +kernel
theorem d_RL_byteOf_15 : decode b_RL_byteOf 15 = .ok (.iand, 1) := by decide +kernel
theorem d_RL_byteOf_16 : decode b_RL_byteOf 16 = .ok (.ireturn, 1) := by decide +kernel
theorem d_RL_alter_0 : decode b_RL_alter 0 = .ok (.aload_n 0, 1) := by decide +kernel
theorem d_RL_alter_1 : decode b_RL_alter 1 = .ok (.iload_n 1, 1) := by decide +kernel
theorem d_RL_alter_2 : decode b_RL_alter 2 = .ok (.invokevirtual 45, 3) := by decide +kernel
theorem d_RL_alter_5 : decode b_RL_alter 5 = .ok (.iload_n 2, 1) := by decide +kernel
theorem d_RL_alter_6 : decode b_RL_alter 6 = .ok (.iadd, 1) := by decide +kernel
theorem d_RL_alter_7 : decode b_RL_alter 7 = .ok (.istore 4, 2) := by decide +kernel
theorem d_RL_alter_9 : decode b_RL_alter 9 = .ok (.aload_n 0, 1) := by decide +kernel
theorem d_RL_alter_10 : decode b_RL_alter 10 = .ok (.getfield 32, 3) := by decide +kernel
theorem d_RL_alter_13 : decode b_RL_alter 13 = .ok (.iload 4, 2) := by decide +kernel
theorem d_RL_alter_15 : decode b_RL_alter 15 = .ok (.aload_n 0, 1) := by decide +kernel
theorem d_RL_alter_16 : decode b_RL_alter 16 = .ok (.getfield 32, 3) := by decide +kernel
theorem d_RL_alter_19 : decode b_RL_alter 19 = .ok (.iload 4, 2) := by decide +kernel
theorem d_RL_alter_21 : decode b_RL_alter 21 = .ok (.baload, 1) := by decide +kernel
theorem d_RL_alter_22 : decode b_RL_alter 22 = .ok (.iload_n 3, 1) := by decide +kernel
theorem d_RL_alter_23 : decode b_RL_alter 23 = .ok (.ixor, 1) := by decide +kernel
theorem d_RL_alter_24 : decode b_RL_alter 24 = .ok (.i2b, 1) := by decide +kernel
theorem d_RL_alter_25 : decode b_RL_alter 25 = .ok (.bastore, 1) := by decide +kernel
theorem d_RL_alter_26 : decode b_RL_alter 26 = .ok (.return_, 1) := by decide +kernel
theorem d_RL_hasBit_0 : decode b_RL_hasBit 0 = .ok (.aload_n 0, 1) := by decide +kernel
theorem d_RL_hasBit_1 : decode b_RL_hasBit 1 = .ok (.iload_n 1, 1) := by decide +kernel
theorem d_RL_hasBit_2 : decode b_RL_hasBit 2 = .ok (.iconst 1, 1) := by decide +kernel
theorem d_RL_hasBit_3 : decode b_RL_hasBit 3 = .ok (.invokevirtual 49, 3) := by decide +kernel
theorem d_RL_hasBit_6 : decode b_RL_hasBit 6 = .ok (.iload_n 2, 1) := by decide +kernel
theorem d_RL_hasBit_7 : decode b_RL_hasBit 7 = .ok (.ishr, 1) := by decide +kernel
theorem d_RL_hasBit_8 : decode b_RL_hasBit 8 = .ok (.iconst 1, 1) := by decide +kernel
theorem d_RL_hasBit_9 : decode b_RL_hasBit 9 = .ok (.iand, 1) := by decide +kernel
theorem d_RL_hasBit_10 : decode b_RL_hasBit 10 = .ok (.iconst 1, 1) := by decide +kernel
theorem d_RL_hasBit_11 : decode b_RL_hasBit 11 = .ok (.if_icmp .ne 7, 3) := by decide +kernel
theorem d_RL_hasBit_14 : decode b_RL_hasBit 14 = .ok (.iconst 1, 1) := by decide +kernel
theorem d_RL_hasBit_15 : decode b_RL_hasBit 15 = .ok (.goto 4, 3) := by decide +kernel
theorem d_RL_hasBit_18 : decode b_RL_hasBit 18 = .ok (.iconst 0, 1) := by decide +kernel
theorem d_RL_hasBit_19 : decode b_RL_hasBit 19 = .ok (.ireturn, 1) := by decide +kernel
theorem d_RL_lowestBit_0 : decode b_RL_lowestBit 0 = .ok (.iload_n 2, 1) := by decide +kernel
theorem d_RL_lowestBit_1 : decode b_RL_lowestBit 1 = .ok (.istore_n 3, 1) := by decide +kernel
theorem d_RL_lowestBit_2 : decode b_RL_lowestBit 2 = .ok (.iload_n 3, 1) := by decide +kernel
theorem d_RL_lowestBit_3 : decode b_RL_lowestBit 3 = .ok (.bipush 8, 2) := by decide +kernel
theorem d_RL_lowestBit_5 : decode b_RL_lowestBit 5 = .ok (.if_icmp .ge 20, 3) := by decide +kernel
theorem d_RL_lowestBit_8 : decode b_RL_lowestBit 8 = .ok (.aload_n 0, 1) := by decide +kernel
theorem d_RL_lowestBit_9 : decode b_RL_lowestBit 9 = .ok (.iload_n 1, 1) := by decide +kernel
theorem d_RL_lowestBit_10 : decode b_RL_lowestBit 10 = .ok (.iload_n 3, 1) := by decide +kernel
theorem d_RL_lowestBit_11 : decode b_RL_lowestBit 11 = .ok (.invokevirtual 52, 3) := by decide +kernel
theorem d_RL_lowestBit_14 : decode b_RL_lowestBit 14 = .ok (.ifCond .eq 5, 3) := by decide +kernel
theorem d_RL_lowestBit_17 : decode b_RL_lowestBit 17 = .ok (.iload_n 3, 1) := by decide +kernel
theorem d_RL_lowestBit_18 : decode b_RL_lowestBit 18 = .ok (.ireturn, 1) := by decide +kernel
theorem d_RL_lowestBit_19 : decode b_RL_lowestBit 19 = .ok (.iinc 3 1, 3) := by decide +kernel
theorem d_RL_lowestBit_22 : decode b_RL_lowestBit 22 = .ok (.goto (-20), 3) := by decide +kernel
theorem d_RL_lowestBit_25 : decode b_RL_lowestBit 25 = .ok (.iconst (-1), 1) := by decide +kernel
theorem d_RL_lowestBit_26 : decode b_RL_lowestBit 26 = .ok (.ireturn, 1) := by decide +kernel
theorem d_RL_versionOf_0 : decode b_RL_versionOf 0 = .ok (.aload_n 0, 1) := by decide +kernel
theorem d_RL_versionOf_1 : decode b_RL_versionOf 1 = .ok (.getfield 32, 3) := by decide +kernel
theorem d_RL_versionOf_4 : decode b_RL_versionOf 4 = .ok (.aload_n 0, 1) := by decide +kernel
theorem d_RL_versionOf_5 : decode b_RL_versionOf 5 = .ok (.iload_n 1, 1) := by decide +kernel
theorem d_RL_versionOf_6 : decode b_RL_versionOf 6 = .ok (.invokevirtual 45, 3) := by decide +kernel
theorem d_RL_versionOf_9 : decode b_RL_versionOf 9 = .ok (.iconst 4, 1) := by decide +kernel
theorem d_RL_versionOf_10 : decode b_RL_versionOf 10 = .ok (.iadd, 1) := by decide +kernel
theorem d_RL_versionOf_11 : decode b_RL_versionOf 11 = .ok (.invokestatic 56, 3) := by decide +kernel
theorem d_RL_versionOf_14 : decode b_RL_versionOf 14 = .ok (.ireturn, 1) := by decide +kernel
theorem d_RL_entryOf_0 : decode b_RL_entryOf 0 = .ok (.aload_n 0, 1) := by decide +kernel
theorem d_RL_entryOf_1 : decode b_RL_entryOf 1 = .ok (.getfield 32, 3) := by decide +kernel
theorem d_RL_entryOf_4 : decode b_RL_entryOf 4 = .ok (.aload_n 0, 1) := by decide +kernel
theorem d_RL_entryOf_5 : decode b_RL_entryOf 5 = .ok (.iload_n 1, 1) := by decide +kernel
theorem d_RL_entryOf_6 : decode b_RL_entryOf 6 = .ok (.invokevirtual 45, 3) := by decide +kernel
theorem d_RL_entryOf_9 : decode b_RL_entryOf 9 = .ok (.bipush 8, 2) := by decide +kernel
theorem d_RL_entryOf_11 : decode b_RL_entryOf 11 = .ok (.iadd, 1) := by decide +kernel
theorem d_RL_entryOf_12 : decode b_RL_entryOf 12 = .ok (.iconst 4, 1) := by decide +kernel
theorem d_RL_entryOf_13 : decode b_RL_entryOf 13 = .ok (.iload_n 2, 1) := by decide +kernel
theorem d_RL_entryOf_14 : decode b_RL_entryOf 14 = .ok (.imul, 1) := by decide +kernel
theorem d_RL_entryOf_15 : decode b_RL_entryOf 15 = .ok (.iadd, 1) := by decide +kernel
theorem d_RL_entryOf_16 : decode b_RL_entryOf 16 = .ok (.invokestatic 56, 3) := by decide +kernel
theorem d_RL_entryOf_19 : decode b_RL_entryOf 19 = .ok (.ireturn, 1) := by decide +kernel
theorem d_RL_numberOf_0 : decode b_RL_numberOf 0 = .ok (.aload_n 0, 1) := by decide +kernel
theorem d_RL_numberOf_1 : decode b_RL_numberOf 1 = .ok (.getfield 32, 3) := by decide +kernel
theorem d_RL_numberOf_4 : decode b_RL_numberOf 4 = .ok (.aload_n 0, 1) := by decide +kernel
theorem d_RL_numberOf_5 : decode b_RL_numberOf 5 = .ok (.iload_n 1, 1) := by decide +kernel
theorem d_RL_numberOf_6 : decode b_RL_numberOf 6 = .ok (.invokevirtual 45, 3) := by decide +kernel
theorem d_RL_numberOf_9 : decode b_RL_numberOf 9 = .ok (.bipush 40, 2) := by decide +kernel
theorem d_RL_numberOf_11 : decode b_RL_numberOf 11 = .ok (.iadd, 1) := by decide +kernel
theorem d_RL_numberOf_12 : decode b_RL_numberOf 12 = .ok (.invokestatic 56, 3) := by decide +kernel
theorem d_RL_numberOf_15 : decode b_RL_numberOf 15 = .ok (.ireturn, 1) := by decide +kernel
theorem d_RL_isBad_0 : decode b_RL_isBad 0 = .ok (.aload_n 0, 1) := by decide +kernel
theorem d_RL_isBad_1 : decode b_RL_isBad 1 = .ok (.iload_n 1, 1) := by decide +kernel
theorem d_RL_isBad_2 : decode b_RL_isBad 2 = .ok (.invokevirtual 60, 3) := by decide +kernel
theorem d_RL_isBad_5 : decode b_RL_isBad 5 = .ok (.ifCond .eq 21, 3) := by decide +kernel
theorem d_RL_isBad_8 : decode b_RL_isBad 8 = .ok (.aload_n 0, 1) := by decide +kernel
theorem d_RL_isBad_9 : decode b_RL_isBad 9 = .ok (.iload_n 1, 1) := by decide +kernel
theorem d_RL_isBad_10 : decode b_RL_isBad 10 = .ok (.invokevirtual 64, 3) := by decide +kernel
theorem d_RL_isBad_13 : decode b_RL_isBad 13 = .ok (.ifCond .eq 13, 3) := by decide +kernel
theorem d_RL_isBad_16 : decode b_RL_isBad 16 = .ok (.aload_n 0, 1) := by decide +kernel
theorem d_RL_isBad_17 : decode b_RL_isBad 17 = .ok (.iload_n 1, 1) := by decide +kernel
theorem d_RL_isBad_18 : decode b_RL_isBad 18 = .ok (.iconst 0, 1) := by decide +kernel
theorem d_RL_isBad_19 : decode b_RL_isBad 19 = .ok (.invokevirtual 49, 3) := by decide +kernel
theorem d_RL_isBad_22 : decode b_RL_isBad 22 = .ok (.iload_n 2, 1) := by decide +kernel
theorem d_RL_isBad_23 : decode b_RL_isBad 23 = .ok (.if_icmp .eq 7, 3) := by decide +kernel
theorem d_RL_isBad_26 : decode b_RL_isBad 26 = .ok (.iconst 1, 1) := by decide +kernel
theorem d_RL_isBad_27 : decode b_RL_isBad 27 = .ok (.goto 4, 3) := by decide +kernel
theorem d_RL_isBad_30 : decode b_RL_isBad 30 = .ok (.iconst 0, 1) := by decide +kernel
theorem d_RL_isBad_31 : decode b_RL_isBad 31 = .ok (.ireturn, 1) := by decide +kernel
theorem d_RL_isSound_0 : decode b_RL_isSound 0 = .ok (.aload_n 0, 1) := by decide +kernel
theorem d_RL_isSound_1 : decode b_RL_isSound 1 = .ok (.iload_n 1, 1) := by decide +kernel
theorem d_RL_isSound_2 : decode b_RL_isSound 2 = .ok (.invokevirtual 67, 3) := by decide +kernel
theorem d_RL_isSound_5 : decode b_RL_isSound 5 = .ok (.iload_n 1, 1) := by decide +kernel
theorem d_RL_isSound_6 : decode b_RL_isSound 6 = .ok (.if_icmp .ne 15, 3) := by decide +kernel
theorem d_RL_isSound_9 : decode b_RL_isSound 9 = .ok (.aload_n 0, 1) := by decide +kernel
theorem d_RL_isSound_10 : decode b_RL_isSound 10 = .ok (.iload_n 1, 1) := by decide +kernel
theorem d_RL_isSound_11 : decode b_RL_isSound 11 = .ok (.invokevirtual 70, 3) := by decide +kernel
theorem d_RL_isSound_14 : decode b_RL_isSound 14 = .ok (.ifCond .eq 7, 3) := by decide +kernel
theorem d_RL_isSound_17 : decode b_RL_isSound 17 = .ok (.iconst 1, 1) := by decide +kernel
theorem d_RL_isSound_18 : decode b_RL_isSound 18 = .ok (.goto 4, 3) := by decide +kernel
theorem d_RL_isSound_21 : decode b_RL_isSound 21 = .ok (.iconst 0, 1) := by decide +kernel
theorem d_RL_isSound_22 : decode b_RL_isSound 22 = .ok (.ireturn, 1) := by decide +kernel
theorem d_RL_isWholeRoot_0 : decode b_RL_isWholeRoot 0 = .ok (.aload_n 0, 1) := by decide +kernel
theorem d_RL_isWholeRoot_1 : decode b_RL_isWholeRoot 1 = .ok (.iload_n 1, 1) := by decide +kernel
theorem d_RL_isWholeRoot_2 : decode b_RL_isWholeRoot 2 = .ok (.invokevirtual 67, 3) := by decide +kernel
theorem d_RL_isWholeRoot_5 : decode b_RL_isWholeRoot 5 = .ok (.istore_n 2, 1) := by decide +kernel
theorem d_RL_isWholeRoot_6 : decode b_RL_isWholeRoot 6 = .ok (.aload_n 0, 1) := by decide +kernel
theorem d_RL_isWholeRoot_7 : decode b_RL_isWholeRoot 7 = .ok (.iload_n 1, 1) := by decide +kernel
theorem d_RL_isWholeRoot_8 : decode b_RL_isWholeRoot 8 = .ok (.invokevirtual 73, 3) := by decide +kernel
theorem d_RL_isWholeRoot_11 : decode b_RL_isWholeRoot 11 = .ok (.istore_n 3, 1) := by decide +kernel
theorem d_RL_isWholeRoot_12 : decode b_RL_isWholeRoot 12 = .ok (.aload_n 0, 1) := by decide +kernel
theorem d_RL_isWholeRoot_13 : decode b_RL_isWholeRoot 13 = .ok (.iload_n 1, 1) := by decide +kernel
theorem d_RL_isWholeRoot_14 : decode b_RL_isWholeRoot 14 = .ok (.iconst 2, 1) := by decide +kernel
theorem d_RL_isWholeRoot_15 : decode b_RL_isWholeRoot 15 = .ok (.invokevirtual 76, 3) := by decide +kernel
theorem d_RL_isWholeRoot_18 : decode b_RL_isWholeRoot 18 = .ok (.istore 4, 2) := by decide +kernel
theorem d_RL_isWholeRoot_20 : decode b_RL_isWholeRoot 20 = .ok (.aload_n 0, 1) := by decide +kernel
theorem d_RL_isWholeRoot_21 : decode b_RL_isWholeRoot 21 = .ok (.iload_n 1, 1) := by decide +kernel
theorem d_RL_isWholeRoot_22 : decode b_RL_isWholeRoot 22 = .ok (.iconst 0, 1) := by decide +kernel
theorem d_RL_isWholeRoot_23 : decode b_RL_isWholeRoot 23 = .ok (.invokevirtual 49, 3) := by decide +kernel
theorem d_RL_isWholeRoot_26 : decode b_RL_isWholeRoot 26 = .ok (.iconst 4, 1) := by decide +kernel
theorem d_RL_isWholeRoot_27 : decode b_RL_isWholeRoot 27 = .ok (.if_icmp .ne 67, 3) := by decide +kernel
theorem d_RL_isWholeRoot_30 : decode b_RL_isWholeRoot 30 = .ok (.iload_n 2, 1) := by decide +kernel
theorem d_RL_isWholeRoot_31 : decode b_RL_isWholeRoot 31 = .ok (.ifCond .lt 63, 3) := by decide +kernel
theorem d_RL_isWholeRoot_34 : decode b_RL_isWholeRoot 34 = .ok (.iload_n 2, 1) := by decide +kernel
theorem d_RL_isWholeRoot_35 : decode b_RL_isWholeRoot 35 = .ok (.ldc 79, 2) := by decide +kernel
theorem d_RL_isWholeRoot_37 : decode b_RL_isWholeRoot 37 = .ok (.if_icmp .gt 57, 3) := by decide +kernel
theorem d_RL_isWholeRoot_40 : decode b_RL_isWholeRoot 40 = .ok (.aload_n 0, 1) := by decide +kernel
theorem d_RL_isWholeRoot_41 : decode b_RL_isWholeRoot 41 = .ok (.iload_n 2, 1) := by decide +kernel
theorem d_RL_isWholeRoot_42 : decode b_RL_isWholeRoot 42 = .ok (.invokevirtual 80, 3) := by decide +kernel
theorem d_RL_isWholeRoot_45 : decode b_RL_isWholeRoot 45 = .ok (.iload_n 1, 1) := by decide +kernel
theorem d_RL_isWholeRoot_46 : decode b_RL_isWholeRoot 46 = .ok (.if_icmp .ne 48, 3) := by decide +kernel
theorem d_RL_isWholeRoot_49 : decode b_RL_isWholeRoot 49 = .ok (.iload_n 3, 1) := by decide +kernel
theorem d_RL_isWholeRoot_50 : decode b_RL_isWholeRoot 50 = .ok (.iconst 1, 1) := by decide +kernel
theorem d_RL_isWholeRoot_51 : decode b_RL_isWholeRoot 51 = .ok (.if_icmp .lt 43, 3) := by decide +kernel
theorem d_RL_isWholeRoot_54 : decode b_RL_isWholeRoot 54 = .ok (.iload_n 3, 1) := by decide +kernel
theorem d_RL_isWholeRoot_55 : decode b_RL_isWholeRoot 55 = .ok (.ldc 79, 2) := by decide +kernel
theorem d_RL_isWholeRoot_57 : decode b_RL_isWholeRoot 57 = .ok (.if_icmp .gt 37, 3) := by decide +kernel
theorem d_RL_isWholeRoot_60 : decode b_RL_isWholeRoot 60 = .ok (.iload 4, 2) := by decide +kernel
theorem d_RL_isWholeRoot_62 : decode b_RL_isWholeRoot 62 = .ok (.ifCond .lt 32, 3) := by decide +kernel
theorem d_RL_isWholeRoot_65 : decode b_RL_isWholeRoot 65 = .ok (.iload 4, 2) := by decide +kernel
theorem d_RL_isWholeRoot_67 : decode b_RL_isWholeRoot 67 = .ok (.iload_n 2, 1) := by decide +kernel
theorem d_RL_isWholeRoot_68 : decode b_RL_isWholeRoot 68 = .ok (.if_icmp .gt 26, 3) := by decide +kernel
theorem d_RL_isWholeRoot_71 : decode b_RL_isWholeRoot 71 = .ok (.iload_n 2, 1) := by decide +kernel
theorem d_RL_isWholeRoot_72 : decode b_RL_isWholeRoot 72 = .ok (.iload 4, 2) := by decide +kernel
theorem d_RL_isWholeRoot_74 : decode b_RL_isWholeRoot 74 = .ok (.isub, 1) := by decide +kernel
theorem d_RL_isWholeRoot_75 : decode b_RL_isWholeRoot 75 = .ok (.aload_n 0, 1) := by decide +kernel
theorem d_RL_isWholeRoot_76 : decode b_RL_isWholeRoot 76 = .ok (.getfield 28, 3) := by decide +kernel
theorem d_RL_isWholeRoot_79 : decode b_RL_isWholeRoot 79 = .ok (.if_icmp .ge 15, 3) := by decide +kernel
theorem d_RL_isWholeRoot_82 : decode b_RL_isWholeRoot 82 = .ok (.aload_n 0, 1) := by decide +kernel
theorem d_RL_isWholeRoot_83 : decode b_RL_isWholeRoot 83 = .ok (.iload_n 1, 1) := by decide +kernel
theorem d_RL_isWholeRoot_84 : decode b_RL_isWholeRoot 84 = .ok (.invokevirtual 70, 3) := by decide +kernel
theorem d_RL_isWholeRoot_87 : decode b_RL_isWholeRoot 87 = .ok (.ifCond .eq 7, 3) := by decide +kernel
theorem d_RL_isWholeRoot_90 : decode b_RL_isWholeRoot 90 = .ok (.iconst 1, 1) := by decide +kernel
theorem d_RL_isWholeRoot_91 : decode b_RL_isWholeRoot 91 = .ok (.goto 4, 3) := by decide +kernel
theorem d_RL_isWholeRoot_94 : decode b_RL_isWholeRoot 94 = .ok (.iconst 0, 1) := by decide +kernel
theorem d_RL_isWholeRoot_95 : decode b_RL_isWholeRoot 95 = .ok (.ireturn, 1) := by decide +kernel
theorem d_RL_newestRootSlot_0 : decode b_RL_newestRootSlot 0 = .ok (.iconst (-1), 1) := by decide +kernel
theorem d_RL_newestRootSlot_1 : decode b_RL_newestRootSlot 1 = .ok (.istore_n 1, 1) := by decide +kernel
theorem d_RL_newestRootSlot_2 : decode b_RL_newestRootSlot 2 = .ok (.iconst 0, 1) := by decide +kernel
theorem d_RL_newestRootSlot_3 : decode b_RL_newestRootSlot 3 = .ok (.istore_n 2, 1) := by decide +kernel
theorem d_RL_newestRootSlot_4 : decode b_RL_newestRootSlot 4 = .ok (.iload_n 2, 1) := by decide +kernel
theorem d_RL_newestRootSlot_5 : decode b_RL_newestRootSlot 5 = .ok (.aload_n 0, 1) := by decide +kernel
theorem d_RL_newestRootSlot_6 : decode b_RL_newestRootSlot 6 = .ok (.getfield 28, 3) := by decide +kernel
theorem d_RL_newestRootSlot_9 : decode b_RL_newestRootSlot 9 = .ok (.if_icmp .ge 33, 3) := by decide +kernel
theorem d_RL_newestRootSlot_12 : decode b_RL_newestRootSlot 12 = .ok (.aload_n 0, 1) := by decide +kernel
theorem d_RL_newestRootSlot_13 : decode b_RL_newestRootSlot 13 = .ok (.iload_n 2, 1) := by decide +kernel
theorem d_RL_newestRootSlot_14 : decode b_RL_newestRootSlot 14 = .ok (.invokevirtual 83, 3) := by decide +kernel
theorem d_RL_newestRootSlot_17 : decode b_RL_newestRootSlot 17 = .ok (.ifCond .eq 19, 3) := by decide +kernel
theorem d_RL_newestRootSlot_20 : decode b_RL_newestRootSlot 20 = .ok (.iload_n 1, 1) := by decide +kernel
theorem d_RL_newestRootSlot_21 : decode b_RL_newestRootSlot 21 = .ok (.iconst (-1), 1) := by decide +kernel
theorem d_RL_newestRootSlot_22 : decode b_RL_newestRootSlot 22 = .ok (.if_icmp .eq 12, 3) := by decide +kernel
theorem d_RL_newestRootSlot_25 : decode b_RL_newestRootSlot 25 = .ok (.aload_n 0, 1) := by decide +kernel
theorem d_RL_newestRootSlot_26 : decode b_RL_newestRootSlot 26 = .ok (.iload_n 2, 1) := by decide +kernel
theorem d_RL_newestRootSlot_27 : decode b_RL_newestRootSlot 27 = .ok (.iload_n 1, 1) := by decide +kernel
theorem d_RL_newestRootSlot_28 : decode b_RL_newestRootSlot 28 = .ok (.invokevirtual 86, 3) := by decide +kernel
theorem d_RL_newestRootSlot_31 : decode b_RL_newestRootSlot 31 = .ok (.ifCond .eq 5, 3) := by decide +kernel
theorem d_RL_newestRootSlot_34 : decode b_RL_newestRootSlot 34 = .ok (.iload_n 2, 1) := by decide +kernel
theorem d_RL_newestRootSlot_35 : decode b_RL_newestRootSlot 35 = .ok (.istore_n 1, 1) := by decide +kernel
theorem d_RL_newestRootSlot_36 : decode b_RL_newestRootSlot 36 = .ok (.iinc 2 1, 3) := by decide +kernel
theorem d_RL_newestRootSlot_39 : decode b_RL_newestRootSlot 39 = .ok (.goto (-35), 3) := by decide +kernel
theorem d_RL_newestRootSlot_42 : decode b_RL_newestRootSlot 42 = .ok (.iload_n 1, 1) := by decide +kernel
theorem d_RL_newestRootSlot_43 : decode b_RL_newestRootSlot 43 = .ok (.ireturn, 1) := by decide +kernel
theorem d_RL_write_0 : decode b_RL_write 0 = .ok (.aload_n 0, 1) := by decide +kernel
theorem d_RL_write_1 : decode b_RL_write 1 = .ok (.iload_n 1, 1) := by decide +kernel
theorem d_RL_write_2 : decode b_RL_write 2 = .ok (.iload_n 2, 1) := by decide +kernel
theorem d_RL_write_3 : decode b_RL_write 3 = .ok (.iload_n 3, 1) := by decide +kernel
theorem d_RL_write_4 : decode b_RL_write 4 = .ok (.iload 4, 2) := by decide +kernel
theorem d_RL_write_6 : decode b_RL_write 6 = .ok (.aload 5, 2) := by decide +kernel
theorem d_RL_write_8 : decode b_RL_write 8 = .ok (.iload 6, 2) := by decide +kernel
theorem d_RL_write_10 : decode b_RL_write 10 = .ok (.invokevirtual 89, 3) := by decide +kernel
theorem d_RL_write_13 : decode b_RL_write 13 = .ok (.aload_n 0, 1) := by decide +kernel
theorem d_RL_write_14 : decode b_RL_write 14 = .ok (.getfield 15, 3) := by decide +kernel
theorem d_RL_write_17 : decode b_RL_write 17 = .ok (.bipush 64, 2) := by decide +kernel
theorem d_RL_write_19 : decode b_RL_write 19 = .ok (.invokevirtual 93, 3) := by decide +kernel
theorem d_RL_write_22 : decode b_RL_write 22 = .ok (.istore 7, 2) := by decide +kernel
theorem d_RL_write_24 : decode b_RL_write 24 = .ok (.aload_n 0, 1) := by decide +kernel
theorem d_RL_write_25 : decode b_RL_write 25 = .ok (.getfield 11, 3) := by decide +kernel
theorem d_RL_write_28 : decode b_RL_write 28 = .ok (.iconst 0, 1) := by decide +kernel
theorem d_RL_write_29 : decode b_RL_write 29 = .ok (.aload_n 0, 1) := by decide +kernel
theorem d_RL_write_30 : decode b_RL_write 30 = .ok (.getfield 32, 3) := by decide +kernel
theorem d_RL_write_33 : decode b_RL_write 33 = .ok (.aload_n 0, 1) := by decide +kernel
theorem d_RL_write_34 : decode b_RL_write 34 = .ok (.iload_n 1, 1) := by decide +kernel
theorem d_RL_write_35 : decode b_RL_write 35 = .ok (.invokevirtual 45, 3) := by decide +kernel
theorem d_RL_write_38 : decode b_RL_write 38 = .ok (.iload 7, 2) := by decide +kernel
theorem d_RL_write_40 : decode b_RL_write 40 = .ok (.invokestatic 98, 3) := by decide +kernel
theorem d_RL_write_43 : decode b_RL_write 43 = .ok (.iload 7, 2) := by decide +kernel
theorem d_RL_write_45 : decode b_RL_write 45 = .ok (.ifCond .le 25, 3) := by decide +kernel
theorem d_RL_write_48 : decode b_RL_write 48 = .ok (.aload_n 0, 1) := by decide +kernel
theorem d_RL_write_49 : decode b_RL_write 49 = .ok (.getfield 35, 3) := by decide +kernel
theorem d_RL_write_52 : decode b_RL_write 52 = .ok (.aload_n 0, 1) := by decide +kernel
theorem d_RL_write_53 : decode b_RL_write 53 = .ok (.iload_n 1, 1) := by decide +kernel
theorem d_RL_write_54 : decode b_RL_write 54 = .ok (.invokevirtual 80, 3) := by decide +kernel
theorem d_RL_write_57 : decode b_RL_write 57 = .ok (.iload 7, 2) := by decide +kernel
theorem d_RL_write_59 : decode b_RL_write 59 = .ok (.bipush 64, 2) := by decide +kernel
theorem d_RL_write_61 : decode b_RL_write 61 = .ok (.if_icmp .ge 7, 3) := by decide +kernel
theorem d_RL_write_64 : decode b_RL_write 64 = .ok (.iconst 1, 1) := by decide +kernel
theorem d_RL_write_65 : decode b_RL_write 65 = .ok (.goto 4, 3) := by decide +kernel
theorem d_RL_write_68 : decode b_RL_write 68 = .ok (.iconst 0, 1) := by decide +kernel
theorem d_RL_write_69 : decode b_RL_write 69 = .ok (.bastore, 1) := by decide +kernel
theorem d_RL_write_70 : decode b_RL_write 70 = .ok (.aload_n 0, 1) := by decide +kernel
theorem d_RL_write_71 : decode b_RL_write 71 = .ok (.getfield 15, 3) := by decide +kernel
theorem d_RL_write_74 : decode b_RL_write 74 = .ok (.invokevirtual 104, 3) := by decide +kernel
theorem d_RL_write_77 : decode b_RL_write 77 = .ok (.ifCond .ne 7, 3) := by decide +kernel
theorem d_RL_write_80 : decode b_RL_write 80 = .ok (.iconst 1, 1) := by decide +kernel
theorem d_RL_write_81 : decode b_RL_write 81 = .ok (.goto 4, 3) := by decide +kernel
theorem d_RL_write_84 : decode b_RL_write 84 = .ok (.iconst 0, 1) := by decide +kernel
theorem d_RL_write_85 : decode b_RL_write 85 = .ok (.ireturn, 1) := by decide +kernel
theorem d_RL_makeUp_0 : decode b_RL_makeUp 0 = .ok (.aload_n 0, 1) := by decide +kernel
theorem d_RL_makeUp_1 : decode b_RL_makeUp 1 = .ok (.getfield 11, 3) := by decide +kernel
theorem d_RL_makeUp_4 : decode b_RL_makeUp 4 = .ok (.iconst 0, 1) := by decide +kernel
theorem d_RL_makeUp_5 : decode b_RL_makeUp 5 = .ok (.iload_n 2, 1) := by decide +kernel
theorem d_RL_makeUp_6 : decode b_RL_makeUp 6 = .ok (.i2b, 1) := by decide +kernel
theorem d_RL_makeUp_7 : decode b_RL_makeUp 7 = .ok (.bastore, 1) := by decide +kernel
theorem d_RL_makeUp_8 : decode b_RL_makeUp 8 = .ok (.aload_n 0, 1) := by decide +kernel
theorem d_RL_makeUp_9 : decode b_RL_makeUp 9 = .ok (.getfield 11, 3) := by decide +kernel
theorem d_RL_makeUp_12 : decode b_RL_makeUp 12 = .ok (.iconst 1, 1) := by decide +kernel
theorem d_RL_makeUp_13 : decode b_RL_makeUp 13 = .ok (.iload_n 3, 1) := by decide +kernel
theorem d_RL_makeUp_14 : decode b_RL_makeUp 14 = .ok (.i2b, 1) := by decide +kernel
theorem d_RL_makeUp_15 : decode b_RL_makeUp 15 = .ok (.bastore, 1) := by decide +kernel
theorem d_RL_makeUp_16 : decode b_RL_makeUp 16 = .ok (.aload_n 0, 1) := by decide +kernel
theorem d_RL_makeUp_17 : decode b_RL_makeUp 17 = .ok (.iconst 4, 1) := by decide +kernel
theorem d_RL_makeUp_18 : decode b_RL_makeUp 18 = .ok (.iload 4, 2) := by decide +kernel
theorem d_RL_makeUp_20 : decode b_RL_makeUp 20 = .ok (.invokevirtual 108, 3) := by decide +kernel
theorem d_RL_makeUp_23 : decode b_RL_makeUp 23 = .ok (.iconst 0, 1) := by decide +kernel
theorem d_RL_makeUp_24 : decode b_RL_makeUp 24 = .ok (.istore 7, 2) := by decide +kernel
theorem d_RL_makeUp_26 : decode b_RL_makeUp 26 = .ok (.iload 7, 2) := by decide +kernel
theorem d_RL_makeUp_28 : decode b_RL_makeUp 28 = .ok (.bipush 8, 2) := by decide +kernel
theorem d_RL_makeUp_30 : decode b_RL_makeUp 30 = .ok (.if_icmp .ge 28, 3) := by decide +kernel
theorem d_RL_makeUp_33 : decode b_RL_makeUp 33 = .ok (.aload_n 0, 1) := by decide +kernel
theorem d_RL_makeUp_34 : decode b_RL_makeUp 34 = .ok (.bipush 8, 2) := by decide +kernel
theorem d_RL_makeUp_36 : decode b_RL_makeUp 36 = .ok (.iconst 4, 1) := by decide +kernel
theorem d_RL_makeUp_37 : decode b_RL_makeUp 37 = .ok (.iload 7, 2) := by decide +kernel
theorem d_RL_makeUp_39 : decode b_RL_makeUp 39 = .ok (.imul, 1) := by decide +kernel
theorem d_RL_makeUp_40 : decode b_RL_makeUp 40 = .ok (.iadd, 1) := by decide +kernel
theorem d_RL_makeUp_41 : decode b_RL_makeUp 41 = .ok (.aload 5, 2) := by decide +kernel
theorem d_RL_makeUp_43 : decode b_RL_makeUp 43 = .ok (.iload 6, 2) := by decide +kernel
theorem d_RL_makeUp_45 : decode b_RL_makeUp 45 = .ok (.iload 7, 2) := by decide +kernel
theorem d_RL_makeUp_47 : decode b_RL_makeUp 47 = .ok (.iadd, 1) := by decide +kernel
theorem d_RL_makeUp_48 : decode b_RL_makeUp 48 = .ok (.iaload, 1) := by decide +kernel
theorem d_RL_makeUp_49 : decode b_RL_makeUp 49 = .ok (.invokevirtual 108, 3) := by decide +kernel
theorem d_RL_makeUp_52 : decode b_RL_makeUp 52 = .ok (.iinc 7 1, 3) := by decide +kernel
theorem d_RL_makeUp_55 : decode b_RL_makeUp 55 = .ok (.goto (-29), 3) := by decide +kernel
theorem d_RL_makeUp_58 : decode b_RL_makeUp 58 = .ok (.aload_n 0, 1) := by decide +kernel
theorem d_RL_makeUp_59 : decode b_RL_makeUp 59 = .ok (.bipush 40, 2) := by decide +kernel
theorem d_RL_makeUp_61 : decode b_RL_makeUp 61 = .ok (.iload_n 1, 1) := by decide +kernel
theorem d_RL_makeUp_62 : decode b_RL_makeUp 62 = .ok (.invokevirtual 108, 3) := by decide +kernel
theorem d_RL_makeUp_65 : decode b_RL_makeUp 65 = .ok (.aload_n 0, 1) := by decide +kernel
theorem d_RL_makeUp_66 : decode b_RL_makeUp 66 = .ok (.getfield 11, 3) := by decide +kernel
theorem d_RL_makeUp_69 : decode b_RL_makeUp 69 = .ok (.iconst 0, 1) := by decide +kernel
theorem d_RL_makeUp_70 : decode b_RL_makeUp 70 = .ok (.invokestatic 112, 3) := by decide +kernel
theorem d_RL_makeUp_73 : decode b_RL_makeUp 73 = .ok (.lstore 7, 2) := by decide +kernel
theorem d_RL_makeUp_75 : decode b_RL_makeUp 75 = .ok (.aload_n 0, 1) := by decide +kernel
theorem d_RL_makeUp_76 : decode b_RL_makeUp 76 = .ok (.bipush 56, 2) := by decide +kernel
theorem d_RL_makeUp_78 : decode b_RL_makeUp 78 = .ok (.lload 7, 2) := by decide +kernel
theorem d_RL_makeUp_80 : decode b_RL_makeUp 80 = .ok (.bipush 32, 2) := by decide +kernel
theorem d_RL_makeUp_82 : decode b_RL_makeUp 82 = .ok (.lushr, 1) := by decide +kernel
theorem d_RL_makeUp_83 : decode b_RL_makeUp 83 = .ok (.l2i, 1) := by decide +kernel
theorem d_RL_makeUp_84 : decode b_RL_makeUp 84 = .ok (.invokevirtual 108, 3) := by decide +kernel
theorem d_RL_makeUp_87 : decode b_RL_makeUp 87 = .ok (.aload_n 0, 1) := by decide +kernel
theorem d_RL_makeUp_88 : decode b_RL_makeUp 88 = .ok (.bipush 60, 2) := by decide +kernel
theorem d_RL_makeUp_90 : decode b_RL_makeUp 90 = .ok (.lload 7, 2) := by decide +kernel
theorem d_RL_makeUp_92 : decode b_RL_makeUp 92 = .ok (.l2i, 1) := by decide +kernel
theorem d_RL_makeUp_93 : decode b_RL_makeUp 93 = .ok (.invokevirtual 108, 3) := by decide +kernel
theorem d_RL_makeUp_96 : decode b_RL_makeUp 96 = .ok (.return_, 1) := by decide +kernel
theorem d_RL_isNewer_0 : decode b_RL_isNewer 0 = .ok (.aload_n 0, 1) := by decide +kernel
theorem d_RL_isNewer_1 : decode b_RL_isNewer 1 = .ok (.iload_n 1, 1) := by decide +kernel
theorem d_RL_isNewer_2 : decode b_RL_isNewer 2 = .ok (.invokevirtual 73, 3) := by decide +kernel
theorem d_RL_isNewer_5 : decode b_RL_isNewer 5 = .ok (.istore_n 3, 1) := by decide +kernel
theorem d_RL_isNewer_6 : decode b_RL_isNewer 6 = .ok (.aload_n 0, 1) := by decide +kernel
theorem d_RL_isNewer_7 : decode b_RL_isNewer 7 = .ok (.iload_n 2, 1) := by decide +kernel
theorem d_RL_isNewer_8 : decode b_RL_isNewer 8 = .ok (.invokevirtual 73, 3) := by decide +kernel
theorem d_RL_isNewer_11 : decode b_RL_isNewer 11 = .ok (.istore 4, 2) := by decide +kernel
theorem d_RL_isNewer_13 : decode b_RL_isNewer 13 = .ok (.iload_n 3, 1) := by decide +kernel
theorem d_RL_isNewer_14 : decode b_RL_isNewer 14 = .ok (.iload 4, 2) := by decide +kernel
theorem d_RL_isNewer_16 : decode b_RL_isNewer 16 = .ok (.if_icmp .gt 22, 3) := by decide +kernel
theorem d_RL_isNewer_19 : decode b_RL_isNewer 19 = .ok (.iload_n 3, 1) := by decide +kernel
theorem d_RL_isNewer_20 : decode b_RL_isNewer 20 = .ok (.iload 4, 2) := by decide +kernel
theorem d_RL_isNewer_22 : decode b_RL_isNewer 22 = .ok (.if_icmp .ne 20, 3) := by decide +kernel
theorem d_RL_isNewer_25 : decode b_RL_isNewer 25 = .ok (.aload_n 0, 1) := by decide +kernel
theorem d_RL_isNewer_26 : decode b_RL_isNewer 26 = .ok (.iload_n 1, 1) := by decide +kernel
theorem d_RL_isNewer_27 : decode b_RL_isNewer 27 = .ok (.invokevirtual 67, 3) := by decide +kernel
theorem d_RL_isNewer_30 : decode b_RL_isNewer 30 = .ok (.aload_n 0, 1) := by decide +kernel
theorem d_RL_isNewer_31 : decode b_RL_isNewer 31 = .ok (.iload_n 2, 1) := by decide +kernel
theorem d_RL_isNewer_32 : decode b_RL_isNewer 32 = .ok (.invokevirtual 67, 3) := by decide +kernel
theorem d_RL_isNewer_35 : decode b_RL_isNewer 35 = .ok (.if_icmp .le 7, 3) := by decide +kernel
theorem d_RL_isNewer_38 : decode b_RL_isNewer 38 = .ok (.iconst 1, 1) := by decide +kernel
theorem d_RL_isNewer_39 : decode b_RL_isNewer 39 = .ok (.goto 4, 3) := by decide +kernel
theorem d_RL_isNewer_42 : decode b_RL_isNewer 42 = .ok (.iconst 0, 1) := by decide +kernel
theorem d_RL_isNewer_43 : decode b_RL_isNewer 43 = .ok (.ireturn, 1) := by decide +kernel
theorem d_RL_isSumRight_0 : decode b_RL_isSumRight 0 = .ok (.aload_n 0, 1) := by decide +kernel
theorem d_RL_isSumRight_1 : decode b_RL_isSumRight 1 = .ok (.iload_n 1, 1) := by decide +kernel
theorem d_RL_isSumRight_2 : decode b_RL_isSumRight 2 = .ok (.invokevirtual 45, 3) := by decide +kernel
theorem d_RL_isSumRight_5 : decode b_RL_isSumRight 5 = .ok (.istore_n 2, 1) := by decide +kernel
theorem d_RL_isSumRight_6 : decode b_RL_isSumRight 6 = .ok (.aload_n 0, 1) := by decide +kernel
theorem d_RL_isSumRight_7 : decode b_RL_isSumRight 7 = .ok (.getfield 32, 3) := by decide +kernel
theorem d_RL_isSumRight_10 : decode b_RL_isSumRight 10 = .ok (.iload_n 2, 1) := by decide +kernel
theorem d_RL_isSumRight_11 : decode b_RL_isSumRight 11 = .ok (.invokestatic 112, 3) := by decide +kernel
theorem d_RL_isSumRight_14 : decode b_RL_isSumRight 14 = .ok (.lstore_n 3, 1) := by decide +kernel
theorem d_RL_isSumRight_15 : decode b_RL_isSumRight 15 = .ok (.aload_n 0, 1) := by decide +kernel
theorem d_RL_isSumRight_16 : decode b_RL_isSumRight 16 = .ok (.getfield 35, 3) := by decide +kernel
theorem d_RL_isSumRight_19 : decode b_RL_isSumRight 19 = .ok (.aload_n 0, 1) := by decide +kernel
theorem d_RL_isSumRight_20 : decode b_RL_isSumRight 20 = .ok (.iload_n 1, 1) := by decide +kernel
theorem d_RL_isSumRight_21 : decode b_RL_isSumRight 21 = .ok (.invokevirtual 80, 3) := by decide +kernel
theorem d_RL_isSumRight_24 : decode b_RL_isSumRight 24 = .ok (.baload, 1) := by decide +kernel
theorem d_RL_isSumRight_25 : decode b_RL_isSumRight 25 = .ok (.ifCond .ne 44, 3) := by decide +kernel
theorem d_RL_isSumRight_28 : decode b_RL_isSumRight 28 = .ok (.aload_n 0, 1) := by decide +kernel
theorem d_RL_isSumRight_29 : decode b_RL_isSumRight 29 = .ok (.getfield 32, 3) := by decide +kernel
theorem d_RL_isSumRight_32 : decode b_RL_isSumRight 32 = .ok (.iload_n 2, 1) := by decide +kernel
theorem d_RL_isSumRight_33 : decode b_RL_isSumRight 33 = .ok (.bipush 56, 2) := by decide +kernel
theorem d_RL_isSumRight_35 : decode b_RL_isSumRight 35 = .ok (.iadd, 1) := by decide +kernel
theorem d_RL_isSumRight_36 : decode b_RL_isSumRight 36 = .ok (.invokestatic 56, 3) := by decide +kernel
theorem d_RL_isSumRight_39 : decode b_RL_isSumRight 39 = .ok (.lload_n 3, 1) := by decide +kernel
theorem d_RL_isSumRight_40 : decode b_RL_isSumRight 40 = .ok (.bipush 32, 2) := by decide +kernel
theorem d_RL_isSumRight_42 : decode b_RL_isSumRight 42 = .ok (.lushr, 1) := by decide +kernel
theorem d_RL_isSumRight_43 : decode b_RL_isSumRight 43 = .ok (.l2i, 1) := by decide +kernel
theorem d_RL_isSumRight_44 : decode b_RL_isSumRight 44 = .ok (.if_icmp .ne 25, 3) := by decide +kernel
theorem d_RL_isSumRight_47 : decode b_RL_isSumRight 47 = .ok (.aload_n 0, 1) := by decide +kernel
theorem d_RL_isSumRight_48 : decode b_RL_isSumRight 48 = .ok (.getfield 32, 3) := by decide +kernel
theorem d_RL_isSumRight_51 : decode b_RL_isSumRight 51 = .ok (.iload_n 2, 1) := by decide +kernel
theorem d_RL_isSumRight_52 : decode b_RL_isSumRight 52 = .ok (.bipush 56, 2) := by decide +kernel
theorem d_RL_isSumRight_54 : decode b_RL_isSumRight 54 = .ok (.iadd, 1) := by decide +kernel
theorem d_RL_isSumRight_55 : decode b_RL_isSumRight 55 = .ok (.iconst 4, 1) := by decide +kernel
theorem d_RL_isSumRight_56 : decode b_RL_isSumRight 56 = .ok (.iadd, 1) := by decide +kernel
theorem d_RL_isSumRight_57 : decode b_RL_isSumRight 57 = .ok (.invokestatic 56, 3) := by decide +kernel
theorem d_RL_isSumRight_60 : decode b_RL_isSumRight 60 = .ok (.lload_n 3, 1) := by decide +kernel
theorem d_RL_isSumRight_61 : decode b_RL_isSumRight 61 = .ok (.l2i, 1) := by decide +kernel
theorem d_RL_isSumRight_62 : decode b_RL_isSumRight 62 = .ok (.if_icmp .ne 7, 3) := by decide +kernel
theorem d_RL_isSumRight_65 : decode b_RL_isSumRight 65 = .ok (.iconst 1, 1) := by decide +kernel
theorem d_RL_isSumRight_66 : decode b_RL_isSumRight 66 = .ok (.goto 4, 3) := by decide +kernel
theorem d_RL_isSumRight_69 : decode b_RL_isSumRight 69 = .ok (.iconst 0, 1) := by decide +kernel
theorem d_RL_isSumRight_70 : decode b_RL_isSumRight 70 = .ok (.ireturn, 1) := by decide +kernel
theorem d_RL_slotOf_0 : decode b_RL_slotOf 0 = .ok (.iload_n 1, 1) := by decide +kernel
theorem d_RL_slotOf_1 : decode b_RL_slotOf 1 = .ok (.aload_n 0, 1) := by decide +kernel
theorem d_RL_slotOf_2 : decode b_RL_slotOf 2 = .ok (.getfield 28, 3) := by decide +kernel
theorem d_RL_slotOf_5 : decode b_RL_slotOf 5 = .ok (.invokestatic 116, 3) := by decide +kernel
theorem d_RL_slotOf_8 : decode b_RL_slotOf 8 = .ok (.ireturn, 1) := by decide +kernel
theorem d_RL_offsetOf_0 : decode b_RL_offsetOf 0 = .ok (.aload_n 0, 1) := by decide +kernel
theorem d_RL_offsetOf_1 : decode b_RL_offsetOf 1 = .ok (.iload_n 1, 1) := by decide +kernel
theorem d_RL_offsetOf_2 : decode b_RL_offsetOf 2 = .ok (.invokevirtual 80, 3) := by decide +kernel
theorem d_RL_offsetOf_5 : decode b_RL_offsetOf 5 = .ok (.bipush 64, 2) := by decide +kernel
theorem d_RL_offsetOf_7 : decode b_RL_offsetOf 7 = .ok (.imul, 1) := by decide +kernel
theorem d_RL_offsetOf_8 : decode b_RL_offsetOf 8 = .ok (.ireturn, 1) := by decide +kernel
theorem d_RL_setInt_0 : decode b_RL_setInt 0 = .ok (.aload_n 0, 1) := by decide +kernel
theorem d_RL_setInt_1 : decode b_RL_setInt 1 = .ok (.getfield 11, 3) := by decide +kernel
theorem d_RL_setInt_4 : decode b_RL_setInt 4 = .ok (.iload_n 1, 1) := by decide +kernel
theorem d_RL_setInt_5 : decode b_RL_setInt 5 = .ok (.iload_n 2, 1) := by decide +kernel
theorem d_RL_setInt_6 : decode b_RL_setInt 6 = .ok (.bipush 24, 2) := by decide +kernel
theorem d_RL_setInt_8 : decode b_RL_setInt 8 = .ok (.iushr, 1) := by decide +kernel
theorem d_RL_setInt_9 : decode b_RL_setInt 9 = .ok (.i2b, 1) := by decide +kernel
theorem d_RL_setInt_10 : decode b_RL_setInt 10 = .ok (.bastore, 1) := by decide +kernel
theorem d_RL_setInt_11 : decode b_RL_setInt 11 = .ok (.aload_n 0, 1) := by decide +kernel
theorem d_RL_setInt_12 : decode b_RL_setInt 12 = .ok (.getfield 11, 3) := by decide +kernel
theorem d_RL_setInt_15 : decode b_RL_setInt 15 = .ok (.iload_n 1, 1) := by decide +kernel
theorem d_RL_setInt_16 : decode b_RL_setInt 16 = .ok (.iconst 1, 1) := by decide +kernel
theorem d_RL_setInt_17 : decode b_RL_setInt 17 = .ok (.iadd, 1) := by decide +kernel
theorem d_RL_setInt_18 : decode b_RL_setInt 18 = .ok (.iload_n 2, 1) := by decide +kernel
theorem d_RL_setInt_19 : decode b_RL_setInt 19 = .ok (.bipush 16, 2) := by decide +kernel
theorem d_RL_setInt_21 : decode b_RL_setInt 21 = .ok (.iushr, 1) := by decide +kernel
theorem d_RL_setInt_22 : decode b_RL_setInt 22 = .ok (.i2b, 1) := by decide +kernel
theorem d_RL_setInt_23 : decode b_RL_setInt 23 = .ok (.bastore, 1) := by decide +kernel
theorem d_RL_setInt_24 : decode b_RL_setInt 24 = .ok (.aload_n 0, 1) := by decide +kernel
theorem d_RL_setInt_25 : decode b_RL_setInt 25 = .ok (.getfield 11, 3) := by decide +kernel
theorem d_RL_setInt_28 : decode b_RL_setInt 28 = .ok (.iload_n 1, 1) := by decide +kernel
theorem d_RL_setInt_29 : decode b_RL_setInt 29 = .ok (.iconst 2, 1) := by decide +kernel
theorem d_RL_setInt_30 : decode b_RL_setInt 30 = .ok (.iadd, 1) := by decide +kernel
theorem d_RL_setInt_31 : decode b_RL_setInt 31 = .ok (.iload_n 2, 1) := by decide +kernel
theorem d_RL_setInt_32 : decode b_RL_setInt 32 = .ok (.bipush 8, 2) := by decide +kernel
theorem d_RL_setInt_34 : decode b_RL_setInt 34 = .ok (.iushr, 1) := by decide +kernel
theorem d_RL_setInt_35 : decode b_RL_setInt 35 = .ok (.i2b, 1) := by decide +kernel
theorem d_RL_setInt_36 : decode b_RL_setInt 36 = .ok (.bastore, 1) := by decide +kernel
theorem d_RL_setInt_37 : decode b_RL_setInt 37 = .ok (.aload_n 0, 1) := by decide +kernel
theorem d_RL_setInt_38 : decode b_RL_setInt 38 = .ok (.getfield 11, 3) := by decide +kernel
theorem d_RL_setInt_41 : decode b_RL_setInt 41 = .ok (.iload_n 1, 1) := by decide +kernel
theorem d_RL_setInt_42 : decode b_RL_setInt 42 = .ok (.iconst 3, 1) := by decide +kernel
theorem d_RL_setInt_43 : decode b_RL_setInt 43 = .ok (.iadd, 1) := by decide +kernel
theorem d_RL_setInt_44 : decode b_RL_setInt 44 = .ok (.iload_n 2, 1) := by decide +kernel
theorem d_RL_setInt_45 : decode b_RL_setInt 45 = .ok (.i2b, 1) := by decide +kernel
theorem d_RL_setInt_46 : decode b_RL_setInt 46 = .ok (.bastore, 1) := by decide +kernel
theorem d_RL_setInt_47 : decode b_RL_setInt 47 = .ok (.return_, 1) := by decide +kernel
theorem d_RL_intAt_0 : decode b_RL_intAt 0 = .ok (.aload_n 0, 1) := by decide +kernel
theorem d_RL_intAt_1 : decode b_RL_intAt 1 = .ok (.iload_n 1, 1) := by decide +kernel
theorem d_RL_intAt_2 : decode b_RL_intAt 2 = .ok (.baload, 1) := by decide +kernel
theorem d_RL_intAt_3 : decode b_RL_intAt 3 = .ok (.sipush 255, 3) := by decide +kernel
theorem d_RL_intAt_6 : decode b_RL_intAt 6 = .ok (.iand, 1) := by decide +kernel
theorem d_RL_intAt_7 : decode b_RL_intAt 7 = .ok (.bipush 24, 2) := by decide +kernel
theorem d_RL_intAt_9 : decode b_RL_intAt 9 = .ok (.ishl, 1) := by decide +kernel
theorem d_RL_intAt_10 : decode b_RL_intAt 10 = .ok (.aload_n 0, 1) := by decide +kernel
theorem d_RL_intAt_11 : decode b_RL_intAt 11 = .ok (.iload_n 1, 1) := by decide +kernel
theorem d_RL_intAt_12 : decode b_RL_intAt 12 = .ok (.iconst 1, 1) := by decide +kernel
theorem d_RL_intAt_13 : decode b_RL_intAt 13 = .ok (.iadd, 1) := by decide +kernel
theorem d_RL_intAt_14 : decode b_RL_intAt 14 = .ok (.baload, 1) := by decide +kernel
theorem d_RL_intAt_15 : decode b_RL_intAt 15 = .ok (.sipush 255, 3) := by decide +kernel
theorem d_RL_intAt_18 : decode b_RL_intAt 18 = .ok (.iand, 1) := by decide +kernel
theorem d_RL_intAt_19 : decode b_RL_intAt 19 = .ok (.bipush 16, 2) := by decide +kernel
theorem d_RL_intAt_21 : decode b_RL_intAt 21 = .ok (.ishl, 1) := by decide +kernel
theorem d_RL_intAt_22 : decode b_RL_intAt 22 = .ok (.ior, 1) := by decide +kernel
theorem d_RL_intAt_23 : decode b_RL_intAt 23 = .ok (.aload_n 0, 1) := by decide +kernel
theorem d_RL_intAt_24 : decode b_RL_intAt 24 = .ok (.iload_n 1, 1) := by decide +kernel
theorem d_RL_intAt_25 : decode b_RL_intAt 25 = .ok (.iconst 2, 1) := by decide +kernel
theorem d_RL_intAt_26 : decode b_RL_intAt 26 = .ok (.iadd, 1) := by decide +kernel
theorem d_RL_intAt_27 : decode b_RL_intAt 27 = .ok (.baload, 1) := by decide +kernel
theorem d_RL_intAt_28 : decode b_RL_intAt 28 = .ok (.sipush 255, 3) := by decide +kernel
theorem d_RL_intAt_31 : decode b_RL_intAt 31 = .ok (.iand, 1) := by decide +kernel
theorem d_RL_intAt_32 : decode b_RL_intAt 32 = .ok (.bipush 8, 2) := by decide +kernel
theorem d_RL_intAt_34 : decode b_RL_intAt 34 = .ok (.ishl, 1) := by decide +kernel
theorem d_RL_intAt_35 : decode b_RL_intAt 35 = .ok (.ior, 1) := by decide +kernel
theorem d_RL_intAt_36 : decode b_RL_intAt 36 = .ok (.aload_n 0, 1) := by decide +kernel
theorem d_RL_intAt_37 : decode b_RL_intAt 37 = .ok (.iload_n 1, 1) := by decide +kernel
theorem d_RL_intAt_38 : decode b_RL_intAt 38 = .ok (.iconst 3, 1) := by decide +kernel
theorem d_RL_intAt_39 : decode b_RL_intAt 39 = .ok (.iadd, 1) := by decide +kernel
theorem d_RL_intAt_40 : decode b_RL_intAt 40 = .ok (.baload, 1) := by decide +kernel
theorem d_RL_intAt_41 : decode b_RL_intAt 41 = .ok (.sipush 255, 3) := by decide +kernel
theorem d_RL_intAt_44 : decode b_RL_intAt 44 = .ok (.iand, 1) := by decide +kernel
theorem d_RL_intAt_45 : decode b_RL_intAt 45 = .ok (.ior, 1) := by decide +kernel
theorem d_RL_intAt_46 : decode b_RL_intAt 46 = .ok (.ireturn, 1) := by decide +kernel
theorem d_RL_sumOf_0 : decode b_RL_sumOf 0 = .ok (.lconst 0, 1) := by decide +kernel
theorem d_RL_sumOf_1 : decode b_RL_sumOf 1 = .ok (.lstore_n 2, 1) := by decide +kernel
theorem d_RL_sumOf_2 : decode b_RL_sumOf 2 = .ok (.iconst 0, 1) := by decide +kernel
theorem d_RL_sumOf_3 : decode b_RL_sumOf 3 = .ok (.istore 4, 2) := by decide +kernel
theorem d_RL_sumOf_5 : decode b_RL_sumOf 5 = .ok (.iload 4, 2) := by decide +kernel
theorem d_RL_sumOf_7 : decode b_RL_sumOf 7 = .ok (.bipush 56, 2) := by decide +kernel
theorem d_RL_sumOf_9 : decode b_RL_sumOf 9 = .ok (.if_icmp .ge 40, 3) := by decide +kernel
theorem d_RL_sumOf_12 : decode b_RL_sumOf 12 = .ok (.lload_n 2, 1) := by decide +kernel
theorem d_RL_sumOf_13 : decode b_RL_sumOf 13 = .ok (.aload_n 0, 1) := by decide +kernel
theorem d_RL_sumOf_14 : decode b_RL_sumOf 14 = .ok (.iload_n 1, 1) := by decide +kernel
theorem d_RL_sumOf_15 : decode b_RL_sumOf 15 = .ok (.iload 4, 2) := by decide +kernel
theorem d_RL_sumOf_17 : decode b_RL_sumOf 17 = .ok (.iadd, 1) := by decide +kernel
theorem d_RL_sumOf_18 : decode b_RL_sumOf 18 = .ok (.baload, 1) := by decide +kernel
theorem d_RL_sumOf_19 : decode b_RL_sumOf 19 = .ok (.sipush 255, 3) := by decide +kernel
theorem d_RL_sumOf_22 : decode b_RL_sumOf 22 = .ok (.iand, 1) := by decide +kernel
theorem d_RL_sumOf_23 : decode b_RL_sumOf 23 = .ok (.i2l, 1) := by decide +kernel
theorem d_RL_sumOf_24 : decode b_RL_sumOf 24 = .ok (.lxor, 1) := by decide +kernel
theorem d_RL_sumOf_25 : decode b_RL_sumOf 25 = .ok (.lstore 5, 2) := by decide +kernel
theorem d_RL_sumOf_27 : decode b_RL_sumOf 27 = .ok (.lload 5, 2) := by decide +kernel
theorem d_RL_sumOf_29 : decode b_RL_sumOf 29 = .ok (.bipush 47, 2) := by decide +kernel
theorem d_RL_sumOf_31 : decode b_RL_sumOf 31 = .ok (.lshl, 1) := by decide +kernel
theorem d_RL_sumOf_32 : decode b_RL_sumOf 32 = .ok (.lload 5, 2) := by decide +kernel
theorem d_RL_sumOf_34 : decode b_RL_sumOf 34 = .ok (.bipush 17, 2) := by decide +kernel
theorem d_RL_sumOf_36 : decode b_RL_sumOf 36 = .ok (.lushr, 1) := by decide +kernel
theorem d_RL_sumOf_37 : decode b_RL_sumOf 37 = .ok (.lor, 1) := by decide +kernel
theorem d_RL_sumOf_38 : decode b_RL_sumOf 38 = .ok (.ldc2_w 119, 3) := by decide +kernel
theorem d_RL_sumOf_41 : decode b_RL_sumOf 41 = .ok (.lmul, 1) := by decide +kernel
theorem d_RL_sumOf_42 : decode b_RL_sumOf 42 = .ok (.lstore_n 2, 1) := by decide +kernel
theorem d_RL_sumOf_43 : decode b_RL_sumOf 43 = .ok (.iinc 4 1, 3) := by decide +kernel
theorem d_RL_sumOf_46 : decode b_RL_sumOf 46 = .ok (.goto (-41), 3) := by decide +kernel
theorem d_RL_sumOf_49 : decode b_RL_sumOf 49 = .ok (.lload_n 2, 1) := by decide +kernel
theorem d_RL_sumOf_50 : decode b_RL_sumOf 50 = .ok (.lreturn, 1) := by decide +kernel
theorem d_SH_init_0 : decode b_SH_init 0 = .ok (.aload_n 0, 1) := by decide +kernel
theorem d_SH_init_1 : decode b_SH_init 1 = .ok (.invokespecial 3, 3) := by decide +kernel
theorem d_SH_init_4 : decode b_SH_init 4 = .ok (.aload_n 0, 1) := by decide +kernel
theorem d_SH_init_5 : decode b_SH_init 5 = .ok (.sipush 200, 3) := by decide +kernel
theorem d_SH_init_8 : decode b_SH_init 8 = .ok (.newarray .int, 2) := by decide +kernel
theorem d_SH_init_10 : decode b_SH_init 10 = .ok (.putfield 11, 3) := by decide +kernel
theorem d_SH_init_13 : decode b_SH_init 13 = .ok (.aload_n 0, 1) := by decide +kernel
theorem d_SH_init_14 : decode b_SH_init 14 = .ok (.sipush 200, 3) := by decide +kernel
theorem d_SH_init_17 : decode b_SH_init 17 = .ok (.newarray .int, 2) := by decide +kernel
theorem d_SH_init_19 : decode b_SH_init 19 = .ok (.putfield 17, 3) := by decide +kernel
theorem d_SH_init_22 : decode b_SH_init 22 = .ok (.return_, 1) := by decide +kernel
theorem d_SH_size_0 : decode b_SH_size 0 = .ok (.aload_n 0, 1) := by decide +kernel
theorem d_SH_size_1 : decode b_SH_size 1 = .ok (.getfield 20, 3) := by decide +kernel
theorem d_SH_size_4 : decode b_SH_size 4 = .ok (.ireturn, 1) := by decide +kernel
theorem d_SH_newest_0 : decode b_SH_newest 0 = .ok (.aload_n 0, 1) := by decide +kernel
theorem d_SH_newest_1 : decode b_SH_newest 1 = .ok (.getfield 20, 3) := by decide +kernel
theorem d_SH_newest_4 : decode b_SH_newest 4 = .ok (.ifCond .ne 7, 3) := by decide +kernel
theorem d_SH_newest_7 : decode b_SH_newest 7 = .ok (.iconst 0, 1) := by decide +kernel
theorem d_SH_newest_8 : decode b_SH_newest 8 = .ok (.goto 14, 3) := by decide +kernel
theorem d_SH_newest_11 : decode b_SH_newest 11 = .ok (.aload_n 0, 1) := by decide +kernel
theorem d_SH_newest_12 : decode b_SH_newest 12 = .ok (.getfield 11, 3) := by decide +kernel
theorem d_SH_newest_15 : decode b_SH_newest 15 = .ok (.aload_n 0, 1) := by decide +kernel
theorem d_SH_newest_16 : decode b_SH_newest 16 = .ok (.getfield 20, 3) := by decide +kernel
theorem d_SH_newest_19 : decode b_SH_newest 19 = .ok (.iconst 1, 1) := by decide +kernel
theorem d_SH_newest_20 : decode b_SH_newest 20 = .ok (.isub, 1) := by decide +kernel
theorem d_SH_newest_21 : decode b_SH_newest 21 = .ok (.iaload, 1) := by decide +kernel
theorem d_SH_newest_22 : decode b_SH_newest 22 = .ok (.ireturn, 1) := by decide +kernel
theorem d_SH_newestRoot_0 : decode b_SH_newestRoot 0 = .ok (.aload_n 0, 1) := by decide +kernel
theorem d_SH_newestRoot_1 : decode b_SH_newestRoot 1 = .ok (.getfield 20, 3) := by decide +kernel
theorem d_SH_newestRoot_4 : decode b_SH_newestRoot 4 = .ok (.ifCond .ne 7, 3) := by decide +kernel
theorem d_SH_newestRoot_7 : decode b_SH_newestRoot 7 = .ok (.iconst (-1), 1) := by decide +kernel
theorem d_SH_newestRoot_8 : decode b_SH_newestRoot 8 = .ok (.goto 14, 3) := by decide +kernel
theorem d_SH_newestRoot_11 : decode b_SH_newestRoot 11 = .ok (.aload_n 0, 1) := by decide +kernel
theorem d_SH_newestRoot_12 : decode b_SH_newestRoot 12 = .ok (.getfield 17, 3) := by decide +kernel
theorem d_SH_newestRoot_15 : decode b_SH_newestRoot 15 = .ok (.aload_n 0, 1) := by decide +kernel
theorem d_SH_newestRoot_16 : decode b_SH_newestRoot 16 = .ok (.getfield 20, 3) := by decide +kernel
theorem d_SH_newestRoot_19 : decode b_SH_newestRoot 19 = .ok (.iconst 1, 1) := by decide +kernel
theorem d_SH_newestRoot_20 : decode b_SH_newestRoot 20 = .ok (.isub, 1) := by decide +kernel
theorem d_SH_newestRoot_21 : decode b_SH_newestRoot 21 = .ok (.iaload, 1) := by decide +kernel
theorem d_SH_newestRoot_22 : decode b_SH_newestRoot 22 = .ok (.ireturn, 1) := by decide +kernel
theorem d_SH_versionFromNewest_0 : decode b_SH_versionFromNewest 0 = .ok (.iload_n 1, 1) := by decide +kernel
theorem d_SH_versionFromNewest_1 : decode b_SH_versionFromNewest 1 = .ok (.ifCond .lt 27, 3) := by decide +kernel
theorem d_SH_versionFromNewest_4 : decode b_SH_versionFromNewest 4 = .ok (.iload_n 1, 1) := by decide +kernel
theorem d_SH_versionFromNewest_5 : decode b_SH_versionFromNewest 5 = .ok (.aload_n 0, 1) := by decide +kernel
theorem d_SH_versionFromNewest_6 : decode b_SH_versionFromNewest 6 = .ok (.getfield 20, 3) := by decide +kernel
theorem d_SH_versionFromNewest_9 : decode b_SH_versionFromNewest 9 = .ok (.if_icmp .ge 19, 3) := by decide +kernel
theorem d_SH_versionFromNewest_12 : decode b_SH_versionFromNewest 12 = .ok (.aload_n 0, 1) := by decide +kernel
theorem d_SH_versionFromNewest_13 : decode b_SH_versionFromNewest 13 = .ok (.getfield 11, 3) := by decide +kernel
theorem d_SH_versionFromNewest_16 : decode b_SH_versionFromNewest 16 = .ok (.aload_n 0, 1) := by decide +kernel
theorem d_SH_versionFromNewest_17 : decode b_SH_versionFromNewest 17 = .ok (.getfield 20, 3) := by decide +kernel
theorem d_SH_versionFromNewest_20 : decode b_SH_versionFromNewest 20 = .ok (.iconst 1, 1) := by decide +kernel
theorem d_SH_versionFromNewest_21 : decode b_SH_versionFromNewest 21 = .ok (.isub, 1) := by decide +kernel
theorem d_SH_versionFromNewest_22 : decode b_SH_versionFromNewest 22 = .ok (.iload_n 1, 1) := by decide +kernel
theorem d_SH_versionFromNewest_23 : decode b_SH_versionFromNewest 23 = .ok (.isub, 1) := by decide +kernel
theorem d_SH_versionFromNewest_24 : decode b_SH_versionFromNewest 24 = .ok (.iaload, 1) := by decide +kernel
theorem d_SH_versionFromNewest_25 : decode b_SH_versionFromNewest 25 = .ok (.goto 4, 3) := by decide +kernel
theorem d_SH_versionFromNewest_28 : decode b_SH_versionFromNewest 28 = .ok (.iconst (-1), 1) := by decide +kernel
theorem d_SH_versionFromNewest_29 : decode b_SH_versionFromNewest 29 = .ok (.ireturn, 1) := by decide +kernel
theorem d_SH_rootOf_0 : decode b_SH_rootOf 0 = .ok (.iconst 0, 1) := by decide +kernel
theorem d_SH_rootOf_1 : decode b_SH_rootOf 1 = .ok (.istore_n 2, 1) := by decide +kernel
theorem d_SH_rootOf_2 : decode b_SH_rootOf 2 = .ok (.iload_n 2, 1) := by decide +kernel
theorem d_SH_rootOf_3 : decode b_SH_rootOf 3 = .ok (.aload_n 0, 1) := by decide +kernel
theorem d_SH_rootOf_4 : decode b_SH_rootOf 4 = .ok (.getfield 20, 3) := by decide +kernel
theorem d_SH_rootOf_7 : decode b_SH_rootOf 7 = .ok (.if_icmp .ge 26, 3) := by decide +kernel
theorem d_SH_rootOf_10 : decode b_SH_rootOf 10 = .ok (.aload_n 0, 1) := by decide +kernel
theorem d_SH_rootOf_11 : decode b_SH_rootOf 11 = .ok (.getfield 11, 3) := by decide +kernel
theorem d_SH_rootOf_14 : decode b_SH_rootOf 14 = .ok (.iload_n 2, 1) := by decide +kernel
theorem d_SH_rootOf_15 : decode b_SH_rootOf 15 = .ok (.iaload, 1) := by decide +kernel
theorem d_SH_rootOf_16 : decode b_SH_rootOf 16 = .ok (.iload_n 1, 1) := by decide +kernel
theorem d_SH_rootOf_17 : decode b_SH_rootOf 17 = .ok (.if_icmp .ne 10, 3) := by decide +kernel
theorem d_SH_rootOf_20 : decode b_SH_rootOf 20 = .ok (.aload_n 0, 1) := by decide +kernel
theorem d_SH_rootOf_21 : decode b_SH_rootOf 21 = .ok (.getfield 17, 3) := by decide +kernel
theorem d_SH_rootOf_24 : decode b_SH_rootOf 24 = .ok (.iload_n 2, 1) := by decide +kernel
theorem d_SH_rootOf_25 : decode b_SH_rootOf 25 = .ok (.iaload, 1) := by decide +kernel
theorem d_SH_rootOf_26 : decode b_SH_rootOf 26 = .ok (.ireturn, 1) := by decide +kernel
theorem d_SH_rootOf_27 : decode b_SH_rootOf 27 = .ok (.iinc 2 1, 3) := by decide +kernel
theorem d_SH_rootOf_30 : decode b_SH_rootOf 30 = .ok (.goto (-28), 3) := by decide +kernel
theorem d_SH_rootOf_33 : decode b_SH_rootOf 33 = .ok (.iconst (-1), 1) := by decide +kernel
theorem d_SH_rootOf_34 : decode b_SH_rootOf 34 = .ok (.ireturn, 1) := by decide +kernel
theorem d_SH_clear_0 : decode b_SH_clear 0 = .ok (.aload_n 0, 1) := by decide +kernel
theorem d_SH_clear_1 : decode b_SH_clear 1 = .ok (.iconst 0, 1) := by decide +kernel
theorem d_SH_clear_2 : decode b_SH_clear 2 = .ok (.putfield 20, 3) := by decide +kernel
theorem d_SH_clear_5 : decode b_SH_clear 5 = .ok (.return_, 1) := by decide +kernel
theorem d_SH_add_0 : decode b_SH_add 0 = .ok (.aload_n 0, 1) := by decide +kernel
theorem d_SH_add_1 : decode b_SH_add 1 = .ok (.getfield 20, 3) := by decide +kernel
theorem d_SH_add_4 : decode b_SH_add 4 = .ok (.istore_n 3, 1) := by decide +kernel
theorem d_SH_add_5 : decode b_SH_add 5 = .ok (.iload_n 3, 1) := by decide +kernel
theorem d_SH_add_6 : decode b_SH_add 6 = .ok (.ifCond .le 21, 3) := by decide +kernel
theorem d_SH_add_9 : decode b_SH_add 9 = .ok (.aload_n 0, 1) := by decide +kernel
theorem d_SH_add_10 : decode b_SH_add 10 = .ok (.getfield 11, 3) := by decide +kernel
theorem d_SH_add_13 : decode b_SH_add 13 = .ok (.iload_n 3, 1) := by decide +kernel
theorem d_SH_add_14 : decode b_SH_add 14 = .ok (.iconst 1, 1) := by decide +kernel
theorem d_SH_add_15 : decode b_SH_add 15 = .ok (.isub, 1) := by decide +kernel
theorem d_SH_add_16 : decode b_SH_add 16 = .ok (.iaload, 1) := by decide +kernel
theorem d_SH_add_17 : decode b_SH_add 17 = .ok (.iload_n 1, 1) := by decide +kernel
theorem d_SH_add_18 : decode b_SH_add 18 = .ok (.if_icmp .le 9, 3) := by decide +kernel
theorem d_SH_add_21 : decode b_SH_add 21 = .ok (.iinc 3 (-1), 3) := by decide +kernel
theorem d_SH_add_24 : decode b_SH_add 24 = .ok (.goto (-19), 3) := by decide +kernel
theorem d_SH_add_27 : decode b_SH_add 27 = .ok (.iload_n 3, 1) := by decide +kernel
theorem d_SH_add_28 : decode b_SH_add 28 = .ok (.ifCond .le 38, 3) := by decide +kernel
theorem d_SH_add_31 : decode b_SH_add 31 = .ok (.aload_n 0, 1) := by decide +kernel
theorem d_SH_add_32 : decode b_SH_add 32 = .ok (.getfield 11, 3) := by decide +kernel
theorem d_SH_add_35 : decode b_SH_add 35 = .ok (.iload_n 3, 1) := by decide +kernel
theorem d_SH_add_36 : decode b_SH_add 36 = .ok (.iconst 1, 1) := by decide +kernel
theorem d_SH_add_37 : decode b_SH_add 37 = .ok (.isub, 1) := by decide +kernel
theorem d_SH_add_38 : decode b_SH_add 38 = .ok (.iaload, 1) := by decide +kernel
theorem d_SH_add_39 : decode b_SH_add 39 = .ok (.iload_n 1, 1) := by decide +kernel
theorem d_SH_add_40 : decode b_SH_add 40 = .ok (.if_icmp .ne 26, 3) := by decide +kernel
theorem d_SH_add_43 : decode b_SH_add 43 = .ok (.aload_n 0, 1) := by decide +kernel
theorem d_SH_add_44 : decode b_SH_add 44 = .ok (.getfield 17, 3) := by decide +kernel
theorem d_SH_add_47 : decode b_SH_add 47 = .ok (.iload_n 3, 1) := by decide +kernel
theorem d_SH_add_48 : decode b_SH_add 48 = .ok (.iconst 1, 1) := by decide +kernel
theorem d_SH_add_49 : decode b_SH_add 49 = .ok (.isub, 1) := by decide +kernel
theorem d_SH_add_50 : decode b_SH_add 50 = .ok (.aload_n 0, 1) := by decide +kernel
theorem d_SH_add_51 : decode b_SH_add 51 = .ok (.getfield 17, 3) := by decide +kernel
theorem d_SH_add_54 : decode b_SH_add 54 = .ok (.iload_n 3, 1) := by decide +kernel
theorem d_SH_add_55 : decode b_SH_add 55 = .ok (.iconst 1, 1) := by decide +kernel
theorem d_SH_add_56 : decode b_SH_add 56 = .ok (.isub, 1) := by decide +kernel
theorem d_SH_add_57 : decode b_SH_add 57 = .ok (.iaload, 1) := by decide +kernel
theorem d_SH_add_58 : decode b_SH_add 58 = .ok (.iload_n 2, 1) := by decide +kernel
theorem d_SH_add_59 : decode b_SH_add 59 = .ok (.invokestatic 24, 3) := by decide +kernel
theorem d_SH_add_62 : decode b_SH_add 62 = .ok (.iastore, 1) := by decide +kernel
theorem d_SH_add_63 : decode b_SH_add 63 = .ok (.goto 22, 3) := by decide +kernel
theorem d_SH_add_66 : decode b_SH_add 66 = .ok (.aload_n 0, 1) := by decide +kernel
theorem d_SH_add_67 : decode b_SH_add 67 = .ok (.getfield 20, 3) := by decide +kernel
theorem d_SH_add_70 : decode b_SH_add 70 = .ok (.aload_n 0, 1) := by decide +kernel
theorem d_SH_add_71 : decode b_SH_add 71 = .ok (.getfield 11, 3) := by decide +kernel
theorem d_SH_add_74 : decode b_SH_add 74 = .ok (.arraylength, 1) := by decide +kernel
theorem d_SH_add_75 : decode b_SH_add 75 = .ok (.if_icmp .ge 10, 3) := by decide +kernel
theorem d_SH_add_78 : decode b_SH_add 78 = .ok (.aload_n 0, 1) := by decide +kernel
theorem d_SH_add_79 : decode b_SH_add 79 = .ok (.iload_n 3, 1) := by decide +kernel
theorem d_SH_add_80 : decode b_SH_add 80 = .ok (.iload_n 1, 1) := by decide +kernel
theorem d_SH_add_81 : decode b_SH_add 81 = .ok (.iload_n 2, 1) := by decide +kernel
theorem d_SH_add_82 : decode b_SH_add 82 = .ok (.invokevirtual 30, 3) := by decide +kernel
theorem d_SH_add_85 : decode b_SH_add 85 = .ok (.return_, 1) := by decide +kernel
theorem d_SH_insert_0 : decode b_SH_insert 0 = .ok (.aload_n 0, 1) := by decide +kernel
theorem d_SH_insert_1 : decode b_SH_insert 1 = .ok (.getfield 20, 3) := by decide +kernel
theorem d_SH_insert_4 : decode b_SH_insert 4 = .ok (.istore 4, 2) := by decide +kernel
theorem d_SH_insert_6 : decode b_SH_insert 6 = .ok (.iload 4, 2) := by decide +kernel
theorem d_SH_insert_8 : decode b_SH_insert 8 = .ok (.iload_n 1, 1) := by decide +kernel
theorem d_SH_insert_9 : decode b_SH_insert 9 = .ok (.if_icmp .le 41, 3) := by decide +kernel
theorem d_SH_insert_12 : decode b_SH_insert 12 = .ok (.aload_n 0, 1) := by decide +kernel
theorem d_SH_insert_13 : decode b_SH_insert 13 = .ok (.getfield 11, 3) := by decide +kernel
theorem d_SH_insert_16 : decode b_SH_insert 16 = .ok (.iload 4, 2) := by decide +kernel
theorem d_SH_insert_18 : decode b_SH_insert 18 = .ok (.aload_n 0, 1) := by decide +kernel
theorem d_SH_insert_19 : decode b_SH_insert 19 = .ok (.getfield 11, 3) := by decide +kernel
theorem d_SH_insert_22 : decode b_SH_insert 22 = .ok (.iload 4, 2) := by decide +kernel
theorem d_SH_insert_24 : decode b_SH_insert 24 = .ok (.iconst 1, 1) := by decide +kernel
theorem d_SH_insert_25 : decode b_SH_insert 25 = .ok (.isub, 1) := by decide +kernel
theorem d_SH_insert_26 : decode b_SH_insert 26 = .ok (.iaload, 1) := by decide +kernel
theorem d_SH_insert_27 : decode b_SH_insert 27 = .ok (.iastore, 1) := by decide +kernel
theorem d_SH_insert_28 : decode b_SH_insert 28 = .ok (.aload_n 0, 1) := by decide +kernel
theorem d_SH_insert_29 : decode b_SH_insert 29 = .ok (.getfield 17, 3) := by decide +kernel
theorem d_SH_insert_32 : decode b_SH_insert 32 = .ok (.iload 4, 2) := by decide +kernel
theorem d_SH_insert_34 : decode b_SH_insert 34 = .ok (.aload_n 0, 1) := by decide +kernel
theorem d_SH_insert_35 : decode b_SH_insert 35 = .ok (.getfield 17, 3) := by decide +kernel
theorem d_SH_insert_38 : decode b_SH_insert 38 = .ok (.iload 4, 2) := by decide +kernel
theorem d_SH_insert_40 : decode b_SH_insert 40 = .ok (.iconst 1, 1) := by decide +kernel
theorem d_SH_insert_41 : decode b_SH_insert 41 = .ok (.isub, 1) := by decide +kernel
theorem d_SH_insert_42 : decode b_SH_insert 42 = .ok (.iaload, 1) := by decide +kernel
theorem d_SH_insert_43 : decode b_SH_insert 43 = .ok (.iastore, 1) := by decide +kernel
theorem d_SH_insert_44 : decode b_SH_insert 44 = .ok (.iinc 4 (-1), 3) := by decide +kernel
theorem d_SH_insert_47 : decode b_SH_insert 47 = .ok (.goto (-41), 3) := by decide +kernel
theorem d_SH_insert_50 : decode b_SH_insert 50 = .ok (.aload_n 0, 1) := by decide +kernel
theorem d_SH_insert_51 : decode b_SH_insert 51 = .ok (.getfield 11, 3) := by decide +kernel
theorem d_SH_insert_54 : decode b_SH_insert 54 = .ok (.iload_n 1, 1) := by decide +kernel
theorem d_SH_insert_55 : decode b_SH_insert 55 = .ok (.iload_n 2, 1) := by decide +kernel
theorem d_SH_insert_56 : decode b_SH_insert 56 = .ok (.iastore, 1) := by decide +kernel
theorem d_SH_insert_57 : decode b_SH_insert 57 = .ok (.aload_n 0, 1) := by decide +kernel
theorem d_SH_insert_58 : decode b_SH_insert 58 = .ok (.getfield 17, 3) := by decide +kernel
theorem d_SH_insert_61 : decode b_SH_insert 61 = .ok (.iload_n 1, 1) := by decide +kernel
theorem d_SH_insert_62 : decode b_SH_insert 62 = .ok (.iload_n 3, 1) := by decide +kernel
theorem d_SH_insert_63 : decode b_SH_insert 63 = .ok (.iastore, 1) := by decide +kernel
theorem d_SH_insert_64 : decode b_SH_insert 64 = .ok (.aload_n 0, 1) := by decide +kernel
theorem d_SH_insert_65 : decode b_SH_insert 65 = .ok (.dup, 1) := by decide +kernel
theorem d_SH_insert_66 : decode b_SH_insert 66 = .ok (.getfield 20, 3) := by decide +kernel
theorem d_SH_insert_69 : decode b_SH_insert 69 = .ok (.iconst 1, 1) := by decide +kernel
theorem d_SH_insert_70 : decode b_SH_insert 70 = .ok (.iadd, 1) := by decide +kernel
theorem d_SH_insert_71 : decode b_SH_insert 71 = .ok (.putfield 20, 3) := by decide +kernel
theorem d_SH_insert_74 : decode b_SH_insert 74 = .ok (.return_, 1) := by decide +kernel
theorem d_LA_cell_0 : decode b_LA_cell 0 = .ok (.iload_n 1, 1) := by decide +kernel
theorem d_LA_cell_1 : decode b_LA_cell 1 = .ok (.aload_n 0, 1) := by decide +kernel
theorem d_LA_cell_2 : decode b_LA_cell 2 = .ok (.arraylength, 1) := by decide +kernel
theorem d_LA_cell_3 : decode b_LA_cell 3 = .ok (.if_icmp .ge 9, 3) := by decide +kernel
theorem d_LA_cell_6 : decode b_LA_cell 6 = .ok (.aload_n 0, 1) := by decide +kernel
theorem d_LA_cell_7 : decode b_LA_cell 7 = .ok (.iload_n 1, 1) := by decide +kernel
theorem d_LA_cell_8 : decode b_LA_cell 8 = .ok (.iaload, 1) := by decide +kernel
theorem d_LA_cell_9 : decode b_LA_cell 9 = .ok (.goto 4, 3) := by decide +kernel
theorem d_LA_cell_12 : decode b_LA_cell 12 = .ok (.iconst 0, 1) := by decide +kernel
theorem d_LA_cell_13 : decode b_LA_cell 13 = .ok (.ireturn, 1) := by decide +kernel
theorem d_LA_put_0 : decode b_LA_put 0 = .ok (.aload_n 3, 1) := by decide +kernel
theorem d_LA_put_1 : decode b_LA_put 1 = .ok (.iconst 0, 1) := by decide +kernel
theorem d_LA_put_2 : decode b_LA_put 2 = .ok (.aload_n 0, 1) := by decide +kernel
theorem d_LA_put_3 : decode b_LA_put 3 = .ok (.iload_n 1, 1) := by decide +kernel
theorem d_LA_put_4 : decode b_LA_put 4 = .ok (.iload_n 2, 1) := by decide +kernel
theorem d_LA_put_5 : decode b_LA_put 5 = .ok (.invokevirtual 7, 3) := by decide +kernel
theorem d_LA_put_8 : decode b_LA_put 8 = .ok (.i2l, 1) := by decide +kernel
theorem d_LA_put_9 : decode b_LA_put 9 = .ok (.lastore, 1) := by decide +kernel
theorem d_LA_put_10 : decode b_LA_put 10 = .ok (.goto 11, 3) := by decide +kernel
theorem d_LA_put_13 : decode b_LA_put 13 = .ok (.astore 4, 2) := by decide +kernel
theorem d_LA_put_15 : decode b_LA_put 15 = .ok (.iconst 1, 1) := by decide +kernel
theorem d_LA_put_16 : decode b_LA_put 16 = .ok (.ireturn, 1) := by decide +kernel
theorem d_LA_put_17 : decode b_LA_put 17 = .ok (.astore 4, 2) := by decide +kernel
theorem d_LA_put_19 : decode b_LA_put 19 = .ok (.iconst 2, 1) := by decide +kernel
theorem d_LA_put_20 : decode b_LA_put 20 = .ok (.ireturn, 1) := by decide +kernel
theorem d_LA_put_21 : decode b_LA_put 21 = .ok (.iconst 0, 1) := by decide +kernel
theorem d_LA_put_22 : decode b_LA_put 22 = .ok (.ireturn, 1) := by decide +kernel
theorem d_LA_drop_0 : decode b_LA_drop 0 = .ok (.aload_n 2, 1) := by decide +kernel
theorem d_LA_drop_1 : decode b_LA_drop 1 = .ok (.iconst 0, 1) := by decide +kernel
theorem d_LA_drop_2 : decode b_LA_drop 2 = .ok (.aload_n 0, 1) := by decide +kernel
theorem d_LA_drop_3 : decode b_LA_drop 3 = .ok (.iload_n 1, 1) := by decide +kernel
theorem d_LA_drop_4 : decode b_LA_drop 4 = .ok (.invokevirtual 17, 3) := by decide +kernel
theorem d_LA_drop_7 : decode b_LA_drop 7 = .ok (.i2l, 1) := by decide +kernel
theorem d_LA_drop_8 : decode b_LA_drop 8 = .ok (.lastore, 1) := by decide +kernel
theorem d_LA_drop_9 : decode b_LA_drop 9 = .ok (.goto 9, 3) := by decide +kernel
theorem d_LA_drop_12 : decode b_LA_drop 12 = .ok (.astore_n 3, 1) := by decide +kernel
theorem d_LA_drop_13 : decode b_LA_drop 13 = .ok (.iconst 1, 1) := by decide +kernel
theorem d_LA_drop_14 : decode b_LA_drop 14 = .ok (.ireturn, 1) := by decide +kernel
theorem d_LA_drop_15 : decode b_LA_drop 15 = .ok (.astore_n 3, 1) := by decide +kernel
theorem d_LA_drop_16 : decode b_LA_drop 16 = .ok (.iconst 2, 1) := by decide +kernel
theorem d_LA_drop_17 : decode b_LA_drop 17 = .ok (.ireturn, 1) := by decide +kernel
theorem d_LA_drop_18 : decode b_LA_drop 18 = .ok (.iconst 0, 1) := by decide +kernel
theorem d_LA_drop_19 : decode b_LA_drop 19 = .ok (.ireturn, 1) := by decide +kernel
theorem d_LA_undo_0 : decode b_LA_undo 0 = .ok (.aload_n 1, 1) := by decide +kernel
theorem d_LA_undo_1 : decode b_LA_undo 1 = .ok (.iconst 0, 1) := by decide +kernel
theorem d_LA_undo_2 : decode b_LA_undo 2 = .ok (.aload_n 0, 1) := by decide +kernel
theorem d_LA_undo_3 : decode b_LA_undo 3 = .ok (.invokevirtual 21, 3) := by decide +kernel
theorem d_LA_undo_6 : decode b_LA_undo 6 = .ok (.i2l, 1) := by decide +kernel
theorem d_LA_undo_7 : decode b_LA_undo 7 = .ok (.lastore, 1) := by decide +kernel
theorem d_LA_undo_8 : decode b_LA_undo 8 = .ok (.goto 6, 3) := by decide +kernel
theorem d_LA_undo_11 : decode b_LA_undo 11 = .ok (.astore_n 2, 1) := by decide +kernel
theorem d_LA_undo_12 : decode b_LA_undo 12 = .ok (.iconst 1, 1) := by decide +kernel
theorem d_LA_undo_13 : decode b_LA_undo 13 = .ok (.ireturn, 1) := by decide +kernel
theorem d_LA_undo_14 : decode b_LA_undo 14 = .ok (.iconst 0, 1) := by decide +kernel
theorem d_LA_undo_15 : decode b_LA_undo 15 = .ok (.ireturn, 1) := by decide +kernel
theorem d_LA_get_0 : decode b_LA_get 0 = .ok (.aload_n 2, 1) := by decide +kernel
theorem d_LA_get_1 : decode b_LA_get 1 = .ok (.iconst 0, 1) := by decide +kernel
theorem d_LA_get_2 : decode b_LA_get 2 = .ok (.aload_n 0, 1) := by decide +kernel
theorem d_LA_get_3 : decode b_LA_get 3 = .ok (.iload_n 1, 1) := by decide +kernel
theorem d_LA_get_4 : decode b_LA_get 4 = .ok (.invokevirtual 25, 3) := by decide +kernel
theorem d_LA_get_7 : decode b_LA_get 7 = .ok (.lastore, 1) := by decide +kernel
theorem d_LA_get_8 : decode b_LA_get 8 = .ok (.goto 9, 3) := by decide +kernel
theorem d_LA_get_11 : decode b_LA_get 11 = .ok (.astore_n 3, 1) := by decide +kernel
theorem d_LA_get_12 : decode b_LA_get 12 = .ok (.iconst 1, 1) := by decide +kernel
theorem d_LA_get_13 : decode b_LA_get 13 = .ok (.ireturn, 1) := by decide +kernel
theorem d_LA_get_14 : decode b_LA_get 14 = .ok (.astore_n 3, 1) := by decide +kernel
theorem d_LA_get_15 : decode b_LA_get 15 = .ok (.iconst 2, 1) := by decide +kernel
theorem d_LA_get_16 : decode b_LA_get 16 = .ok (.ireturn, 1) := by decide +kernel
theorem d_LA_get_17 : decode b_LA_get 17 = .ok (.iconst 0, 1) := by decide +kernel
theorem d_LA_get_18 : decode b_LA_get 18 = .ok (.ireturn, 1) := by decide +kernel
theorem d_LA_commit_0 : decode b_LA_commit 0 = .ok (.aload_n 1, 1) := by decide +kernel
theorem d_LA_commit_1 : decode b_LA_commit 1 = .ok (.iconst 0, 1) := by decide +kernel
theorem d_LA_commit_2 : decode b_LA_commit 2 = .ok (.aload_n 0, 1) := by decide +kernel
theorem d_LA_commit_3 : decode b_LA_commit 3 = .ok (.invokevirtual 29, 3) := by decide +kernel
theorem d_LA_commit_6 : decode b_LA_commit 6 = .ok (.i2l, 1) := by decide +kernel
theorem d_LA_commit_7 : decode b_LA_commit 7 = .ok (.lastore, 1) := by decide +kernel
theorem d_LA_commit_8 : decode b_LA_commit 8 = .ok (.goto 6, 3) := by decide +kernel
theorem d_LA_commit_11 : decode b_LA_commit 11 = .ok (.astore_n 2, 1) := by decide +kernel
theorem d_LA_commit_12 : decode b_LA_commit 12 = .ok (.iconst 1, 1) := by decide +kernel
theorem d_LA_commit_13 : decode b_LA_commit 13 = .ok (.ireturn, 1) := by decide +kernel
theorem d_LA_commit_14 : decode b_LA_commit 14 = .ok (.iconst 0, 1) := by decide +kernel
theorem d_LA_commit_15 : decode b_LA_commit 15 = .ok (.ireturn, 1) := by decide +kernel
theorem d_LA_copy_0 : decode b_LA_copy 0 = .ok (.aload_n 1, 1) := by decide +kernel
theorem d_LA_copy_1 : decode b_LA_copy 1 = .ok (.iconst 0, 1) := by decide +kernel
theorem d_LA_copy_2 : decode b_LA_copy 2 = .ok (.aload_n 0, 1) := by decide +kernel
theorem d_LA_copy_3 : decode b_LA_copy 3 = .ok (.invokevirtual 32, 3) := by decide +kernel
theorem d_LA_copy_6 : decode b_LA_copy 6 = .ok (.i2l, 1) := by decide +kernel
theorem d_LA_copy_7 : decode b_LA_copy 7 = .ok (.lastore, 1) := by decide +kernel
theorem d_LA_copy_8 : decode b_LA_copy 8 = .ok (.goto 6, 3) := by decide +kernel
theorem d_LA_copy_11 : decode b_LA_copy 11 = .ok (.astore_n 2, 1) := by decide +kernel
theorem d_LA_copy_12 : decode b_LA_copy 12 = .ok (.iconst 1, 1) := by decide +kernel
theorem d_LA_copy_13 : decode b_LA_copy 13 = .ok (.ireturn, 1) := by decide +kernel
theorem d_LA_copy_14 : decode b_LA_copy 14 = .ok (.iconst 0, 1) := by decide +kernel
theorem d_LA_copy_15 : decode b_LA_copy 15 = .ok (.ireturn, 1) := by decide +kernel
theorem d_LA_find_0 : decode b_LA_find 0 = .ok (.aload_n 3, 1) := by decide +kernel
theorem d_LA_find_1 : decode b_LA_find 1 = .ok (.iconst 0, 1) := by decide +kernel
theorem d_LA_find_2 : decode b_LA_find 2 = .ok (.aload_n 0, 1) := by decide +kernel
theorem d_LA_find_3 : decode b_LA_find 3 = .ok (.iload_n 1, 1) := by decide +kernel
theorem d_LA_find_4 : decode b_LA_find 4 = .ok (.iload_n 2, 1) := by decide +kernel
theorem d_LA_find_5 : decode b_LA_find 5 = .ok (.invokevirtual 35, 3) := by decide +kernel
theorem d_LA_find_8 : decode b_LA_find 8 = .ok (.lastore, 1) := by decide +kernel
theorem d_LA_find_9 : decode b_LA_find 9 = .ok (.goto 11, 3) := by decide +kernel
theorem d_LA_find_12 : decode b_LA_find 12 = .ok (.astore 4, 2) := by decide +kernel
theorem d_LA_find_14 : decode b_LA_find 14 = .ok (.iconst 1, 1) := by decide +kernel
theorem d_LA_find_15 : decode b_LA_find 15 = .ok (.ireturn, 1) := by decide +kernel
theorem d_LA_find_16 : decode b_LA_find 16 = .ok (.astore 4, 2) := by decide +kernel
theorem d_LA_find_18 : decode b_LA_find 18 = .ok (.iconst 2, 1) := by decide +kernel
theorem d_LA_find_19 : decode b_LA_find 19 = .ok (.ireturn, 1) := by decide +kernel
theorem d_LA_find_20 : decode b_LA_find 20 = .ok (.iconst 0, 1) := by decide +kernel
theorem d_LA_find_21 : decode b_LA_find 21 = .ok (.ireturn, 1) := by decide +kernel
theorem d_LA_next_0 : decode b_LA_next 0 = .ok (.aload_n 3, 1) := by decide +kernel
theorem d_LA_next_1 : decode b_LA_next 1 = .ok (.iconst 0, 1) := by decide +kernel
theorem d_LA_next_2 : decode b_LA_next 2 = .ok (.aload_n 0, 1) := by decide +kernel
theorem d_LA_next_3 : decode b_LA_next 3 = .ok (.iload_n 1, 1) := by decide +kernel
theorem d_LA_next_4 : decode b_LA_next 4 = .ok (.iload_n 2, 1) := by decide +kernel
theorem d_LA_next_5 : decode b_LA_next 5 = .ok (.invokevirtual 39, 3) := by decide +kernel
theorem d_LA_next_8 : decode b_LA_next 8 = .ok (.i2l, 1) := by decide +kernel
theorem d_LA_next_9 : decode b_LA_next 9 = .ok (.lastore, 1) := by decide +kernel
theorem d_LA_next_10 : decode b_LA_next 10 = .ok (.goto 11, 3) := by decide +kernel
theorem d_LA_next_13 : decode b_LA_next 13 = .ok (.astore 4, 2) := by decide +kernel
theorem d_LA_next_15 : decode b_LA_next 15 = .ok (.iconst 1, 1) := by decide +kernel
theorem d_LA_next_16 : decode b_LA_next 16 = .ok (.ireturn, 1) := by decide +kernel
theorem d_LA_next_17 : decode b_LA_next 17 = .ok (.astore 4, 2) := by decide +kernel
theorem d_LA_next_19 : decode b_LA_next 19 = .ok (.iconst 2, 1) := by decide +kernel
theorem d_LA_next_20 : decode b_LA_next 20 = .ok (.ireturn, 1) := by decide +kernel
theorem d_LA_next_21 : decode b_LA_next 21 = .ok (.iconst 0, 1) := by decide +kernel
theorem d_LA_next_22 : decode b_LA_next 22 = .ok (.ireturn, 1) := by decide +kernel
theorem d_LA_rows_0 : decode b_LA_rows 0 = .ok (.aload_n 2, 1) := by decide +kernel
theorem d_LA_rows_1 : decode b_LA_rows 1 = .ok (.iconst 0, 1) := by decide +kernel
theorem d_LA_rows_2 : decode b_LA_rows 2 = .ok (.aload_n 0, 1) := by decide +kernel
theorem d_LA_rows_3 : decode b_LA_rows 3 = .ok (.iload_n 1, 1) := by decide +kernel
theorem d_LA_rows_4 : decode b_LA_rows 4 = .ok (.invokevirtual 42, 3) := by decide +kernel
theorem d_LA_rows_7 : decode b_LA_rows 7 = .ok (.i2l, 1) := by decide +kernel
theorem d_LA_rows_8 : decode b_LA_rows 8 = .ok (.lastore, 1) := by decide +kernel
theorem d_LA_rows_9 : decode b_LA_rows 9 = .ok (.goto 9, 3) := by decide +kernel
theorem d_LA_rows_12 : decode b_LA_rows 12 = .ok (.astore_n 3, 1) := by decide +kernel
theorem d_LA_rows_13 : decode b_LA_rows 13 = .ok (.iconst 1, 1) := by decide +kernel
theorem d_LA_rows_14 : decode b_LA_rows 14 = .ok (.ireturn, 1) := by decide +kernel
theorem d_LA_rows_15 : decode b_LA_rows 15 = .ok (.astore_n 3, 1) := by decide +kernel
theorem d_LA_rows_16 : decode b_LA_rows 16 = .ok (.iconst 2, 1) := by decide +kernel
theorem d_LA_rows_17 : decode b_LA_rows 17 = .ok (.ireturn, 1) := by decide +kernel
theorem d_LA_rows_18 : decode b_LA_rows 18 = .ok (.iconst 0, 1) := by decide +kernel
theorem d_LA_rows_19 : decode b_LA_rows 19 = .ok (.ireturn, 1) := by decide +kernel
theorem d_LA_kept_0 : decode b_LA_kept 0 = .ok (.aload_n 2, 1) := by decide +kernel
theorem d_LA_kept_1 : decode b_LA_kept 1 = .ok (.iconst 0, 1) := by decide +kernel
theorem d_LA_kept_2 : decode b_LA_kept 2 = .ok (.aload_n 0, 1) := by decide +kernel
theorem d_LA_kept_3 : decode b_LA_kept 3 = .ok (.iload_n 1, 1) := by decide +kernel
theorem d_LA_kept_4 : decode b_LA_kept 4 = .ok (.invokevirtual 45, 3) := by decide +kernel
theorem d_LA_kept_7 : decode b_LA_kept 7 = .ok (.i2l, 1) := by decide +kernel
theorem d_LA_kept_8 : decode b_LA_kept 8 = .ok (.lastore, 1) := by decide +kernel
theorem d_LA_kept_9 : decode b_LA_kept 9 = .ok (.goto 9, 3) := by decide +kernel
theorem d_LA_kept_12 : decode b_LA_kept 12 = .ok (.astore_n 3, 1) := by decide +kernel
theorem d_LA_kept_13 : decode b_LA_kept 13 = .ok (.iconst 1, 1) := by decide +kernel
theorem d_LA_kept_14 : decode b_LA_kept 14 = .ok (.ireturn, 1) := by decide +kernel
theorem d_LA_kept_15 : decode b_LA_kept 15 = .ok (.astore_n 3, 1) := by decide +kernel
theorem d_LA_kept_16 : decode b_LA_kept 16 = .ok (.iconst 2, 1) := by decide +kernel
theorem d_LA_kept_17 : decode b_LA_kept 17 = .ok (.ireturn, 1) := by decide +kernel
theorem d_LA_kept_18 : decode b_LA_kept 18 = .ok (.iconst 0, 1) := by decide +kernel
theorem d_LA_kept_19 : decode b_LA_kept 19 = .ok (.ireturn, 1) := by decide +kernel
theorem d_LA_crash_0 : decode b_LA_crash 0 = .ok (.aload_n 0, 1) := by decide +kernel
theorem d_LA_crash_1 : decode b_LA_crash 1 = .ok (.iload_n 1, 1) := by decide +kernel
theorem d_LA_crash_2 : decode b_LA_crash 2 = .ok (.invokevirtual 48, 3) := by decide +kernel
theorem d_LA_crash_5 : decode b_LA_crash 5 = .ok (.goto 9, 3) := by decide +kernel
theorem d_LA_crash_8 : decode b_LA_crash 8 = .ok (.astore_n 2, 1) := by decide +kernel
theorem d_LA_crash_9 : decode b_LA_crash 9 = .ok (.iconst 1, 1) := by decide +kernel
theorem d_LA_crash_10 : decode b_LA_crash 10 = .ok (.ireturn, 1) := by decide +kernel
theorem d_LA_crash_11 : decode b_LA_crash 11 = .ok (.astore_n 2, 1) := by decide +kernel
theorem d_LA_crash_12 : decode b_LA_crash 12 = .ok (.iconst 2, 1) := by decide +kernel
theorem d_LA_crash_13 : decode b_LA_crash 13 = .ok (.ireturn, 1) := by decide +kernel
theorem d_LA_crash_14 : decode b_LA_crash 14 = .ok (.iconst 0, 1) := by decide +kernel
theorem d_LA_crash_15 : decode b_LA_crash 15 = .ok (.ireturn, 1) := by decide +kernel
theorem d_LA_byteAt_0 : decode b_LA_byteAt 0 = .ok (.aload_n 3, 1) := by decide +kernel
theorem d_LA_byteAt_1 : decode b_LA_byteAt 1 = .ok (.iconst 0, 1) := by decide +kernel
theorem d_LA_byteAt_2 : decode b_LA_byteAt 2 = .ok (.aload_n 0, 1) := by decide +kernel
theorem d_LA_byteAt_3 : decode b_LA_byteAt 3 = .ok (.iload_n 1, 1) := by decide +kernel
theorem d_LA_byteAt_4 : decode b_LA_byteAt 4 = .ok (.iload_n 2, 1) := by decide +kernel
theorem d_LA_byteAt_5 : decode b_LA_byteAt 5 = .ok (.invokevirtual 52, 3) := by decide +kernel
theorem d_LA_byteAt_8 : decode b_LA_byteAt 8 = .ok (.i2l, 1) := by decide +kernel
theorem d_LA_byteAt_9 : decode b_LA_byteAt 9 = .ok (.lastore, 1) := by decide +kernel
theorem d_LA_byteAt_10 : decode b_LA_byteAt 10 = .ok (.goto 11, 3) := by decide +kernel
theorem d_LA_byteAt_13 : decode b_LA_byteAt 13 = .ok (.astore 4, 2) := by decide +kernel
theorem d_LA_byteAt_15 : decode b_LA_byteAt 15 = .ok (.iconst 1, 1) := by decide +kernel
theorem d_LA_byteAt_16 : decode b_LA_byteAt 16 = .ok (.ireturn, 1) := by decide +kernel
theorem d_LA_byteAt_17 : decode b_LA_byteAt 17 = .ok (.astore 4, 2) := by decide +kernel
theorem d_LA_byteAt_19 : decode b_LA_byteAt 19 = .ok (.iconst 2, 1) := by decide +kernel
theorem d_LA_byteAt_20 : decode b_LA_byteAt 20 = .ok (.ireturn, 1) := by decide +kernel
theorem d_LA_byteAt_21 : decode b_LA_byteAt 21 = .ok (.iconst 0, 1) := by decide +kernel
theorem d_LA_byteAt_22 : decode b_LA_byteAt 22 = .ok (.ireturn, 1) := by decide +kernel
theorem d_LA_poke_0 : decode b_LA_poke 0 = .ok (.aload 4, 2) := by decide +kernel
theorem d_LA_poke_2 : decode b_LA_poke 2 = .ok (.iconst 0, 1) := by decide +kernel
theorem d_LA_poke_3 : decode b_LA_poke 3 = .ok (.aload_n 0, 1) := by decide +kernel
theorem d_LA_poke_4 : decode b_LA_poke 4 = .ok (.iload_n 1, 1) := by decide +kernel
theorem d_LA_poke_5 : decode b_LA_poke 5 = .ok (.iload_n 2, 1) := by decide +kernel
theorem d_LA_poke_6 : decode b_LA_poke 6 = .ok (.iload_n 3, 1) := by decide +kernel
theorem d_LA_poke_7 : decode b_LA_poke 7 = .ok (.invokevirtual 55, 3) := by decide +kernel
theorem d_LA_poke_10 : decode b_LA_poke 10 = .ok (.i2l, 1) := by decide +kernel
theorem d_LA_poke_11 : decode b_LA_poke 11 = .ok (.lastore, 1) := by decide +kernel
theorem d_LA_poke_12 : decode b_LA_poke 12 = .ok (.goto 11, 3) := by decide +kernel
theorem d_LA_poke_15 : decode b_LA_poke 15 = .ok (.astore 5, 2) := by decide +kernel
theorem d_LA_poke_17 : decode b_LA_poke 17 = .ok (.iconst 1, 1) := by decide +kernel
theorem d_LA_poke_18 : decode b_LA_poke 18 = .ok (.ireturn, 1) := by decide +kernel
theorem d_LA_poke_19 : decode b_LA_poke 19 = .ok (.astore 5, 2) := by decide +kernel
theorem d_LA_poke_21 : decode b_LA_poke 21 = .ok (.iconst 2, 1) := by decide +kernel
theorem d_LA_poke_22 : decode b_LA_poke 22 = .ok (.ireturn, 1) := by decide +kernel
theorem d_LA_poke_23 : decode b_LA_poke 23 = .ok (.iconst 0, 1) := by decide +kernel
theorem d_LA_poke_24 : decode b_LA_poke 24 = .ok (.ireturn, 1) := by decide +kernel
theorem d_LA_badAt_0 : decode b_LA_badAt 0 = .ok (.aload_n 2, 1) := by decide +kernel
theorem d_LA_badAt_1 : decode b_LA_badAt 1 = .ok (.iconst 0, 1) := by decide +kernel
theorem d_LA_badAt_2 : decode b_LA_badAt 2 = .ok (.aload_n 0, 1) := by decide +kernel
theorem d_LA_badAt_3 : decode b_LA_badAt 3 = .ok (.iload_n 1, 1) := by decide +kernel
theorem d_LA_badAt_4 : decode b_LA_badAt 4 = .ok (.invokevirtual 59, 3) := by decide +kernel
theorem d_LA_badAt_7 : decode b_LA_badAt 7 = .ok (.i2l, 1) := by decide +kernel
theorem d_LA_badAt_8 : decode b_LA_badAt 8 = .ok (.lastore, 1) := by decide +kernel
theorem d_LA_badAt_9 : decode b_LA_badAt 9 = .ok (.goto 9, 3) := by decide +kernel
theorem d_LA_badAt_12 : decode b_LA_badAt 12 = .ok (.astore_n 3, 1) := by decide +kernel
theorem d_LA_badAt_13 : decode b_LA_badAt 13 = .ok (.iconst 1, 1) := by decide +kernel
theorem d_LA_badAt_14 : decode b_LA_badAt 14 = .ok (.ireturn, 1) := by decide +kernel
theorem d_LA_badAt_15 : decode b_LA_badAt 15 = .ok (.astore_n 3, 1) := by decide +kernel
theorem d_LA_badAt_16 : decode b_LA_badAt 16 = .ok (.iconst 2, 1) := by decide +kernel
theorem d_LA_badAt_17 : decode b_LA_badAt 17 = .ok (.ireturn, 1) := by decide +kernel
theorem d_LA_badAt_18 : decode b_LA_badAt 18 = .ok (.iconst 0, 1) := by decide +kernel
theorem d_LA_badAt_19 : decode b_LA_badAt 19 = .ok (.ireturn, 1) := by decide +kernel
theorem d_LA_told_0 : decode b_LA_told 0 = .ok (.aload_n 2, 1) := by decide +kernel
theorem d_LA_told_1 : decode b_LA_told 1 = .ok (.iconst 0, 1) := by decide +kernel
theorem d_LA_told_2 : decode b_LA_told 2 = .ok (.aload_n 0, 1) := by decide +kernel
theorem d_LA_told_3 : decode b_LA_told 3 = .ok (.iload_n 1, 1) := by decide +kernel
theorem d_LA_told_4 : decode b_LA_told 4 = .ok (.invokevirtual 62, 3) := by decide +kernel
theorem d_LA_told_7 : decode b_LA_told 7 = .ok (.i2l, 1) := by decide +kernel
theorem d_LA_told_8 : decode b_LA_told 8 = .ok (.lastore, 1) := by decide +kernel
theorem d_LA_told_9 : decode b_LA_told 9 = .ok (.goto 9, 3) := by decide +kernel
theorem d_LA_told_12 : decode b_LA_told 12 = .ok (.astore_n 3, 1) := by decide +kernel
theorem d_LA_told_13 : decode b_LA_told 13 = .ok (.iconst 1, 1) := by decide +kernel
theorem d_LA_told_14 : decode b_LA_told 14 = .ok (.ireturn, 1) := by decide +kernel
theorem d_LA_told_15 : decode b_LA_told 15 = .ok (.astore_n 3, 1) := by decide +kernel
theorem d_LA_told_16 : decode b_LA_told 16 = .ok (.iconst 2, 1) := by decide +kernel
theorem d_LA_told_17 : decode b_LA_told 17 = .ok (.ireturn, 1) := by decide +kernel
theorem d_LA_told_18 : decode b_LA_told 18 = .ok (.iconst 0, 1) := by decide +kernel
theorem d_LA_told_19 : decode b_LA_told 19 = .ok (.ireturn, 1) := by decide +kernel
end
section
theorem d_LA_law_0 : decode b_LA_law 0 = .ok (.new 8, 3) := by decide +kernel
theorem d_LA_law_3 : decode b_LA_law 3 = .ok (.dup, 1) := by decide +kernel
theorem d_LA_law_4 : decode b_LA_law 4 = .ok (.aload_n 0, 1) := by decide +kernel
theorem d_LA_law_5 : decode b_LA_law 5 = .ok (.iconst 0, 1) := by decide +kernel
theorem d_LA_law_6 : decode b_LA_law 6 = .ok (.invokestatic 65, 3) := by decide +kernel
theorem d_LA_law_9 : decode b_LA_law 9 = .ok (.invokespecial 71, 3) := by decide +kernel
theorem d_LA_law_12 : decode b_LA_law 12 = .ok (.astore_n 1, 1) := by decide +kernel
theorem d_LA_law_13 : decode b_LA_law 13 = .ok (.new 73, 3) := by decide +kernel
theorem d_LA_law_16 : decode b_LA_law 16 = .ok (.dup, 1) := by decide +kernel
theorem d_LA_law_17 : decode b_LA_law 17 = .ok (.aload_n 0, 1) := by decide +kernel
theorem d_LA_law_18 : decode b_LA_law 18 = .ok (.iconst 0, 1) := by decide +kernel
theorem d_LA_law_19 : decode b_LA_law 19 = .ok (.invokestatic 65, 3) := by decide +kernel
theorem d_LA_law_22 : decode b_LA_law 22 = .ok (.invokespecial 75, 3) := by decide +kernel
theorem d_LA_law_25 : decode b_LA_law 25 = .ok (.astore_n 2, 1) := by decide +kernel
theorem d_LA_law_26 : decode b_LA_law 26 = .ok (.iconst 1, 1) := by decide +kernel
theorem d_LA_law_27 : decode b_LA_law 27 = .ok (.newarray .long, 2) := by decide +kernel
theorem d_LA_law_29 : decode b_LA_law 29 = .ok (.astore_n 3, 1) := by decide +kernel
theorem d_LA_law_30 : decode b_LA_law 30 = .ok (.iconst 1, 1) := by decide +kernel
theorem d_LA_law_31 : decode b_LA_law 31 = .ok (.istore 4, 2) := by decide +kernel
theorem d_LA_law_33 : decode b_LA_law 33 = .ok (.iload 4, 2) := by decide +kernel
theorem d_LA_law_35 : decode b_LA_law 35 = .ok (.aload_n 0, 1) := by decide +kernel
theorem d_LA_law_36 : decode b_LA_law 36 = .ok (.arraylength, 1) := by decide +kernel
theorem d_LA_law_37 : decode b_LA_law 37 = .ok (.iconst 4, 1) := by decide +kernel
theorem d_LA_law_38 : decode b_LA_law 38 = .ok (.isub, 1) := by decide +kernel
theorem d_LA_law_39 : decode b_LA_law 39 = .ok (.if_icmp .gt 979, 3) := by decide +kernel
theorem d_LA_law_42 : decode b_LA_law 42 = .ok (.aload_n 0, 1) := by decide +kernel
theorem d_LA_law_43 : decode b_LA_law 43 = .ok (.iload 4, 2) := by decide +kernel
theorem d_LA_law_45 : decode b_LA_law 45 = .ok (.iaload, 1) := by decide +kernel
theorem d_LA_law_46 : decode b_LA_law 46 = .ok (.bipush 31, 2) := by decide +kernel
theorem d_LA_law_48 : decode b_LA_law 48 = .ok (.iand, 1) := by decide +kernel
theorem d_LA_law_49 : decode b_LA_law 49 = .ok (.tableswitch 963 0 16 #[83, 151, 207, 251, 306, 350, 394, 461, 529, 585, 641, 677, 690, 703, 771, 851, 907], 83) := by decide +kernel
theorem d_LA_law_132 : decode b_LA_law 132 = .ok (.aload_n 1, 1) := by decide +kernel
theorem d_LA_law_133 : decode b_LA_law 133 = .ok (.aload_n 0, 1) := by decide +kernel
theorem d_LA_law_134 : decode b_LA_law 134 = .ok (.iload 4, 2) := by decide +kernel
theorem d_LA_law_136 : decode b_LA_law 136 = .ok (.iconst 1, 1) := by decide +kernel
theorem d_LA_law_137 : decode b_LA_law 137 = .ok (.iadd, 1) := by decide +kernel
theorem d_LA_law_138 : decode b_LA_law 138 = .ok (.iaload, 1) := by decide +kernel
theorem d_LA_law_139 : decode b_LA_law 139 = .ok (.aload_n 0, 1) := by decide +kernel
theorem d_LA_law_140 : decode b_LA_law 140 = .ok (.iload 4, 2) := by decide +kernel
theorem d_LA_law_142 : decode b_LA_law 142 = .ok (.iconst 2, 1) := by decide +kernel
theorem d_LA_law_143 : decode b_LA_law 143 = .ok (.iadd, 1) := by decide +kernel
theorem d_LA_law_144 : decode b_LA_law 144 = .ok (.iaload, 1) := by decide +kernel
theorem d_LA_law_145 : decode b_LA_law 145 = .ok (.aload_n 3, 1) := by decide +kernel
theorem d_LA_law_146 : decode b_LA_law 146 = .ok (.invokestatic 76, 3) := by decide +kernel
theorem d_LA_law_149 : decode b_LA_law 149 = .ok (.istore 5, 2) := by decide +kernel
theorem d_LA_law_151 : decode b_LA_law 151 = .ok (.aload_n 2, 1) := by decide +kernel
theorem d_LA_law_152 : decode b_LA_law 152 = .ok (.aload_n 0, 1) := by decide +kernel
theorem d_LA_law_153 : decode b_LA_law 153 = .ok (.iload 4, 2) := by decide +kernel
theorem d_LA_law_155 : decode b_LA_law 155 = .ok (.iconst 1, 1) := by decide +kernel
theorem d_LA_law_156 : decode b_LA_law 156 = .ok (.iadd, 1) := by decide +kernel
theorem d_LA_law_157 : decode b_LA_law 157 = .ok (.iaload, 1) := by decide +kernel
theorem d_LA_law_158 : decode b_LA_law 158 = .ok (.aload_n 0, 1) := by decide +kernel
theorem d_LA_law_159 : decode b_LA_law 159 = .ok (.iload 4, 2) := by decide +kernel
theorem d_LA_law_161 : decode b_LA_law 161 = .ok (.iconst 2, 1) := by decide +kernel
theorem d_LA_law_162 : decode b_LA_law 162 = .ok (.iadd, 1) := by decide +kernel
theorem d_LA_law_163 : decode b_LA_law 163 = .ok (.iaload, 1) := by decide +kernel
theorem d_LA_law_164 : decode b_LA_law 164 = .ok (.invokevirtual 79, 3) := by decide +kernel
theorem d_LA_law_167 : decode b_LA_law 167 = .ok (.istore 6, 2) := by decide +kernel
theorem d_LA_law_169 : decode b_LA_law 169 = .ok (.aload_n 2, 1) := by decide +kernel
theorem d_LA_law_170 : decode b_LA_law 170 = .ok (.invokevirtual 80, 3) := by decide +kernel
theorem d_LA_law_173 : decode b_LA_law 173 = .ok (.iload 5, 2) := by decide +kernel
theorem d_LA_law_175 : decode b_LA_law 175 = .ok (.if_icmp .eq 5, 3) := by decide +kernel
theorem d_LA_law_178 : decode b_LA_law 178 = .ok (.iconst 0, 1) := by decide +kernel
theorem d_LA_law_179 : decode b_LA_law 179 = .ok (.ireturn, 1) := by decide +kernel
theorem d_LA_law_180 : decode b_LA_law 180 = .ok (.iload 5, 2) := by decide +kernel
theorem d_LA_law_182 : decode b_LA_law 182 = .ok (.ifCond .ne 15, 3) := by decide +kernel
theorem d_LA_law_185 : decode b_LA_law 185 = .ok (.aload_n 3, 1) := by decide +kernel
theorem d_LA_law_186 : decode b_LA_law 186 = .ok (.iconst 0, 1) := by decide +kernel
theorem d_LA_law_187 : decode b_LA_law 187 = .ok (.laload, 1) := by decide +kernel
theorem d_LA_law_188 : decode b_LA_law 188 = .ok (.iload 6, 2) := by decide +kernel
theorem d_LA_law_190 : decode b_LA_law 190 = .ok (.i2l, 1) := by decide +kernel
theorem d_LA_law_191 : decode b_LA_law 191 = .ok (.lcmp, 1) := by decide +kernel
theorem d_LA_law_192 : decode b_LA_law 192 = .ok (.ifCond .eq 5, 3) := by decide +kernel
theorem d_LA_law_195 : decode b_LA_law 195 = .ok (.iconst 0, 1) := by decide +kernel
theorem d_LA_law_196 : decode b_LA_law 196 = .ok (.ireturn, 1) := by decide +kernel
theorem d_LA_law_197 : decode b_LA_law 197 = .ok (.goto 815, 3) := by decide +kernel
theorem d_LA_law_200 : decode b_LA_law 200 = .ok (.aload_n 1, 1) := by decide +kernel
theorem d_LA_law_201 : decode b_LA_law 201 = .ok (.aload_n 0, 1) := by decide +kernel
theorem d_LA_law_202 : decode b_LA_law 202 = .ok (.iload 4, 2) := by decide +kernel
theorem d_LA_law_204 : decode b_LA_law 204 = .ok (.iconst 1, 1) := by decide +kernel
theorem d_LA_law_205 : decode b_LA_law 205 = .ok (.iadd, 1) := by decide +kernel
theorem d_LA_law_206 : decode b_LA_law 206 = .ok (.iaload, 1) := by decide +kernel
theorem d_LA_law_207 : decode b_LA_law 207 = .ok (.aload_n 3, 1) := by decide +kernel
theorem d_LA_law_208 : decode b_LA_law 208 = .ok (.invokestatic 83, 3) := by decide +kernel
theorem d_LA_law_211 : decode b_LA_law 211 = .ok (.istore 5, 2) := by decide +kernel
theorem d_LA_law_213 : decode b_LA_law 213 = .ok (.aload_n 2, 1) := by decide +kernel
theorem d_LA_law_214 : decode b_LA_law 214 = .ok (.aload_n 0, 1) := by decide +kernel
theorem d_LA_law_215 : decode b_LA_law 215 = .ok (.iload 4, 2) := by decide +kernel
theorem d_LA_law_217 : decode b_LA_law 217 = .ok (.iconst 1, 1) := by decide +kernel
theorem d_LA_law_218 : decode b_LA_law 218 = .ok (.iadd, 1) := by decide +kernel
theorem d_LA_law_219 : decode b_LA_law 219 = .ok (.iaload, 1) := by decide +kernel
theorem d_LA_law_220 : decode b_LA_law 220 = .ok (.invokevirtual 86, 3) := by decide +kernel
theorem d_LA_law_223 : decode b_LA_law 223 = .ok (.istore 6, 2) := by decide +kernel
theorem d_LA_law_225 : decode b_LA_law 225 = .ok (.aload_n 2, 1) := by decide +kernel
theorem d_LA_law_226 : decode b_LA_law 226 = .ok (.invokevirtual 80, 3) := by decide +kernel
theorem d_LA_law_229 : decode b_LA_law 229 = .ok (.iload 5, 2) := by decide +kernel
theorem d_LA_law_231 : decode b_LA_law 231 = .ok (.if_icmp .eq 5, 3) := by decide +kernel
theorem d_LA_law_234 : decode b_LA_law 234 = .ok (.iconst 0, 1) := by decide +kernel
theorem d_LA_law_235 : decode b_LA_law 235 = .ok (.ireturn, 1) := by decide +kernel
theorem d_LA_law_236 : decode b_LA_law 236 = .ok (.iload 5, 2) := by decide +kernel
theorem d_LA_law_238 : decode b_LA_law 238 = .ok (.ifCond .ne 15, 3) := by decide +kernel
theorem d_LA_law_241 : decode b_LA_law 241 = .ok (.aload_n 3, 1) := by decide +kernel
theorem d_LA_law_242 : decode b_LA_law 242 = .ok (.iconst 0, 1) := by decide +kernel
theorem d_LA_law_243 : decode b_LA_law 243 = .ok (.laload, 1) := by decide +kernel
theorem d_LA_law_244 : decode b_LA_law 244 = .ok (.iload 6, 2) := by decide +kernel
theorem d_LA_law_246 : decode b_LA_law 246 = .ok (.i2l, 1) := by decide +kernel
theorem d_LA_law_247 : decode b_LA_law 247 = .ok (.lcmp, 1) := by decide +kernel
theorem d_LA_law_248 : decode b_LA_law 248 = .ok (.ifCond .eq 5, 3) := by decide +kernel
theorem d_LA_law_251 : decode b_LA_law 251 = .ok (.iconst 0, 1) := by decide +kernel
theorem d_LA_law_252 : decode b_LA_law 252 = .ok (.ireturn, 1) := by decide +kernel
theorem d_LA_law_253 : decode b_LA_law 253 = .ok (.goto 759, 3) := by decide +kernel
theorem d_LA_law_256 : decode b_LA_law 256 = .ok (.aload_n 1, 1) := by decide +kernel
theorem d_LA_law_257 : decode b_LA_law 257 = .ok (.aload_n 3, 1) := by decide +kernel
theorem d_LA_law_258 : decode b_LA_law 258 = .ok (.invokestatic 87, 3) := by decide +kernel
theorem d_LA_law_261 : decode b_LA_law 261 = .ok (.istore 5, 2) := by decide +kernel
theorem d_LA_law_263 : decode b_LA_law 263 = .ok (.aload_n 2, 1) := by decide +kernel
theorem d_LA_law_264 : decode b_LA_law 264 = .ok (.invokevirtual 90, 3) := by decide +kernel
theorem d_LA_law_267 : decode b_LA_law 267 = .ok (.istore 6, 2) := by decide +kernel
theorem d_LA_law_269 : decode b_LA_law 269 = .ok (.aload_n 2, 1) := by decide +kernel
theorem d_LA_law_270 : decode b_LA_law 270 = .ok (.invokevirtual 80, 3) := by decide +kernel
theorem d_LA_law_273 : decode b_LA_law 273 = .ok (.iload 5, 2) := by decide +kernel
theorem d_LA_law_275 : decode b_LA_law 275 = .ok (.if_icmp .eq 5, 3) := by decide +kernel
theorem d_LA_law_278 : decode b_LA_law 278 = .ok (.iconst 0, 1) := by decide +kernel
theorem d_LA_law_279 : decode b_LA_law 279 = .ok (.ireturn, 1) := by decide +kernel
theorem d_LA_law_280 : decode b_LA_law 280 = .ok (.iload 5, 2) := by decide +kernel
theorem d_LA_law_282 : decode b_LA_law 282 = .ok (.ifCond .ne 15, 3) := by decide +kernel
theorem d_LA_law_285 : decode b_LA_law 285 = .ok (.aload_n 3, 1) := by decide +kernel
theorem d_LA_law_286 : decode b_LA_law 286 = .ok (.iconst 0, 1) := by decide +kernel
theorem d_LA_law_287 : decode b_LA_law 287 = .ok (.laload, 1) := by decide +kernel
theorem d_LA_law_288 : decode b_LA_law 288 = .ok (.iload 6, 2) := by decide +kernel
theorem d_LA_law_290 : decode b_LA_law 290 = .ok (.i2l, 1) := by decide +kernel
theorem d_LA_law_291 : decode b_LA_law 291 = .ok (.lcmp, 1) := by decide +kernel
theorem d_LA_law_292 : decode b_LA_law 292 = .ok (.ifCond .eq 5, 3) := by decide +kernel
theorem d_LA_law_295 : decode b_LA_law 295 = .ok (.iconst 0, 1) := by decide +kernel
theorem d_LA_law_296 : decode b_LA_law 296 = .ok (.ireturn, 1) := by decide +kernel
theorem d_LA_law_297 : decode b_LA_law 297 = .ok (.goto 715, 3) := by decide +kernel
theorem d_LA_law_300 : decode b_LA_law 300 = .ok (.aload_n 1, 1) := by decide +kernel
theorem d_LA_law_301 : decode b_LA_law 301 = .ok (.aload_n 0, 1) := by decide +kernel
theorem d_LA_law_302 : decode b_LA_law 302 = .ok (.iload 4, 2) := by decide +kernel
theorem d_LA_law_304 : decode b_LA_law 304 = .ok (.iconst 1, 1) := by decide +kernel
theorem d_LA_law_305 : decode b_LA_law 305 = .ok (.iadd, 1) := by decide +kernel
theorem d_LA_law_306 : decode b_LA_law 306 = .ok (.iaload, 1) := by decide +kernel
theorem d_LA_law_307 : decode b_LA_law 307 = .ok (.aload_n 3, 1) := by decide +kernel
theorem d_LA_law_308 : decode b_LA_law 308 = .ok (.invokestatic 91, 3) := by decide +kernel
theorem d_LA_law_311 : decode b_LA_law 311 = .ok (.istore 5, 2) := by decide +kernel
theorem d_LA_law_313 : decode b_LA_law 313 = .ok (.aload_n 2, 1) := by decide +kernel
theorem d_LA_law_314 : decode b_LA_law 314 = .ok (.aload_n 0, 1) := by decide +kernel
theorem d_LA_law_315 : decode b_LA_law 315 = .ok (.iload 4, 2) := by decide +kernel
theorem d_LA_law_317 : decode b_LA_law 317 = .ok (.iconst 1, 1) := by decide +kernel
theorem d_LA_law_318 : decode b_LA_law 318 = .ok (.iadd, 1) := by decide +kernel
end
section
theorem d_LA_law_319 : decode b_LA_law 319 = .ok (.iaload, 1) := by decide +kernel
theorem d_LA_law_320 : decode b_LA_law 320 = .ok (.invokevirtual 93, 3) := by decide +kernel
theorem d_LA_law_323 : decode b_LA_law 323 = .ok (.lstore 6, 2) := by decide +kernel
theorem d_LA_law_325 : decode b_LA_law 325 = .ok (.aload_n 2, 1) := by decide +kernel
theorem d_LA_law_326 : decode b_LA_law 326 = .ok (.invokevirtual 80, 3) := by decide +kernel
theorem d_LA_law_329 : decode b_LA_law 329 = .ok (.iload 5, 2) := by decide +kernel
theorem d_LA_law_331 : decode b_LA_law 331 = .ok (.if_icmp .eq 5, 3) := by decide +kernel
theorem d_LA_law_334 : decode b_LA_law 334 = .ok (.iconst 0, 1) := by decide +kernel
theorem d_LA_law_335 : decode b_LA_law 335 = .ok (.ireturn, 1) := by decide +kernel
theorem d_LA_law_336 : decode b_LA_law 336 = .ok (.iload 5, 2) := by decide +kernel
theorem d_LA_law_338 : decode b_LA_law 338 = .ok (.ifCond .ne 14, 3) := by decide +kernel
theorem d_LA_law_341 : decode b_LA_law 341 = .ok (.aload_n 3, 1) := by decide +kernel
theorem d_LA_law_342 : decode b_LA_law 342 = .ok (.iconst 0, 1) := by decide +kernel
theorem d_LA_law_343 : decode b_LA_law 343 = .ok (.laload, 1) := by decide +kernel
theorem d_LA_law_344 : decode b_LA_law 344 = .ok (.lload 6, 2) := by decide +kernel
theorem d_LA_law_346 : decode b_LA_law 346 = .ok (.lcmp, 1) := by decide +kernel
theorem d_LA_law_347 : decode b_LA_law 347 = .ok (.ifCond .eq 5, 3) := by decide +kernel
theorem d_LA_law_350 : decode b_LA_law 350 = .ok (.iconst 0, 1) := by decide +kernel
theorem d_LA_law_351 : decode b_LA_law 351 = .ok (.ireturn, 1) := by decide +kernel
theorem d_LA_law_352 : decode b_LA_law 352 = .ok (.goto 660, 3) := by decide +kernel
theorem d_LA_law_355 : decode b_LA_law 355 = .ok (.aload_n 1, 1) := by decide +kernel
theorem d_LA_law_356 : decode b_LA_law 356 = .ok (.aload_n 3, 1) := by decide +kernel
theorem d_LA_law_357 : decode b_LA_law 357 = .ok (.invokestatic 94, 3) := by decide +kernel
theorem d_LA_law_360 : decode b_LA_law 360 = .ok (.istore 5, 2) := by decide +kernel
theorem d_LA_law_362 : decode b_LA_law 362 = .ok (.aload_n 2, 1) := by decide +kernel
theorem d_LA_law_363 : decode b_LA_law 363 = .ok (.invokevirtual 96, 3) := by decide +kernel
theorem d_LA_law_366 : decode b_LA_law 366 = .ok (.istore 6, 2) := by decide +kernel
theorem d_LA_law_368 : decode b_LA_law 368 = .ok (.aload_n 2, 1) := by decide +kernel
theorem d_LA_law_369 : decode b_LA_law 369 = .ok (.invokevirtual 80, 3) := by decide +kernel
theorem d_LA_law_372 : decode b_LA_law 372 = .ok (.iload 5, 2) := by decide +kernel
theorem d_LA_law_374 : decode b_LA_law 374 = .ok (.if_icmp .eq 5, 3) := by decide +kernel
theorem d_LA_law_377 : decode b_LA_law 377 = .ok (.iconst 0, 1) := by decide +kernel
theorem d_LA_law_378 : decode b_LA_law 378 = .ok (.ireturn, 1) := by decide +kernel
theorem d_LA_law_379 : decode b_LA_law 379 = .ok (.iload 5, 2) := by decide +kernel
theorem d_LA_law_381 : decode b_LA_law 381 = .ok (.ifCond .ne 15, 3) := by decide +kernel
theorem d_LA_law_384 : decode b_LA_law 384 = .ok (.aload_n 3, 1) := by decide +kernel
theorem d_LA_law_385 : decode b_LA_law 385 = .ok (.iconst 0, 1) := by decide +kernel
theorem d_LA_law_386 : decode b_LA_law 386 = .ok (.laload, 1) := by decide +kernel
theorem d_LA_law_387 : decode b_LA_law 387 = .ok (.iload 6, 2) := by decide +kernel
theorem d_LA_law_389 : decode b_LA_law 389 = .ok (.i2l, 1) := by decide +kernel
theorem d_LA_law_390 : decode b_LA_law 390 = .ok (.lcmp, 1) := by decide +kernel
theorem d_LA_law_391 : decode b_LA_law 391 = .ok (.ifCond .eq 5, 3) := by decide +kernel
theorem d_LA_law_394 : decode b_LA_law 394 = .ok (.iconst 0, 1) := by decide +kernel
theorem d_LA_law_395 : decode b_LA_law 395 = .ok (.ireturn, 1) := by decide +kernel
theorem d_LA_law_396 : decode b_LA_law 396 = .ok (.goto 616, 3) := by decide +kernel
theorem d_LA_law_399 : decode b_LA_law 399 = .ok (.aload_n 1, 1) := by decide +kernel
theorem d_LA_law_400 : decode b_LA_law 400 = .ok (.aload_n 3, 1) := by decide +kernel
theorem d_LA_law_401 : decode b_LA_law 401 = .ok (.invokestatic 97, 3) := by decide +kernel
theorem d_LA_law_404 : decode b_LA_law 404 = .ok (.istore 5, 2) := by decide +kernel
theorem d_LA_law_406 : decode b_LA_law 406 = .ok (.aload_n 2, 1) := by decide +kernel
theorem d_LA_law_407 : decode b_LA_law 407 = .ok (.invokevirtual 99, 3) := by decide +kernel
theorem d_LA_law_410 : decode b_LA_law 410 = .ok (.istore 6, 2) := by decide +kernel
theorem d_LA_law_412 : decode b_LA_law 412 = .ok (.aload_n 2, 1) := by decide +kernel
theorem d_LA_law_413 : decode b_LA_law 413 = .ok (.invokevirtual 80, 3) := by decide +kernel
theorem d_LA_law_416 : decode b_LA_law 416 = .ok (.iload 5, 2) := by decide +kernel
theorem d_LA_law_418 : decode b_LA_law 418 = .ok (.if_icmp .eq 5, 3) := by decide +kernel
theorem d_LA_law_421 : decode b_LA_law 421 = .ok (.iconst 0, 1) := by decide +kernel
theorem d_LA_law_422 : decode b_LA_law 422 = .ok (.ireturn, 1) := by decide +kernel
theorem d_LA_law_423 : decode b_LA_law 423 = .ok (.iload 5, 2) := by decide +kernel
theorem d_LA_law_425 : decode b_LA_law 425 = .ok (.ifCond .ne 15, 3) := by decide +kernel
theorem d_LA_law_428 : decode b_LA_law 428 = .ok (.aload_n 3, 1) := by decide +kernel
theorem d_LA_law_429 : decode b_LA_law 429 = .ok (.iconst 0, 1) := by decide +kernel
theorem d_LA_law_430 : decode b_LA_law 430 = .ok (.laload, 1) := by decide +kernel
theorem d_LA_law_431 : decode b_LA_law 431 = .ok (.iload 6, 2) := by decide +kernel
theorem d_LA_law_433 : decode b_LA_law 433 = .ok (.i2l, 1) := by decide +kernel
theorem d_LA_law_434 : decode b_LA_law 434 = .ok (.lcmp, 1) := by decide +kernel
theorem d_LA_law_435 : decode b_LA_law 435 = .ok (.ifCond .eq 5, 3) := by decide +kernel
theorem d_LA_law_438 : decode b_LA_law 438 = .ok (.iconst 0, 1) := by decide +kernel
theorem d_LA_law_439 : decode b_LA_law 439 = .ok (.ireturn, 1) := by decide +kernel
theorem d_LA_law_440 : decode b_LA_law 440 = .ok (.goto 572, 3) := by decide +kernel
theorem d_LA_law_443 : decode b_LA_law 443 = .ok (.aload_n 1, 1) := by decide +kernel
theorem d_LA_law_444 : decode b_LA_law 444 = .ok (.aload_n 0, 1) := by decide +kernel
theorem d_LA_law_445 : decode b_LA_law 445 = .ok (.iload 4, 2) := by decide +kernel
theorem d_LA_law_447 : decode b_LA_law 447 = .ok (.iconst 1, 1) := by decide +kernel
theorem d_LA_law_448 : decode b_LA_law 448 = .ok (.iadd, 1) := by decide +kernel
theorem d_LA_law_449 : decode b_LA_law 449 = .ok (.iaload, 1) := by decide +kernel
theorem d_LA_law_450 : decode b_LA_law 450 = .ok (.aload_n 0, 1) := by decide +kernel
theorem d_LA_law_451 : decode b_LA_law 451 = .ok (.iload 4, 2) := by decide +kernel
theorem d_LA_law_453 : decode b_LA_law 453 = .ok (.iconst 2, 1) := by decide +kernel
theorem d_LA_law_454 : decode b_LA_law 454 = .ok (.iadd, 1) := by decide +kernel
theorem d_LA_law_455 : decode b_LA_law 455 = .ok (.iaload, 1) := by decide +kernel
theorem d_LA_law_456 : decode b_LA_law 456 = .ok (.aload_n 3, 1) := by decide +kernel
theorem d_LA_law_457 : decode b_LA_law 457 = .ok (.invokestatic 100, 3) := by decide +kernel
theorem d_LA_law_460 : decode b_LA_law 460 = .ok (.istore 5, 2) := by decide +kernel
theorem d_LA_law_462 : decode b_LA_law 462 = .ok (.aload_n 2, 1) := by decide +kernel
theorem d_LA_law_463 : decode b_LA_law 463 = .ok (.aload_n 0, 1) := by decide +kernel
theorem d_LA_law_464 : decode b_LA_law 464 = .ok (.iload 4, 2) := by decide +kernel
theorem d_LA_law_466 : decode b_LA_law 466 = .ok (.iconst 1, 1) := by decide +kernel
theorem d_LA_law_467 : decode b_LA_law 467 = .ok (.iadd, 1) := by decide +kernel
theorem d_LA_law_468 : decode b_LA_law 468 = .ok (.iaload, 1) := by decide +kernel
theorem d_LA_law_469 : decode b_LA_law 469 = .ok (.aload_n 0, 1) := by decide +kernel
theorem d_LA_law_470 : decode b_LA_law 470 = .ok (.iload 4, 2) := by decide +kernel
theorem d_LA_law_472 : decode b_LA_law 472 = .ok (.iconst 2, 1) := by decide +kernel
theorem d_LA_law_473 : decode b_LA_law 473 = .ok (.iadd, 1) := by decide +kernel
theorem d_LA_law_474 : decode b_LA_law 474 = .ok (.iaload, 1) := by decide +kernel
theorem d_LA_law_475 : decode b_LA_law 475 = .ok (.invokevirtual 102, 3) := by decide +kernel
theorem d_LA_law_478 : decode b_LA_law 478 = .ok (.lstore 6, 2) := by decide +kernel
theorem d_LA_law_480 : decode b_LA_law 480 = .ok (.aload_n 2, 1) := by decide +kernel
theorem d_LA_law_481 : decode b_LA_law 481 = .ok (.invokevirtual 80, 3) := by decide +kernel
theorem d_LA_law_484 : decode b_LA_law 484 = .ok (.iload 5, 2) := by decide +kernel
theorem d_LA_law_486 : decode b_LA_law 486 = .ok (.if_icmp .eq 5, 3) := by decide +kernel
theorem d_LA_law_489 : decode b_LA_law 489 = .ok (.iconst 0, 1) := by decide +kernel
theorem d_LA_law_490 : decode b_LA_law 490 = .ok (.ireturn, 1) := by decide +kernel
theorem d_LA_law_491 : decode b_LA_law 491 = .ok (.iload 5, 2) := by decide +kernel
theorem d_LA_law_493 : decode b_LA_law 493 = .ok (.ifCond .ne 14, 3) := by decide +kernel
theorem d_LA_law_496 : decode b_LA_law 496 = .ok (.aload_n 3, 1) := by decide +kernel
theorem d_LA_law_497 : decode b_LA_law 497 = .ok (.iconst 0, 1) := by decide +kernel
theorem d_LA_law_498 : decode b_LA_law 498 = .ok (.laload, 1) := by decide +kernel
theorem d_LA_law_499 : decode b_LA_law 499 = .ok (.lload 6, 2) := by decide +kernel
theorem d_LA_law_501 : decode b_LA_law 501 = .ok (.lcmp, 1) := by decide +kernel
theorem d_LA_law_502 : decode b_LA_law 502 = .ok (.ifCond .eq 5, 3) := by decide +kernel
theorem d_LA_law_505 : decode b_LA_law 505 = .ok (.iconst 0, 1) := by decide +kernel
theorem d_LA_law_506 : decode b_LA_law 506 = .ok (.ireturn, 1) := by decide +kernel
theorem d_LA_law_507 : decode b_LA_law 507 = .ok (.goto 505, 3) := by decide +kernel
theorem d_LA_law_510 : decode b_LA_law 510 = .ok (.aload_n 1, 1) := by decide +kernel
theorem d_LA_law_511 : decode b_LA_law 511 = .ok (.aload_n 0, 1) := by decide +kernel
theorem d_LA_law_512 : decode b_LA_law 512 = .ok (.iload 4, 2) := by decide +kernel
theorem d_LA_law_514 : decode b_LA_law 514 = .ok (.iconst 1, 1) := by decide +kernel
theorem d_LA_law_515 : decode b_LA_law 515 = .ok (.iadd, 1) := by decide +kernel
theorem d_LA_law_516 : decode b_LA_law 516 = .ok (.iaload, 1) := by decide +kernel
theorem d_LA_law_517 : decode b_LA_law 517 = .ok (.aload_n 0, 1) := by decide +kernel
theorem d_LA_law_518 : decode b_LA_law 518 = .ok (.iload 4, 2) := by decide +kernel
theorem d_LA_law_520 : decode b_LA_law 520 = .ok (.iconst 2, 1) := by decide +kernel
theorem d_LA_law_521 : decode b_LA_law 521 = .ok (.iadd, 1) := by decide +kernel
theorem d_LA_law_522 : decode b_LA_law 522 = .ok (.iaload, 1) := by decide +kernel
theorem d_LA_law_523 : decode b_LA_law 523 = .ok (.aload_n 3, 1) := by decide +kernel
theorem d_LA_law_524 : decode b_LA_law 524 = .ok (.invokestatic 103, 3) := by decide +kernel
theorem d_LA_law_527 : decode b_LA_law 527 = .ok (.istore 5, 2) := by decide +kernel
theorem d_LA_law_529 : decode b_LA_law 529 = .ok (.aload_n 2, 1) := by decide +kernel
theorem d_LA_law_530 : decode b_LA_law 530 = .ok (.aload_n 0, 1) := by decide +kernel
theorem d_LA_law_531 : decode b_LA_law 531 = .ok (.iload 4, 2) := by decide +kernel
theorem d_LA_law_533 : decode b_LA_law 533 = .ok (.iconst 1, 1) := by decide +kernel
theorem d_LA_law_534 : decode b_LA_law 534 = .ok (.iadd, 1) := by decide +kernel
theorem d_LA_law_535 : decode b_LA_law 535 = .ok (.iaload, 1) := by decide +kernel
theorem d_LA_law_536 : decode b_LA_law 536 = .ok (.aload_n 0, 1) := by decide +kernel
theorem d_LA_law_537 : decode b_LA_law 537 = .ok (.iload 4, 2) := by decide +kernel
theorem d_LA_law_539 : decode b_LA_law 539 = .ok (.iconst 2, 1) := by decide +kernel
theorem d_LA_law_540 : decode b_LA_law 540 = .ok (.iadd, 1) := by decide +kernel
theorem d_LA_law_541 : decode b_LA_law 541 = .ok (.iaload, 1) := by decide +kernel
theorem d_LA_law_542 : decode b_LA_law 542 = .ok (.invokevirtual 105, 3) := by decide +kernel
theorem d_LA_law_545 : decode b_LA_law 545 = .ok (.istore 6, 2) := by decide +kernel
theorem d_LA_law_547 : decode b_LA_law 547 = .ok (.aload_n 2, 1) := by decide +kernel
theorem d_LA_law_548 : decode b_LA_law 548 = .ok (.invokevirtual 80, 3) := by decide +kernel
theorem d_LA_law_551 : decode b_LA_law 551 = .ok (.iload 5, 2) := by decide +kernel
theorem d_LA_law_553 : decode b_LA_law 553 = .ok (.if_icmp .eq 5, 3) := by decide +kernel
theorem d_LA_law_556 : decode b_LA_law 556 = .ok (.iconst 0, 1) := by decide +kernel
theorem d_LA_law_557 : decode b_LA_law 557 = .ok (.ireturn, 1) := by decide +kernel
theorem d_LA_law_558 : decode b_LA_law 558 = .ok (.iload 5, 2) := by decide +kernel
theorem d_LA_law_560 : decode b_LA_law 560 = .ok (.ifCond .ne 15, 3) := by decide +kernel
theorem d_LA_law_563 : decode b_LA_law 563 = .ok (.aload_n 3, 1) := by decide +kernel
end
section
theorem d_LA_law_564 : decode b_LA_law 564 = .ok (.iconst 0, 1) := by decide +kernel
theorem d_LA_law_565 : decode b_LA_law 565 = .ok (.laload, 1) := by decide +kernel
theorem d_LA_law_566 : decode b_LA_law 566 = .ok (.iload 6, 2) := by decide +kernel
theorem d_LA_law_568 : decode b_LA_law 568 = .ok (.i2l, 1) := by decide +kernel
theorem d_LA_law_569 : decode b_LA_law 569 = .ok (.lcmp, 1) := by decide +kernel
theorem d_LA_law_570 : decode b_LA_law 570 = .ok (.ifCond .eq 5, 3) := by decide +kernel
theorem d_LA_law_573 : decode b_LA_law 573 = .ok (.iconst 0, 1) := by decide +kernel
theorem d_LA_law_574 : decode b_LA_law 574 = .ok (.ireturn, 1) := by decide +kernel
theorem d_LA_law_575 : decode b_LA_law 575 = .ok (.goto 437, 3) := by decide +kernel
theorem d_LA_law_578 : decode b_LA_law 578 = .ok (.aload_n 1, 1) := by decide +kernel
theorem d_LA_law_579 : decode b_LA_law 579 = .ok (.aload_n 0, 1) := by decide +kernel
theorem d_LA_law_580 : decode b_LA_law 580 = .ok (.iload 4, 2) := by decide +kernel
theorem d_LA_law_582 : decode b_LA_law 582 = .ok (.iconst 1, 1) := by decide +kernel
theorem d_LA_law_583 : decode b_LA_law 583 = .ok (.iadd, 1) := by decide +kernel
theorem d_LA_law_584 : decode b_LA_law 584 = .ok (.iaload, 1) := by decide +kernel
theorem d_LA_law_585 : decode b_LA_law 585 = .ok (.aload_n 3, 1) := by decide +kernel
theorem d_LA_law_586 : decode b_LA_law 586 = .ok (.invokestatic 106, 3) := by decide +kernel
theorem d_LA_law_589 : decode b_LA_law 589 = .ok (.istore 5, 2) := by decide +kernel
theorem d_LA_law_591 : decode b_LA_law 591 = .ok (.aload_n 2, 1) := by decide +kernel
theorem d_LA_law_592 : decode b_LA_law 592 = .ok (.aload_n 0, 1) := by decide +kernel
theorem d_LA_law_593 : decode b_LA_law 593 = .ok (.iload 4, 2) := by decide +kernel
theorem d_LA_law_595 : decode b_LA_law 595 = .ok (.iconst 1, 1) := by decide +kernel
theorem d_LA_law_596 : decode b_LA_law 596 = .ok (.iadd, 1) := by decide +kernel
theorem d_LA_law_597 : decode b_LA_law 597 = .ok (.iaload, 1) := by decide +kernel
theorem d_LA_law_598 : decode b_LA_law 598 = .ok (.invokevirtual 108, 3) := by decide +kernel
theorem d_LA_law_601 : decode b_LA_law 601 = .ok (.istore 6, 2) := by decide +kernel
theorem d_LA_law_603 : decode b_LA_law 603 = .ok (.aload_n 2, 1) := by decide +kernel
theorem d_LA_law_604 : decode b_LA_law 604 = .ok (.invokevirtual 80, 3) := by decide +kernel
theorem d_LA_law_607 : decode b_LA_law 607 = .ok (.iload 5, 2) := by decide +kernel
theorem d_LA_law_609 : decode b_LA_law 609 = .ok (.if_icmp .eq 5, 3) := by decide +kernel
theorem d_LA_law_612 : decode b_LA_law 612 = .ok (.iconst 0, 1) := by decide +kernel
theorem d_LA_law_613 : decode b_LA_law 613 = .ok (.ireturn, 1) := by decide +kernel
theorem d_LA_law_614 : decode b_LA_law 614 = .ok (.iload 5, 2) := by decide +kernel
theorem d_LA_law_616 : decode b_LA_law 616 = .ok (.ifCond .ne 15, 3) := by decide +kernel
theorem d_LA_law_619 : decode b_LA_law 619 = .ok (.aload_n 3, 1) := by decide +kernel
theorem d_LA_law_620 : decode b_LA_law 620 = .ok (.iconst 0, 1) := by decide +kernel
theorem d_LA_law_621 : decode b_LA_law 621 = .ok (.laload, 1) := by decide +kernel
theorem d_LA_law_622 : decode b_LA_law 622 = .ok (.iload 6, 2) := by decide +kernel
theorem d_LA_law_624 : decode b_LA_law 624 = .ok (.i2l, 1) := by decide +kernel
theorem d_LA_law_625 : decode b_LA_law 625 = .ok (.lcmp, 1) := by decide +kernel
theorem d_LA_law_626 : decode b_LA_law 626 = .ok (.ifCond .eq 5, 3) := by decide +kernel
theorem d_LA_law_629 : decode b_LA_law 629 = .ok (.iconst 0, 1) := by decide +kernel
theorem d_LA_law_630 : decode b_LA_law 630 = .ok (.ireturn, 1) := by decide +kernel
theorem d_LA_law_631 : decode b_LA_law 631 = .ok (.goto 381, 3) := by decide +kernel
theorem d_LA_law_634 : decode b_LA_law 634 = .ok (.aload_n 1, 1) := by decide +kernel
theorem d_LA_law_635 : decode b_LA_law 635 = .ok (.aload_n 0, 1) := by decide +kernel
theorem d_LA_law_636 : decode b_LA_law 636 = .ok (.iload 4, 2) := by decide +kernel
theorem d_LA_law_638 : decode b_LA_law 638 = .ok (.iconst 1, 1) := by decide +kernel
theorem d_LA_law_639 : decode b_LA_law 639 = .ok (.iadd, 1) := by decide +kernel
theorem d_LA_law_640 : decode b_LA_law 640 = .ok (.iaload, 1) := by decide +kernel
theorem d_LA_law_641 : decode b_LA_law 641 = .ok (.aload_n 3, 1) := by decide +kernel
theorem d_LA_law_642 : decode b_LA_law 642 = .ok (.invokestatic 109, 3) := by decide +kernel
theorem d_LA_law_645 : decode b_LA_law 645 = .ok (.istore 5, 2) := by decide +kernel
theorem d_LA_law_647 : decode b_LA_law 647 = .ok (.aload_n 2, 1) := by decide +kernel
theorem d_LA_law_648 : decode b_LA_law 648 = .ok (.aload_n 0, 1) := by decide +kernel
theorem d_LA_law_649 : decode b_LA_law 649 = .ok (.iload 4, 2) := by decide +kernel
theorem d_LA_law_651 : decode b_LA_law 651 = .ok (.iconst 1, 1) := by decide +kernel
theorem d_LA_law_652 : decode b_LA_law 652 = .ok (.iadd, 1) := by decide +kernel
theorem d_LA_law_653 : decode b_LA_law 653 = .ok (.iaload, 1) := by decide +kernel
theorem d_LA_law_654 : decode b_LA_law 654 = .ok (.invokevirtual 111, 3) := by decide +kernel
theorem d_LA_law_657 : decode b_LA_law 657 = .ok (.istore 6, 2) := by decide +kernel
theorem d_LA_law_659 : decode b_LA_law 659 = .ok (.aload_n 2, 1) := by decide +kernel
theorem d_LA_law_660 : decode b_LA_law 660 = .ok (.invokevirtual 80, 3) := by decide +kernel
theorem d_LA_law_663 : decode b_LA_law 663 = .ok (.iload 5, 2) := by decide +kernel
theorem d_LA_law_665 : decode b_LA_law 665 = .ok (.if_icmp .eq 5, 3) := by decide +kernel
theorem d_LA_law_668 : decode b_LA_law 668 = .ok (.iconst 0, 1) := by decide +kernel
theorem d_LA_law_669 : decode b_LA_law 669 = .ok (.ireturn, 1) := by decide +kernel
theorem d_LA_law_670 : decode b_LA_law 670 = .ok (.iload 5, 2) := by decide +kernel
theorem d_LA_law_672 : decode b_LA_law 672 = .ok (.ifCond .ne 15, 3) := by decide +kernel
theorem d_LA_law_675 : decode b_LA_law 675 = .ok (.aload_n 3, 1) := by decide +kernel
theorem d_LA_law_676 : decode b_LA_law 676 = .ok (.iconst 0, 1) := by decide +kernel
theorem d_LA_law_677 : decode b_LA_law 677 = .ok (.laload, 1) := by decide +kernel
theorem d_LA_law_678 : decode b_LA_law 678 = .ok (.iload 6, 2) := by decide +kernel
theorem d_LA_law_680 : decode b_LA_law 680 = .ok (.i2l, 1) := by decide +kernel
theorem d_LA_law_681 : decode b_LA_law 681 = .ok (.lcmp, 1) := by decide +kernel
theorem d_LA_law_682 : decode b_LA_law 682 = .ok (.ifCond .eq 5, 3) := by decide +kernel
theorem d_LA_law_685 : decode b_LA_law 685 = .ok (.iconst 0, 1) := by decide +kernel
theorem d_LA_law_686 : decode b_LA_law 686 = .ok (.ireturn, 1) := by decide +kernel
theorem d_LA_law_687 : decode b_LA_law 687 = .ok (.goto 325, 3) := by decide +kernel
theorem d_LA_law_690 : decode b_LA_law 690 = .ok (.aload_n 1, 1) := by decide +kernel
theorem d_LA_law_691 : decode b_LA_law 691 = .ok (.aload_n 0, 1) := by decide +kernel
theorem d_LA_law_692 : decode b_LA_law 692 = .ok (.iload 4, 2) := by decide +kernel
theorem d_LA_law_694 : decode b_LA_law 694 = .ok (.iconst 1, 1) := by decide +kernel
theorem d_LA_law_695 : decode b_LA_law 695 = .ok (.iadd, 1) := by decide +kernel
theorem d_LA_law_696 : decode b_LA_law 696 = .ok (.iaload, 1) := by decide +kernel
theorem d_LA_law_697 : decode b_LA_law 697 = .ok (.invokestatic 112, 3) := by decide +kernel
theorem d_LA_law_700 : decode b_LA_law 700 = .ok (.istore 5, 2) := by decide +kernel
theorem d_LA_law_702 : decode b_LA_law 702 = .ok (.aload_n 2, 1) := by decide +kernel
theorem d_LA_law_703 : decode b_LA_law 703 = .ok (.aload_n 0, 1) := by decide +kernel
theorem d_LA_law_704 : decode b_LA_law 704 = .ok (.iload 4, 2) := by decide +kernel
theorem d_LA_law_706 : decode b_LA_law 706 = .ok (.iconst 1, 1) := by decide +kernel
theorem d_LA_law_707 : decode b_LA_law 707 = .ok (.iadd, 1) := by decide +kernel
theorem d_LA_law_708 : decode b_LA_law 708 = .ok (.iaload, 1) := by decide +kernel
theorem d_LA_law_709 : decode b_LA_law 709 = .ok (.invokevirtual 115, 3) := by decide +kernel
theorem d_LA_law_712 : decode b_LA_law 712 = .ok (.aload_n 2, 1) := by decide +kernel
theorem d_LA_law_713 : decode b_LA_law 713 = .ok (.invokevirtual 80, 3) := by decide +kernel
theorem d_LA_law_716 : decode b_LA_law 716 = .ok (.iload 5, 2) := by decide +kernel
theorem d_LA_law_718 : decode b_LA_law 718 = .ok (.if_icmp .eq 5, 3) := by decide +kernel
theorem d_LA_law_721 : decode b_LA_law 721 = .ok (.iconst 0, 1) := by decide +kernel
theorem d_LA_law_722 : decode b_LA_law 722 = .ok (.ireturn, 1) := by decide +kernel
theorem d_LA_law_723 : decode b_LA_law 723 = .ok (.goto 289, 3) := by decide +kernel
theorem d_LA_law_726 : decode b_LA_law 726 = .ok (.aload_n 1, 1) := by decide +kernel
theorem d_LA_law_727 : decode b_LA_law 727 = .ok (.invokevirtual 116, 3) := by decide +kernel
theorem d_LA_law_730 : decode b_LA_law 730 = .ok (.aload_n 2, 1) := by decide +kernel
theorem d_LA_law_731 : decode b_LA_law 731 = .ok (.invokevirtual 119, 3) := by decide +kernel
theorem d_LA_law_734 : decode b_LA_law 734 = .ok (.if_icmp .eq 278, 3) := by decide +kernel
theorem d_LA_law_737 : decode b_LA_law 737 = .ok (.iconst 0, 1) := by decide +kernel
theorem d_LA_law_738 : decode b_LA_law 738 = .ok (.ireturn, 1) := by decide +kernel
theorem d_LA_law_739 : decode b_LA_law 739 = .ok (.aload_n 1, 1) := by decide +kernel
theorem d_LA_law_740 : decode b_LA_law 740 = .ok (.invokevirtual 120, 3) := by decide +kernel
theorem d_LA_law_743 : decode b_LA_law 743 = .ok (.aload_n 2, 1) := by decide +kernel
theorem d_LA_law_744 : decode b_LA_law 744 = .ok (.invokevirtual 124, 3) := by decide +kernel
theorem d_LA_law_747 : decode b_LA_law 747 = .ok (.if_icmp .eq 265, 3) := by decide +kernel
theorem d_LA_law_750 : decode b_LA_law 750 = .ok (.iconst 0, 1) := by decide +kernel
theorem d_LA_law_751 : decode b_LA_law 751 = .ok (.ireturn, 1) := by decide +kernel
theorem d_LA_law_752 : decode b_LA_law 752 = .ok (.aload_n 1, 1) := by decide +kernel
theorem d_LA_law_753 : decode b_LA_law 753 = .ok (.aload_n 0, 1) := by decide +kernel
theorem d_LA_law_754 : decode b_LA_law 754 = .ok (.iload 4, 2) := by decide +kernel
theorem d_LA_law_756 : decode b_LA_law 756 = .ok (.iconst 1, 1) := by decide +kernel
theorem d_LA_law_757 : decode b_LA_law 757 = .ok (.iadd, 1) := by decide +kernel
theorem d_LA_law_758 : decode b_LA_law 758 = .ok (.iaload, 1) := by decide +kernel
theorem d_LA_law_759 : decode b_LA_law 759 = .ok (.aload_n 0, 1) := by decide +kernel
theorem d_LA_law_760 : decode b_LA_law 760 = .ok (.iload 4, 2) := by decide +kernel
theorem d_LA_law_762 : decode b_LA_law 762 = .ok (.iconst 2, 1) := by decide +kernel
theorem d_LA_law_763 : decode b_LA_law 763 = .ok (.iadd, 1) := by decide +kernel
theorem d_LA_law_764 : decode b_LA_law 764 = .ok (.iaload, 1) := by decide +kernel
theorem d_LA_law_765 : decode b_LA_law 765 = .ok (.aload_n 3, 1) := by decide +kernel
theorem d_LA_law_766 : decode b_LA_law 766 = .ok (.invokestatic 125, 3) := by decide +kernel
theorem d_LA_law_769 : decode b_LA_law 769 = .ok (.istore 5, 2) := by decide +kernel
theorem d_LA_law_771 : decode b_LA_law 771 = .ok (.aload_n 2, 1) := by decide +kernel
theorem d_LA_law_772 : decode b_LA_law 772 = .ok (.aload_n 0, 1) := by decide +kernel
theorem d_LA_law_773 : decode b_LA_law 773 = .ok (.iload 4, 2) := by decide +kernel
theorem d_LA_law_775 : decode b_LA_law 775 = .ok (.iconst 1, 1) := by decide +kernel
theorem d_LA_law_776 : decode b_LA_law 776 = .ok (.iadd, 1) := by decide +kernel
theorem d_LA_law_777 : decode b_LA_law 777 = .ok (.iaload, 1) := by decide +kernel
theorem d_LA_law_778 : decode b_LA_law 778 = .ok (.aload_n 0, 1) := by decide +kernel
theorem d_LA_law_779 : decode b_LA_law 779 = .ok (.iload 4, 2) := by decide +kernel
theorem d_LA_law_781 : decode b_LA_law 781 = .ok (.iconst 2, 1) := by decide +kernel
theorem d_LA_law_782 : decode b_LA_law 782 = .ok (.iadd, 1) := by decide +kernel
theorem d_LA_law_783 : decode b_LA_law 783 = .ok (.iaload, 1) := by decide +kernel
theorem d_LA_law_784 : decode b_LA_law 784 = .ok (.invokevirtual 127, 3) := by decide +kernel
theorem d_LA_law_787 : decode b_LA_law 787 = .ok (.istore 6, 2) := by decide +kernel
theorem d_LA_law_789 : decode b_LA_law 789 = .ok (.aload_n 2, 1) := by decide +kernel
theorem d_LA_law_790 : decode b_LA_law 790 = .ok (.invokevirtual 80, 3) := by decide +kernel
theorem d_LA_law_793 : decode b_LA_law 793 = .ok (.iload 5, 2) := by decide +kernel
theorem d_LA_law_795 : decode b_LA_law 795 = .ok (.if_icmp .eq 5, 3) := by decide +kernel
theorem d_LA_law_798 : decode b_LA_law 798 = .ok (.iconst 0, 1) := by decide +kernel
theorem d_LA_law_799 : decode b_LA_law 799 = .ok (.ireturn, 1) := by decide +kernel
theorem d_LA_law_800 : decode b_LA_law 800 = .ok (.iload 5, 2) := by decide +kernel
theorem d_LA_law_802 : decode b_LA_law 802 = .ok (.ifCond .ne 15, 3) := by decide +kernel
end
section
theorem d_LA_law_805 : decode b_LA_law 805 = .ok (.aload_n 3, 1) := by decide +kernel
theorem d_LA_law_806 : decode b_LA_law 806 = .ok (.iconst 0, 1) := by decide +kernel
theorem d_LA_law_807 : decode b_LA_law 807 = .ok (.laload, 1) := by decide +kernel
theorem d_LA_law_808 : decode b_LA_law 808 = .ok (.iload 6, 2) := by decide +kernel
theorem d_LA_law_810 : decode b_LA_law 810 = .ok (.i2l, 1) := by decide +kernel
theorem d_LA_law_811 : decode b_LA_law 811 = .ok (.lcmp, 1) := by decide +kernel
theorem d_LA_law_812 : decode b_LA_law 812 = .ok (.ifCond .eq 5, 3) := by decide +kernel
theorem d_LA_law_815 : decode b_LA_law 815 = .ok (.iconst 0, 1) := by decide +kernel
theorem d_LA_law_816 : decode b_LA_law 816 = .ok (.ireturn, 1) := by decide +kernel
theorem d_LA_law_817 : decode b_LA_law 817 = .ok (.goto 195, 3) := by decide +kernel
theorem d_LA_law_820 : decode b_LA_law 820 = .ok (.aload_n 1, 1) := by decide +kernel
theorem d_LA_law_821 : decode b_LA_law 821 = .ok (.aload_n 0, 1) := by decide +kernel
theorem d_LA_law_822 : decode b_LA_law 822 = .ok (.iload 4, 2) := by decide +kernel
theorem d_LA_law_824 : decode b_LA_law 824 = .ok (.iconst 1, 1) := by decide +kernel
theorem d_LA_law_825 : decode b_LA_law 825 = .ok (.iadd, 1) := by decide +kernel
theorem d_LA_law_826 : decode b_LA_law 826 = .ok (.iaload, 1) := by decide +kernel
theorem d_LA_law_827 : decode b_LA_law 827 = .ok (.aload_n 0, 1) := by decide +kernel
theorem d_LA_law_828 : decode b_LA_law 828 = .ok (.iload 4, 2) := by decide +kernel
theorem d_LA_law_830 : decode b_LA_law 830 = .ok (.iconst 2, 1) := by decide +kernel
theorem d_LA_law_831 : decode b_LA_law 831 = .ok (.iadd, 1) := by decide +kernel
theorem d_LA_law_832 : decode b_LA_law 832 = .ok (.iaload, 1) := by decide +kernel
theorem d_LA_law_833 : decode b_LA_law 833 = .ok (.aload_n 0, 1) := by decide +kernel
theorem d_LA_law_834 : decode b_LA_law 834 = .ok (.iload 4, 2) := by decide +kernel
theorem d_LA_law_836 : decode b_LA_law 836 = .ok (.iconst 3, 1) := by decide +kernel
theorem d_LA_law_837 : decode b_LA_law 837 = .ok (.iadd, 1) := by decide +kernel
theorem d_LA_law_838 : decode b_LA_law 838 = .ok (.iaload, 1) := by decide +kernel
theorem d_LA_law_839 : decode b_LA_law 839 = .ok (.aload_n 3, 1) := by decide +kernel
theorem d_LA_law_840 : decode b_LA_law 840 = .ok (.invokestatic 128, 3) := by decide +kernel
theorem d_LA_law_843 : decode b_LA_law 843 = .ok (.istore 5, 2) := by decide +kernel
theorem d_LA_law_845 : decode b_LA_law 845 = .ok (.aload_n 2, 1) := by decide +kernel
theorem d_LA_law_846 : decode b_LA_law 846 = .ok (.aload_n 0, 1) := by decide +kernel
theorem d_LA_law_847 : decode b_LA_law 847 = .ok (.iload 4, 2) := by decide +kernel
theorem d_LA_law_849 : decode b_LA_law 849 = .ok (.iconst 1, 1) := by decide +kernel
theorem d_LA_law_850 : decode b_LA_law 850 = .ok (.iadd, 1) := by decide +kernel
theorem d_LA_law_851 : decode b_LA_law 851 = .ok (.iaload, 1) := by decide +kernel
theorem d_LA_law_852 : decode b_LA_law 852 = .ok (.aload_n 0, 1) := by decide +kernel
theorem d_LA_law_853 : decode b_LA_law 853 = .ok (.iload 4, 2) := by decide +kernel
theorem d_LA_law_855 : decode b_LA_law 855 = .ok (.iconst 2, 1) := by decide +kernel
theorem d_LA_law_856 : decode b_LA_law 856 = .ok (.iadd, 1) := by decide +kernel
theorem d_LA_law_857 : decode b_LA_law 857 = .ok (.iaload, 1) := by decide +kernel
theorem d_LA_law_858 : decode b_LA_law 858 = .ok (.aload_n 0, 1) := by decide +kernel
theorem d_LA_law_859 : decode b_LA_law 859 = .ok (.iload 4, 2) := by decide +kernel
theorem d_LA_law_861 : decode b_LA_law 861 = .ok (.iconst 3, 1) := by decide +kernel
theorem d_LA_law_862 : decode b_LA_law 862 = .ok (.iadd, 1) := by decide +kernel
theorem d_LA_law_863 : decode b_LA_law 863 = .ok (.iaload, 1) := by decide +kernel
theorem d_LA_law_864 : decode b_LA_law 864 = .ok (.invokevirtual 131, 3) := by decide +kernel
theorem d_LA_law_867 : decode b_LA_law 867 = .ok (.istore 6, 2) := by decide +kernel
theorem d_LA_law_869 : decode b_LA_law 869 = .ok (.aload_n 2, 1) := by decide +kernel
theorem d_LA_law_870 : decode b_LA_law 870 = .ok (.invokevirtual 80, 3) := by decide +kernel
theorem d_LA_law_873 : decode b_LA_law 873 = .ok (.iload 5, 2) := by decide +kernel
theorem d_LA_law_875 : decode b_LA_law 875 = .ok (.if_icmp .eq 5, 3) := by decide +kernel
theorem d_LA_law_878 : decode b_LA_law 878 = .ok (.iconst 0, 1) := by decide +kernel
theorem d_LA_law_879 : decode b_LA_law 879 = .ok (.ireturn, 1) := by decide +kernel
theorem d_LA_law_880 : decode b_LA_law 880 = .ok (.iload 5, 2) := by decide +kernel
theorem d_LA_law_882 : decode b_LA_law 882 = .ok (.ifCond .ne 15, 3) := by decide +kernel
theorem d_LA_law_885 : decode b_LA_law 885 = .ok (.aload_n 3, 1) := by decide +kernel
theorem d_LA_law_886 : decode b_LA_law 886 = .ok (.iconst 0, 1) := by decide +kernel
theorem d_LA_law_887 : decode b_LA_law 887 = .ok (.laload, 1) := by decide +kernel
theorem d_LA_law_888 : decode b_LA_law 888 = .ok (.iload 6, 2) := by decide +kernel
theorem d_LA_law_890 : decode b_LA_law 890 = .ok (.i2l, 1) := by decide +kernel
theorem d_LA_law_891 : decode b_LA_law 891 = .ok (.lcmp, 1) := by decide +kernel
theorem d_LA_law_892 : decode b_LA_law 892 = .ok (.ifCond .eq 5, 3) := by decide +kernel
theorem d_LA_law_895 : decode b_LA_law 895 = .ok (.iconst 0, 1) := by decide +kernel
theorem d_LA_law_896 : decode b_LA_law 896 = .ok (.ireturn, 1) := by decide +kernel
theorem d_LA_law_897 : decode b_LA_law 897 = .ok (.goto 115, 3) := by decide +kernel
theorem d_LA_law_900 : decode b_LA_law 900 = .ok (.aload_n 1, 1) := by decide +kernel
theorem d_LA_law_901 : decode b_LA_law 901 = .ok (.aload_n 0, 1) := by decide +kernel
theorem d_LA_law_902 : decode b_LA_law 902 = .ok (.iload 4, 2) := by decide +kernel
theorem d_LA_law_904 : decode b_LA_law 904 = .ok (.iconst 1, 1) := by decide +kernel
theorem d_LA_law_905 : decode b_LA_law 905 = .ok (.iadd, 1) := by decide +kernel
theorem d_LA_law_906 : decode b_LA_law 906 = .ok (.iaload, 1) := by decide +kernel
theorem d_LA_law_907 : decode b_LA_law 907 = .ok (.aload_n 3, 1) := by decide +kernel
theorem d_LA_law_908 : decode b_LA_law 908 = .ok (.invokestatic 132, 3) := by decide +kernel
theorem d_LA_law_911 : decode b_LA_law 911 = .ok (.istore 5, 2) := by decide +kernel
theorem d_LA_law_913 : decode b_LA_law 913 = .ok (.aload_n 2, 1) := by decide +kernel
theorem d_LA_law_914 : decode b_LA_law 914 = .ok (.aload_n 0, 1) := by decide +kernel
theorem d_LA_law_915 : decode b_LA_law 915 = .ok (.iload 4, 2) := by decide +kernel
theorem d_LA_law_917 : decode b_LA_law 917 = .ok (.iconst 1, 1) := by decide +kernel
theorem d_LA_law_918 : decode b_LA_law 918 = .ok (.iadd, 1) := by decide +kernel
theorem d_LA_law_919 : decode b_LA_law 919 = .ok (.iaload, 1) := by decide +kernel
theorem d_LA_law_920 : decode b_LA_law 920 = .ok (.invokevirtual 134, 3) := by decide +kernel
theorem d_LA_law_923 : decode b_LA_law 923 = .ok (.istore 6, 2) := by decide +kernel
theorem d_LA_law_925 : decode b_LA_law 925 = .ok (.aload_n 2, 1) := by decide +kernel
theorem d_LA_law_926 : decode b_LA_law 926 = .ok (.invokevirtual 80, 3) := by decide +kernel
theorem d_LA_law_929 : decode b_LA_law 929 = .ok (.iload 5, 2) := by decide +kernel
theorem d_LA_law_931 : decode b_LA_law 931 = .ok (.if_icmp .eq 5, 3) := by decide +kernel
theorem d_LA_law_934 : decode b_LA_law 934 = .ok (.iconst 0, 1) := by decide +kernel
theorem d_LA_law_935 : decode b_LA_law 935 = .ok (.ireturn, 1) := by decide +kernel
theorem d_LA_law_936 : decode b_LA_law 936 = .ok (.iload 5, 2) := by decide +kernel
theorem d_LA_law_938 : decode b_LA_law 938 = .ok (.ifCond .ne 15, 3) := by decide +kernel
theorem d_LA_law_941 : decode b_LA_law 941 = .ok (.aload_n 3, 1) := by decide +kernel
theorem d_LA_law_942 : decode b_LA_law 942 = .ok (.iconst 0, 1) := by decide +kernel
theorem d_LA_law_943 : decode b_LA_law 943 = .ok (.laload, 1) := by decide +kernel
theorem d_LA_law_944 : decode b_LA_law 944 = .ok (.iload 6, 2) := by decide +kernel
theorem d_LA_law_946 : decode b_LA_law 946 = .ok (.i2l, 1) := by decide +kernel
theorem d_LA_law_947 : decode b_LA_law 947 = .ok (.lcmp, 1) := by decide +kernel
theorem d_LA_law_948 : decode b_LA_law 948 = .ok (.ifCond .eq 5, 3) := by decide +kernel
theorem d_LA_law_951 : decode b_LA_law 951 = .ok (.iconst 0, 1) := by decide +kernel
theorem d_LA_law_952 : decode b_LA_law 952 = .ok (.ireturn, 1) := by decide +kernel
theorem d_LA_law_953 : decode b_LA_law 953 = .ok (.goto 59, 3) := by decide +kernel
theorem d_LA_law_956 : decode b_LA_law 956 = .ok (.aload_n 1, 1) := by decide +kernel
theorem d_LA_law_957 : decode b_LA_law 957 = .ok (.aload_n 0, 1) := by decide +kernel
theorem d_LA_law_958 : decode b_LA_law 958 = .ok (.iload 4, 2) := by decide +kernel
theorem d_LA_law_960 : decode b_LA_law 960 = .ok (.iconst 1, 1) := by decide +kernel
theorem d_LA_law_961 : decode b_LA_law 961 = .ok (.iadd, 1) := by decide +kernel
theorem d_LA_law_962 : decode b_LA_law 962 = .ok (.iaload, 1) := by decide +kernel
theorem d_LA_law_963 : decode b_LA_law 963 = .ok (.aload_n 3, 1) := by decide +kernel
theorem d_LA_law_964 : decode b_LA_law 964 = .ok (.invokestatic 135, 3) := by decide +kernel
theorem d_LA_law_967 : decode b_LA_law 967 = .ok (.istore 5, 2) := by decide +kernel
theorem d_LA_law_969 : decode b_LA_law 969 = .ok (.aload_n 2, 1) := by decide +kernel
theorem d_LA_law_970 : decode b_LA_law 970 = .ok (.aload_n 0, 1) := by decide +kernel
theorem d_LA_law_971 : decode b_LA_law 971 = .ok (.iload 4, 2) := by decide +kernel
theorem d_LA_law_973 : decode b_LA_law 973 = .ok (.iconst 1, 1) := by decide +kernel
theorem d_LA_law_974 : decode b_LA_law 974 = .ok (.iadd, 1) := by decide +kernel
theorem d_LA_law_975 : decode b_LA_law 975 = .ok (.iaload, 1) := by decide +kernel
theorem d_LA_law_976 : decode b_LA_law 976 = .ok (.invokevirtual 137, 3) := by decide +kernel
theorem d_LA_law_979 : decode b_LA_law 979 = .ok (.istore 6, 2) := by decide +kernel
theorem d_LA_law_981 : decode b_LA_law 981 = .ok (.aload_n 2, 1) := by decide +kernel
theorem d_LA_law_982 : decode b_LA_law 982 = .ok (.invokevirtual 80, 3) := by decide +kernel
theorem d_LA_law_985 : decode b_LA_law 985 = .ok (.iload 5, 2) := by decide +kernel
theorem d_LA_law_987 : decode b_LA_law 987 = .ok (.if_icmp .eq 5, 3) := by decide +kernel
theorem d_LA_law_990 : decode b_LA_law 990 = .ok (.iconst 0, 1) := by decide +kernel
theorem d_LA_law_991 : decode b_LA_law 991 = .ok (.ireturn, 1) := by decide +kernel
theorem d_LA_law_992 : decode b_LA_law 992 = .ok (.iload 5, 2) := by decide +kernel
theorem d_LA_law_994 : decode b_LA_law 994 = .ok (.ifCond .ne 15, 3) := by decide +kernel
theorem d_LA_law_997 : decode b_LA_law 997 = .ok (.aload_n 3, 1) := by decide +kernel
theorem d_LA_law_998 : decode b_LA_law 998 = .ok (.iconst 0, 1) := by decide +kernel
theorem d_LA_law_999 : decode b_LA_law 999 = .ok (.laload, 1) := by decide +kernel
theorem d_LA_law_1000 : decode b_LA_law 1000 = .ok (.iload 6, 2) := by decide +kernel
theorem d_LA_law_1002 : decode b_LA_law 1002 = .ok (.i2l, 1) := by decide +kernel
theorem d_LA_law_1003 : decode b_LA_law 1003 = .ok (.lcmp, 1) := by decide +kernel
theorem d_LA_law_1004 : decode b_LA_law 1004 = .ok (.ifCond .eq 5, 3) := by decide +kernel
theorem d_LA_law_1007 : decode b_LA_law 1007 = .ok (.iconst 0, 1) := by decide +kernel
theorem d_LA_law_1008 : decode b_LA_law 1008 = .ok (.ireturn, 1) := by decide +kernel
theorem d_LA_law_1009 : decode b_LA_law 1009 = .ok (.goto 3, 3) := by decide +kernel
theorem d_LA_law_1012 : decode b_LA_law 1012 = .ok (.iinc 4 4, 3) := by decide +kernel
theorem d_LA_law_1015 : decode b_LA_law 1015 = .ok (.goto (-982), 3) := by decide +kernel
theorem d_LA_law_1018 : decode b_LA_law 1018 = .ok (.iconst 1, 1) := by decide +kernel
theorem d_LA_law_1019 : decode b_LA_law 1019 = .ok (.ireturn, 1) := by decide +kernel
end
section
/-! rows of this work's own, over the kit's: one list of words for all methods; contracts whose world stays one list of cells; calls and returns in that form -/
def lw_ws (y : MethodName) (b : ByteArray) (n : Nat) (r : Option FieldType) : List Cond := Cond.code y b n r :: lw_g
theorem lw_gi {y : MethodName} {b : ByteArray} {n : Nat} {r : Option FieldType} (h : Cond.code y b n r ∈ lw_g) : GoodIn lw_g (lw_ws y b n r) := by
  intro w hw
  have hm : w ∈ lw_g := by
    rcases List.mem_cons.mp hw with h1 | h1
    · rw [h1]; exact h
    · exact h1
  exact ⟨hm, good_of_word (lw_g_good w hm)⟩
abbrev GG : Type := va_G × (Nat → ClassId)
abbrev tysG (G : GG) : List (ClassId × FieldType) := [(G.2 0, .int), (G.2 1, .boolean), (G.2 2, .byte), (G.2 3, .long)]
def Wp (G : GG) (ws : va_W) (sz : Nat) : State → Prop := fun U => U.heap.size = sz ∧ va_P G.1 classes ws U.heap ∧ va_K G.1 classes (tysG G) U ∧ va_D (fun _ => True) ws
def Wb (G : GG) (A : Nat → Prop) {S : Type} (w1 : S → va_W) : S → State → Prop := fun u t => va_P G.1 classes (w1 u) t.heap ∧ va_K G.1 classes (tysG G) t ∧ va_D A (w1 u)
theorem Wp_blind {G : GG} {ws : va_W} {sz : Nat} {av : List Value} : FrameBlind (va_Pc av (Wp G ws sz)) := by
  intro a U g mk q
  obtain ⟨q0, q1, qP, qK, qD⟩ := q
  exact ⟨q0, q1, qP, va_K.moved (u := U) (U := U.calling g mk a) (Vm.Alike.refl U.vm) qK, qD⟩
def isB (v : Int32) : Prop := narrow .boolean (.int v) = .int v
theorem isB_0 : isB 0 := rfl
theorem isB_1 : isB 1 := rfl
/-! contracts: int (and boolean), long, void -/
def CtI (l : Launch) (y : MethodName) (b : ByteArray) (maxL : Nat) (ret : Option FieldType) (rm : Room) (G : GG) (ws : va_W) (sz : Nat) (av : List Value) {S : Type} (post : Int32 → S → Prop) (w1 : S → va_W) : Prop :=
  Met l y (lw_ws y b maxL ret) rm (va_Pc av (Wp G ws sz)) (va_Qi post (Wb G (va_A ws sz) w1) (va_A ws sz)) 0 0 (va_A ws sz)
def CtL (l : Launch) (y : MethodName) (b : ByteArray) (maxL : Nat) (ret : Option FieldType) (rm : Room) (G : GG) (ws : va_W) (sz : Nat) (av : List Value) {S : Type} (post : Int64 → S → Prop) (w1 : S → va_W) : Prop :=
  Met l y (lw_ws y b maxL ret) rm (va_Pc av (Wp G ws sz)) (va_Ql post (Wb G (va_A ws sz) w1) (va_A ws sz)) 0 0 (va_A ws sz)
def CtV (l : Launch) (y : MethodName) (b : ByteArray) (maxL : Nat) (ret : Option FieldType) (rm : Room) (G : GG) (ws : va_W) (sz : Nat) (av : List Value) {S : Type} (post : S → Prop) (w1 : S → va_W) : Prop :=
  Met l y (lw_ws y b maxL ret) rm (va_Pc av (Wp G ws sz)) (va_Qv post (Wb G (va_A ws sz) w1) (va_A ws sz)) 0 0 (va_A ws sz)
section Start
variable {l : Launch} {y : MethodName} {b : ByteArray} {maxL : Nat} {ret : Option FieldType} {rm : Room} {G : GG} {ws : va_W} {sz : Nat} {av : List Value}
/-- a method's start, in the words of the walk -/
def Body (l : Launch) (y : MethodName) (b : ByteArray) (maxL : Nat) (ret : Option FieldType) (rm : Room) (G : GG) (ws : va_W) (av : List Value) (Qc : (Nat → Prop) → Array Value → State → Outcome → State → Prop) : Prop :=
  ∀ (p : Program) (e : Env) (s : State) (m : MethodId) (below : List Frame) (meth : Method) (c : Code), l.admits e → p.tables.exec = Jvm.exec → c.code = b → meth.sig.returnType = ret → c.maxLocals = maxL → s.vm.findClass y.cls = some m.cls → meth.locks = false →
    (∀ w ∈ lw_g, w.before av.toArray s = true) → va_K G.1 classes (tysG G) s → ∀ A : Nat → Prop, (∀ q, s.heap.size ≤ q → A q) → va_P G.1 classes ws s.heap → va_D A ws → va_S A s.heap s.heap [] →
    ∀ ls : Array Slot, lv_has ls maxL (lv_args 0 av) → W p l e rm s m av.toArray below meth c s.heap [] 0 0 (MQ below (Qc A) av.toArray s 0 0 A) (F0 m 0 ls [])
theorem Met_of (hy : plainName y.cls = true) (hlen : (lg_sl av).length ≤ maxL) {Qc : (Nat → Prop) → Array Value → State → Outcome → State → Prop} (body : Body l y b maxL ret rm G ws av Qc) :
    Met l y (lw_ws y b maxL ret) rm (va_Pc av (Wp G ws sz)) (Qc (va_A ws sz)) 0 0 (va_A ws sz) := by
  refine Met.ofW (cc := b) (maxL := maxL) (ret := ret) hy rfl ?_
  intro p e s m args below meth c s₁ B hml hv
  obtain ⟨rfl, hsz, hP, hK, hD0⟩ := hv
  have hts := atoms_spec (ws := lw_ws y b maxL ret) B.pre
  subst hsz
  rw [lg_entry_eq]
  exact body p e s m below meth c B.admits B.exec B.bytes B.returns hml (findClass_of_methodNamed B.named) B.notSynchronized (fun w h => hts w (List.mem_cons_of_mem _ h)) hK (va_A ws s.heap.size) (fun q h => Or.inr h) hP hD0.self va_S.rf _ (lv_entry av hlen)
end Start
section Calls
variable {p : Program} {l : Launch} {e : Env} {R : Room} {s : State} {m : MethodId} {args : Array Value} {below : List Frame} {meth : Method} {c : Code} {H H0 : Heap} {locs : List Loc} {cells slots : Nat} {Q : State → Prop}
  {G : GG} {ws : va_W} {A : Nat → Prop} {pc : Nat} {ls : Array Slot} {st0 rest : List Value} {cc bytes : ByteArray} {nL maxL index n : Nat} {own C : String} {y : MethodName} {ret : Option FieldType} {rm : Room} {b ci q0 N : Nat} {T : u_T} {fs As : List Value} {S : Type}
theorem own_free (hD : va_D A ws) (hS : va_S A H0 H locs) (hA : ∀ q, H0.size ≤ q → A q) : ∀ q, va_A ws H.size q → A q := by
  intro q h
  rcases h with ⟨k, e, h⟩ | h
  · exact hD.2 k (q, e) h
  · exact hA q (Nat.le_trans hS.1 h)
theorem cw_V (ht : ∀ w ∈ lw_g, w.before args s = true) (hl : Cond.methodLink own index y ∈ lw_g) (hi : Cond.instanceMethod y ∈ lw_g) (hsel : Cond.selects y.cls y y ∈ lw_g) (hini : Cond.initialized y.cls ∈ lw_g) (hc : Cond.code y bytes maxL ret ∈ lw_g)
    (hd : y.cls ≠ "java/lang/invoke/MethodHandle" ∧ y.cls ≠ "java/lang/invoke/VarHandle" ∧ (parseMethodDescriptor y.desc).map (fun d => d.parameters.length) = some n) (hR : rm.frames + 1 ≤ R.frames ∧ 8 + (maxL + 11) + rm.locals ≤ R.locals) {mc ms : Nat} (hrc : rm.cells = mc) (hrs : rm.slots = ms) :
    CallW R s args own y.cls index y bytes maxL ret (lw_ws y bytes maxL ret) rm mc ms n := ⟨callB_of n ht (lw_gi hc) rfl hrc hrs (ht _ hini) (ht _ hl) hd hR, ht _ hi, ht _ hsel⟩
theorem cw_S (ht : ∀ w ∈ lw_g, w.before args s = true) (hl : Cond.methodLink own index y ∈ lw_g) (hi : Cond.static y ∈ lw_g) (hini : Cond.initialized y.cls ∈ lw_g) (hc : Cond.code y bytes maxL ret ∈ lw_g)
    (hd : y.cls ≠ "java/lang/invoke/MethodHandle" ∧ y.cls ≠ "java/lang/invoke/VarHandle" ∧ (parseMethodDescriptor y.desc).map (fun d => d.parameters.length) = some n) (hR : rm.frames + 1 ≤ R.frames ∧ 8 + (maxL + 11) + rm.locals ≤ R.locals) {mc ms : Nat} (hrc : rm.cells = mc) (hrs : rm.slots = ms) :
    CallB R s args own index y bytes maxL ret (lw_ws y bytes maxL ret) rm mc ms n ∧ (Cond.static y).before args s = true := ⟨callB_of n ht (lw_gi hc) rfl hrc hrs (ht _ hini) (ht _ hl) hd hR, ht _ hi⟩
theorem run_V {Qc : Array Value → State → Outcome → State → Prop} {free : Addr → Prop} {mc ms : Nat} (hx : p.tables.exec = Jvm.exec) (hb : c.code = cc) (hml : c.maxLocals = nL) (hown : s.vm.findClass own = some m.cls) (ht : ∀ w ∈ lw_g, w.before args s = true) (hK : va_K G.1 classes (tysG G) s) (hP : va_P G.1 classes ws H) (hD : va_D A ws)
    (hM : Met l y (lw_ws y bytes maxL ret) rm (va_Pc (.ref b :: As) (Wp G ws H.size)) Qc mc ms free) (cw : CallW R s args own y.cls index y bytes maxL ret (lw_ws y bytes maxL ret) rm mc ms n) (he : ws[q0]? = some (b, .inr (ci, fs))) (hc : classes[ci]? = some (y.cls, T, N))
    (hn : As.length = n) (hsize : ls.size = nL) (hstack : st0 = As.reverse ++ .ref b :: rest) (hW : (rest.map fun v => v.category).sum ≤ 8) (hdg : decode cc pc = .ok (.invokevirtual index, 3)) (hf : cells + mc ≤ R.cells ∧ slots + ms ≤ R.slots) :
    va_Run p l e R s m args below meth c H locs cells slots mc ms (F0 m pc ls st0) rest (Qc (Value.ref b :: As).toArray) free :=
  va_runV ⟨hx, hb, hml, hown, ht⟩ hM cw ⟨Wp_blind, va_recv hK hP hc he, fun U hU hW => ⟨rfl, by rw [hU], by rw [hU]; exact hP, va_K.moved hW.alike hK, hD.weaken (fun _ _ _ _ => trivial)⟩⟩ rfl hn hsize hstack (lv_room hW) hdg hf
theorem run_S {Qc : Array Value → State → Outcome → State → Prop} {free : Addr → Prop} {mc ms : Nat} (hx : p.tables.exec = Jvm.exec) (hb : c.code = cc) (hml : c.maxLocals = nL) (hown : s.vm.findClass own = some m.cls) (ht : ∀ w ∈ lw_g, w.before args s = true) (hK : va_K G.1 classes (tysG G) s) (hP : va_P G.1 classes ws H) (hD : va_D A ws)
    (hM : Met l y (lw_ws y bytes maxL ret) rm (va_Pc As (Wp G ws H.size)) Qc mc ms free) (cw : CallB R s args own index y bytes maxL ret (lw_ws y bytes maxL ret) rm mc ms n ∧ (Cond.static y).before args s = true)
    (hn : As.length = n) (hsize : ls.size = nL) (hstack : st0 = As.reverse ++ rest) (hW : (rest.map fun v => v.category).sum ≤ 8) (hdg : decode cc pc = .ok (.invokestatic index, 3)) (hf : cells + mc ≤ R.cells ∧ slots + ms ≤ R.slots) :
    va_Run p l e R s m args below meth c H locs cells slots mc ms (F0 m pc ls st0) rest (Qc As.toArray) free :=
  va_runS ⟨hx, hb, hml, hown, ht⟩ hM cw ⟨Wp_blind, fun U hU hW => ⟨rfl, by rw [hU], by rw [hU]; exact hP, va_K.moved hW.alike hK, hD.weaken (fun _ _ _ _ => trivial)⟩⟩ rfl hn hsize hstack (lv_room hW) hdg hf
theorem go_i {post : Int32 → S → Prop} {w1 : S → va_W} {a : Array Value} (hr : va_Run p l e R s m args below meth c H locs cells slots 0 0 (F0 m pc ls st0) rest (va_Qi post (Wb G (va_A ws H.size) w1) (va_A ws H.size) a) (va_A ws H.size)) (hD : va_D A ws) (hS : va_S A H0 H locs) (hA : ∀ q, H0.size ≤ q → A q)
    (kk : ∀ (r : Int32) (u : S) (H1 : Heap) (locs1 : List Loc), post r u → va_P G.1 classes (w1 u) H1 → va_D A (w1 u) → va_S A H0 H1 locs1 → W p l e R s m args below meth c H1 locs1 cells slots Q (F0 m (pc + 3) ls (.int r :: rest))) : W p l e R s m args below meth c H locs cells slots Q (F0 m pc ls st0) := by
  have hF := own_free hD hS hA
  refine va_calli hr hS (fun q _ h => hF q h) hF (fun r u t H1 locs1 ht hvm hw hB hz hk hS1 => ?_)
  obtain ⟨hP1, hK1, hD1⟩ := hB
  rw [ht] at hP1
  exact kk r u H1 locs1 hw hP1 (hD1.weaken (fun k q _ h => hF q.1 h)) hS1
theorem go_l {post : Int64 → S → Prop} {w1 : S → va_W} {a : Array Value} (hr : va_Run p l e R s m args below meth c H locs cells slots 0 0 (F0 m pc ls st0) rest (va_Ql post (Wb G (va_A ws H.size) w1) (va_A ws H.size) a) (va_A ws H.size)) (hD : va_D A ws) (hS : va_S A H0 H locs) (hA : ∀ q, H0.size ≤ q → A q)
    (kk : ∀ (r : Int64) (u : S) (H1 : Heap) (locs1 : List Loc), post r u → va_P G.1 classes (w1 u) H1 → va_D A (w1 u) → va_S A H0 H1 locs1 → W p l e R s m args below meth c H1 locs1 cells slots Q (F0 m (pc + 3) ls (.long r :: rest))) : W p l e R s m args below meth c H locs cells slots Q (F0 m pc ls st0) := by
  have hF := own_free hD hS hA
  refine va_calll hr hS (fun q _ h => hF q h) hF (fun r u t H1 locs1 ht hvm hw hB hz hk hS1 => ?_)
  obtain ⟨hP1, hK1, hD1⟩ := hB
  rw [ht] at hP1
  exact kk r u H1 locs1 hw hP1 (hD1.weaken (fun k q _ h => hF q.1 h)) hS1
theorem go_v {post : S → Prop} {w1 : S → va_W} {a : Array Value} (hr : va_Run p l e R s m args below meth c H locs cells slots 0 0 (F0 m pc ls st0) rest (va_Qv post (Wb G (va_A ws H.size) w1) (va_A ws H.size) a) (va_A ws H.size)) (hD : va_D A ws) (hS : va_S A H0 H locs) (hA : ∀ q, H0.size ≤ q → A q)
    (kk : ∀ (u : S) (H1 : Heap) (locs1 : List Loc), post u → va_P G.1 classes (w1 u) H1 → va_D A (w1 u) → va_S A H0 H1 locs1 → W p l e R s m args below meth c H1 locs1 cells slots Q (F0 m (pc + 3) ls rest)) : W p l e R s m args below meth c H locs cells slots Q (F0 m pc ls st0) := by
  have hF := own_free hD hS hA
  refine va_callv hr hS (fun q _ h => hF q h) hF (fun u t H1 locs1 ht hvm hw hB hz hk hS1 => ?_)
  obtain ⟨hP1, hK1, hD1⟩ := hB
  rw [ht] at hP1
  exact kk u H1 locs1 hw hP1 (hD1.weaken (fun k q _ h => hF q.1 h)) hS1
theorem en_i {post : Int32 → S → Prop} {w1 : S → va_W} {v : Int32} (u : S) (hx : p.tables.exec = Jvm.exec) (hb : c.code = cc) (hr : meth.sig.returnType = some .int) (hlocks : meth.locks = false) (hK : va_K G.1 classes (tysG G) s) (hP : va_P G.1 classes (w1 u) H) (hD : va_D A (w1 u)) (hS : va_S A s.heap H locs) (hp : post v u) (hdg : decode cc pc = .ok (.ireturn, 1)) :
    W p l e R s m args below meth c H locs cells slots (MQ below (va_Qi post (Wb G A w1) A) args s cells slots A) (F0 m pc ls [.int v]) :=
  W.iret hx hb hr (fun t ht hW => ⟨⟨v, u, rfl, hp, by rw [ht]; exact hP, va_K.moved hW.alike hK, hD⟩, hS.F ht⟩) hS.2.2 hdg hlocks
theorem en_z {post : Int32 → S → Prop} {w1 : S → va_W} {v : Int32} (u : S) (hx : p.tables.exec = Jvm.exec) (hb : c.code = cc) (hr : meth.sig.returnType = some .boolean) (hlocks : meth.locks = false) (hK : va_K G.1 classes (tysG G) s) (hP : va_P G.1 classes (w1 u) H) (hD : va_D A (w1 u)) (hS : va_S A s.heap H locs) (hp : post v u) (hz : isB v) (hdg : decode cc pc = .ok (.ireturn, 1)) :
    W p l e R s m args below meth c H locs cells slots (MQ below (va_Qi post (Wb G A w1) A) args s cells slots A) (F0 m pc ls [.int v]) :=
  W.zret hx hb hr hz (fun t ht hW => ⟨⟨v, u, rfl, hp, by rw [ht]; exact hP, va_K.moved hW.alike hK, hD⟩, hS.F ht⟩) hS.2.2 hdg hlocks
theorem en_l {post : Int64 → S → Prop} {w1 : S → va_W} {v : Int64} (u : S) (hx : p.tables.exec = Jvm.exec) (hb : c.code = cc) (hr : meth.sig.returnType = some .long) (hlocks : meth.locks = false) (hK : va_K G.1 classes (tysG G) s) (hP : va_P G.1 classes (w1 u) H) (hD : va_D A (w1 u)) (hS : va_S A s.heap H locs) (hp : post v u) (hdg : decode cc pc = .ok (.lreturn, 1)) :
    W p l e R s m args below meth c H locs cells slots (MQ below (va_Ql post (Wb G A w1) A) args s cells slots A) (F0 m pc ls [.long v]) :=
  W.lret hx hb hr (fun t ht hW => ⟨⟨v, u, rfl, hp, by rw [ht]; exact hP, va_K.moved hW.alike hK, hD⟩, hS.F ht⟩) hS.2.2 hdg hlocks
theorem en_v {post : S → Prop} {w1 : S → va_W} (u : S) (hx : p.tables.exec = Jvm.exec) (hb : c.code = cc) (hr : meth.sig.returnType = none) (hlocks : meth.locks = false) (hK : va_K G.1 classes (tysG G) s) (hP : va_P G.1 classes (w1 u) H) (hD : va_D A (w1 u)) (hS : va_S A s.heap H locs) (hp : post u) (hdg : decode cc pc = .ok (.return_, 1)) :
    W p l e R s m args below meth c H locs cells slots (MQ below (va_Qv post (Wb G A w1) A) args s cells slots A) (F0 m pc ls []) :=
  W.vret hx hb hr (fun t ht hW => ⟨⟨u, rfl, hp, by rw [ht]; exact hP, va_K.moved hW.alike hK, hD⟩, hS.F ht⟩) hS.2.2 hdg hlocks
end Calls
end
section
theorem kt_JM_max : Cond.static Lib.Math.max.name ∈ lw_g := gw (List.mem_of_getElem? (i := 104) (by decide +kernel)) rfl
theorem kd_JM_max : Cond.code Lib.Math.max.name Lib.Math.max.code 2 (some .int) ∈ lw_g := gw (List.mem_of_getElem? (i := 105) (by decide +kernel)) rfl
theorem kt_JM_min : Cond.static Lib.Math.min.name ∈ lw_g := gw (List.mem_of_getElem? (i := 101) (by decide +kernel)) rfl
theorem kd_JM_min : Cond.code Lib.Math.min.name Lib.Math.min.code 2 (some .int) ∈ lw_g := gw (List.mem_of_getElem? (i := 102) (by decide +kernel)) rfl
theorem kt_JS_ac : Cond.static arraycopyName ∈ lw_g := gw (List.mem_of_getElem? (i := 591) (by decide +kernel)) rfl
theorem kn_JS_ac : Cond.native arraycopyName ∈ lw_g := gw (List.mem_of_getElem? (i := 592) (by decide +kernel)) rfl
theorem ini_JS : Cond.initialized "java/lang/System" ∈ lw_g := gw (List.mem_of_getElem? (i := 69) (by decide +kernel)) rfl
def y_JM_floorMod : MethodName := ⟨"java/lang/Math", "floorMod", "(II)I"⟩
abbrev b_JM_floorMod : ByteArray := prog_12_method_50_code
theorem kd_JM_floorMod : Cond.code y_JM_floorMod b_JM_floorMod 3 (some .int) ∈ lw_g := gw (List.mem_of_getElem? (i := 242) (by decide +kernel)) rfl
theorem kt_JM_floorMod : Cond.static y_JM_floorMod ∈ lw_g := gw (List.mem_of_getElem? (i := 241) (by decide +kernel)) rfl
theorem d_JM_floorMod_0 : decode b_JM_floorMod 0 = .ok (.iload_n 0, 1) := by decide +kernel
theorem d_JM_floorMod_1 : decode b_JM_floorMod 1 = .ok (.iload_n 1, 1) := by decide +kernel
theorem d_JM_floorMod_2 : decode b_JM_floorMod 2 = .ok (.irem, 1) := by decide +kernel
theorem d_JM_floorMod_3 : decode b_JM_floorMod 3 = .ok (.istore_n 2, 1) := by decide +kernel
theorem d_JM_floorMod_4 : decode b_JM_floorMod 4 = .ok (.iload_n 0, 1) := by decide +kernel
theorem d_JM_floorMod_5 : decode b_JM_floorMod 5 = .ok (.iload_n 1, 1) := by decide +kernel
theorem d_JM_floorMod_6 : decode b_JM_floorMod 6 = .ok (.ixor, 1) := by decide +kernel
theorem d_JM_floorMod_7 : decode b_JM_floorMod 7 = .ok (.ifCond .ge 11, 3) := by decide +kernel
theorem d_JM_floorMod_10 : decode b_JM_floorMod 10 = .ok (.iload_n 2, 1) := by decide +kernel
theorem d_JM_floorMod_11 : decode b_JM_floorMod 11 = .ok (.ifCond .eq 7, 3) := by decide +kernel
theorem d_JM_floorMod_14 : decode b_JM_floorMod 14 = .ok (.iload_n 2, 1) := by decide +kernel
theorem d_JM_floorMod_15 : decode b_JM_floorMod 15 = .ok (.iload_n 1, 1) := by decide +kernel
theorem d_JM_floorMod_16 : decode b_JM_floorMod 16 = .ok (.iadd, 1) := by decide +kernel
theorem d_JM_floorMod_17 : decode b_JM_floorMod 17 = .ok (.ireturn, 1) := by decide +kernel
theorem d_JM_floorMod_18 : decode b_JM_floorMod 18 = .ok (.iload_n 2, 1) := by decide +kernel
theorem d_JM_floorMod_19 : decode b_JM_floorMod 19 = .ok (.ireturn, 1) := by decide +kernel
theorem kh_BT_init : y_BT_init.cls ≠ "java/lang/invoke/MethodHandle" ∧ y_BT_init.cls ≠ "java/lang/invoke/VarHandle" ∧ (parseMethodDescriptor y_BT_init.desc).map (fun d => d.parameters.length) = some 1 := by decide +kernel
theorem kh_BT_put : y_BT_put.cls ≠ "java/lang/invoke/MethodHandle" ∧ y_BT_put.cls ≠ "java/lang/invoke/VarHandle" ∧ (parseMethodDescriptor y_BT_put.desc).map (fun d => d.parameters.length) = some 2 := by decide +kernel
theorem kh_BT_drop : y_BT_drop.cls ≠ "java/lang/invoke/MethodHandle" ∧ y_BT_drop.cls ≠ "java/lang/invoke/VarHandle" ∧ (parseMethodDescriptor y_BT_drop.desc).map (fun d => d.parameters.length) = some 1 := by decide +kernel
theorem kh_BT_undo : y_BT_undo.cls ≠ "java/lang/invoke/MethodHandle" ∧ y_BT_undo.cls ≠ "java/lang/invoke/VarHandle" ∧ (parseMethodDescriptor y_BT_undo.desc).map (fun d => d.parameters.length) = some 0 := by decide +kernel
theorem kh_BT_get : y_BT_get.cls ≠ "java/lang/invoke/MethodHandle" ∧ y_BT_get.cls ≠ "java/lang/invoke/VarHandle" ∧ (parseMethodDescriptor y_BT_get.desc).map (fun d => d.parameters.length) = some 1 := by decide +kernel
theorem kh_BT_commit : y_BT_commit.cls ≠ "java/lang/invoke/MethodHandle" ∧ y_BT_commit.cls ≠ "java/lang/invoke/VarHandle" ∧ (parseMethodDescriptor y_BT_commit.desc).map (fun d => d.parameters.length) = some 0 := by decide +kernel
theorem kh_BT_copy : y_BT_copy.cls ≠ "java/lang/invoke/MethodHandle" ∧ y_BT_copy.cls ≠ "java/lang/invoke/VarHandle" ∧ (parseMethodDescriptor y_BT_copy.desc).map (fun d => d.parameters.length) = some 0 := by decide +kernel
theorem kh_BT_find : y_BT_find.cls ≠ "java/lang/invoke/MethodHandle" ∧ y_BT_find.cls ≠ "java/lang/invoke/VarHandle" ∧ (parseMethodDescriptor y_BT_find.desc).map (fun d => d.parameters.length) = some 2 := by decide +kernel
theorem kh_BT_next : y_BT_next.cls ≠ "java/lang/invoke/MethodHandle" ∧ y_BT_next.cls ≠ "java/lang/invoke/VarHandle" ∧ (parseMethodDescriptor y_BT_next.desc).map (fun d => d.parameters.length) = some 2 := by decide +kernel
theorem kh_BT_rows : y_BT_rows.cls ≠ "java/lang/invoke/MethodHandle" ∧ y_BT_rows.cls ≠ "java/lang/invoke/VarHandle" ∧ (parseMethodDescriptor y_BT_rows.desc).map (fun d => d.parameters.length) = some 1 := by decide +kernel
theorem kh_BT_kept : y_BT_kept.cls ≠ "java/lang/invoke/MethodHandle" ∧ y_BT_kept.cls ≠ "java/lang/invoke/VarHandle" ∧ (parseMethodDescriptor y_BT_kept.desc).map (fun d => d.parameters.length) = some 1 := by decide +kernel
theorem kh_BT_crash : y_BT_crash.cls ≠ "java/lang/invoke/MethodHandle" ∧ y_BT_crash.cls ≠ "java/lang/invoke/VarHandle" ∧ (parseMethodDescriptor y_BT_crash.desc).map (fun d => d.parameters.length) = some 1 := by decide +kernel
theorem kh_BT_reopen : y_BT_reopen.cls ≠ "java/lang/invoke/MethodHandle" ∧ y_BT_reopen.cls ≠ "java/lang/invoke/VarHandle" ∧ (parseMethodDescriptor y_BT_reopen.desc).map (fun d => d.parameters.length) = some 0 := by decide +kernel
theorem kh_BT_isDown : y_BT_isDown.cls ≠ "java/lang/invoke/MethodHandle" ∧ y_BT_isDown.cls ≠ "java/lang/invoke/VarHandle" ∧ (parseMethodDescriptor y_BT_isDown.desc).map (fun d => d.parameters.length) = some 0 := by decide +kernel
theorem kh_BT_byteAt : y_BT_byteAt.cls ≠ "java/lang/invoke/MethodHandle" ∧ y_BT_byteAt.cls ≠ "java/lang/invoke/VarHandle" ∧ (parseMethodDescriptor y_BT_byteAt.desc).map (fun d => d.parameters.length) = some 2 := by decide +kernel
theorem kh_BT_poke : y_BT_poke.cls ≠ "java/lang/invoke/MethodHandle" ∧ y_BT_poke.cls ≠ "java/lang/invoke/VarHandle" ∧ (parseMethodDescriptor y_BT_poke.desc).map (fun d => d.parameters.length) = some 3 := by decide +kernel
theorem kh_BT_badAt : y_BT_badAt.cls ≠ "java/lang/invoke/MethodHandle" ∧ y_BT_badAt.cls ≠ "java/lang/invoke/VarHandle" ∧ (parseMethodDescriptor y_BT_badAt.desc).map (fun d => d.parameters.length) = some 1 := by decide +kernel
theorem kh_BT_told : y_BT_told.cls ≠ "java/lang/invoke/MethodHandle" ∧ y_BT_told.cls ≠ "java/lang/invoke/VarHandle" ∧ (parseMethodDescriptor y_BT_told.desc).map (fun d => d.parameters.length) = some 1 := by decide +kernel
theorem kh_BT_requireArgument : y_BT_requireArgument.cls ≠ "java/lang/invoke/MethodHandle" ∧ y_BT_requireArgument.cls ≠ "java/lang/invoke/VarHandle" ∧ (parseMethodDescriptor y_BT_requireArgument.desc).map (fun d => d.parameters.length) = some 1 := by decide +kernel
theorem kh_BT_requirePower : y_BT_requirePower.cls ≠ "java/lang/invoke/MethodHandle" ∧ y_BT_requirePower.cls ≠ "java/lang/invoke/VarHandle" ∧ (parseMethodDescriptor y_BT_requirePower.desc).map (fun d => d.parameters.length) = some 0 := by decide +kernel
theorem kh_BT_isKey : y_BT_isKey.cls ≠ "java/lang/invoke/MethodHandle" ∧ y_BT_isKey.cls ≠ "java/lang/invoke/VarHandle" ∧ (parseMethodDescriptor y_BT_isKey.desc).map (fun d => d.parameters.length) = some 1 := by decide +kernel
theorem kh_BT_isByteIndex : y_BT_isByteIndex.cls ≠ "java/lang/invoke/MethodHandle" ∧ y_BT_isByteIndex.cls ≠ "java/lang/invoke/VarHandle" ∧ (parseMethodDescriptor y_BT_isByteIndex.desc).map (fun d => d.parameters.length) = some 1 := by decide +kernel
theorem kh_BT_isKept : y_BT_isKept.cls ≠ "java/lang/invoke/MethodHandle" ∧ y_BT_isKept.cls ≠ "java/lang/invoke/VarHandle" ∧ (parseMethodDescriptor y_BT_isKept.desc).map (fun d => d.parameters.length) = some 1 := by decide +kernel
theorem kh_BT_rowOf : y_BT_rowOf.cls ≠ "java/lang/invoke/MethodHandle" ∧ y_BT_rowOf.cls ≠ "java/lang/invoke/VarHandle" ∧ (parseMethodDescriptor y_BT_rowOf.desc).map (fun d => d.parameters.length) = some 2 := by decide +kernel
theorem kh_BT_leafBlock : y_BT_leafBlock.cls ≠ "java/lang/invoke/MethodHandle" ∧ y_BT_leafBlock.cls ≠ "java/lang/invoke/VarHandle" ∧ (parseMethodDescriptor y_BT_leafBlock.desc).map (fun d => d.parameters.length) = some 2 := by decide +kernel
theorem kh_BT_childBlock : y_BT_childBlock.cls ≠ "java/lang/invoke/MethodHandle" ∧ y_BT_childBlock.cls ≠ "java/lang/invoke/VarHandle" ∧ (parseMethodDescriptor y_BT_childBlock.desc).map (fun d => d.parameters.length) = some 3 := by decide +kernel
theorem kh_BT_appendVersion : y_BT_appendVersion.cls ≠ "java/lang/invoke/MethodHandle" ∧ y_BT_appendVersion.cls ≠ "java/lang/invoke/VarHandle" ∧ (parseMethodDescriptor y_BT_appendVersion.desc).map (fun d => d.parameters.length) = some 1 := by decide +kernel
theorem kh_MO_init : y_MO_init.cls ≠ "java/lang/invoke/MethodHandle" ∧ y_MO_init.cls ≠ "java/lang/invoke/VarHandle" ∧ (parseMethodDescriptor y_MO_init.desc).map (fun d => d.parameters.length) = some 1 := by decide +kernel
theorem kh_MO_thrown : y_MO_thrown.cls ≠ "java/lang/invoke/MethodHandle" ∧ y_MO_thrown.cls ≠ "java/lang/invoke/VarHandle" ∧ (parseMethodDescriptor y_MO_thrown.desc).map (fun d => d.parameters.length) = some 0 := by decide +kernel
theorem kh_MO_goes : y_MO_goes.cls ≠ "java/lang/invoke/MethodHandle" ∧ y_MO_goes.cls ≠ "java/lang/invoke/VarHandle" ∧ (parseMethodDescriptor y_MO_goes.desc).map (fun d => d.parameters.length) = some 1 := by decide +kernel
theorem kh_MO_isUp : y_MO_isUp.cls ≠ "java/lang/invoke/MethodHandle" ∧ y_MO_isUp.cls ≠ "java/lang/invoke/VarHandle" ∧ (parseMethodDescriptor y_MO_isUp.desc).map (fun d => d.parameters.length) = some 0 := by decide +kernel
theorem kh_MO_isKey : y_MO_isKey.cls ≠ "java/lang/invoke/MethodHandle" ∧ y_MO_isKey.cls ≠ "java/lang/invoke/VarHandle" ∧ (parseMethodDescriptor y_MO_isKey.desc).map (fun d => d.parameters.length) = some 1 := by decide +kernel
theorem kh_MO_placeOf : y_MO_placeOf.cls ≠ "java/lang/invoke/MethodHandle" ∧ y_MO_placeOf.cls ≠ "java/lang/invoke/VarHandle" ∧ (parseMethodDescriptor y_MO_placeOf.desc).map (fun d => d.parameters.length) = some 1 := by decide +kernel
theorem kh_MO_isUsed : y_MO_isUsed.cls ≠ "java/lang/invoke/MethodHandle" ∧ y_MO_isUsed.cls ≠ "java/lang/invoke/VarHandle" ∧ (parseMethodDescriptor y_MO_isUsed.desc).map (fun d => d.parameters.length) = some 1 := by decide +kernel
theorem kh_MO_number : y_MO_number.cls ≠ "java/lang/invoke/MethodHandle" ∧ y_MO_number.cls ≠ "java/lang/invoke/VarHandle" ∧ (parseMethodDescriptor y_MO_number.desc).map (fun d => d.parameters.length) = some 1 := by decide +kernel
theorem kh_MO_mixed : y_MO_mixed.cls ≠ "java/lang/invoke/MethodHandle" ∧ y_MO_mixed.cls ≠ "java/lang/invoke/VarHandle" ∧ (parseMethodDescriptor y_MO_mixed.desc).map (fun d => d.parameters.length) = some 2 := by decide +kernel
theorem kh_MO_hasSum : y_MO_hasSum.cls ≠ "java/lang/invoke/MethodHandle" ∧ y_MO_hasSum.cls ≠ "java/lang/invoke/VarHandle" ∧ (parseMethodDescriptor y_MO_hasSum.desc).map (fun d => d.parameters.length) = some 1 := by decide +kernel
theorem kh_MO_isBad : y_MO_isBad.cls ≠ "java/lang/invoke/MethodHandle" ∧ y_MO_isBad.cls ≠ "java/lang/invoke/VarHandle" ∧ (parseMethodDescriptor y_MO_isBad.desc).map (fun d => d.parameters.length) = some 2 := by decide +kernel
theorem kh_MO_bitsOf : y_MO_bitsOf.cls ≠ "java/lang/invoke/MethodHandle" ∧ y_MO_bitsOf.cls ≠ "java/lang/invoke/VarHandle" ∧ (parseMethodDescriptor y_MO_bitsOf.desc).map (fun d => d.parameters.length) = some 1 := by decide +kernel
theorem kh_MO_entryOf : y_MO_entryOf.cls ≠ "java/lang/invoke/MethodHandle" ∧ y_MO_entryOf.cls ≠ "java/lang/invoke/VarHandle" ∧ (parseMethodDescriptor y_MO_entryOf.desc).map (fun d => d.parameters.length) = some 2 := by decide +kernel
theorem kh_MO_hasEntry : y_MO_hasEntry.cls ≠ "java/lang/invoke/MethodHandle" ∧ y_MO_hasEntry.cls ≠ "java/lang/invoke/VarHandle" ∧ (parseMethodDescriptor y_MO_hasEntry.desc).map (fun d => d.parameters.length) = some 2 := by decide +kernel
theorem kh_MO_change : y_MO_change.cls ≠ "java/lang/invoke/MethodHandle" ∧ y_MO_change.cls ≠ "java/lang/invoke/VarHandle" ∧ (parseMethodDescriptor y_MO_change.desc).map (fun d => d.parameters.length) = some 3 := by decide +kernel
theorem kh_MO_put : y_MO_put.cls ≠ "java/lang/invoke/MethodHandle" ∧ y_MO_put.cls ≠ "java/lang/invoke/VarHandle" ∧ (parseMethodDescriptor y_MO_put.desc).map (fun d => d.parameters.length) = some 2 := by decide +kernel
theorem kh_MO_drop : y_MO_drop.cls ≠ "java/lang/invoke/MethodHandle" ∧ y_MO_drop.cls ≠ "java/lang/invoke/VarHandle" ∧ (parseMethodDescriptor y_MO_drop.desc).map (fun d => d.parameters.length) = some 1 := by decide +kernel
theorem kh_MO_clear : y_MO_clear.cls ≠ "java/lang/invoke/MethodHandle" ∧ y_MO_clear.cls ≠ "java/lang/invoke/VarHandle" ∧ (parseMethodDescriptor y_MO_clear.desc).map (fun d => d.parameters.length) = some 0 := by decide +kernel
theorem kh_MO_undo : y_MO_undo.cls ≠ "java/lang/invoke/MethodHandle" ∧ y_MO_undo.cls ≠ "java/lang/invoke/VarHandle" ∧ (parseMethodDescriptor y_MO_undo.desc).map (fun d => d.parameters.length) = some 0 := by decide +kernel
theorem kh_MO_rootOf : y_MO_rootOf.cls ≠ "java/lang/invoke/MethodHandle" ∧ y_MO_rootOf.cls ≠ "java/lang/invoke/VarHandle" ∧ (parseMethodDescriptor y_MO_rootOf.desc).map (fun d => d.parameters.length) = some 1 := by decide +kernel
theorem kh_MO_isKept : y_MO_isKept.cls ≠ "java/lang/invoke/MethodHandle" ∧ y_MO_isKept.cls ≠ "java/lang/invoke/VarHandle" ∧ (parseMethodDescriptor y_MO_isKept.desc).map (fun d => d.parameters.length) = some 1 := by decide +kernel
theorem kh_MO_look : y_MO_look.cls ≠ "java/lang/invoke/MethodHandle" ∧ y_MO_look.cls ≠ "java/lang/invoke/VarHandle" ∧ (parseMethodDescriptor y_MO_look.desc).map (fun d => d.parameters.length) = some 2 := by decide +kernel
theorem kh_MO_get : y_MO_get.cls ≠ "java/lang/invoke/MethodHandle" ∧ y_MO_get.cls ≠ "java/lang/invoke/VarHandle" ∧ (parseMethodDescriptor y_MO_get.desc).map (fun d => d.parameters.length) = some 1 := by decide +kernel
theorem kh_MO_find : y_MO_find.cls ≠ "java/lang/invoke/MethodHandle" ∧ y_MO_find.cls ≠ "java/lang/invoke/VarHandle" ∧ (parseMethodDescriptor y_MO_find.desc).map (fun d => d.parameters.length) = some 2 := by decide +kernel
theorem kh_MO_next : y_MO_next.cls ≠ "java/lang/invoke/MethodHandle" ∧ y_MO_next.cls ≠ "java/lang/invoke/VarHandle" ∧ (parseMethodDescriptor y_MO_next.desc).map (fun d => d.parameters.length) = some 2 := by decide +kernel
theorem kh_MO_rows : y_MO_rows.cls ≠ "java/lang/invoke/MethodHandle" ∧ y_MO_rows.cls ≠ "java/lang/invoke/VarHandle" ∧ (parseMethodDescriptor y_MO_rows.desc).map (fun d => d.parameters.length) = some 1 := by decide +kernel
theorem kh_MO_kept : y_MO_kept.cls ≠ "java/lang/invoke/MethodHandle" ∧ y_MO_kept.cls ≠ "java/lang/invoke/VarHandle" ∧ (parseMethodDescriptor y_MO_kept.desc).map (fun d => d.parameters.length) = some 1 := by decide +kernel
theorem kh_MO_write : y_MO_write.cls ≠ "java/lang/invoke/MethodHandle" ∧ y_MO_write.cls ≠ "java/lang/invoke/VarHandle" ∧ (parseMethodDescriptor y_MO_write.desc).map (fun d => d.parameters.length) = some 2 := by decide +kernel
theorem kh_MO_begin : y_MO_begin.cls ≠ "java/lang/invoke/MethodHandle" ∧ y_MO_begin.cls ≠ "java/lang/invoke/VarHandle" ∧ (parseMethodDescriptor y_MO_begin.desc).map (fun d => d.parameters.length) = some 2 := by decide +kernel
theorem kh_MO_putNumber : y_MO_putNumber.cls ≠ "java/lang/invoke/MethodHandle" ∧ y_MO_putNumber.cls ≠ "java/lang/invoke/VarHandle" ∧ (parseMethodDescriptor y_MO_putNumber.desc).map (fun d => d.parameters.length) = some 2 := by decide +kernel
theorem kh_MO_finish : y_MO_finish.cls ≠ "java/lang/invoke/MethodHandle" ∧ y_MO_finish.cls ≠ "java/lang/invoke/VarHandle" ∧ (parseMethodDescriptor y_MO_finish.desc).map (fun d => d.parameters.length) = some 0 := by decide +kernel
theorem kh_MO_readLeaf : y_MO_readLeaf.cls ≠ "java/lang/invoke/MethodHandle" ∧ y_MO_readLeaf.cls ≠ "java/lang/invoke/VarHandle" ∧ (parseMethodDescriptor y_MO_readLeaf.desc).map (fun d => d.parameters.length) = some 2 := by decide +kernel
theorem kh_MO_readNode : y_MO_readNode.cls ≠ "java/lang/invoke/MethodHandle" ∧ y_MO_readNode.cls ≠ "java/lang/invoke/VarHandle" ∧ (parseMethodDescriptor y_MO_readNode.desc).map (fun d => d.parameters.length) = some 1 := by decide +kernel
theorem kh_MO_isNodeChanged : y_MO_isNodeChanged.cls ≠ "java/lang/invoke/MethodHandle" ∧ y_MO_isNodeChanged.cls ≠ "java/lang/invoke/VarHandle" ∧ (parseMethodDescriptor y_MO_isNodeChanged.desc).map (fun d => d.parameters.length) = some 1 := by decide +kernel
theorem kh_MO_readTop : y_MO_readTop.cls ≠ "java/lang/invoke/MethodHandle" ∧ y_MO_readTop.cls ≠ "java/lang/invoke/VarHandle" ∧ (parseMethodDescriptor y_MO_readTop.desc).map (fun d => d.parameters.length) = some 0 := by decide +kernel
theorem kh_MO_readAll : y_MO_readAll.cls ≠ "java/lang/invoke/MethodHandle" ∧ y_MO_readAll.cls ≠ "java/lang/invoke/VarHandle" ∧ (parseMethodDescriptor y_MO_readAll.desc).map (fun d => d.parameters.length) = some 0 := by decide +kernel
theorem kh_MO_applyDraft : y_MO_applyDraft.cls ≠ "java/lang/invoke/MethodHandle" ∧ y_MO_applyDraft.cls ≠ "java/lang/invoke/VarHandle" ∧ (parseMethodDescriptor y_MO_applyDraft.desc).map (fun d => d.parameters.length) = some 0 := by decide +kernel
theorem kh_MO_settle : y_MO_settle.cls ≠ "java/lang/invoke/MethodHandle" ∧ y_MO_settle.cls ≠ "java/lang/invoke/VarHandle" ∧ (parseMethodDescriptor y_MO_settle.desc).map (fun d => d.parameters.length) = some 0 := by decide +kernel
theorem kh_MO_writeLeaf : y_MO_writeLeaf.cls ≠ "java/lang/invoke/MethodHandle" ∧ y_MO_writeLeaf.cls ≠ "java/lang/invoke/VarHandle" ∧ (parseMethodDescriptor y_MO_writeLeaf.desc).map (fun d => d.parameters.length) = some 1 := by decide +kernel
theorem kh_MO_writeNode : y_MO_writeNode.cls ≠ "java/lang/invoke/MethodHandle" ∧ y_MO_writeNode.cls ≠ "java/lang/invoke/VarHandle" ∧ (parseMethodDescriptor y_MO_writeNode.desc).map (fun d => d.parameters.length) = some 1 := by decide +kernel
theorem kh_MO_writeTop : y_MO_writeTop.cls ≠ "java/lang/invoke/MethodHandle" ∧ y_MO_writeTop.cls ≠ "java/lang/invoke/VarHandle" ∧ (parseMethodDescriptor y_MO_writeTop.desc).map (fun d => d.parameters.length) = some 0 := by decide +kernel
theorem kh_MO_writeRoot : y_MO_writeRoot.cls ≠ "java/lang/invoke/MethodHandle" ∧ y_MO_writeRoot.cls ≠ "java/lang/invoke/VarHandle" ∧ (parseMethodDescriptor y_MO_writeRoot.desc).map (fun d => d.parameters.length) = some 1 := by decide +kernel
theorem kh_MO_writeAll : y_MO_writeAll.cls ≠ "java/lang/invoke/MethodHandle" ∧ y_MO_writeAll.cls ≠ "java/lang/invoke/VarHandle" ∧ (parseMethodDescriptor y_MO_writeAll.desc).map (fun d => d.parameters.length) = some 1 := by decide +kernel
theorem kh_MO_commit : y_MO_commit.cls ≠ "java/lang/invoke/MethodHandle" ∧ y_MO_commit.cls ≠ "java/lang/invoke/VarHandle" ∧ (parseMethodDescriptor y_MO_commit.desc).map (fun d => d.parameters.length) = some 0 := by decide +kernel
theorem kh_MO_copy : y_MO_copy.cls ≠ "java/lang/invoke/MethodHandle" ∧ y_MO_copy.cls ≠ "java/lang/invoke/VarHandle" ∧ (parseMethodDescriptor y_MO_copy.desc).map (fun d => d.parameters.length) = some 0 := by decide +kernel
theorem kh_MO_crash : y_MO_crash.cls ≠ "java/lang/invoke/MethodHandle" ∧ y_MO_crash.cls ≠ "java/lang/invoke/VarHandle" ∧ (parseMethodDescriptor y_MO_crash.desc).map (fun d => d.parameters.length) = some 1 := by decide +kernel
theorem kh_MO_isWhole : y_MO_isWhole.cls ≠ "java/lang/invoke/MethodHandle" ∧ y_MO_isWhole.cls ≠ "java/lang/invoke/VarHandle" ∧ (parseMethodDescriptor y_MO_isWhole.desc).map (fun d => d.parameters.length) = some 1 := by decide +kernel
theorem kh_MO_keep : y_MO_keep.cls ≠ "java/lang/invoke/MethodHandle" ∧ y_MO_keep.cls ≠ "java/lang/invoke/VarHandle" ∧ (parseMethodDescriptor y_MO_keep.desc).map (fun d => d.parameters.length) = some 2 := by decide +kernel
theorem kh_MO_reopen : y_MO_reopen.cls ≠ "java/lang/invoke/MethodHandle" ∧ y_MO_reopen.cls ≠ "java/lang/invoke/VarHandle" ∧ (parseMethodDescriptor y_MO_reopen.desc).map (fun d => d.parameters.length) = some 0 := by decide +kernel
theorem kh_MO_isDown : y_MO_isDown.cls ≠ "java/lang/invoke/MethodHandle" ∧ y_MO_isDown.cls ≠ "java/lang/invoke/VarHandle" ∧ (parseMethodDescriptor y_MO_isDown.desc).map (fun d => d.parameters.length) = some 0 := by decide +kernel
theorem kh_MO_byteAt : y_MO_byteAt.cls ≠ "java/lang/invoke/MethodHandle" ∧ y_MO_byteAt.cls ≠ "java/lang/invoke/VarHandle" ∧ (parseMethodDescriptor y_MO_byteAt.desc).map (fun d => d.parameters.length) = some 2 := by decide +kernel
theorem kh_MO_poke : y_MO_poke.cls ≠ "java/lang/invoke/MethodHandle" ∧ y_MO_poke.cls ≠ "java/lang/invoke/VarHandle" ∧ (parseMethodDescriptor y_MO_poke.desc).map (fun d => d.parameters.length) = some 3 := by decide +kernel
theorem kh_MO_badAt : y_MO_badAt.cls ≠ "java/lang/invoke/MethodHandle" ∧ y_MO_badAt.cls ≠ "java/lang/invoke/VarHandle" ∧ (parseMethodDescriptor y_MO_badAt.desc).map (fun d => d.parameters.length) = some 1 := by decide +kernel
theorem kh_MO_told : y_MO_told.cls ≠ "java/lang/invoke/MethodHandle" ∧ y_MO_told.cls ≠ "java/lang/invoke/VarHandle" ∧ (parseMethodDescriptor y_MO_told.desc).map (fun d => d.parameters.length) = some 1 := by decide +kernel
theorem kh_DR_init : y_DR_init.cls ≠ "java/lang/invoke/MethodHandle" ∧ y_DR_init.cls ≠ "java/lang/invoke/VarHandle" ∧ (parseMethodDescriptor y_DR_init.desc).map (fun d => d.parameters.length) = some 0 := by decide +kernel
theorem kh_DR_size : y_DR_size.cls ≠ "java/lang/invoke/MethodHandle" ∧ y_DR_size.cls ≠ "java/lang/invoke/VarHandle" ∧ (parseMethodDescriptor y_DR_size.desc).map (fun d => d.parameters.length) = some 0 := by decide +kernel
theorem kh_DR_has : y_DR_has.cls ≠ "java/lang/invoke/MethodHandle" ∧ y_DR_has.cls ≠ "java/lang/invoke/VarHandle" ∧ (parseMethodDescriptor y_DR_has.desc).map (fun d => d.parameters.length) = some 1 := by decide +kernel
theorem kh_DR_isDropped : y_DR_isDropped.cls ≠ "java/lang/invoke/MethodHandle" ∧ y_DR_isDropped.cls ≠ "java/lang/invoke/VarHandle" ∧ (parseMethodDescriptor y_DR_isDropped.desc).map (fun d => d.parameters.length) = some 1 := by decide +kernel
theorem kh_DR_valueOf : y_DR_valueOf.cls ≠ "java/lang/invoke/MethodHandle" ∧ y_DR_valueOf.cls ≠ "java/lang/invoke/VarHandle" ∧ (parseMethodDescriptor y_DR_valueOf.desc).map (fun d => d.parameters.length) = some 1 := by decide +kernel
theorem kh_DR_setValue : y_DR_setValue.cls ≠ "java/lang/invoke/MethodHandle" ∧ y_DR_setValue.cls ≠ "java/lang/invoke/VarHandle" ∧ (parseMethodDescriptor y_DR_setValue.desc).map (fun d => d.parameters.length) = some 2 := by decide +kernel
theorem kh_DR_setDropped : y_DR_setDropped.cls ≠ "java/lang/invoke/MethodHandle" ∧ y_DR_setDropped.cls ≠ "java/lang/invoke/VarHandle" ∧ (parseMethodDescriptor y_DR_setDropped.desc).map (fun d => d.parameters.length) = some 1 := by decide +kernel
theorem kh_DR_clear : y_DR_clear.cls ≠ "java/lang/invoke/MethodHandle" ∧ y_DR_clear.cls ≠ "java/lang/invoke/VarHandle" ∧ (parseMethodDescriptor y_DR_clear.desc).map (fun d => d.parameters.length) = some 0 := by decide +kernel
theorem kh_DR_note : y_DR_note.cls ≠ "java/lang/invoke/MethodHandle" ∧ y_DR_note.cls ≠ "java/lang/invoke/VarHandle" ∧ (parseMethodDescriptor y_DR_note.desc).map (fun d => d.parameters.length) = some 2 := by decide +kernel
theorem kh_PG_init : y_PG_init.cls ≠ "java/lang/invoke/MethodHandle" ∧ y_PG_init.cls ≠ "java/lang/invoke/VarHandle" ∧ (parseMethodDescriptor y_PG_init.desc).map (fun d => d.parameters.length) = some 0 := by decide +kernel
theorem kh_PG_clear : y_PG_clear.cls ≠ "java/lang/invoke/MethodHandle" ∧ y_PG_clear.cls ≠ "java/lang/invoke/VarHandle" ∧ (parseMethodDescriptor y_PG_clear.desc).map (fun d => d.parameters.length) = some 0 := by decide +kernel
theorem kh_PG_markAll : y_PG_markAll.cls ≠ "java/lang/invoke/MethodHandle" ∧ y_PG_markAll.cls ≠ "java/lang/invoke/VarHandle" ∧ (parseMethodDescriptor y_PG_markAll.desc).map (fun d => d.parameters.length) = some 0 := by decide +kernel
theorem kh_PG_markKeysOf : y_PG_markKeysOf.cls ≠ "java/lang/invoke/MethodHandle" ∧ y_PG_markKeysOf.cls ≠ "java/lang/invoke/VarHandle" ∧ (parseMethodDescriptor y_PG_markKeysOf.desc).map (fun d => d.parameters.length) = some 1 := by decide +kernel
theorem kh_PG_readTree : y_PG_readTree.cls ≠ "java/lang/invoke/MethodHandle" ∧ y_PG_readTree.cls ≠ "java/lang/invoke/VarHandle" ∧ (parseMethodDescriptor y_PG_readTree.desc).map (fun d => d.parameters.length) = some 2 := by decide +kernel
theorem kh_PG_change : y_PG_change.cls ≠ "java/lang/invoke/MethodHandle" ∧ y_PG_change.cls ≠ "java/lang/invoke/VarHandle" ∧ (parseMethodDescriptor y_PG_change.desc).map (fun d => d.parameters.length) = some 1 := by decide +kernel
theorem kh_PG_place : y_PG_place.cls ≠ "java/lang/invoke/MethodHandle" ∧ y_PG_place.cls ≠ "java/lang/invoke/VarHandle" ∧ (parseMethodDescriptor y_PG_place.desc).map (fun d => d.parameters.length) = some 1 := by decide +kernel
theorem kh_PG_writeTree : y_PG_writeTree.cls ≠ "java/lang/invoke/MethodHandle" ∧ y_PG_writeTree.cls ≠ "java/lang/invoke/VarHandle" ∧ (parseMethodDescriptor y_PG_writeTree.desc).map (fun d => d.parameters.length) = some 2 := by decide +kernel
theorem kh_PG_writeRoot : y_PG_writeRoot.cls ≠ "java/lang/invoke/MethodHandle" ∧ y_PG_writeRoot.cls ≠ "java/lang/invoke/VarHandle" ∧ (parseMethodDescriptor y_PG_writeRoot.desc).map (fun d => d.parameters.length) = some 4 := by decide +kernel
theorem kh_PG_readPage : y_PG_readPage.cls ≠ "java/lang/invoke/MethodHandle" ∧ y_PG_readPage.cls ≠ "java/lang/invoke/VarHandle" ∧ (parseMethodDescriptor y_PG_readPage.desc).map (fun d => d.parameters.length) = some 3 := by decide +kernel
theorem kh_PG_setEntry : y_PG_setEntry.cls ≠ "java/lang/invoke/MethodHandle" ∧ y_PG_setEntry.cls ≠ "java/lang/invoke/VarHandle" ∧ (parseMethodDescriptor y_PG_setEntry.desc).map (fun d => d.parameters.length) = some 4 := by decide +kernel
theorem kh_PG_bitOf : y_PG_bitOf.cls ≠ "java/lang/invoke/MethodHandle" ∧ y_PG_bitOf.cls ≠ "java/lang/invoke/VarHandle" ∧ (parseMethodDescriptor y_PG_bitOf.desc).map (fun d => d.parameters.length) = some 2 := by decide +kernel
theorem kh_PG_isInParent : y_PG_isInParent.cls ≠ "java/lang/invoke/MethodHandle" ∧ y_PG_isInParent.cls ≠ "java/lang/invoke/VarHandle" ∧ (parseMethodDescriptor y_PG_isInParent.desc).map (fun d => d.parameters.length) = some 1 := by decide +kernel
theorem kh_PG_parentOf : y_PG_parentOf.cls ≠ "java/lang/invoke/MethodHandle" ∧ y_PG_parentOf.cls ≠ "java/lang/invoke/VarHandle" ∧ (parseMethodDescriptor y_PG_parentOf.desc).map (fun d => d.parameters.length) = some 1 := by decide +kernel
theorem kh_PG_placeInParent : y_PG_placeInParent.cls ≠ "java/lang/invoke/MethodHandle" ∧ y_PG_placeInParent.cls ≠ "java/lang/invoke/VarHandle" ∧ (parseMethodDescriptor y_PG_placeInParent.desc).map (fun d => d.parameters.length) = some 1 := by decide +kernel
theorem kh_PG_kindOf : y_PG_kindOf.cls ≠ "java/lang/invoke/MethodHandle" ∧ y_PG_kindOf.cls ≠ "java/lang/invoke/VarHandle" ∧ (parseMethodDescriptor y_PG_kindOf.desc).map (fun d => d.parameters.length) = some 1 := by decide +kernel
theorem kh_PW_init : y_PW_init.cls ≠ "java/lang/invoke/MethodHandle" ∧ y_PW_init.cls ≠ "java/lang/invoke/VarHandle" ∧ (parseMethodDescriptor y_PW_init.desc).map (fun d => d.parameters.length) = some 0 := by decide +kernel
theorem kh_PW_hasFailed : y_PW_hasFailed.cls ≠ "java/lang/invoke/MethodHandle" ∧ y_PW_hasFailed.cls ≠ "java/lang/invoke/VarHandle" ∧ (parseMethodDescriptor y_PW_hasFailed.desc).map (fun d => d.parameters.length) = some 0 := by decide +kernel
theorem kh_PW_written : y_PW_written.cls ≠ "java/lang/invoke/MethodHandle" ∧ y_PW_written.cls ≠ "java/lang/invoke/VarHandle" ∧ (parseMethodDescriptor y_PW_written.desc).map (fun d => d.parameters.length) = some 0 := by decide +kernel
theorem kh_PW_failAfter : y_PW_failAfter.cls ≠ "java/lang/invoke/MethodHandle" ∧ y_PW_failAfter.cls ≠ "java/lang/invoke/VarHandle" ∧ (parseMethodDescriptor y_PW_failAfter.desc).map (fun d => d.parameters.length) = some 1 := by decide +kernel
theorem kh_PW_restore : y_PW_restore.cls ≠ "java/lang/invoke/MethodHandle" ∧ y_PW_restore.cls ≠ "java/lang/invoke/VarHandle" ∧ (parseMethodDescriptor y_PW_restore.desc).map (fun d => d.parameters.length) = some 0 := by decide +kernel
theorem kh_PW_spend : y_PW_spend.cls ≠ "java/lang/invoke/MethodHandle" ∧ y_PW_spend.cls ≠ "java/lang/invoke/VarHandle" ∧ (parseMethodDescriptor y_PW_spend.desc).map (fun d => d.parameters.length) = some 1 := by decide +kernel
theorem kh_RL_init : y_RL_init.cls ≠ "java/lang/invoke/MethodHandle" ∧ y_RL_init.cls ≠ "java/lang/invoke/VarHandle" ∧ (parseMethodDescriptor y_RL_init.desc).map (fun d => d.parameters.length) = some 2 := by decide +kernel
theorem kh_RL_slots : y_RL_slots.cls ≠ "java/lang/invoke/MethodHandle" ∧ y_RL_slots.cls ≠ "java/lang/invoke/VarHandle" ∧ (parseMethodDescriptor y_RL_slots.desc).map (fun d => d.parameters.length) = some 0 := by decide +kernel
theorem kh_RL_start : y_RL_start.cls ≠ "java/lang/invoke/MethodHandle" ∧ y_RL_start.cls ≠ "java/lang/invoke/VarHandle" ∧ (parseMethodDescriptor y_RL_start.desc).map (fun d => d.parameters.length) = some 0 := by decide +kernel
theorem kh_RL_end : y_RL_end.cls ≠ "java/lang/invoke/MethodHandle" ∧ y_RL_end.cls ≠ "java/lang/invoke/VarHandle" ∧ (parseMethodDescriptor y_RL_end.desc).map (fun d => d.parameters.length) = some 0 := by decide +kernel
theorem kh_RL_use : y_RL_use.cls ≠ "java/lang/invoke/MethodHandle" ∧ y_RL_use.cls ≠ "java/lang/invoke/VarHandle" ∧ (parseMethodDescriptor y_RL_use.desc).map (fun d => d.parameters.length) = some 2 := by decide +kernel
theorem kh_RL_isUsed : y_RL_isUsed.cls ≠ "java/lang/invoke/MethodHandle" ∧ y_RL_isUsed.cls ≠ "java/lang/invoke/VarHandle" ∧ (parseMethodDescriptor y_RL_isUsed.desc).map (fun d => d.parameters.length) = some 1 := by decide +kernel
theorem kh_RL_hasRoom : y_RL_hasRoom.cls ≠ "java/lang/invoke/MethodHandle" ∧ y_RL_hasRoom.cls ≠ "java/lang/invoke/VarHandle" ∧ (parseMethodDescriptor y_RL_hasRoom.desc).map (fun d => d.parameters.length) = some 1 := by decide +kernel
theorem kh_RL_byteOf : y_RL_byteOf.cls ≠ "java/lang/invoke/MethodHandle" ∧ y_RL_byteOf.cls ≠ "java/lang/invoke/VarHandle" ∧ (parseMethodDescriptor y_RL_byteOf.desc).map (fun d => d.parameters.length) = some 2 := by decide +kernel
theorem kh_RL_alter : y_RL_alter.cls ≠ "java/lang/invoke/MethodHandle" ∧ y_RL_alter.cls ≠ "java/lang/invoke/VarHandle" ∧ (parseMethodDescriptor y_RL_alter.desc).map (fun d => d.parameters.length) = some 3 := by decide +kernel
theorem kh_RL_hasBit : y_RL_hasBit.cls ≠ "java/lang/invoke/MethodHandle" ∧ y_RL_hasBit.cls ≠ "java/lang/invoke/VarHandle" ∧ (parseMethodDescriptor y_RL_hasBit.desc).map (fun d => d.parameters.length) = some 2 := by decide +kernel
theorem kh_RL_lowestBit : y_RL_lowestBit.cls ≠ "java/lang/invoke/MethodHandle" ∧ y_RL_lowestBit.cls ≠ "java/lang/invoke/VarHandle" ∧ (parseMethodDescriptor y_RL_lowestBit.desc).map (fun d => d.parameters.length) = some 2 := by decide +kernel
theorem kh_RL_versionOf : y_RL_versionOf.cls ≠ "java/lang/invoke/MethodHandle" ∧ y_RL_versionOf.cls ≠ "java/lang/invoke/VarHandle" ∧ (parseMethodDescriptor y_RL_versionOf.desc).map (fun d => d.parameters.length) = some 1 := by decide +kernel
theorem kh_RL_entryOf : y_RL_entryOf.cls ≠ "java/lang/invoke/MethodHandle" ∧ y_RL_entryOf.cls ≠ "java/lang/invoke/VarHandle" ∧ (parseMethodDescriptor y_RL_entryOf.desc).map (fun d => d.parameters.length) = some 2 := by decide +kernel
theorem kh_RL_numberOf : y_RL_numberOf.cls ≠ "java/lang/invoke/MethodHandle" ∧ y_RL_numberOf.cls ≠ "java/lang/invoke/VarHandle" ∧ (parseMethodDescriptor y_RL_numberOf.desc).map (fun d => d.parameters.length) = some 1 := by decide +kernel
theorem kh_RL_isBad : y_RL_isBad.cls ≠ "java/lang/invoke/MethodHandle" ∧ y_RL_isBad.cls ≠ "java/lang/invoke/VarHandle" ∧ (parseMethodDescriptor y_RL_isBad.desc).map (fun d => d.parameters.length) = some 2 := by decide +kernel
theorem kh_RL_isSound : y_RL_isSound.cls ≠ "java/lang/invoke/MethodHandle" ∧ y_RL_isSound.cls ≠ "java/lang/invoke/VarHandle" ∧ (parseMethodDescriptor y_RL_isSound.desc).map (fun d => d.parameters.length) = some 1 := by decide +kernel
theorem kh_RL_isWholeRoot : y_RL_isWholeRoot.cls ≠ "java/lang/invoke/MethodHandle" ∧ y_RL_isWholeRoot.cls ≠ "java/lang/invoke/VarHandle" ∧ (parseMethodDescriptor y_RL_isWholeRoot.desc).map (fun d => d.parameters.length) = some 1 := by decide +kernel
theorem kh_RL_newestRootSlot : y_RL_newestRootSlot.cls ≠ "java/lang/invoke/MethodHandle" ∧ y_RL_newestRootSlot.cls ≠ "java/lang/invoke/VarHandle" ∧ (parseMethodDescriptor y_RL_newestRootSlot.desc).map (fun d => d.parameters.length) = some 0 := by decide +kernel
theorem kh_RL_write : y_RL_write.cls ≠ "java/lang/invoke/MethodHandle" ∧ y_RL_write.cls ≠ "java/lang/invoke/VarHandle" ∧ (parseMethodDescriptor y_RL_write.desc).map (fun d => d.parameters.length) = some 6 := by decide +kernel
theorem kh_RL_makeUp : y_RL_makeUp.cls ≠ "java/lang/invoke/MethodHandle" ∧ y_RL_makeUp.cls ≠ "java/lang/invoke/VarHandle" ∧ (parseMethodDescriptor y_RL_makeUp.desc).map (fun d => d.parameters.length) = some 6 := by decide +kernel
theorem kh_RL_isNewer : y_RL_isNewer.cls ≠ "java/lang/invoke/MethodHandle" ∧ y_RL_isNewer.cls ≠ "java/lang/invoke/VarHandle" ∧ (parseMethodDescriptor y_RL_isNewer.desc).map (fun d => d.parameters.length) = some 2 := by decide +kernel
theorem kh_RL_isSumRight : y_RL_isSumRight.cls ≠ "java/lang/invoke/MethodHandle" ∧ y_RL_isSumRight.cls ≠ "java/lang/invoke/VarHandle" ∧ (parseMethodDescriptor y_RL_isSumRight.desc).map (fun d => d.parameters.length) = some 1 := by decide +kernel
theorem kh_RL_slotOf : y_RL_slotOf.cls ≠ "java/lang/invoke/MethodHandle" ∧ y_RL_slotOf.cls ≠ "java/lang/invoke/VarHandle" ∧ (parseMethodDescriptor y_RL_slotOf.desc).map (fun d => d.parameters.length) = some 1 := by decide +kernel
theorem kh_RL_offsetOf : y_RL_offsetOf.cls ≠ "java/lang/invoke/MethodHandle" ∧ y_RL_offsetOf.cls ≠ "java/lang/invoke/VarHandle" ∧ (parseMethodDescriptor y_RL_offsetOf.desc).map (fun d => d.parameters.length) = some 1 := by decide +kernel
theorem kh_RL_setInt : y_RL_setInt.cls ≠ "java/lang/invoke/MethodHandle" ∧ y_RL_setInt.cls ≠ "java/lang/invoke/VarHandle" ∧ (parseMethodDescriptor y_RL_setInt.desc).map (fun d => d.parameters.length) = some 2 := by decide +kernel
theorem kh_RL_intAt : y_RL_intAt.cls ≠ "java/lang/invoke/MethodHandle" ∧ y_RL_intAt.cls ≠ "java/lang/invoke/VarHandle" ∧ (parseMethodDescriptor y_RL_intAt.desc).map (fun d => d.parameters.length) = some 2 := by decide +kernel
theorem kh_RL_sumOf : y_RL_sumOf.cls ≠ "java/lang/invoke/MethodHandle" ∧ y_RL_sumOf.cls ≠ "java/lang/invoke/VarHandle" ∧ (parseMethodDescriptor y_RL_sumOf.desc).map (fun d => d.parameters.length) = some 2 := by decide +kernel
theorem kh_SH_init : y_SH_init.cls ≠ "java/lang/invoke/MethodHandle" ∧ y_SH_init.cls ≠ "java/lang/invoke/VarHandle" ∧ (parseMethodDescriptor y_SH_init.desc).map (fun d => d.parameters.length) = some 0 := by decide +kernel
theorem kh_SH_size : y_SH_size.cls ≠ "java/lang/invoke/MethodHandle" ∧ y_SH_size.cls ≠ "java/lang/invoke/VarHandle" ∧ (parseMethodDescriptor y_SH_size.desc).map (fun d => d.parameters.length) = some 0 := by decide +kernel
theorem kh_SH_newest : y_SH_newest.cls ≠ "java/lang/invoke/MethodHandle" ∧ y_SH_newest.cls ≠ "java/lang/invoke/VarHandle" ∧ (parseMethodDescriptor y_SH_newest.desc).map (fun d => d.parameters.length) = some 0 := by decide +kernel
theorem kh_SH_newestRoot : y_SH_newestRoot.cls ≠ "java/lang/invoke/MethodHandle" ∧ y_SH_newestRoot.cls ≠ "java/lang/invoke/VarHandle" ∧ (parseMethodDescriptor y_SH_newestRoot.desc).map (fun d => d.parameters.length) = some 0 := by decide +kernel
theorem kh_SH_versionFromNewest : y_SH_versionFromNewest.cls ≠ "java/lang/invoke/MethodHandle" ∧ y_SH_versionFromNewest.cls ≠ "java/lang/invoke/VarHandle" ∧ (parseMethodDescriptor y_SH_versionFromNewest.desc).map (fun d => d.parameters.length) = some 1 := by decide +kernel
theorem kh_SH_rootOf : y_SH_rootOf.cls ≠ "java/lang/invoke/MethodHandle" ∧ y_SH_rootOf.cls ≠ "java/lang/invoke/VarHandle" ∧ (parseMethodDescriptor y_SH_rootOf.desc).map (fun d => d.parameters.length) = some 1 := by decide +kernel
theorem kh_SH_clear : y_SH_clear.cls ≠ "java/lang/invoke/MethodHandle" ∧ y_SH_clear.cls ≠ "java/lang/invoke/VarHandle" ∧ (parseMethodDescriptor y_SH_clear.desc).map (fun d => d.parameters.length) = some 0 := by decide +kernel
theorem kh_SH_add : y_SH_add.cls ≠ "java/lang/invoke/MethodHandle" ∧ y_SH_add.cls ≠ "java/lang/invoke/VarHandle" ∧ (parseMethodDescriptor y_SH_add.desc).map (fun d => d.parameters.length) = some 2 := by decide +kernel
theorem kh_SH_insert : y_SH_insert.cls ≠ "java/lang/invoke/MethodHandle" ∧ y_SH_insert.cls ≠ "java/lang/invoke/VarHandle" ∧ (parseMethodDescriptor y_SH_insert.desc).map (fun d => d.parameters.length) = some 3 := by decide +kernel
theorem kh_LA_cell : y_LA_cell.cls ≠ "java/lang/invoke/MethodHandle" ∧ y_LA_cell.cls ≠ "java/lang/invoke/VarHandle" ∧ (parseMethodDescriptor y_LA_cell.desc).map (fun d => d.parameters.length) = some 2 := by decide +kernel
theorem kh_LA_law : y_LA_law.cls ≠ "java/lang/invoke/MethodHandle" ∧ y_LA_law.cls ≠ "java/lang/invoke/VarHandle" ∧ (parseMethodDescriptor y_LA_law.desc).map (fun d => d.parameters.length) = some 1 := by decide +kernel
theorem kh_JM_floorMod : y_JM_floorMod.cls ≠ "java/lang/invoke/MethodHandle" ∧ y_JM_floorMod.cls ≠ "java/lang/invoke/VarHandle" ∧ (parseMethodDescriptor y_JM_floorMod.desc).map (fun d => d.parameters.length) = some 2 := by decide +kernel
end
section
/-! the worlds of the class and of the model; words of the walks that a program lays -/
def eqP {α S : Type} (F : α × S) (r : α) (u : S) : Prop := (r, u) = F
def eqV {S : Type} (F : S) (u : S) : Prop := u = F
def bindc {α β : Type} (x : α) (k : α → β) : β := k x
def bindp {α : Type} (x : α) (k : α → Prop) : Prop := ∀ z, z = x → k z
theorem bindc_eq {α β : Type} {x z : α} {k : α → β} {res : β} (hz : z = x) (h : bindc x k = res) : k z = res := by rw [hz]; exact h
theorem bindp_eq {α : Type} {x z : α} {k : α → Prop} (hz : z = x) (h : bindp x k) : k z := h z hz
theorem it_t {C : Prop} {inst : Decidable C} {α : Type} {a b res : α} (c : C) (h : @ite α C inst a b = res) : a = res := by rw [if_pos c] at h; exact h
theorem it_f {C : Prop} {inst : Decidable C} {α : Type} {a b res : α} (c : ¬ C) (h : @ite α C inst a b = res) : b = res := by rw [if_neg c] at h; exact h
def cpOk (f : Nat → Int32) (n0 n1 : Nat) (sp dp n : Int32) : Prop := ¬ sp < 0 ∧ ¬ dp < 0 ∧ ¬ n < 0 ∧ sp.toNatClampNeg + n.toNatClampNeg ≤ n0 ∧ dp.toNatClampNeg + n.toNatClampNeg ≤ n1 ∧ ∀ i, i < n.toNatClampNeg → fits .byte (.int (f (sp.toNatClampNeg + i))) = true
theorem isB_fit {v : Int32} (h : isB v) : fits .boolean (.int v) = true := by
  have h1 : narrow .boolean (.int v) = .int v := h
  obtain ⟨j, hj, e⟩ := pk_andE v (m := 1) 1 (by decide)
  rw [← h1]
  simp only [narrow, fits]
  have e2 : v &&& 1 = 0 ∨ v &&& 1 = 1 := by
    rcases (show j = 0 ∨ j = 1 by omega) with rfl | rfl
    · exact Or.inl (by rw [e]; rfl)
    · exact Or.inr (by rw [e]; rfl)
  simpa using e2
theorem tb_out4 {x : Int32} (h0 : ¬ x = (0 : Int32)) (h1 : ¬ x = (1 : Int32)) (h2 : ¬ x = (2 : Int32)) (h3 : ¬ x = (3 : Int32)) : x.toInt < 0 ∨ 3 < x.toInt := by
  by_cases h : x.toInt < 0
  · exact Or.inl h
  · refine Or.inr (Classical.byContradiction fun hc => ?_)
    have e : x.toInt = 0 ∨ x.toInt = 1 ∨ x.toInt = 2 ∨ x.toInt = 3 := by omega
    rcases e with e | e | e | e
    · exact h0 (Int32.toInt_inj.mp (e.trans (by decide)))
    · exact h1 (Int32.toInt_inj.mp (e.trans (by decide)))
    · exact h2 (Int32.toInt_inj.mp (e.trans (by decide)))
    · exact h3 (Int32.toInt_inj.mp (e.trans (by decide)))
/-- what stands through a method's walk -/
def Cx (p : Program) (l : Launch) (e : Env) (s : State) (m : MethodId) (args : Array Value) (meth : Method) (c : Code) (y : MethodName) (b : ByteArray) (maxL : Nat) (ret : Option FieldType) (own : String) (G : GG) (A : Nat → Prop) : Prop :=
  p.tables.exec = Jvm.exec ∧ c.code = b ∧ meth.sig.returnType = ret ∧ c.maxLocals = maxL ∧ s.vm.findClass own = some m.cls ∧ meth.locks = false ∧ (∀ w ∈ lw_g, w.before args s = true) ∧ va_K G.1 classes (tysG G) s ∧ (∀ q, s.heap.size ≤ q → A q)
section Go
variable {p : Program} {l : Launch} {e : Env} {R : Room} {s : State} {m : MethodId} {args : Array Value} {below : List Frame} {meth : Method} {c : Code} {H H0 : Heap} {locs : List Loc} {cells slots : Nat} {Q : State → Prop}
  {G : GG} {ws : va_W} {A : Nat → Prop} {pc : Nat} {ls : Array Slot} {st0 rest : List Value} {S : Type}
theorem go_iz {F : Int32 × S} {w1 : S → va_W} {a : Array Value} (hr : va_Run p l e R s m args below meth c H locs cells slots 0 0 (F0 m pc ls st0) rest (va_Qi (eqP F) (Wb G (va_A ws H.size) w1) (va_A ws H.size) a) (va_A ws H.size)) (hD : va_D A ws) (hS : va_S A H0 H locs) (hA : ∀ q, H0.size ≤ q → A q)
    (kk : ∀ (z : Int32 × S) (H1 : Heap) (locs1 : List Loc), z = F → va_P G.1 classes (w1 z.2) H1 → va_D A (w1 z.2) → va_S A H0 H1 locs1 → W p l e R s m args below meth c H1 locs1 cells slots Q (F0 m (pc + 3) ls (.int z.1 :: rest))) : W p l e R s m args below meth c H locs cells slots Q (F0 m pc ls st0) :=
  go_i hr hD hS hA (fun r u H1 locs1 hp => kk (r, u) H1 locs1 hp)
theorem go_lz {F : Int64 × S} {w1 : S → va_W} {a : Array Value} (hr : va_Run p l e R s m args below meth c H locs cells slots 0 0 (F0 m pc ls st0) rest (va_Ql (eqP F) (Wb G (va_A ws H.size) w1) (va_A ws H.size) a) (va_A ws H.size)) (hD : va_D A ws) (hS : va_S A H0 H locs) (hA : ∀ q, H0.size ≤ q → A q)
    (kk : ∀ (z : Int64 × S) (H1 : Heap) (locs1 : List Loc), z = F → va_P G.1 classes (w1 z.2) H1 → va_D A (w1 z.2) → va_S A H0 H1 locs1 → W p l e R s m args below meth c H1 locs1 cells slots Q (F0 m (pc + 3) ls (.long z.1 :: rest))) : W p l e R s m args below meth c H locs cells slots Q (F0 m pc ls st0) :=
  go_l hr hD hS hA (fun r u H1 locs1 hp => kk (r, u) H1 locs1 hp)
theorem go_vz {F : S} {w1 : S → va_W} {a : Array Value} (hr : va_Run p l e R s m args below meth c H locs cells slots 0 0 (F0 m pc ls st0) rest (va_Qv (eqV F) (Wb G (va_A ws H.size) w1) (va_A ws H.size) a) (va_A ws H.size)) (hD : va_D A ws) (hS : va_S A H0 H locs) (hA : ∀ q, H0.size ≤ q → A q)
    (kk : ∀ (z : S) (H1 : Heap) (locs1 : List Loc), z = F → va_P G.1 classes (w1 z) H1 → va_D A (w1 z) → va_S A H0 H1 locs1 → W p l e R s m args below meth c H1 locs1 cells slots Q (F0 m (pc + 3) ls rest)) : W p l e R s m args below meth c H locs cells slots Q (F0 m pc ls st0) :=
  go_v hr hD hS hA (fun u H1 locs1 hp => kk u H1 locs1 hp)
end Go
theorem Met_ofF {l : Launch} {y : MethodName} {b : ByteArray} {maxL : Nat} {ret : Option FieldType} {rm : Room} {G : GG} {ws : va_W} {sz : Nat} {av : List Value} (hy : plainFor y = true) (hlen : (lg_sl av).length ≤ maxL) {Qc : (Nat → Prop) → Array Value → State → Outcome → State → Prop} (body : Body l y b maxL ret rm G ws av Qc) :
    Met l y (lw_ws y b maxL ret) rm (va_Pc av (Wp G ws sz)) (Qc (va_A ws sz)) 0 0 (va_A ws sz) := by
  refine va_MetF (cc := b) (maxL := maxL) (ret := ret) hy rfl ?_
  intro p e s m args below meth c s₁ B hml hv
  obtain ⟨rfl, hsz, hP, hK, hD0⟩ := hv
  have hts := atoms_spec (ws := lw_ws y b maxL ret) B.pre
  subst hsz
  rw [lg_entry_eq]
  exact body p e s m below meth c B.admits B.exec B.bytes B.returns hml (findClass_of_methodNamed B.named) B.notSynchronized (fun w h => hts w (List.mem_cons_of_mem _ h)) hK (va_A ws s.heap.size) (fun q h => Or.inr h) hP hD0.self va_S.rf _ (lv_entry av hlen)
def cC (G : GG) (ad : Nat → Nat) (nb : Nat) (nt : Nat) (cfa : Int32) (cle : Int32) (cwr : Int32) (csl : Int32) (cst : Int32) (cen : Int32) (cby : Nat → Int32) (cto : Nat → Int32) (csh : Nat → Int32) (cdz : Int32) (cch : Nat → Int32) (cva : Nat → Int32) (css : Int32) (cve : Nat → Int32) (cro : Nat → Int32) (crc : Int32) (cma : Nat → Int32) (cbi : Nat → Int32) (ces : Nat → Int32) (cbl : Nat → Int32) (crt : Nat → Int32) : va_W :=
  [(ad 0, .inr (0, [.ref (ad 1), .ref (ad 2), .ref (ad 6), .ref (ad 9), .ref (ad 12)])),
   (ad 1, .inr (1, [.int cfa, .int cle, .int cwr])),
   (ad 2, .inr (2, [.ref (ad 1), .int csl, .ref (ad 3), .ref (ad 4), .ref (ad 5), .int cst, .int cen])),
   (ad 3, .inl (G.2 2, nb, .inl cby)),
   (ad 4, .inl (G.2 1, nt, .inl cto)),
   (ad 5, .inl (G.2 2, 64, .inl csh)),
   (ad 6, .inr (3, [.ref (ad 7), .ref (ad 8), .int cdz])),
   (ad 7, .inl (G.2 0, 512, .inl cch)),
   (ad 8, .inl (G.2 0, 512, .inl cva)),
   (ad 9, .inr (4, [.ref (ad 10), .ref (ad 11), .int css])),
   (ad 10, .inl (G.2 0, 200, .inl cve)),
   (ad 11, .inl (G.2 0, 200, .inl cro)),
   (ad 12, .inr (5, [.ref (ad 13), .ref (ad 14), .ref (ad 15), .ref (ad 16), .ref (ad 17), .int crc])),
   (ad 13, .inl (G.2 1, 73, .inl cma)),
   (ad 14, .inl (G.2 0, 73, .inl cbi)),
   (ad 15, .inl (G.2 0, 584, .inl ces)),
   (ad 16, .inl (G.2 0, 73, .inl cbl)),
   (ad 17, .inl (G.2 0, 8, .inl crt))]
def cM (G : GG) (ad : Nat → Nat) (mrf : Int32) (msl : Int32) (mst : Int32) (men : Int32) (mnw : Int32) (mdn : Int32) (mpw : Int32) (mwr : Int32) (mrs : Int32) (mdr : Int32) (mtb : Int32) (mrc : Int32) (mnx : Int32) (mro : Nat → Int32) (mit : Nat → Int32) (mve : Nat → Int32) (mrb : Nat → Int32) (mch : Nat → Int32) (mva : Nat → Int32) (mic : Nat → Int32) (mlb : Nat → Int32) (mrw : Nat → Int32) (mnb : Nat → Int32) (mlk : Nat → Int32) (mnk : Nat → Int32) (mmd : Nat → Int32) : va_W :=
  [(ad 0, .inr (6, [.int mrf, .int msl, .ref (ad 1), .ref (ad 2), .int mst, .int men, .int mnw, .int mdn, .int mpw, .int mwr, .int mrs, .ref (ad 3), .ref (ad 4), .int mdr, .ref (ad 5), .ref (ad 6), .ref (ad 7), .ref (ad 8), .ref (ad 9), .ref (ad 10), .ref (ad 11), .int mtb, .ref (ad 12), .int mrc, .ref (ad 13), .int mnx])),
   (ad 1, .inl (G.2 0, 12800, .inl mro)),
   (ad 2, .inl (G.2 1, 200, .inl mit)),
   (ad 3, .inl (G.2 0, 4000, .inl mve)),
   (ad 4, .inl (G.2 0, 4000, .inl mrb)),
   (ad 5, .inl (G.2 0, 512, .inl mch)),
   (ad 6, .inl (G.2 0, 512, .inl mva)),
   (ad 7, .inl (G.2 1, 64, .inl mic)),
   (ad 8, .inl (G.2 0, 64, .inl mlb)),
   (ad 9, .inl (G.2 0, 512, .inl mrw)),
   (ad 10, .inl (G.2 0, 8, .inl mnb)),
   (ad 11, .inl (G.2 0, 64, .inl mlk)),
   (ad 12, .inl (G.2 0, 8, .inl mnk)),
   (ad 13, .inl (G.2 0, 64, .inl mmd))]
end
section
/-! methods that end by a throw: contracts, calls of them, out of the caller or into its handler -/
def FrE (first : State) (o : Outcome) (t : State) (L : List Loc) (k n : Nat) : Prop := (∃ x, o = .threw x) ∧ first.WarmedH t.vm ∧ first.sameButNew ({ t with vm := first.vm } : State) L k n
def MetT (l : Launch) (y : MethodName) (ws : List Cond) (rm : Room) (Pc : Array Value → State → Prop) (Qc : Array Value → State → Outcome → State → Prop) (mc ms : Nat) (free : Addr → Prop) : Prop :=
  MetFree l y (headSpec ws rm) Pc (fun _ _ _ _ _ => True) (fun a st o t => Qc a st o t ∧ ∃ L, FrE st o t L mc ms ∧ ∀ q ∈ L, free q.base)
def MQT (below : List Frame) (Qc : Array Value → State → Outcome → State → Prop) (a : Array Value) (s : State) (mc ms : Nat) (free : Addr → Prop) : State → Prop := fun t =>
  ∃ o, t.status = .running ∧ Ended t below o ∧ Qc a s o t ∧ ∃ L, FrE s o t L mc ms ∧ ∀ q ∈ L, free q.base
theorem MetT.ofW {l : Launch} {y : MethodName} {ws ws' : List Cond} {rm : Room} {Pc : Array Value → State → Prop} {Qc : Array Value → State → Outcome → State → Prop} {mc ms : Nat} {free : Addr → Prop} {cc : ByteArray} {maxL : Nat} {ret : Option FieldType}
    (hy : plainName y.cls = true) (hw : ws = Cond.code y cc maxL ret :: ws')
    (body : ∀ p e s m args below meth c s₁, BodyLoose p l y (headSpec ws rm) cc maxL ret e s m args below meth c s₁ → c.maxLocals = maxL → Pc args s →
      W p l e (headSpec ws rm).room s m args below meth c s.heap [] 0 0 (MQT below Qc args s mc ms free) (entryFrame m args maxL)) : MetT l y ws rm Pc Qc mc ms free := by
  refine MetFree.of_bodyS (code := cc) (maxLocals := maxL) (ret := ret) hy ?_ ?_
  · intro args s m h hn
    obtain ⟨meth, c, h1, h2, h3, h4, h5, h6, -, -⟩ := Cond.code_spec hn (atoms_spec (ws := ws) h _ (by rw [hw]; exact List.mem_cons_self))
    exact ⟨meth, c, h1, h2, h3, h4, h5, h6⟩
  · intro p e s m args below meth c s₁ B hml hP _
    have hh0 : s₁.heap = s.heap := by rw [B.state]; rfl
    obtain ⟨t, a1, o, b1, b2, b3⟩ := body p e s m args below meth c s₁ B hml hP s₁ hh0 (Stand.of_body B)
    exact ⟨t, o, a1, b1, b2, ⟨b3.1, b3.2⟩⟩
section Thrown
variable {p : Program} {l : Launch} {e : Env} {R : Room} {s : State} {m : MethodId} {args : Array Value} {below : List Frame} {meth : Method} {c : Code} {locs : List Loc} {cells slots : Nat}
  {y : MethodName} {bytes cc : ByteArray} {maxL nL mc ms n index : Nat} {ret : Option FieldType} {ws : List Cond} {rm : Room} {Pc : Array Value → State → Prop} {Qc : Array Value → State → Outcome → State → Prop} {free : Addr → Prop}
/-- the callee, invoked at U over the frame g, throws: the note lies over g -/
theorem thrown_by {U : State} (X : Stand p l e R s m args below meth c U locs cells slots) (hM : MetT l y ws rm Pc Qc mc ms free) {g : JFrame} (hg : g.method = m) (hsize : g.locals.size = c.maxLocals) {ig : Instr} {len : Nat} (hdg : decode c.code g.pc = .ok (ig, len))
    {W : Nat} (hW : 2 * g.monitorRoom + (g.stack.map fun v => v.category).sum ≤ W) {mk : MethodId} (hn : U.methodNamed? y = some mk) (hrc : rm.cells = mc) (hrs : rm.slots = ms) (hfr : rm.frames + 1 ≤ R.frames) (hlo : W + (maxL + 11) + rm.locals ≤ R.locals)
    (hws : ∀ w ∈ ws, ∀ (a' : Array Value) (V : State), s.WarmedH V.vm → w.before a' V = true) (hcw : Cond.code y bytes maxL ret ∈ ws) (hini : ∀ (a' : Array Value) (V : State), s.WarmedH V.vm → (Cond.initialized y.cls).before a' V = true) (hf : cells + mc ≤ R.cells ∧ slots + ms ≤ R.slots)
    {a : Array Value} (hP : Pc a (U.calling g mk a)) :
    ∃ (v : Addr) (t T' : State) (L : List Loc), Stand p l e R s m args below meth c T' (locs ++ L) (cells + mc) (slots + ms) ∧ (∀ q ∈ L, free q.base) ∧ T'.heap = t.heap ∧ T'.vm = t.vm ∧ Qc a (U.calling g mk a) (.threw v) t ∧
      Steps p.tables e below (doInvoke e (U.setTop g) [] mk a).1 ((T'.setTop g).pushFrame (.throwing v)) := by
  have h2 := hws _ hcw a U X.warmed
  obtain ⟨methY, cY, hmY, hcY, -, hlY, -, -, -, -⟩ := Cond.code_spec hn h2
  obtain ⟨kY, hkY, -⟩ := className_of_methodNamed hn
  have hinitY : kY.init = .initialized := Cond.initialized_spec (findClass_of_methodNamed hn) hkY (hini a U X.warmed)
  have h : At U g.method c below := by rw [hg]; exact X.here
  have happ : (headSpec ws rm).appliesLoose y e.platform (U.calling g mk a) = true :=
    Spec.appliesLoose_calling (g := g) h hdg hn hkY hinitY
      (X.room_calling (g := g) (R' := (headSpec ws rm).room) hsize hmY hcY hfr (by rw [hlY]; show 2 * g.monitorRoom + _ + (maxL + 11) + rm.locals ≤ _; omega) (by show cells + rm.cells ≤ _; rw [hrc]; exact hf.1) (by show slots + rm.slots ≤ _; rw [hrs]; exact hf.2))
      (atoms_intro fun w hw => hws w hw _ _ X.warmed)
  obtain ⟨mid, hmid⟩ := h.above
  have hfrm : (U.setTop g).frames = (.java g :: mid) ++ below := by rw [State.frames_setTop' g h.top, hmid]; rfl
  obtain ⟨o, t, hsteps, -, hend, hq⟩ := Steps.callFree hM p X.admits X.cas X.clock (acts := []) hfrm happ hP trivial
  rw [State.frames_setTop' g h.top] at hend
  have hq2 : Qc a (U.calling g mk a) o t ∧ ∃ L, FrE (U.calling g mk a) o t L mc ms ∧ ∀ q ∈ L, free q.base := hq
  obtain ⟨hqc, L, ⟨⟨v, rfl⟩, hW2, e2, q2, q3, q4, q5, q6⟩, hL⟩ := hq2
  have e3 : t = ({ (U.calling g mk a).setFrames t.frames with heap := t.heap, slotsUsed := t.slotsUsed } : State).setVm t.vm := by
    have h9 : t = ({ t with vm := (U.calling g mk a).vm } : State).setVm t.vm := rfl
    rw [e2] at h9
    exact h9
  have hf2 : t.frames = .throwing v :: .java g :: U.frames.tail := hend
  have hW3 : U.WarmedH t.vm := hW2
  obtain ⟨g0, hg0⟩ := Option.isSome_iff_exists.mp h.top
  obtain ⟨r, hr⟩ := State.topJava?_eq_some.mp hg0
  have hs2 : t = ((({ U with heap := t.heap, slotsUsed := t.slotsUsed } : State).setVm t.vm).setTop g).pushFrame (.throwing v) := by
    have hr2 : (({ U with heap := t.heap, slotsUsed := t.slotsUsed } : State).setVm t.vm).frames = .java g0 :: r := hr
    refine e3.trans ?_
    rw [hf2, State.calling_eq h.top, State.setFrames_setFrames, State.pushFrame, State.frames_setTop _ hr2, State.setTop_of_frames _ hr2, State.setFrames_setFrames, hr]
    rfl
  have hsame : U.sameButNew ({ U with heap := t.heap, slotsUsed := t.slotsUsed } : State) L mc ms := by
    refine ⟨?_, q2, q3, q4, q5, q6⟩
    obtain ⟨th, hth, -⟩ := State.frames_cons hr
    show ({ U with heap := t.heap, slotsUsed := t.slotsUsed } : State) = { U.setFrames U.frames with heap := t.heap, slotsUsed := t.slotsUsed }
    rw [State.setFrames_self hth]
  refine ⟨v, t, (({ U with heap := t.heap, slotsUsed := t.slotsUsed } : State).setVm t.vm), L,
    ⟨X.admits, X.cas, X.clock, X.frames, X.room, X.hears, X.method, X.code, (X.here.setHeapUsed t.heap t.slotsUsed).setVm hW3.alike, X.tail, State.WarmedH.trans X.warmed hW3, X.limits, X.bytes, X.same.trans (hsame.setVm s.vm)⟩, hL, rfl, rfl, hqc, ?_⟩
  rw [← hs2]
  exact hsteps
/-- a call of a method that throws, up to the note over the caller's frame -/
def RunT (p : Program) (l : Launch) (e : Env) (R : Room) (s : State) (m : MethodId) (args : Array Value) (below : List Frame) (meth : Method) (c : Code) (H : Heap) (locs : List Loc) (cells slots mc ms : Nat) (g : JFrame) (rest : List Value) (Qa : State → Outcome → State → Prop) (free : Addr → Prop) : Prop :=
  ∀ T : State, T.heap = H → Stand p l e R s m args below meth c T locs cells slots → ∃ (v : Addr) (st₀ t T' : State) (L : List Loc), st₀.heap = H ∧ Stand p l e R s m args below meth c T' (locs ++ L) (cells + mc) (slots + ms) ∧ (∀ q ∈ L, free q.base) ∧ T'.heap = t.heap ∧ T'.vm = t.vm ∧ Qa st₀ (.threw v) t ∧
    Steps p.tables e below (T.setTop g) ((T'.setTop { g with stack := rest }).pushFrame (.throwing v))
variable {Ts : List Cond} {own C : String} {b : Addr} {As rest : List Value} {g : JFrame} {H : Heap}
theorem runVT (S : CallFix p m c cc nL s args Ts own) (hM : MetT l y ws rm Pc Qc mc ms free) (cw : CallW R s args own C index y bytes maxL ret ws rm mc ms n) (hp : PreV s H C b Pc As)
    (hg : g.method = m) (hn : As.length = n) (hsize : g.locals.size = nL) (hstack : g.stack = As.reverse ++ .ref b :: rest) (hW : 2 * g.monitorRoom + (rest.map fun v => v.category).sum ≤ 8) (hdg : decode cc g.pc = .ok (.invokevirtual index, 3)) (hf : cells + mc ≤ R.cells ∧ slots + ms ≤ R.slots) :
    RunT p l e R s m args below meth c H locs cells slots mc ms g rest (Qc (Value.ref b :: As).toArray) free := by
  obtain ⟨⟨hrc, hrs, hfr, hlo, hws, hcw, hcode, hini, hy, hlen, hl⟩, hin, hse⟩ := cw
  obtain ⟨hx, hb, hml, ho, -⟩ := S
  obtain ⟨hblind, ⟨cellB, hcB, hoB, hclB⟩, hPc⟩ := hp
  intro T hT X
  obtain ⟨mk, methM, hnamed, hmethM, hstM, habM⟩ := Cond.instanceMethod_spec hin
  obtain ⟨methM', cM, hmethM', -, -, -, -, -, -, hsigM⟩ := Cond.code_spec hnamed hcode
  cases hmethM.symm.trans hmethM'
  obtain ⟨c2, r2, m2, q1, q2, q3, q4, kP, hkP, hkPi⟩ := Cond.selects_spec hse
  cases hclB.symm.trans q1
  cases (State.methodFound?_of_named hnamed hy).symm.trans q2
  cases hnamed.symm.trans q3
  have hselP : selectMethod e.platform s.vm cellB.cls mk = .method mk := by rw [Launch.admits_selectMethod X.admits]; exact q4
  obtain ⟨vm₁, X₁, hstep₁⟩ := X.invokevirtual hx ho hl hnamed hmethM hstM hkP hkPi hy (a := b) (cell := cellB) (by rw [hT]; exact hcB)
    (fun z h => by rw [h] at hoB; cases hoB) hselP hmethM habM hkP hkPi (g := g) hg (argsL := As) (rest := rest) (hn.trans (hlen _ hsigM)) hstack (by rw [hb]; exact hdg)
  obtain ⟨v, t, T', L, X', hL, e1, e2, hq, st⟩ := thrown_by X₁ hM (g := { g with stack := rest }) hg (hsize.trans hml.symm) (ig := .invokevirtual index) (len := 3) (by rw [hb]; exact hdg) (W := 8) hW (X₁.named hnamed) hrc hrs hfr hlo hws hcw
    (fun a' V hV => word_at hV (Or.inl (by first | rfl | simp [Cond.onTables, Cond.keeps, Cond.steady])) hini) hf (a := (Value.ref b :: As).toArray) (hblind _ _ _ _ (hPc (T.setVm vm₁) hT X₁.warmed))
  exact ⟨v, (T.setVm vm₁).calling { g with stack := rest } mk (Value.ref b :: As).toArray, t, T', L, hT, X', hL, e1, e2, hq, hstep₁ _ fun acts => by rw [doInvoke_state]; exact st⟩
end Thrown
/-! what the throws need of the statics of Throwable and of the two written texts -/
def TZs (n d : String) (A : Nat → Prop) (U : State) (H : Heap) : Prop := ∃ (c : ClassId) (k : Class) (i : Nat) (f : Field) (a : Addr) (cell : Cell), U.vm.findClass Bundle.tN = some c ∧ U.fieldFound? Bundle.tN n d = some (c, k, i, f) ∧ f.isStatic = true ∧ k.statics = some a ∧ H[a]? = some cell ∧ cell.vm.isStatics = true ∧ cell.cls = c ∧ f.slot < cell.slots.size ∧ k.staticTypes[f.slot]? = some f.type ∧ (∃ r, cell.slots[f.slot]? = some (.ref r)) ∧ ¬ A a
theorem TZs.moved {n d : String} {A : Nat → Prop} {u U : State} {H : Heap} (hvm : u.vm.Alike U.vm) (h : TZs n d A u H) : TZs n d A U H := by
  obtain ⟨c, k, i, f, a, cell, h1, h2, h3, h4, h5, h6, h7, h8, h9, h10, h11⟩ := h
  obtain ⟨k', hi', he⟩ := State.fieldFound?_setVm hvm h2
  exact ⟨c, k', i, f, a, cell, by rw [hvm.findClass]; exact h1, hi', h3, by rw [he]; exact h4, h5, h6, h7, h8, by rw [he]; exact h9, h10, h11⟩
theorem TZs.kept {n d : String} {A : Nat → Prop} {U : State} {H H1 : Heap} (h : TZs n d A U H) (hq : ∀ a : Nat, a < H.size → ¬ A a → H1[a]? = H[a]?) : TZs n d A U H1 := by
  obtain ⟨c, k, i, f, a, cell, h1, h2, h3, h4, h5, h6, h7, h8, h9, h10, h11⟩ := h
  exact ⟨c, k, i, f, a, cell, h1, h2, h3, h4, by rw [hq a (Array.getElem?_eq_some_iff.mp h5).1 h11]; exact h5, h6, h7, h8, h9, h10, h11⟩
theorem TZs.weak {n d : String} {A B : Nat → Prop} {U : State} {H : Heap} (h : TZs n d A U H) (hAB : ∀ q, B q → A q) : TZs n d B U H := by
  obtain ⟨c, k, i, f, a, cell, h1, h2, h3, h4, h5, h6, h7, h8, h9, h10, h11⟩ := h
  exact ⟨c, k, i, f, a, cell, h1, h2, h3, h4, h5, h6, h7, h8, h9, h10, fun z => h11 (hAB a z)⟩
theorem va_at_ns {D : va_G} {cl : List vw_C} {q : Nat × va_E} {H : Heap} (h : va_at D cl q H) : ∃ cell : Cell, H[q.1]? = some cell ∧ cell.vm.isStatics = false := by
  obtain ⟨a, x⟩ := q
  cases x with
  | inl z =>
    refine ⟨_, h, ?_⟩
    obtain ⟨cA, n, f⟩ := z
    rcases f with f | f | f | f | f <;> rfl
  | inr z =>
    obtain ⟨r, -, cell, h1, -, h3, -⟩ := h
    exact ⟨cell, h1, by rw [h3]; rfl⟩
theorem TZs.self {n d : String} {D : va_G} {cl : List vw_C} {ws : va_W} {U : State} {H : Heap} (h : TZs n d (fun _ => False) U H) (hP : va_P D cl ws H) : TZs n d (va_A ws H.size) U H := by
  obtain ⟨c, k, i, f, a, cell, h1, h2, h3, h4, h5, h6, h7, h8, h9, h10, -⟩ := h
  refine ⟨c, k, i, f, a, cell, h1, h2, h3, h4, h5, h6, h7, h8, h9, h10, fun z => ?_⟩
  rcases z with ⟨j, e, hj⟩ | z
  · obtain ⟨cell', q1, q2⟩ := va_at_ns (hP j _ hj)
    have hq : some cell = some cell' := h5.symm.trans q1
    cases hq
    rw [h6] at q2
    cases q2
  · exact absurd (Array.getElem?_eq_some_iff.mp h5).1 (Nat.not_lt.mpr z)
theorem TZs.lays {n d : String} {A : Nat → Prop} {s : State} {args : Array Value} (h : TZs n d A s s.heap) : (Cond.laysStatic Bundle.tN n d).before args s = true := by
  obtain ⟨c, k, i, f, a, cell, h1, h2, h3, h4, h5, h6, h7, h8, h9, -, -⟩ := h
  exact Cond.laysStatic_of h1 h2 h3 h4 h5 h6 h7 h8 h9
theorem TZs.isRef {n d : String} {A : Nat → Prop} {s : State} {args : Array Value} (h : TZs n d A s s.heap) : (Cond.isRef (.static Bundle.tN n d)).before args s = true := by
  obtain ⟨c, k, i, f, a, cell, h1, h2, h3, h4, h5, h6, h7, h8, h9, ⟨r, h10⟩, -⟩ := h
  simp [Cond.before, Cond.holds, Cond.value, Term.eval, State.fieldNamed?, h1, h2, h3, h4, h5, h6, h10]
def TX1 : String := "out of its bounds, not kept or not used"
def TX2 : String := "the power failed"
def IAE : String := "java/lang/IllegalArgumentException"
def ISE : String := "java/lang/IllegalStateException"
def exNames : List String := ["java/lang/RuntimeException", "java/lang/Exception"]
/-- words of the tables that a change of the tables leaves, though they aren't among the kept ones -/
def dcW : List MethodName := [⟨"java/lang/RuntimeException", "<init>", "(Ljava/lang/String;)V"⟩, ⟨"java/lang/Exception", "<init>", "(Ljava/lang/String;)V"⟩, ⟨"java/lang/Throwable", "<init>", "(Ljava/lang/String;)V"⟩]
def csW : List (String × String) := [(IAE, IAE), (ISE, ISE)]
def XW (U : State) : Prop := (∀ y ∈ dcW, (Cond.declares y).before #[] U = true) ∧ ∀ q ∈ csW, (Cond.castable q.1 q.2).before #[] U = true
theorem XW.moved {u U : State} (hvm : u.vm.Alike U.vm) (h : XW u) : XW U := by
  refine ⟨fun y hy => ?_, fun q hq => ?_⟩
  · have h1 : (Cond.declares y).before #[] (u.setVm U.vm) = true := by rw [Cond.declares_setVm hvm]; exact h.1 y hy
    exact h1
  · have h1 : (Cond.castable q.1 q.2).before #[] (u.setVm U.vm) = true := by rw [Cond.castable_setVm hvm]; exact h.2 q hq
    exact h1
/-- which of the two exceptions is caught by which -/
def AS (U : State) : Prop := ∃ c1 c2 : ClassId, U.vm.findClass IAE = some c1 ∧ U.vm.findClass ISE = some c2 ∧ U.vm.assignable c1 c1 = true ∧ U.vm.assignable c2 c2 = true ∧ U.vm.assignable c2 c1 = false
theorem AS.moved {u U : State} (hvm : u.vm.Alike U.vm) (h : AS u) : AS U := by
  obtain ⟨c1, c2, h1, h2, h3, h4, h5⟩ := h
  exact ⟨c1, c2, by rw [hvm.findClass]; exact h1, by rw [hvm.findClass]; exact h2, by rw [hvm.assignable]; exact h3, by rw [hvm.assignable]; exact h4, by rw [hvm.assignable]; exact h5⟩
def TZ (A : Nat → Prop) (U : State) (H : Heap) : Prop := (TZs "UNASSIGNED_STACK" Bundle.steD A U H ∧ TZs "SUPPRESSED_SENTINEL" Bundle.listD A U H) ∧ ((∃ q, vk_R "BookTrees" 197 TX1 q U) ∧ ∃ q, vk_R "BookTrees" 204 TX2 q U) ∧ XW U ∧ AS U
theorem TZ.warm {A : Nat → Prop} {u U : State} {H : Heap} (hW : u.WarmedH U.vm) (h : TZ A u H) : TZ A U H := by
  obtain ⟨⟨h1, h2⟩, ⟨⟨q, h3⟩, q2, h4⟩, h5, h6⟩ := h
  exact ⟨⟨h1.moved hW.alike, h2.moved hW.alike⟩, ⟨⟨q, h3.warm hW⟩, q2, h4.warm hW⟩, h5.moved hW.alike, h6.moved hW.alike⟩
theorem TZ.kept {A : Nat → Prop} {U : State} {H H1 : Heap} (h : TZ A U H) (hq : ∀ a : Nat, a < H.size → ¬ A a → H1[a]? = H[a]?) : TZ A U H1 := ⟨⟨h.1.1.kept hq, h.1.2.kept hq⟩, h.2⟩
theorem TZ.weak {A B : Nat → Prop} {U : State} {H : Heap} (h : TZ A U H) (hAB : ∀ q, B q → A q) : TZ B U H := ⟨⟨h.1.1.weak hAB, h.1.2.weak hAB⟩, h.2⟩
theorem TZ.self {D : va_G} {cl : List vw_C} {ws : va_W} {U : State} {H : Heap} (h : TZ (fun _ => False) U H) (hP : va_P D cl ws H) : TZ (va_A ws H.size) U H := ⟨⟨h.1.1.self hP, h.1.2.self hP⟩, h.2⟩
theorem TZ.same {A : Nat → Prop} {u U : State} {H : Heap} (hv : U.vm = u.vm) (h : TZ A u H) : TZ A U H := by
  obtain ⟨⟨h1, h2⟩, ⟨⟨q, h3⟩, q2, h4⟩, h5, h6⟩ := h
  have ha : u.vm.Alike U.vm := by rw [hv]; exact Vm.Alike.refl _
  exact ⟨⟨h1.moved ha, h2.moved ha⟩, ⟨⟨q, vk_R.same hv h3⟩, q2, vk_R.same hv h4⟩, h5.moved ha, h6.moved ha⟩
def exSpecial : List Cond := [.laysStatic Bundle.tN "UNASSIGNED_STACK" Bundle.steD, .laysStatic Bundle.tN "SUPPRESSED_SENTINEL" Bundle.listD, .isRef (.static Bundle.tN "UNASSIGNED_STACK" Bundle.steD), .isRef (.static Bundle.tN "SUPPRESSED_SENTINEL" Bundle.listD)]
def exOk (w : Cond) : Bool := decide (w ∈ exSpecial) || decide (w ∈ dcW.map Cond.declares) || decide (w ∈ csW.map fun q => Cond.castable q.1 q.2) || (decide (w ∈ lw_tbl) && goodWord w)
theorem atoms_IAE : (Bundle.ownAtoms "BookTrees" 199 IAE exNames).all exOk = true := by decide +kernel
theorem atoms_ISE : (Bundle.ownAtoms "BookTrees" 206 ISE exNames).all exOk = true := by decide +kernel
theorem atoms_hold {ic : Nat} {X : String} (h : (Bundle.ownAtoms "BookTrees" ic X exNames).all exOk = true) {A : Nat → Prop} {s : State} {args : Array Value} (ht : ∀ w ∈ lw_g, w.before args s = true) (hZ : TZ A s s.heap) : ∀ w ∈ Bundle.ownAtoms "BookTrees" ic X exNames, w.before args s = true := by
  intro w hw
  have h1 := List.all_eq_true.mp h w hw
  simp only [exOk, Bool.or_eq_true, Bool.and_eq_true, decide_eq_true_eq] at h1
  rcases h1 with ((h1 | h1) | h1) | ⟨h1, h2⟩
  · simp only [exSpecial, List.mem_cons, List.not_mem_nil, or_false] at h1
    rcases h1 with rfl | rfl | rfl | rfl
    · exact hZ.1.1.lays
    · exact hZ.1.2.lays
    · exact hZ.1.1.isRef
    · exact hZ.1.2.isRef
  · obtain ⟨y, hy, rfl⟩ := List.mem_map.mp h1
    exact hZ.2.2.1.1 y hy
  · obtain ⟨q, hq, rfl⟩ := List.mem_map.mp h1
    exact hZ.2.2.1.2 q hq
  · exact ht w (gw h1 h2)
end
section
/-! the throw itself; out of a caller; into a handler -/
def WpT (G : GG) (ws : va_W) (sz : Nat) : State → Prop := fun U => Wp G ws sz U ∧ TZ (fun _ => False) U U.heap
theorem WpT_blind {G : GG} {ws : va_W} {sz : Nat} {av : List Value} : FrameBlind (va_Pc av (WpT G ws sz)) := by
  intro a U g mk q
  obtain ⟨q0, ⟨q1, qP, qK, qD⟩, qZ⟩ := q
  exact ⟨q0, ⟨q1, qP, va_K.moved (u := U) (U := U.calling g mk a) (Vm.Alike.refl U.vm) qK, qD⟩, TZ.same (u := U) (U := U.calling g mk a) rfl qZ⟩
/-- how a method ends that throws: an object of the class, the world as it was -/
def QT (G : GG) (ws : va_W) (X : String) (A : Nat → Prop) : Array Value → State → Outcome → State → Prop := fun _ st oc t =>
  ∃ a : Addr, oc = .threw a ∧ (∃ cell : Cell, t.heap[a]? = some cell ∧ cell.vm.isStatics = false ∧ t.vm.findClass X = some cell.cls) ∧ va_P G.1 classes ws t.heap ∧ va_K G.1 classes (tysG G) t ∧ va_D A ws ∧ va_F A st t
def CtT (l : Launch) (y : MethodName) (b : ByteArray) (maxL : Nat) (ret : Option FieldType) (rm : Room) (G : GG) (ws : va_W) (sz : Nat) (av : List Value) (X : String) : Prop :=
  MetT l y (lw_ws y b maxL ret) rm (va_Pc av (WpT G ws sz)) (QT G ws X (va_A ws sz)) 1 6 (va_A ws sz)
def BodyT (l : Launch) (y : MethodName) (b : ByteArray) (maxL : Nat) (ret : Option FieldType) (rm : Room) (G : GG) (ws : va_W) (av : List Value) (X : String) : Prop :=
  ∀ (p : Program) (e : Env) (s : State) (m : MethodId) (below : List Frame) (meth : Method) (c : Code), l.admits e → p.tables.exec = Jvm.exec → c.code = b → meth.sig.returnType = ret → c.maxLocals = maxL → s.vm.findClass y.cls = some m.cls → meth.locks = false → c.exceptionTable.toList = [] →
    (∀ w ∈ lw_g, w.before av.toArray s = true) → va_K G.1 classes (tysG G) s → ∀ A : Nat → Prop, (∀ q, s.heap.size ≤ q → A q) → TZ A s s.heap → va_P G.1 classes ws s.heap → va_D A ws → va_S A s.heap s.heap [] →
    ∀ ls : Array Slot, lv_has ls maxL (lv_args 0 av) → W p l e rm s m av.toArray below meth c s.heap [] 0 0 (MQT below (QT G ws X A) av.toArray s 1 6 A) (F0 m 0 ls [])
theorem MetT_of {l : Launch} {y : MethodName} {b : ByteArray} {maxL : Nat} {ret : Option FieldType} {rm : Room} {G : GG} {ws : va_W} {sz : Nat} {av : List Value} {X : String} (hy : plainName y.cls = true) (hlen : (lg_sl av).length ≤ maxL) (body : BodyT l y b maxL ret rm G ws av X) :
    CtT l y b maxL ret rm G ws sz av X := by
  refine MetT.ofW (cc := b) (maxL := maxL) (ret := ret) hy rfl ?_
  intro p e s m args below meth c s₁ B hml hv
  obtain ⟨rfl, ⟨hsz, hP, hK, hD0⟩, hZ⟩ := hv
  have hts := atoms_spec (ws := lw_ws y b maxL ret) B.pre
  subst hsz
  have hex : c.exceptionTable.toList = [] := by
    obtain ⟨meth', c', h1, h2, -, -, -, -, h7, -⟩ := Cond.code_spec B.named (hts _ List.mem_cons_self)
    cases B.method.symm.trans h1
    cases ((Stand.of_body B).code).symm.trans h2
    simpa using h7
  rw [lg_entry_eq]
  exact body p e s m below meth c B.admits B.exec B.bytes B.returns hml (findClass_of_methodNamed B.named) B.notSynchronized hex (fun w h => hts w (List.mem_cons_of_mem _ h)) hK (va_A ws s.heap.size) (fun q h => Or.inr h) (hZ.self hP) hP hD0.self va_S.rf _ (lv_entry av hlen)
section Catch
variable {p : Program} {l : Launch} {e : Env} {R : Room} {s : State} {m : MethodId} {args : Array Value} {below : List Frame} {meth : Method} {c : Code} {H H0 : Heap} {locs : List Loc} {cells slots : Nat} {Q : State → Prop}
  {G : GG} {ws : va_W} {A : Nat → Prop} {pc : Nat} {ls : Array Slot} {st0 rest : List Value} {cc bytes : ByteArray} {nL maxL index n : Nat} {own C X : String} {y : MethodName} {ret : Option FieldType} {rm : Room} {b ci q0 N : Nat} {T : u_T} {fs As : List Value}
/-- throw new X("..."), with nothing written since the entry -/
theorem thr_row {ia ib ic : Nat} {tx : String} (hfl : l.flags = flags0) (hx : p.tables.exec = Jvm.exec) (hb : c.code = cc) (hml : c.maxLocals = nL) (hown : s.vm.findClass "BookTrees" = some m.cls) (hlocks : meth.locks = false) (hex : c.exceptionTable.toList = []) (ht : ∀ w ∈ lw_g, w.before args s = true) (hK : va_K G.1 classes (tysG G) s) (hZ : TZ A s s.heap) (hA : ∀ q, s.heap.size ≤ q → A q) (hP : va_P G.1 classes ws s.heap) (hD : va_D A ws)
    (hfit : Bundle.fit X = true) (hall : (Bundle.ownAtoms "BookTrees" ic X exNames).all exOk = true) (hcl : Cond.classLink "BookTrees" ia X ∈ lw_g) (hins : Cond.instantiable X 6 ∈ lw_g) (hini : Cond.initialized X ∈ lw_g) (hstr : ∃ q, vk_R "BookTrees" ib tx q s) (hls : ls.size = nL)
    (d0 : decode cc pc = .ok (.new ia, 3)) (d3 : decode cc (pc + 3) = .ok (.dup, 1)) (d4 : decode cc (pc + 4) = .ok (.ldc ib, 2)) (d6 : decode cc (pc + 6) = .ok (.invokespecial ic, 3)) (d9 : decode cc (pc + 9) = .ok (.athrow, 1)) (hRf : 5 < R.frames) (hRl : 82 ≤ R.locals) (hRc : 1 ≤ R.cells) (hRs : 6 ≤ R.slots) :
    W p l e R s m args below meth c s.heap [] 0 0 (MQT below (QT G ws X A) args s 1 6 A) (F0 m pc ls []) := by
  obtain ⟨q, hq⟩ := hstr
  obtain ⟨cX, kX0, hfc, -⟩ := Cond.instantiable_spec (ht _ hins)
  refine W.newcK hx hb hown (ht _ hcl) (ht _ hins) (ht _ hini) rfl d0 (by omega) (by omega) hfc rfl (fun H1 kC hkC e1 z1 o1 => ?_)
  refine lv_dup hx hb d3 rfl ?_
  refine va_ldcS hx hb hown hq d4 ?_
  intro T0 hT X0
  obtain ⟨U, st, hrun, hend, hW, hsame, ce, hce, hoc⟩ := X0.ctorThrowS hx (Launch.traces_off hfl X0.admits) (own := "BookTrees") (cls := X) (names := exNames) (ic := ic) hown hfit (by decide) (atoms_hold hall ht hZ) (fun x h => by cases h) hfc hkC (a := s.heap.size) (by rw [hT]; exact e1) (Nat.le_refl _) (msg := .ref q) rfl
    (g := F0 m (pc + 6) ls [.ref q, .ref s.heap.size, .ref s.heap.size]) rfl (hls.trans hml.symm) rfl rfl (rest := []) rfl (by rw [hb]; exact d6) (by rw [hb]; exact d9) (by rw [hex]; intro x h; cases h) (by show 2 + 3 < R.frames; omega) (by show 2 * 0 + 1 + (13 * 3 + 42) ≤ R.locals; omega) hlocks
  have hkeep : ∀ j : Nat, j < s.heap.size → U.heap[j]? = s.heap[j]? := by
    intro j hj
    obtain ⟨c0, hc0⟩ : ∃ c0, s.heap[j]? = some c0 := ⟨_, Array.getElem?_eq_getElem hj⟩
    obtain ⟨c', h1, h2, h3, h4⟩ := hsame.2.2.2.2.2 j c0 hc0
    have h5 : c'.slots = c0.slots := Array.ext_getElem? (fun i => h4 i (by simp))
    have h1' : U.heap[j]? = some c' := h1
    rw [h1', hc0, h2, h5]
  refine ⟨U, st, .threw s.heap.size, hrun, hend, ⟨s.heap.size, rfl, ⟨ce, hce, by rw [hoc.vm]; rfl, by rw [hW.alike.findClass]; exact hoc.cls⟩, ?_, va_K.moved hW.alike hK, hD, ⟨hsame.2.1, fun j h1 _ => hkeep j h1⟩⟩, [], ⟨⟨_, rfl⟩, hW, hsame⟩, fun q h => by cases h⟩
  exact hP.kept (fun k x hx => hkeep x.1 ((hP k x hx).lt))
theorem run_VT {F : Array Value → State → Outcome → State → Prop} {free : Addr → Prop} {mc ms : Nat} (hx : p.tables.exec = Jvm.exec) (hb : c.code = cc) (hml : c.maxLocals = nL) (hown : s.vm.findClass own = some m.cls) (ht : ∀ w ∈ lw_g, w.before args s = true) (hK : va_K G.1 classes (tysG G) s) (hP : va_P G.1 classes ws H) (hD : va_D A ws) (hZ : TZ A s H)
    (hM : MetT l y (lw_ws y bytes maxL ret) rm (va_Pc (.ref b :: As) (WpT G ws H.size)) F mc ms free) (cw : CallW R s args own y.cls index y bytes maxL ret (lw_ws y bytes maxL ret) rm mc ms n) (he : ws[q0]? = some (b, .inr (ci, fs))) (hc : classes[ci]? = some (y.cls, T, N))
    (hn : As.length = n) (hsize : ls.size = nL) (hstack : st0 = As.reverse ++ .ref b :: rest) (hW : (rest.map fun v => v.category).sum ≤ 8) (hdg : decode cc pc = .ok (.invokevirtual index, 3)) (hf : cells + mc ≤ R.cells ∧ slots + ms ≤ R.slots) :
    RunT p l e R s m args below meth c H locs cells slots mc ms (F0 m pc ls st0) rest (F (Value.ref b :: As).toArray) free :=
  runVT ⟨hx, hb, hml, hown, ht⟩ hM cw ⟨WpT_blind, va_recv hK hP hc he, fun U hU hW => ⟨rfl, ⟨by rw [hU], by rw [hU]; exact hP, va_K.moved hW.alike hK, hD.weaken (fun _ _ _ _ => trivial)⟩, by rw [hU]; exact (hZ.weak (fun _ z => z.elim)).warm hW⟩⟩ rfl hn hsize hstack (lv_room hW) hdg hf
/-- out of the caller, who has no handler -/
theorem out_T {a : Array Value} (hr : RunT p l e R s m args below meth c H locs 0 0 1 6 (F0 m pc ls st0) rest (QT G ws X (va_A ws H.size) a) (va_A ws H.size)) (hlocks : meth.locks = false) (hex : c.exceptionTable.toList = []) (hD : va_D A ws) (hS : va_S A s.heap H locs) (hA : ∀ q, s.heap.size ≤ q → A q) :
    W p l e R s m args below meth c H locs 0 0 (MQT below (QT G ws X A) args s 1 6 A) (F0 m pc ls st0) := by
  have hF := own_free hD hS hA
  intro T0 hT X0
  obtain ⟨v, st₀, t, T', L, h0, X', hL, e1, e2, ⟨a1, ha1, ⟨cell, hc1, hc2, hc3⟩, hP1, hK1, hD1, hF1⟩, st⟩ := hr T0 hT X0
  cases ha1
  obtain ⟨l1, l2, l3, l4, l5⟩ := X'.leaveThrown v (g := { F0 m pc ls st0 with stack := rest }) rfl rfl rfl (by rw [hex]; intro x h; cases h) hlocks
  obtain ⟨hF1, hF2⟩ := hF1
  rw [h0] at hF1 hF2
  refine ⟨T'.setFrames (.throwing v :: below), st.trans l1, .threw v, l2, l3, ⟨v, rfl, ⟨cell, by show T'.heap[v]? = _; rw [e1]; exact hc1, hc2, by show T'.vm.findClass X = _; rw [e2]; exact hc3⟩, by show va_P _ _ _ T'.heap; rw [e1]; exact hP1, ?_, hD, ?_⟩, locs ++ L, ⟨⟨_, rfl⟩, l4, l5⟩, ?_⟩
  · exact va_K.moved (u := t) (U := T'.setFrames (.throwing v :: below)) (by show t.vm.Alike T'.vm; rw [e2]; exact Vm.Alike.refl _) hK1
  · refine ⟨?_, fun q h1 h2 => ?_⟩
    · show s.heap.size ≤ T'.heap.size
      rw [e1]; exact Nat.le_trans hS.1 hF1
    · show T'.heap[q]? = s.heap[q]?
      rw [e1, hF2 q (Nat.lt_of_lt_of_le h1 hS.1) (fun z => h2 (hF q z))]
      exact hS.2.1 q h1 h2
  · intro q hq
    rcases List.mem_append.mp hq with h | h
    · exact hS.2.2 q h
    · exact hF _ (hL q h)
end Catch
end
section
/-! into a handler: the search for it resolves the classes that the entries name -/
def FT (e : Env) (s : State) (f : JFrame) (a : Addr) (h : Handler) (vm' : Vm) : Prop :=
  ∀ (Q : Handler → Pre) (E : CtlPost) (d : Bool) (acts : List Action), wp (findHandler f a) Q E e d acts s ↔ Q h d acts (s.setVm vm')
section Fh
variable {Q : Handler → Pre} {E : CtlPost} {e : Env} {d : Bool} {acts : List Action} {s : State} {f : JFrame} {a : Addr} {x : ExceptionTableEntry} {t : List ExceptionTableEntry} {c : ClassId} {cell : Cell}
theorem fh_yes (hx : covers x f.pc = true) (h0 : x.catchType ≠ 0) (hl : s.vm.ClassLinks e.platform f.method.cls x.catchType c) (hcell : s.heap[a]? = some cell) (hobj : ∀ k, cell.vm ≠ .statics k)
    (hk : ∃ k, s.vm.classes[cell.cls]? = some k) (hc : ∃ k, s.vm.classes[c]? = some k) (hfit : s.vm.assignable cell.cls c = true) :
    wp (findHandler.go f a (x :: t)) Q E e d acts s ↔ Q (.found x.handlerPc) d acts (s.setVm (s.vm.noted f.method.cls x.catchType (.cls c))) := by
  simp only [covers] at hx
  obtain ⟨ha, hv⟩ := (resolveClass_links e.toSetting hl).op (op := VmOp.resolveClass f.method.cls x.catchType) rfl
  have hal : s.vm.Alike (s.vm.noted f.method.cls x.catchType (.cls c)) := (Vm.Alike.refl s.vm).noted _ _ _
  obtain ⟨k1, hk1⟩ := hk
  obtain ⟨k2, hk2⟩ := hc
  obtain ⟨k3, hk3, -⟩ := hal.2.2 _ _ hk1
  obtain ⟨k4, hk4, -⟩ := hal.2.2 _ _ hk2
  have hf : (s.vm.noted f.method.cls x.catchType (.cls c)).assignable cell.cls c = true := by rw [hal.assignable]; exact hfit
  simp [findHandler.go, hx, h0, ha, hv, hcell, hobj, hk3, hk4, hf, VmOp.dirties, VmOp.acts]
theorem fh_no (hx : covers x f.pc = true) (h0 : x.catchType ≠ 0) (hl : s.vm.ClassLinks e.platform f.method.cls x.catchType c) (hcell : s.heap[a]? = some cell) (hobj : ∀ k, cell.vm ≠ .statics k)
    (hk : ∃ k, s.vm.classes[cell.cls]? = some k) (hc : ∃ k, s.vm.classes[c]? = some k) (hno : s.vm.assignable cell.cls c = false) :
    wp (findHandler.go f a (x :: t)) Q E e d acts s ↔ wp (findHandler.go f a t) Q E e d acts (s.setVm (s.vm.noted f.method.cls x.catchType (.cls c))) := by
  simp only [covers] at hx
  obtain ⟨ha, hv⟩ := (resolveClass_links e.toSetting hl).op (op := VmOp.resolveClass f.method.cls x.catchType) rfl
  have hal : s.vm.Alike (s.vm.noted f.method.cls x.catchType (.cls c)) := (Vm.Alike.refl s.vm).noted _ _ _
  obtain ⟨k1, hk1⟩ := hk
  obtain ⟨k2, hk2⟩ := hc
  obtain ⟨k3, hk3, -⟩ := hal.2.2 _ _ hk1
  obtain ⟨k4, hk4, -⟩ := hal.2.2 _ _ hk2
  have hf : (s.vm.noted f.method.cls x.catchType (.cls c)).assignable cell.cls c = false := by rw [hal.assignable]; exact hno
  simp [findHandler.go, hx, h0, ha, hv, hcell, hobj, hk3, hk4, hf, VmOp.dirties, VmOp.acts]
end Fh
theorem caught_to {tb : Tables} {e : Env} {s target : State} {g : JFrame} {c : Code} {below : List Frame} {a : Addr} (h : At s g.method c below) {pc : Nat} {vm' : Vm}
    (hfind : FT e ((s.setTop g).pushFrame (.throwing a)) g a (.found pc) vm') (hrest : Steps tb e below ((s.setVm vm').setTop { g with pc := pc, stack := [.ref a] }) target) :
    Steps tb e below ((s.setTop g).pushFrame (.throwing a)) target := by
  have hstep : ∀ r : List Frame, (stepThrowing e ((s.setTop g).pushFrame (.throwing a)) a (.java g :: r)).1 = (((s.setTop g).pushFrame (.throwing a)).setVm vm').setFrames (.java { g with pc := pc, stack := [.ref a] } :: r) := by
    intro r
    simp only [stepThrowing, searchFrame, vmDo]
    generalize hr : Sem.go _ e false [] ((s.setTop g).pushFrame (.throwing a)) = res
    obtain ⟨as, rfl, ha⟩ := Sem.eq_ok_of hr (a := Handler.found pc) (s' := ((s.setTop g).pushFrame (.throwing a)).setVm vm') (acts' := []) (by simp [hfind _ _ _ _])
    rfl
  obtain ⟨hgo, hw⟩ := h.throwing a
  refine Steps.head hgo hw ?_
  rw [stepThread_throwing (frames_entered h.top _), hstep]
  obtain ⟨g0, hg⟩ := Option.isSome_iff_exists.mp h.top
  obtain ⟨r, hr⟩ := State.topJava?_eq_some.mp hg
  have hr2 : (s.setVm vm').frames = .java g0 :: r := hr
  have hss : ∀ (u : State) (F K : List Frame), ((u.setFrames F).setVm vm').setFrames K = (u.setVm vm').setFrames K := by
    intro u F K
    have h1 : (u.setFrames F).setVm vm' = (u.setVm vm').setFrames F := rfl
    rw [h1, State.setFrames_setFrames]
  rw [State.setTop_of_frames _ hr2] at hrest
  rw [hr, List.tail_cons, State.pushFrame, hss, State.setTop_of_frames _ hr, hss]
  exact hrest
section Cat
variable {p : Program} {l : Launch} {e : Env} {R : Room} {s : State} {m : MethodId} {args : Array Value} {below : List Frame} {meth : Method} {c : Code} {H H0 : Heap} {locs : List Loc} {cells slots : Nat} {Q : State → Prop}
  {G : GG} {ws : va_W} {A : Nat → Prop} {pc : Nat} {ls : Array Slot} {st0 rest : List Value} {own : String}
/-- what the row behind a catch is given -/
def KK (p : Program) (l : Launch) (e : Env) (R : Room) (s : State) (m : MethodId) (args : Array Value) (below : List Frame) (meth : Method) (c : Code) (H0 : Heap) (cells slots : Nat) (Q : State → Prop) (G : GG) (ws : va_W) (A : Nat → Prop) (ls : Array Slot) (hpc : Nat) : Prop :=
  ∀ (v : Nat) (H1 : Heap) (locs1 : List Loc), va_P G.1 classes ws H1 → va_D A ws → va_S A H0 H1 locs1 → W p l e R s m args below meth c H1 locs1 (cells + 1) (slots + 6) Q (F0 m hpc ls [.ref v])
theorem cat_pre {X : String} {a : Array Value} (hr : RunT p l e R s m args below meth c H locs cells slots 1 6 (F0 m pc ls st0) rest (QT G ws X (va_A ws H.size) a) (va_A ws H.size)) (hD : va_D A ws) (hS : va_S A H0 H locs) (hA : ∀ q, H0.size ≤ q → A q) {hpc : Nat}
    (hfind : ∀ (T : State) (locs2 : List Loc) (v : Addr) (cell : Cell), Stand p l e R s m args below meth c T locs2 (cells + 1) (slots + 6) → T.heap[v]? = some cell → cell.vm.isStatics = false → s.vm.findClass X = some cell.cls → ∃ vm', s.WarmedH vm' ∧ FT e ((T.setTop (F0 m pc ls rest)).pushFrame (.throwing v)) (F0 m pc ls rest) v (.found hpc) vm')
    (kk : KK p l e R s m args below meth c H0 cells slots Q G ws A ls hpc) : W p l e R s m args below meth c H locs cells slots Q (F0 m pc ls st0) := by
  have hF := own_free hD hS hA
  intro T0 hT X0
  obtain ⟨v, st₀, t, T', L, h0, X', hL, e1, e2, ⟨a1, ha1, ⟨cell, hc1, hc2, hc3⟩, hP1, hK1, hD1, hF1, hF2⟩, st⟩ := hr T0 hT X0
  cases ha1
  rw [h0] at hF1 hF2
  obtain ⟨vm', hW', hft⟩ := hfind T' _ v cell X' (by rw [e1]; exact hc1) hc2 (by rw [← X'.warmed.alike.findClass, e2]; exact hc3)
  have X2 := X'.noted hW'
  obtain ⟨t2, s2, q2⟩ := kk v T'.heap (locs ++ L) (by rw [e1]; exact hP1) hD ⟨Nat.le_trans hS.1 (by rw [e1]; exact hF1), fun q h1 h2 => by rw [e1, hF2 q (Nat.lt_of_lt_of_le h1 hS.1) (fun z => h2 (hF q z))]; exact hS.2.1 q h1 h2, fun q hq => by
      rcases List.mem_append.mp hq with h | h
      · exact hS.2.2 q h
      · exact hF _ (hL q h)⟩ (T'.setVm vm') rfl X2
  exact ⟨t2, st.trans (caught_to X'.here hft s2), q2⟩
/-- the first entry takes it -/
theorem cat_1 {X : String} {a : Array Value} (hr : RunT p l e R s m args below meth c H locs cells slots 1 6 (F0 m pc ls st0) rest (QT G ws X (va_A ws H.size) a) (va_A ws H.size)) (hD : va_D A ws) (hS : va_S A H0 H locs) (hA : ∀ q, H0.size ≤ q → A q) (hown : s.vm.findClass own = some m.cls)
    {x : ExceptionTableEntry} {t : List ExceptionTableEntry} (htb : c.exceptionTable.toList = x :: t) (hx : covers x pc = true) (h0 : x.catchType ≠ 0) (hlink : (Cond.classLink own x.catchType X).before args s = true) (hself : ∀ c1, s.vm.findClass X = some c1 → s.vm.assignable c1 c1 = true)
    (kk : KK p l e R s m args below meth c H0 cells slots Q G ws A ls x.handlerPc) : W p l e R s m args below meth c H locs cells slots Q (F0 m pc ls st0) := by
  refine cat_pre hr hD hS hA (fun T locs2 v cell X1 hcell hobj hfc => ?_) kk
  have hpl : e.platform.magicAccessors = ({} : Platform).magicAccessors := by rw [X1.admits.platform]
  obtain ⟨c', hc', hcl⟩ := Cond.classLink_spec hown hlink e.platform hpl
  cases hfc.symm.trans hc'
  obtain ⟨dk, _, _, kt, hd, _, _, _, _, hkt, _, hopen⟩ := hcl.here
  have hW' : s.WarmedH (T.vm.noted m.cls x.catchType (.cls cell.cls)) := X1.warmed.noted hd hopen (State.rightAt_cls hcl)
  obtain ⟨kt', hkt', -⟩ := X1.warmed.alike.2.2 _ _ hkt
  refine ⟨_, hW', fun Q E d acts => ?_⟩
  rw [W.findHandler_eq (meth := meth) (code := c) X1.method' X1.code, htb]
  exact fh_yes (s := (T.setTop (F0 m pc ls rest)).pushFrame (.throwing v)) hx h0 (X1.warmed.classLinks hcl) hcell (VmData.ne_statics_of hobj) ⟨kt', hkt'⟩ ⟨kt', hkt'⟩ (by show T.vm.assignable _ _ = true; rw [X1.warmed.alike.assignable]; exact hself _ hfc)
/-- the first entry doesn't, the second does -/
theorem cat_2 {X Y : String} {a : Array Value} (hr : RunT p l e R s m args below meth c H locs cells slots 1 6 (F0 m pc ls st0) rest (QT G ws X (va_A ws H.size) a) (va_A ws H.size)) (hD : va_D A ws) (hS : va_S A H0 H locs) (hA : ∀ q, H0.size ≤ q → A q) (hown : s.vm.findClass own = some m.cls)
    {x x2 : ExceptionTableEntry} {t : List ExceptionTableEntry} (htb : c.exceptionTable.toList = x :: x2 :: t) (hx : covers x pc = true) (h0 : x.catchType ≠ 0) (hlink : (Cond.classLink own x.catchType Y).before args s = true) (hx2 : covers x2 pc = true) (h02 : x2.catchType ≠ 0) (hlink2 : (Cond.classLink own x2.catchType X).before args s = true)
    (hself : ∀ c1, s.vm.findClass X = some c1 → s.vm.assignable c1 c1 = true) (hother : ∀ c1 c2, s.vm.findClass X = some c1 → s.vm.findClass Y = some c2 → s.vm.assignable c1 c2 = false)
    (kk : KK p l e R s m args below meth c H0 cells slots Q G ws A ls x2.handlerPc) : W p l e R s m args below meth c H locs cells slots Q (F0 m pc ls st0) := by
  refine cat_pre hr hD hS hA (fun T locs2 v cell X1 hcell hobj hfc => ?_) kk
  have hpl : e.platform.magicAccessors = ({} : Platform).magicAccessors := by rw [X1.admits.platform]
  obtain ⟨cy, hcy, hcly⟩ := Cond.classLink_spec hown hlink e.platform hpl
  obtain ⟨c', hc', hcl⟩ := Cond.classLink_spec hown hlink2 e.platform hpl
  cases hfc.symm.trans hc'
  obtain ⟨dky, _, _, kty, hdy, _, _, _, _, hkty, _, hopeny⟩ := hcly.here
  obtain ⟨dk, _, _, kt, hd, _, _, _, _, hkt, _, hopen⟩ := hcl.here
  have hW1 : s.WarmedH (T.vm.noted m.cls x.catchType (.cls cy)) := X1.warmed.noted hdy hopeny (State.rightAt_cls hcly)
  have hW2 : s.WarmedH ((T.vm.noted m.cls x.catchType (.cls cy)).noted m.cls x2.catchType (.cls cell.cls)) := hW1.noted hd hopen (State.rightAt_cls hcl)
  obtain ⟨kt', hkt', -⟩ := X1.warmed.alike.2.2 _ _ hkt
  obtain ⟨kty', hkty', -⟩ := X1.warmed.alike.2.2 _ _ hkty
  obtain ⟨kt2, hkt2, -⟩ := hW1.alike.2.2 _ _ hkt
  refine ⟨_, hW2, fun Q E d acts => ?_⟩
  rw [W.findHandler_eq (meth := meth) (code := c) X1.method' X1.code, htb]
  rw [fh_no (s := (T.setTop (F0 m pc ls rest)).pushFrame (.throwing v)) hx h0 (X1.warmed.classLinks hcly) hcell (VmData.ne_statics_of hobj) ⟨kt', hkt'⟩ ⟨kty', hkty'⟩ (by show T.vm.assignable _ _ = false; rw [X1.warmed.alike.assignable]; exact hother _ _ hfc hcy)]
  exact fh_yes (s := ((T.setTop (F0 m pc ls rest)).pushFrame (.throwing v)).setVm (T.vm.noted m.cls x.catchType (.cls cy))) hx2 h02 (hW1.classLinks hcl) hcell (VmData.ne_statics_of hobj) ⟨kt2, hkt2⟩ ⟨kt2, hkt2⟩ (by show (T.vm.noted m.cls x.catchType (.cls cy)).assignable _ _ = true; rw [hW1.alike.assignable]; exact hself _ hfc)
end Cat
end
