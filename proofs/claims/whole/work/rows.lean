section
-- ===== PART A: goes FIRST, ahead of the names: the tables' words, and 'selects' of the private methods out of them =====
/-- a private method of a class that the tables say can be made, by its rows of tables_1 -/
def lw_okq (q : MethodName × Nat) : Prop := (q.1.cls ≠ "java/lang/invoke/MethodHandle" ∧ q.1.cls ≠ "java/lang/invoke/VarHandle") ∧ Cond.instantiable q.1.cls q.2 ∈ tables_1 ∧ Cond.privateMethod q.1 ∈ tables_1 ∧ Cond.instanceMethod q.1 ∈ tables_1
theorem lw_p0 : lw_okq (⟨"QuadKeys$Text", "readItem", "(LQuadKeys$Plan;I)I"⟩, 6) := ⟨⟨by decide +kernel, by decide +kernel⟩, List.mem_of_getElem? (i := 28) (by decide +kernel), List.mem_of_getElem? (i := 286) (by decide +kernel), List.mem_of_getElem? (i := 287) (by decide +kernel)⟩
theorem lw_p1 : lw_okq (⟨"QuadKeys$Text", "letterHere", "()C"⟩, 6) := ⟨⟨by decide +kernel, by decide +kernel⟩, List.mem_of_getElem? (i := 28) (by decide +kernel), List.mem_of_getElem? (i := 290) (by decide +kernel), List.mem_of_getElem? (i := 291) (by decide +kernel)⟩
theorem lw_p2 : lw_okq (⟨"QuadKeys$Text", "readKind", "()C"⟩, 6) := ⟨⟨by decide +kernel, by decide +kernel⟩, List.mem_of_getElem? (i := 28) (by decide +kernel), List.mem_of_getElem? (i := 294) (by decide +kernel), List.mem_of_getElem? (i := 295) (by decide +kernel)⟩
theorem lw_p3 : lw_okq (⟨"QuadKeys$Text", "mayStand", "(LQuadKeys$Plan;CI)Z"⟩, 6) := ⟨⟨by decide +kernel, by decide +kernel⟩, List.mem_of_getElem? (i := 28) (by decide +kernel), List.mem_of_getElem? (i := 298) (by decide +kernel), List.mem_of_getElem? (i := 299) (by decide +kernel)⟩
theorem lw_p4 : lw_okq (⟨"QuadKeys$Text", "readNumber", "(IC)I"⟩, 6) := ⟨⟨by decide +kernel, by decide +kernel⟩, List.mem_of_getElem? (i := 28) (by decide +kernel), List.mem_of_getElem? (i := 302) (by decide +kernel), List.mem_of_getElem? (i := 303) (by decide +kernel)⟩
theorem lw_p5 : lw_okq (⟨"QuadKeys$Text", "isTold", "(LQuadKeys$Plan;CI)Z"⟩, 6) := ⟨⟨by decide +kernel, by decide +kernel⟩, List.mem_of_getElem? (i := 28) (by decide +kernel), List.mem_of_getElem? (i := 309) (by decide +kernel), List.mem_of_getElem? (i := 310) (by decide +kernel)⟩
theorem lw_p6 : lw_okq (⟨"QuadKeys$Text", "put", "(LQuadKeys$Plan;CC)V"⟩, 6) := ⟨⟨by decide +kernel, by decide +kernel⟩, List.mem_of_getElem? (i := 28) (by decide +kernel), List.mem_of_getElem? (i := 320) (by decide +kernel), List.mem_of_getElem? (i := 321) (by decide +kernel)⟩
theorem lw_p7 : lw_okq (⟨"QuadKeys$Text", "blame", "(II)V"⟩, 6) := ⟨⟨by decide +kernel, by decide +kernel⟩, List.mem_of_getElem? (i := 28) (by decide +kernel), List.mem_of_getElem? (i := 344) (by decide +kernel), List.mem_of_getElem? (i := 345) (by decide +kernel)⟩
theorem lw_p8 : lw_okq (⟨"QuadKeys$Covers", "findShape", "(LQuadKeys$Plan;)V"⟩, 7) := ⟨⟨by decide +kernel, by decide +kernel⟩, List.mem_of_getElem? (i := 58) (by decide +kernel), List.mem_of_getElem? (i := 480) (by decide +kernel), List.mem_of_getElem? (i := 481) (by decide +kernel)⟩
theorem lw_p9 : lw_okq (⟨"QuadKeys$Covers", "findCovers", "(LQuadKeys$Plan;)V"⟩, 7) := ⟨⟨by decide +kernel, by decide +kernel⟩, List.mem_of_getElem? (i := 58) (by decide +kernel), List.mem_of_getElem? (i := 510) (by decide +kernel), List.mem_of_getElem? (i := 511) (by decide +kernel)⟩
theorem lw_p10 : lw_okq (⟨"QuadKeys$Plan", "pointKey", "(I)I"⟩, 7) := ⟨⟨by decide +kernel, by decide +kernel⟩, List.mem_of_getElem? (i := 125) (by decide +kernel), List.mem_of_getElem? (i := 534) (by decide +kernel), List.mem_of_getElem? (i := 535) (by decide +kernel)⟩
theorem lw_p11 : lw_okq (⟨"QuadKeys$Gaps", "filledBy", "(II)I"⟩, 2) := ⟨⟨by decide +kernel, by decide +kernel⟩, List.mem_of_getElem? (i := 75) (by decide +kernel), List.mem_of_getElem? (i := 642) (by decide +kernel), List.mem_of_getElem? (i := 643) (by decide +kernel)⟩
theorem lw_p12 : lw_okq (⟨"QuadKeysModel", "goesThrough", "(Z)I"⟩, 30) := ⟨⟨by decide +kernel, by decide +kernel⟩, List.mem_of_getElem? (i := 699) (by decide +kernel), List.mem_of_getElem? (i := 811) (by decide +kernel), List.mem_of_getElem? (i := 812) (by decide +kernel)⟩
theorem lw_p13 : lw_okq (⟨"QuadKeysModel", "readsItem", "(Z)Z"⟩, 30) := ⟨⟨by decide +kernel, by decide +kernel⟩, List.mem_of_getElem? (i := 699) (by decide +kernel), List.mem_of_getElem? (i := 815) (by decide +kernel), List.mem_of_getElem? (i := 816) (by decide +kernel)⟩
theorem lw_p14 : lw_okq (⟨"QuadKeysModel", "here", "()I"⟩, 30) := ⟨⟨by decide +kernel, by decide +kernel⟩, List.mem_of_getElem? (i := 699) (by decide +kernel), List.mem_of_getElem? (i := 819) (by decide +kernel), List.mem_of_getElem? (i := 820) (by decide +kernel)⟩
theorem lw_p15 : lw_okq (⟨"QuadKeysModel", "begins", "()I"⟩, 30) := ⟨⟨by decide +kernel, by decide +kernel⟩, List.mem_of_getElem? (i := 699) (by decide +kernel), List.mem_of_getElem? (i := 823) (by decide +kernel), List.mem_of_getElem? (i := 824) (by decide +kernel)⟩
def lw_privs_1 : List (MethodName × Nat) := [(⟨"QuadKeys$Text", "readItem", "(LQuadKeys$Plan;I)I"⟩, 6), (⟨"QuadKeys$Text", "letterHere", "()C"⟩, 6), (⟨"QuadKeys$Text", "readKind", "()C"⟩, 6), (⟨"QuadKeys$Text", "mayStand", "(LQuadKeys$Plan;CI)Z"⟩, 6), (⟨"QuadKeys$Text", "readNumber", "(IC)I"⟩, 6), (⟨"QuadKeys$Text", "isTold", "(LQuadKeys$Plan;CI)Z"⟩, 6), (⟨"QuadKeys$Text", "put", "(LQuadKeys$Plan;CC)V"⟩, 6), (⟨"QuadKeys$Text", "blame", "(II)V"⟩, 6), (⟨"QuadKeys$Covers", "findShape", "(LQuadKeys$Plan;)V"⟩, 7), (⟨"QuadKeys$Covers", "findCovers", "(LQuadKeys$Plan;)V"⟩, 7), (⟨"QuadKeys$Plan", "pointKey", "(I)I"⟩, 7), (⟨"QuadKeys$Gaps", "filledBy", "(II)I"⟩, 2), (⟨"QuadKeysModel", "goesThrough", "(Z)I"⟩, 30), (⟨"QuadKeysModel", "readsItem", "(Z)Z"⟩, 30), (⟨"QuadKeysModel", "here", "()I"⟩, 30), (⟨"QuadKeysModel", "begins", "()I"⟩, 30)]
theorem lw_r1 : ∀ q ∈ lw_privs_1, lw_okq q := List.forall_mem_cons.mpr ⟨lw_p0, List.forall_mem_cons.mpr ⟨lw_p1, List.forall_mem_cons.mpr ⟨lw_p2, List.forall_mem_cons.mpr ⟨lw_p3, List.forall_mem_cons.mpr ⟨lw_p4, List.forall_mem_cons.mpr ⟨lw_p5, List.forall_mem_cons.mpr ⟨lw_p6, List.forall_mem_cons.mpr ⟨lw_p7, List.forall_mem_cons.mpr ⟨lw_p8, List.forall_mem_cons.mpr ⟨lw_p9, List.forall_mem_cons.mpr ⟨lw_p10, List.forall_mem_cons.mpr ⟨lw_p11, List.forall_mem_cons.mpr ⟨lw_p12, List.forall_mem_cons.mpr ⟨lw_p13, List.forall_mem_cons.mpr ⟨lw_p14, List.forall_mem_cons.mpr ⟨lw_p15, fun _ h => absurd h List.not_mem_nil⟩⟩⟩⟩⟩⟩⟩⟩⟩⟩⟩⟩⟩⟩⟩⟩
theorem lw_p16 : lw_okq (⟨"QuadKeysModel", "mayBegin", "(I)Z"⟩, 30) := ⟨⟨by decide +kernel, by decide +kernel⟩, List.mem_of_getElem? (i := 699) (by decide +kernel), List.mem_of_getElem? (i := 827) (by decide +kernel), List.mem_of_getElem? (i := 828) (by decide +kernel)⟩
theorem lw_p17 : lw_okq (⟨"QuadKeysModel", "causes", "(II)Z"⟩, 30) := ⟨⟨by decide +kernel, by decide +kernel⟩, List.mem_of_getElem? (i := 699) (by decide +kernel), List.mem_of_getElem? (i := 831) (by decide +kernel), List.mem_of_getElem? (i := 832) (by decide +kernel)⟩
theorem lw_p18 : lw_okq (⟨"QuadKeysModel", "readsWorld", "()Z"⟩, 30) := ⟨⟨by decide +kernel, by decide +kernel⟩, List.mem_of_getElem? (i := 699) (by decide +kernel), List.mem_of_getElem? (i := 835) (by decide +kernel), List.mem_of_getElem? (i := 836) (by decide +kernel)⟩
theorem lw_p19 : lw_okq (⟨"QuadKeysModel", "number", "(IIII)Z"⟩, 30) := ⟨⟨by decide +kernel, by decide +kernel⟩, List.mem_of_getElem? (i := 699) (by decide +kernel), List.mem_of_getElem? (i := 839) (by decide +kernel), List.mem_of_getElem? (i := 840) (by decide +kernel)⟩
theorem lw_p20 : lw_okq (⟨"QuadKeysModel", "isFigure", "()Z"⟩, 30) := ⟨⟨by decide +kernel, by decide +kernel⟩, List.mem_of_getElem? (i := 699) (by decide +kernel), List.mem_of_getElem? (i := 843) (by decide +kernel), List.mem_of_getElem? (i := 844) (by decide +kernel)⟩
theorem lw_p21 : lw_okq (⟨"QuadKeysModel", "readsBox", "()Z"⟩, 30) := ⟨⟨by decide +kernel, by decide +kernel⟩, List.mem_of_getElem? (i := 699) (by decide +kernel), List.mem_of_getElem? (i := 847) (by decide +kernel), List.mem_of_getElem? (i := 848) (by decide +kernel)⟩
theorem lw_p22 : lw_okq (⟨"QuadKeysModel", "readsDisc", "()Z"⟩, 30) := ⟨⟨by decide +kernel, by decide +kernel⟩, List.mem_of_getElem? (i := 699) (by decide +kernel), List.mem_of_getElem? (i := 851) (by decide +kernel), List.mem_of_getElem? (i := 852) (by decide +kernel)⟩
theorem lw_p23 : lw_okq (⟨"QuadKeysModel", "lays", "(II)V"⟩, 30) := ⟨⟨by decide +kernel, by decide +kernel⟩, List.mem_of_getElem? (i := 699) (by decide +kernel), List.mem_of_getElem? (i := 855) (by decide +kernel), List.mem_of_getElem? (i := 856) (by decide +kernel)⟩
theorem lw_p24 : lw_okq (⟨"QuadKeysModel", "puts", "(IIIIIII)V"⟩, 30) := ⟨⟨by decide +kernel, by decide +kernel⟩, List.mem_of_getElem? (i := 699) (by decide +kernel), List.mem_of_getElem? (i := 859) (by decide +kernel), List.mem_of_getElem? (i := 860) (by decide +kernel)⟩
theorem lw_p25 : lw_okq (⟨"QuadKeysModel", "side", "()I"⟩, 30) := ⟨⟨by decide +kernel, by decide +kernel⟩, List.mem_of_getElem? (i := 699) (by decide +kernel), List.mem_of_getElem? (i := 867) (by decide +kernel), List.mem_of_getElem? (i := 868) (by decide +kernel)⟩
theorem lw_p26 : lw_okq (⟨"QuadKeysModel", "isCell", "(II)Z"⟩, 30) := ⟨⟨by decide +kernel, by decide +kernel⟩, List.mem_of_getElem? (i := 699) (by decide +kernel), List.mem_of_getElem? (i := 887) (by decide +kernel), List.mem_of_getElem? (i := 888) (by decide +kernel)⟩
theorem lw_p27 : lw_okq (⟨"QuadKeysModel", "more", "(IIIIII)I"⟩, 30) := ⟨⟨by decide +kernel, by decide +kernel⟩, List.mem_of_getElem? (i := 699) (by decide +kernel), List.mem_of_getElem? (i := 891) (by decide +kernel), List.mem_of_getElem? (i := 892) (by decide +kernel)⟩
theorem lw_p28 : lw_okq (⟨"QuadKeysModel", "keyOf", "(II)I"⟩, 30) := ⟨⟨by decide +kernel, by decide +kernel⟩, List.mem_of_getElem? (i := 699) (by decide +kernel), List.mem_of_getElem? (i := 915) (by decide +kernel), List.mem_of_getElem? (i := 916) (by decide +kernel)⟩
theorem lw_p29 : lw_okq (⟨"QuadKeysModel", "cells", "()I"⟩, 30) := ⟨⟨by decide +kernel, by decide +kernel⟩, List.mem_of_getElem? (i := 699) (by decide +kernel), List.mem_of_getElem? (i := 923) (by decide +kernel), List.mem_of_getElem? (i := 924) (by decide +kernel)⟩
theorem lw_p30 : lw_okq (⟨"QuadKeysModel", "setCell", "(I)V"⟩, 30) := ⟨⟨by decide +kernel, by decide +kernel⟩, List.mem_of_getElem? (i := 699) (by decide +kernel), List.mem_of_getElem? (i := 927) (by decide +kernel), List.mem_of_getElem? (i := 928) (by decide +kernel)⟩
theorem lw_p31 : lw_okq (⟨"QuadKeysModel", "isTile", "(II)Z"⟩, 30) := ⟨⟨by decide +kernel, by decide +kernel⟩, List.mem_of_getElem? (i := 699) (by decide +kernel), List.mem_of_getElem? (i := 935) (by decide +kernel), List.mem_of_getElem? (i := 936) (by decide +kernel)⟩
def lw_privs_2 : List (MethodName × Nat) := [(⟨"QuadKeysModel", "mayBegin", "(I)Z"⟩, 30), (⟨"QuadKeysModel", "causes", "(II)Z"⟩, 30), (⟨"QuadKeysModel", "readsWorld", "()Z"⟩, 30), (⟨"QuadKeysModel", "number", "(IIII)Z"⟩, 30), (⟨"QuadKeysModel", "isFigure", "()Z"⟩, 30), (⟨"QuadKeysModel", "readsBox", "()Z"⟩, 30), (⟨"QuadKeysModel", "readsDisc", "()Z"⟩, 30), (⟨"QuadKeysModel", "lays", "(II)V"⟩, 30), (⟨"QuadKeysModel", "puts", "(IIIIIII)V"⟩, 30), (⟨"QuadKeysModel", "side", "()I"⟩, 30), (⟨"QuadKeysModel", "isCell", "(II)Z"⟩, 30), (⟨"QuadKeysModel", "more", "(IIIIII)I"⟩, 30), (⟨"QuadKeysModel", "keyOf", "(II)I"⟩, 30), (⟨"QuadKeysModel", "cells", "()I"⟩, 30), (⟨"QuadKeysModel", "setCell", "(I)V"⟩, 30), (⟨"QuadKeysModel", "isTile", "(II)Z"⟩, 30)]
theorem lw_r2 : ∀ q ∈ lw_privs_2, lw_okq q := List.forall_mem_cons.mpr ⟨lw_p16, List.forall_mem_cons.mpr ⟨lw_p17, List.forall_mem_cons.mpr ⟨lw_p18, List.forall_mem_cons.mpr ⟨lw_p19, List.forall_mem_cons.mpr ⟨lw_p20, List.forall_mem_cons.mpr ⟨lw_p21, List.forall_mem_cons.mpr ⟨lw_p22, List.forall_mem_cons.mpr ⟨lw_p23, List.forall_mem_cons.mpr ⟨lw_p24, List.forall_mem_cons.mpr ⟨lw_p25, List.forall_mem_cons.mpr ⟨lw_p26, List.forall_mem_cons.mpr ⟨lw_p27, List.forall_mem_cons.mpr ⟨lw_p28, List.forall_mem_cons.mpr ⟨lw_p29, List.forall_mem_cons.mpr ⟨lw_p30, List.forall_mem_cons.mpr ⟨lw_p31, fun _ h => absurd h List.not_mem_nil⟩⟩⟩⟩⟩⟩⟩⟩⟩⟩⟩⟩⟩⟩⟩⟩
theorem lw_p32 : lw_okq (⟨"QuadKeysModel", "sizeOf", "(I)I"⟩, 30) := ⟨⟨by decide +kernel, by decide +kernel⟩, List.mem_of_getElem? (i := 699) (by decide +kernel), List.mem_of_getElem? (i := 939) (by decide +kernel), List.mem_of_getElem? (i := 940) (by decide +kernel)⟩
theorem lw_p33 : lw_okq (⟨"QuadKeysModel", "sideOf", "(I)I"⟩, 30) := ⟨⟨by decide +kernel, by decide +kernel⟩, List.mem_of_getElem? (i := 699) (by decide +kernel), List.mem_of_getElem? (i := 943) (by decide +kernel), List.mem_of_getElem? (i := 944) (by decide +kernel)⟩
theorem lw_p34 : lw_okq (⟨"QuadKeysModel", "setShape", "()V"⟩, 30) := ⟨⟨by decide +kernel, by decide +kernel⟩, List.mem_of_getElem? (i := 699) (by decide +kernel), List.mem_of_getElem? (i := 947) (by decide +kernel), List.mem_of_getElem? (i := 948) (by decide +kernel)⟩
theorem lw_p35 : lw_okq (⟨"QuadKeysModel", "isShape", "(II)Z"⟩, 30) := ⟨⟨by decide +kernel, by decide +kernel⟩, List.mem_of_getElem? (i := 699) (by decide +kernel), List.mem_of_getElem? (i := 951) (by decide +kernel), List.mem_of_getElem? (i := 952) (by decide +kernel)⟩
theorem lw_p36 : lw_okq (⟨"QuadKeysModel", "has", "(III)Z"⟩, 30) := ⟨⟨by decide +kernel, by decide +kernel⟩, List.mem_of_getElem? (i := 699) (by decide +kernel), List.mem_of_getElem? (i := 955) (by decide +kernel), List.mem_of_getElem? (i := 956) (by decide +kernel)⟩
theorem lw_p37 : lw_okq (⟨"QuadKeysModel", "shapeIn", "(II)I"⟩, 30) := ⟨⟨by decide +kernel, by decide +kernel⟩, List.mem_of_getElem? (i := 699) (by decide +kernel), List.mem_of_getElem? (i := 959) (by decide +kernel), List.mem_of_getElem? (i := 960) (by decide +kernel)⟩
theorem lw_p38 : lw_okq (⟨"QuadKeysModel", "pointsIn", "(II)I"⟩, 30) := ⟨⟨by decide +kernel, by decide +kernel⟩, List.mem_of_getElem? (i := 699) (by decide +kernel), List.mem_of_getElem? (i := 963) (by decide +kernel), List.mem_of_getElem? (i := 964) (by decide +kernel)⟩
theorem lw_p39 : lw_okq (⟨"QuadKeysModel", "setCover", "(I)V"⟩, 30) := ⟨⟨by decide +kernel, by decide +kernel⟩, List.mem_of_getElem? (i := 699) (by decide +kernel), List.mem_of_getElem? (i := 990) (by decide +kernel), List.mem_of_getElem? (i := 991) (by decide +kernel)⟩
theorem lw_p40 : lw_okq (⟨"QuadKeysModel", "tiles", "(I)I"⟩, 30) := ⟨⟨by decide +kernel, by decide +kernel⟩, List.mem_of_getElem? (i := 699) (by decide +kernel), List.mem_of_getElem? (i := 994) (by decide +kernel), List.mem_of_getElem? (i := 995) (by decide +kernel)⟩
theorem lw_p41 : lw_okq (⟨"QuadKeysModel", "levelAt", "(I)I"⟩, 30) := ⟨⟨by decide +kernel, by decide +kernel⟩, List.mem_of_getElem? (i := 699) (by decide +kernel), List.mem_of_getElem? (i := 998) (by decide +kernel), List.mem_of_getElem? (i := 999) (by decide +kernel)⟩
theorem lw_p42 : lw_okq (⟨"QuadKeysModel", "isWhole", "(II)Z"⟩, 30) := ⟨⟨by decide +kernel, by decide +kernel⟩, List.mem_of_getElem? (i := 699) (by decide +kernel), List.mem_of_getElem? (i := 1002) (by decide +kernel), List.mem_of_getElem? (i := 1003) (by decide +kernel)⟩
theorem lw_p43 : lw_okq (⟨"QuadKeysModel", "clears", "(I)V"⟩, 30) := ⟨⟨by decide +kernel, by decide +kernel⟩, List.mem_of_getElem? (i := 699) (by decide +kernel), List.mem_of_getElem? (i := 1014) (by decide +kernel), List.mem_of_getElem? (i := 1015) (by decide +kernel)⟩
theorem lw_p44 : lw_okq (⟨"QuadKeysModel", "setLeaf", "(I)V"⟩, 30) := ⟨⟨by decide +kernel, by decide +kernel⟩, List.mem_of_getElem? (i := 699) (by decide +kernel), List.mem_of_getElem? (i := 1018) (by decide +kernel), List.mem_of_getElem? (i := 1019) (by decide +kernel)⟩
theorem lw_p45 : lw_okq (⟨"QuadKeysModel", "comes", "(I)V"⟩, 30) := ⟨⟨by decide +kernel, by decide +kernel⟩, List.mem_of_getElem? (i := 699) (by decide +kernel), List.mem_of_getElem? (i := 1023) (by decide +kernel), List.mem_of_getElem? (i := 1024) (by decide +kernel)⟩
theorem lw_p46 : lw_okq (⟨"QuadKeysModel", "closes", "(I)V"⟩, 30) := ⟨⟨by decide +kernel, by decide +kernel⟩, List.mem_of_getElem? (i := 699) (by decide +kernel), List.mem_of_getElem? (i := 1027) (by decide +kernel), List.mem_of_getElem? (i := 1028) (by decide +kernel)⟩
theorem lw_p47 : lw_okq (⟨"QuadKeysModel", "spans", "(I)I"⟩, 30) := ⟨⟨by decide +kernel, by decide +kernel⟩, List.mem_of_getElem? (i := 699) (by decide +kernel), List.mem_of_getElem? (i := 1035) (by decide +kernel), List.mem_of_getElem? (i := 1036) (by decide +kernel)⟩
def lw_privs_3 : List (MethodName × Nat) := [(⟨"QuadKeysModel", "sizeOf", "(I)I"⟩, 30), (⟨"QuadKeysModel", "sideOf", "(I)I"⟩, 30), (⟨"QuadKeysModel", "setShape", "()V"⟩, 30), (⟨"QuadKeysModel", "isShape", "(II)Z"⟩, 30), (⟨"QuadKeysModel", "has", "(III)Z"⟩, 30), (⟨"QuadKeysModel", "shapeIn", "(II)I"⟩, 30), (⟨"QuadKeysModel", "pointsIn", "(II)I"⟩, 30), (⟨"QuadKeysModel", "setCover", "(I)V"⟩, 30), (⟨"QuadKeysModel", "tiles", "(I)I"⟩, 30), (⟨"QuadKeysModel", "levelAt", "(I)I"⟩, 30), (⟨"QuadKeysModel", "isWhole", "(II)Z"⟩, 30), (⟨"QuadKeysModel", "clears", "(I)V"⟩, 30), (⟨"QuadKeysModel", "setLeaf", "(I)V"⟩, 30), (⟨"QuadKeysModel", "comes", "(I)V"⟩, 30), (⟨"QuadKeysModel", "closes", "(I)V"⟩, 30), (⟨"QuadKeysModel", "spans", "(I)I"⟩, 30)]
theorem lw_r3 : ∀ q ∈ lw_privs_3, lw_okq q := List.forall_mem_cons.mpr ⟨lw_p32, List.forall_mem_cons.mpr ⟨lw_p33, List.forall_mem_cons.mpr ⟨lw_p34, List.forall_mem_cons.mpr ⟨lw_p35, List.forall_mem_cons.mpr ⟨lw_p36, List.forall_mem_cons.mpr ⟨lw_p37, List.forall_mem_cons.mpr ⟨lw_p38, List.forall_mem_cons.mpr ⟨lw_p39, List.forall_mem_cons.mpr ⟨lw_p40, List.forall_mem_cons.mpr ⟨lw_p41, List.forall_mem_cons.mpr ⟨lw_p42, List.forall_mem_cons.mpr ⟨lw_p43, List.forall_mem_cons.mpr ⟨lw_p44, List.forall_mem_cons.mpr ⟨lw_p45, List.forall_mem_cons.mpr ⟨lw_p46, List.forall_mem_cons.mpr ⟨lw_p47, fun _ h => absurd h List.not_mem_nil⟩⟩⟩⟩⟩⟩⟩⟩⟩⟩⟩⟩⟩⟩⟩⟩
theorem lw_p48 : lw_okq (⟨"QuadKeysModel", "isPoint", "(I)Z"⟩, 30) := ⟨⟨by decide +kernel, by decide +kernel⟩, List.mem_of_getElem? (i := 699) (by decide +kernel), List.mem_of_getElem? (i := 1047) (by decide +kernel), List.mem_of_getElem? (i := 1048) (by decide +kernel)⟩
theorem lw_p49 : lw_okq (⟨"QuadKeysModel", "placeOf", "(I)I"⟩, 30) := ⟨⟨by decide +kernel, by decide +kernel⟩, List.mem_of_getElem? (i := 699) (by decide +kernel), List.mem_of_getElem? (i := 1051) (by decide +kernel), List.mem_of_getElem? (i := 1052) (by decide +kernel)⟩
theorem lw_p50 : lw_okq (⟨"QuadKeysModel", "orderedAt", "(I)I"⟩, 30) := ⟨⟨by decide +kernel, by decide +kernel⟩, List.mem_of_getElem? (i := 699) (by decide +kernel), List.mem_of_getElem? (i := 1059) (by decide +kernel), List.mem_of_getElem? (i := 1060) (by decide +kernel)⟩
theorem lw_p51 : lw_okq (⟨"QuadKeysModel", "isFound", "(I)Z"⟩, 30) := ⟨⟨by decide +kernel, by decide +kernel⟩, List.mem_of_getElem? (i := 699) (by decide +kernel), List.mem_of_getElem? (i := 1067) (by decide +kernel), List.mem_of_getElem? (i := 1068) (by decide +kernel)⟩
theorem lw_p52 : lw_okq (⟨"QuadKeysModel", "shapeMany", "()I"⟩, 30) := ⟨⟨by decide +kernel, by decide +kernel⟩, List.mem_of_getElem? (i := 699) (by decide +kernel), List.mem_of_getElem? (i := 1083) (by decide +kernel), List.mem_of_getElem? (i := 1084) (by decide +kernel)⟩
def lw_privs_4 : List (MethodName × Nat) := [(⟨"QuadKeysModel", "isPoint", "(I)Z"⟩, 30), (⟨"QuadKeysModel", "placeOf", "(I)I"⟩, 30), (⟨"QuadKeysModel", "orderedAt", "(I)I"⟩, 30), (⟨"QuadKeysModel", "isFound", "(I)Z"⟩, 30), (⟨"QuadKeysModel", "shapeMany", "()I"⟩, 30)]
theorem lw_r4 : ∀ q ∈ lw_privs_4, lw_okq q := List.forall_mem_cons.mpr ⟨lw_p48, List.forall_mem_cons.mpr ⟨lw_p49, List.forall_mem_cons.mpr ⟨lw_p50, List.forall_mem_cons.mpr ⟨lw_p51, List.forall_mem_cons.mpr ⟨lw_p52, fun _ h => absurd h List.not_mem_nil⟩⟩⟩⟩⟩
def lw_privs : List (MethodName × Nat) := lw_privs_1 ++ (lw_privs_2 ++ (lw_privs_3 ++ (lw_privs_4)))
def lw_tbl : List Cond := k2_sels lw_privs ++ tables_1
theorem lw_privs_ok : ∀ q ∈ lw_privs, lw_okq q := by
  show ∀ q ∈ lw_privs_1 ++ (lw_privs_2 ++ (lw_privs_3 ++ (lw_privs_4))), lw_okq q
  exact List.forall_mem_append.mpr ⟨lw_r1, List.forall_mem_append.mpr ⟨lw_r2, List.forall_mem_append.mpr ⟨lw_r3, lw_r4⟩⟩⟩
-- ===== end of PART A; then your names; then what follows =====
end
section
/-! ===== BEGIN words of one list among another's, by their places ===== -/
theorem goodIn_r {big : List Cond} (ws : List Cond) (ps : List Nat) (hp : ws = ps.filterMap (fun i => big[i]?)) (h : ws.all goodWord = true) : GoodIn big ws := by
  intro w hw
  have h1 := List.all_eq_true.mp h w hw
  rw [hp] at hw
  obtain ⟨i, -, hi⟩ := List.mem_filterMap.mp hw
  have hm : w ∈ big := by first | exact List.mem_of_getElem? hi | exact List.getElem?_mem hi
  exact ⟨hm, good_of_word h1⟩
theorem goodIn_app {big a b : List Cond} (ha : GoodIn big a) (hb : GoodIn big b) : GoodIn big (a ++ b) := fun w h => (List.mem_append.mp h).elim (ha w) (hb w)
theorem goodIn_ca {big a b : List Cond} {c : Cond} (ha : GoodIn big (c :: a)) (hb : GoodIn big b) : GoodIn big (c :: (a ++ b)) := fun w h => (List.mem_cons.mp h).elim (fun e => ha w (List.mem_cons.mpr (Or.inl e))) (fun h => (List.mem_append.mp h).elim (fun h => ha w (List.mem_cons.mpr (Or.inr h))) (hb w))
theorem goodIn_sub {big ws : List Cond} (hm : ∀ w ∈ ws, w ∈ big) (h : ws.all goodWord = true) : GoodIn big ws := fun w hw => ⟨hm w hw, good_of_word (List.all_eq_true.mp h w hw)⟩
/-! ===== END ===== -/


/-! ===== BEGIN printed: names, fields, word lists, decode rows ===== -/
def RX0 : String := "QuadKeys$Covers"
def TX0 : u_T := fun k => match k with
  | 0 => ("QuadKeys$Covers", "shape", "LQuadKeys$KeySet;", true)
  | 1 => ("QuadKeys$Covers", "outer", "LQuadKeys$KeySet;", true)
  | 2 => ("QuadKeys$Covers", "inner", "LQuadKeys$KeySet;", true)
  | 3 => ("QuadKeys$Covers", "gaps", "LQuadKeys$Gaps;", true)
  | 4 => ("QuadKeys$Covers", "weigher", "LQuadKeys$Weigher;", true)
  | 5 => ("QuadKeys$Covers", "fresh", "Z", false)
  | _ => ("QuadKeys$Covers", "weighed", "Z", false)
def tyX0 : Nat → FieldType := fun k => match k with
  | 0 => .object "QuadKeys$KeySet"
  | 1 => .object "QuadKeys$KeySet"
  | 2 => .object "QuadKeys$KeySet"
  | 3 => .object "QuadKeys$Gaps"
  | 4 => .object "QuadKeys$Weigher"
  | 5 => .boolean
  | _ => .boolean
abbrev wsX00 : List Cond := u_ws RX0 TX0 7
theorem nmX0 : ∀ a, a < 7 → ∀ b, b < 7 → a ≠ b → (TX0 a).2.1 ≠ (TX0 b).2.1 := by decide +kernel
theorem tyX0_ok : ∀ k, k < 7 → parseFieldDescriptor (TX0 k).2.2.1 = some (tyX0 k) := by decide +kernel
abbrev cX0_init : ByteArray := prog_2_method_1_code
def yX0_init : MethodName := ⟨RX0, "<init>", "()V"⟩
abbrev cX0_forget : ByteArray := prog_2_method_2_code
def yX0_forget : MethodName := ⟨RX0, "forget", "()V"⟩
abbrev cX0_keysOf : ByteArray := prog_2_method_3_code
def yX0_keysOf : MethodName := ⟨RX0, "keysOf", "(I)LQuadKeys$KeySet;"⟩
abbrev cX0_refresh : ByteArray := prog_2_method_4_code
def yX0_refresh : MethodName := ⟨RX0, "refresh", "(LQuadKeys$Plan;)V"⟩
abbrev cX0_findShape : ByteArray := prog_2_method_5_code
def yX0_findShape : MethodName := ⟨RX0, "findShape", "(LQuadKeys$Plan;)V"⟩
abbrev cX0_findCovers : ByteArray := prog_2_method_6_code
def yX0_findCovers : MethodName := ⟨RX0, "findCovers", "(LQuadKeys$Plan;)V"⟩
abbrev cX0_tileOf : ByteArray := prog_2_method_7_code
def yX0_tileOf : MethodName := ⟨RX0, "tileOf", "(LQuadKeys$Plan;LQuadKeys$KeySet;II)I"⟩
abbrev cX0_widestAt : ByteArray := prog_2_method_8_code
def yX0_widestAt : MethodName := ⟨RX0, "widestAt", "(LQuadKeys$Plan;LQuadKeys$KeySet;I)I"⟩
abbrev cX0_leastCells : ByteArray := prog_2_method_9_code
def yX0_leastCells : MethodName := ⟨RX0, "leastCells", "(LQuadKeys$Plan;I)I"⟩
def RX1 : String := "QuadKeys$Curve"
def TX1 : u_T := fun k => match k with
  | _ => ("", "", "", false)
def tyX1 : Nat → FieldType := fun k => match k with
  | _ => .int
abbrev wsX10 : List Cond := u_ws RX1 TX1 0
theorem nmX1 : ∀ a, a < 0 → ∀ b, b < 0 → a ≠ b → (TX1 a).2.1 ≠ (TX1 b).2.1 := by decide +kernel
theorem tyX1_ok : ∀ k, k < 0 → parseFieldDescriptor (TX1 k).2.2.1 = some (tyX1 k) := by decide +kernel
abbrev cX1_keyOf : ByteArray := prog_3_method_2_code
def yX1_keyOf : MethodName := ⟨RX1, "keyOf", "(IIII)I"⟩
abbrev cX1_placeOf : ByteArray := prog_3_method_3_code
def yX1_placeOf : MethodName := ⟨RX1, "placeOf", "(III)I"⟩
abbrev cX1_half : ByteArray := prog_3_method_4_code
def yX1_half : MethodName := ⟨RX1, "half", "(II)I"⟩
abbrev cX1_turnedX : ByteArray := prog_3_method_5_code
def yX1_turnedX : MethodName := ⟨RX1, "turnedX", "(IIIII)I"⟩
def RX2 : String := "QuadKeys$Gaps"
def TX2 : u_T := fun k => match k with
  | 0 => ("QuadKeys$Gaps", "open", "[I", true)
  | _ => ("QuadKeys$Gaps", "openCount", "I", false)
def tyX2 : Nat → FieldType := fun k => match k with
  | 0 => .array .int
  | _ => .int
abbrev wsX20 : List Cond := u_ws RX2 TX2 2
theorem nmX2 : ∀ a, a < 2 → ∀ b, b < 2 → a ≠ b → (TX2 a).2.1 ≠ (TX2 b).2.1 := by decide +kernel
theorem tyX2_ok : ∀ k, k < 2 → parseFieldDescriptor (TX2 k).2.2.1 = some (tyX2 k) := by decide +kernel
abbrev cX2_init : ByteArray := prog_4_method_1_code
def yX2_init : MethodName := ⟨RX2, "<init>", "()V"⟩
abbrev cX2_filledFor : ByteArray := prog_4_method_2_code
def yX2_filledFor : MethodName := ⟨RX2, "filledFor", "(LQuadKeys$KeySet;I)I"⟩
abbrev cX2_filledBy : ByteArray := prog_4_method_3_code
def yX2_filledBy : MethodName := ⟨RX2, "filledBy", "(II)I"⟩
def RX3 : String := "QuadKeys$KeySet"
def TX3 : u_T := fun k => match k with
  | _ => ("QuadKeys$KeySet", "words", "[J", true)
def tyX3 : Nat → FieldType := fun k => match k with
  | _ => .array .long
abbrev wsX30 : List Cond := u_ws RX3 TX3 1
theorem nmX3 : ∀ a, a < 1 → ∀ b, b < 1 → a ≠ b → (TX3 a).2.1 ≠ (TX3 b).2.1 := by decide +kernel
theorem tyX3_ok : ∀ k, k < 1 → parseFieldDescriptor (TX3 k).2.2.1 = some (tyX3 k) := by decide +kernel
abbrev cX3_init : ByteArray := prog_5_method_1_code
def yX3_init : MethodName := ⟨RX3, "<init>", "()V"⟩
abbrev cX3_clear : ByteArray := prog_5_method_2_code
def yX3_clear : MethodName := ⟨RX3, "clear", "()V"⟩
abbrev cX3_add : ByteArray := prog_5_method_3_code
def yX3_add : MethodName := ⟨RX3, "add", "(I)V"⟩
abbrev cX3_addAll : ByteArray := prog_5_method_4_code
def yX3_addAll : MethodName := ⟨RX3, "addAll", "(II)V"⟩
abbrev cX3_has : ByteArray := prog_5_method_5_code
def yX3_has : MethodName := ⟨RX3, "has", "(I)Z"⟩
abbrev cX3_countIn : ByteArray := prog_5_method_6_code
def yX3_countIn : MethodName := ⟨RX3, "countIn", "(II)I"⟩
abbrev cX3_runEnd : ByteArray := prog_5_method_7_code
def yX3_runEnd : MethodName := ⟨RX3, "runEnd", "(II)I"⟩
def RX4 : String := "QuadKeys$Part"
def TX4 : u_T := fun k => match k with
  | 0 => ("QuadKeys$Part", "puts", "Z", false)
  | 1 => ("QuadKeys$Part", "round", "Z", false)
  | 2 => ("QuadKeys$Part", "x", "I", false)
  | 3 => ("QuadKeys$Part", "y", "I", false)
  | 4 => ("QuadKeys$Part", "v", "I", false)
  | _ => ("QuadKeys$Part", "w", "I", false)
def tyX4 : Nat → FieldType := fun k => match k with
  | 0 => .boolean
  | 1 => .boolean
  | 2 => .int
  | 3 => .int
  | 4 => .int
  | _ => .int
abbrev wsX40 : List Cond := u_ws RX4 TX4 6
theorem nmX4 : ∀ a, a < 6 → ∀ b, b < 6 → a ≠ b → (TX4 a).2.1 ≠ (TX4 b).2.1 := by decide +kernel
theorem tyX4_ok : ∀ k, k < 6 → parseFieldDescriptor (TX4 k).2.2.1 = some (tyX4 k) := by decide +kernel
abbrev cX4_init : ByteArray := prog_6_method_1_code
def yX4_init : MethodName := ⟨RX4, "<init>", "()V"⟩
abbrev cX4_becomeBox : ByteArray := prog_6_method_2_code
def yX4_becomeBox : MethodName := ⟨RX4, "becomeBox", "(ZIIII)V"⟩
abbrev cX4_becomeDisc : ByteArray := prog_6_method_3_code
def yX4_becomeDisc : MethodName := ⟨RX4, "becomeDisc", "(ZIII)V"⟩
abbrev cX4_putsOn : ByteArray := prog_6_method_4_code
def yX4_putsOn : MethodName := ⟨RX4, "putsOn", "()Z"⟩
abbrev cX4_has : ByteArray := prog_6_method_5_code
def yX4_has : MethodName := ⟨RX4, "has", "(II)Z"⟩
def RX5 : String := "QuadKeys$Plan"
def TX5 : u_T := fun k => match k with
  | 0 => ("QuadKeys$Plan", "points", "LQuadKeys$Points;", true)
  | 1 => ("QuadKeys$Plan", "parts", "[LQuadKeys$Part;", true)
  | 2 => ("QuadKeys$Plan", "partCount", "I", false)
  | 3 => ("QuadKeys$Plan", "depth", "I", false)
  | 4 => ("QuadKeys$Plan", "bend", "I", false)
  | 5 => ("QuadKeys$Plan", "lo", "I", false)
  | _ => ("QuadKeys$Plan", "hi", "I", false)
def tyX5 : Nat → FieldType := fun k => match k with
  | 0 => .object "QuadKeys$Points"
  | 1 => .array (.object "QuadKeys$Part")
  | 2 => .int
  | 3 => .int
  | 4 => .int
  | 5 => .int
  | _ => .int
abbrev wsX50 : List Cond := u_ws RX5 TX5 7
theorem nmX5 : ∀ a, a < 7 → ∀ b, b < 7 → a ≠ b → (TX5 a).2.1 ≠ (TX5 b).2.1 := by decide +kernel
theorem tyX5_ok : ∀ k, k < 7 → parseFieldDescriptor (TX5 k).2.2.1 = some (tyX5 k) := by decide +kernel
abbrev cX5_init : ByteArray := prog_7_method_1_code
def yX5_init : MethodName := ⟨RX5, "<init>", "()V"⟩
abbrev cX5_begin : ByteArray := prog_7_method_2_code
def yX5_begin : MethodName := ⟨RX5, "begin", "(II)V"⟩
abbrev cX5_side : ByteArray := prog_7_method_3_code
def yX5_side : MethodName := ⟨RX5, "side", "()I"⟩
abbrev cX5_tileSize : ByteArray := prog_7_method_4_code
def yX5_tileSize : MethodName := ⟨RX5, "tileSize", "(I)I"⟩
abbrev cX5_tileAround : ByteArray := prog_7_method_5_code
def yX5_tileAround : MethodName := ⟨RX5, "tileAround", "(II)I"⟩
abbrev cX5_hasCell : ByteArray := prog_7_method_6_code
def yX5_hasCell : MethodName := ⟨RX5, "hasCell", "(II)Z"⟩
abbrev cX5_hasTile : ByteArray := prog_7_method_7_code
def yX5_hasTile : MethodName := ⟨RX5, "hasTile", "(II)Z"⟩
abbrev cX5_addBox : ByteArray := prog_7_method_8_code
def yX5_addBox : MethodName := ⟨RX5, "addBox", "(ZIIII)Z"⟩
abbrev cX5_addDisc : ByteArray := prog_7_method_9_code
def yX5_addDisc : MethodName := ⟨RX5, "addDisc", "(ZIII)Z"⟩
abbrev cX5_removePart : ByteArray := prog_7_method_10_code
def yX5_removePart : MethodName := ⟨RX5, "removePart", "(I)Z"⟩
abbrev cX5_inShape : ByteArray := prog_7_method_11_code
def yX5_inShape : MethodName := ⟨RX5, "inShape", "(II)Z"⟩
abbrev cX5_pointsIn : ByteArray := prog_7_method_12_code
def yX5_pointsIn : MethodName := ⟨RX5, "pointsIn", "(II)I"⟩
abbrev cX5_pointsAmong : ByteArray := prog_7_method_13_code
def yX5_pointsAmong : MethodName := ⟨RX5, "pointsAmong", "(LQuadKeys$KeySet;)I"⟩
abbrev cX5_pointsInShape : ByteArray := prog_7_method_14_code
def yX5_pointsInShape : MethodName := ⟨RX5, "pointsInShape", "()I"⟩
abbrev cX5_pointInShape : ByteArray := prog_7_method_15_code
def yX5_pointInShape : MethodName := ⟨RX5, "pointInShape", "(I)I"⟩
abbrev cX5_pointKey : ByteArray := prog_7_method_16_code
def yX5_pointKey : MethodName := ⟨RX5, "pointKey", "(I)I"⟩
def RX6 : String := "QuadKeys$Points"
def TX6 : u_T := fun k => match k with
  | 0 => ("QuadKeys$Points", "xs", "[I", true)
  | 1 => ("QuadKeys$Points", "ys", "[I", true)
  | 2 => ("QuadKeys$Points", "order", "[I", true)
  | 3 => ("QuadKeys$Points", "keys", "[I", true)
  | _ => ("QuadKeys$Points", "size", "I", false)
def tyX6 : Nat → FieldType := fun k => match k with
  | 0 => .array .int
  | 1 => .array .int
  | 2 => .array .int
  | 3 => .array .int
  | _ => .int
abbrev wsX60 : List Cond := u_ws RX6 TX6 5
theorem nmX6 : ∀ a, a < 5 → ∀ b, b < 5 → a ≠ b → (TX6 a).2.1 ≠ (TX6 b).2.1 := by decide +kernel
theorem tyX6_ok : ∀ k, k < 5 → parseFieldDescriptor (TX6 k).2.2.1 = some (tyX6 k) := by decide +kernel
abbrev cX6_init : ByteArray := prog_8_method_1_code
def yX6_init : MethodName := ⟨RX6, "<init>", "()V"⟩
abbrev cX6_has : ByteArray := prog_8_method_2_code
def yX6_has : MethodName := ⟨RX6, "has", "(I)Z"⟩
abbrev cX6_add : ByteArray := prog_8_method_3_code
def yX6_add : MethodName := ⟨RX6, "add", "(II)Z"⟩
abbrev cX6_remove : ByteArray := prog_8_method_4_code
def yX6_remove : MethodName := ⟨RX6, "remove", "(I)Z"⟩
abbrev cX6_arrange : ByteArray := prog_8_method_5_code
def yX6_arrange : MethodName := ⟨RX6, "arrange", "(II)V"⟩
abbrev cX6_rankOf : ByteArray := prog_8_method_6_code
def yX6_rankOf : MethodName := ⟨RX6, "rankOf", "(I)I"⟩
abbrev cX6_nearestTo : ByteArray := prog_8_method_7_code
def yX6_nearestTo : MethodName := ⟨RX6, "nearestTo", "(II)I"⟩
def RX7 : String := "QuadKeys$Text"
def TX7 : u_T := fun k => match k with
  | 0 => ("QuadKeys$Text", "letters", "[C", true)
  | 1 => ("QuadKeys$Text", "numbers", "[I", true)
  | 2 => ("QuadKeys$Text", "causes", "[I", true)
  | 3 => ("QuadKeys$Text", "length", "I", false)
  | 4 => ("QuadKeys$Text", "causeCount", "I", false)
  | _ => ("QuadKeys$Text", "place", "I", false)
def tyX7 : Nat → FieldType := fun k => match k with
  | 0 => .array .char
  | 1 => .array .int
  | 2 => .array .int
  | 3 => .int
  | 4 => .int
  | _ => .int
abbrev wsX70 : List Cond := u_ws RX7 TX7 6
theorem nmX7 : ∀ a, a < 6 → ∀ b, b < 6 → a ≠ b → (TX7 a).2.1 ≠ (TX7 b).2.1 := by decide +kernel
theorem tyX7_ok : ∀ k, k < 6 → parseFieldDescriptor (TX7 k).2.2.1 = some (tyX7 k) := by decide +kernel
abbrev cX7_init : ByteArray := prog_9_method_1_code
def yX7_init : MethodName := ⟨RX7, "<init>", "()V"⟩
abbrev cX7_append : ByteArray := prog_9_method_2_code
def yX7_append : MethodName := ⟨RX7, "append", "(C)Z"⟩
abbrev cX7_clear : ByteArray := prog_9_method_3_code
def yX7_clear : MethodName := ⟨RX7, "clear", "()V"⟩
abbrev cX7_blameEmptiness : ByteArray := prog_9_method_4_code
def yX7_blameEmptiness : MethodName := ⟨RX7, "blameEmptiness", "()V"⟩
abbrev cX7_readInto : ByteArray := prog_9_method_5_code
def yX7_readInto : MethodName := ⟨RX7, "readInto", "(LQuadKeys$Plan;)I"⟩
abbrev cX7_blame : ByteArray := prog_9_method_6_code
def yX7_blame : MethodName := ⟨RX7, "blame", "(II)V"⟩
abbrev cX7_readItem : ByteArray := prog_9_method_7_code
def yX7_readItem : MethodName := ⟨RX7, "readItem", "(LQuadKeys$Plan;I)I"⟩
abbrev cX7_readKind : ByteArray := prog_9_method_8_code
def yX7_readKind : MethodName := ⟨RX7, "readKind", "()C"⟩
abbrev cX7_mayStand : ByteArray := prog_9_method_9_code
def yX7_mayStand : MethodName := ⟨RX7, "mayStand", "(LQuadKeys$Plan;CI)Z"⟩
abbrev cX7_readNumber : ByteArray := prog_9_method_10_code
def yX7_readNumber : MethodName := ⟨RX7, "readNumber", "(IC)I"⟩
abbrev cX7_isTold : ByteArray := prog_9_method_11_code
def yX7_isTold : MethodName := ⟨RX7, "isTold", "(LQuadKeys$Plan;CI)Z"⟩
abbrev cX7_put : ByteArray := prog_9_method_12_code
def yX7_put : MethodName := ⟨RX7, "put", "(LQuadKeys$Plan;CC)V"⟩
abbrev cX7_letterHere : ByteArray := prog_9_method_13_code
def yX7_letterHere : MethodName := ⟨RX7, "letterHere", "()C"⟩
abbrev cX7_isFigure : ByteArray := prog_9_method_14_code
def yX7_isFigure : MethodName := ⟨RX7, "isFigure", "(C)Z"⟩
def RX8 : String := "QuadKeys$Weigher"
def TX8 : u_T := fun k => match k with
  | _ => ("QuadKeys$Weigher", "rows", "[[I", true)
def tyX8 : Nat → FieldType := fun k => match k with
  | _ => .array (.array .int)
abbrev wsX80 : List Cond := u_ws RX8 TX8 1
theorem nmX8 : ∀ a, a < 1 → ∀ b, b < 1 → a ≠ b → (TX8 a).2.1 ≠ (TX8 b).2.1 := by decide +kernel
theorem tyX8_ok : ∀ k, k < 1 → parseFieldDescriptor (TX8 k).2.2.1 = some (tyX8 k) := by decide +kernel
abbrev cX8_init : ByteArray := prog_10_method_1_code
def yX8_init : MethodName := ⟨RX8, "<init>", "()V"⟩
abbrev cX8_weighWorld : ByteArray := prog_10_method_2_code
def yX8_weighWorld : MethodName := ⟨RX8, "weighWorld", "(LQuadKeys$Plan;LQuadKeys$KeySet;)V"⟩
abbrev cX8_leastOf : ByteArray := prog_10_method_3_code
def yX8_leastOf : MethodName := ⟨RX8, "leastOf", "(I)I"⟩
abbrev cX8_weighTile : ByteArray := prog_10_method_4_code
def yX8_weighTile : MethodName := ⟨RX8, "weighTile", "([[ILQuadKeys$Plan;LQuadKeys$KeySet;II)V"⟩
abbrev cX8_addRow : ByteArray := prog_10_method_5_code
def yX8_addRow : MethodName := ⟨RX8, "addRow", "([I[I)V"⟩
abbrev cX8_takeWhole : ByteArray := prog_10_method_6_code
def yX8_takeWhole : MethodName := ⟨RX8, "takeWhole", "([II)V"⟩
def RX9 : String := "QuadKeys"
def TX9 : u_T := fun k => match k with
  | 0 => ("QuadKeys", "text", "LQuadKeys$Text;", true)
  | 1 => ("QuadKeys", "covers", "LQuadKeys$Covers;", true)
  | 2 => ("QuadKeys", "plan", "LQuadKeys$Plan;", false)
  | _ => ("QuadKeys", "spare", "LQuadKeys$Plan;", false)
def tyX9 : Nat → FieldType := fun k => match k with
  | 0 => .object "QuadKeys$Text"
  | 1 => .object "QuadKeys$Covers"
  | 2 => .object "QuadKeys$Plan"
  | _ => .object "QuadKeys$Plan"
abbrev wsX90 : List Cond := u_ws RX9 TX9 4
theorem nmX9 : ∀ a, a < 4 → ∀ b, b < 4 → a ≠ b → (TX9 a).2.1 ≠ (TX9 b).2.1 := by decide +kernel
theorem tyX9_ok : ∀ k, k < 4 → parseFieldDescriptor (TX9 k).2.2.1 = some (tyX9 k) := by decide +kernel
abbrev cX9_init : ByteArray := prog_1_method_1_code
def yX9_init : MethodName := ⟨RX9, "<init>", "()V"⟩
abbrev cX9_write : ByteArray := prog_1_method_2_code
def yX9_write : MethodName := ⟨RX9, "write", "(I)I"⟩
abbrev cX9_wipe : ByteArray := prog_1_method_3_code
def yX9_wipe : MethodName := ⟨RX9, "wipe", "()I"⟩
abbrev cX9_fault : ByteArray := prog_1_method_4_code
def yX9_fault : MethodName := ⟨RX9, "fault", "()I"⟩
abbrev cX9_lay : ByteArray := prog_1_method_5_code
def yX9_lay : MethodName := ⟨RX9, "lay", "()I"⟩
abbrev cX9_cause : ByteArray := prog_1_method_6_code
def yX9_cause : MethodName := ⟨RX9, "cause", "(I)I"⟩
abbrev cX9_curve : ByteArray := prog_1_method_7_code
def yX9_curve : MethodName := ⟨RX9, "curve", "(I)I"⟩
abbrev cX9_levels : ByteArray := prog_1_method_8_code
def yX9_levels : MethodName := ⟨RX9, "levels", "(II)I"⟩
abbrev cX9_box : ByteArray := prog_1_method_9_code
def yX9_box : MethodName := ⟨RX9, "box", "(IIIII)I"⟩
abbrev cX9_disc : ByteArray := prog_1_method_10_code
def yX9_disc : MethodName := ⟨RX9, "disc", "(IIII)I"⟩
abbrev cX9_drop : ByteArray := prog_1_method_11_code
def yX9_drop : MethodName := ⟨RX9, "drop", "(I)I"⟩
abbrev cX9_point : ByteArray := prog_1_method_12_code
def yX9_point : MethodName := ⟨RX9, "point", "(II)I"⟩
abbrev cX9_lift : ByteArray := prog_1_method_13_code
def yX9_lift : MethodName := ⟨RX9, "lift", "(I)I"⟩
abbrev cX9_key : ByteArray := prog_1_method_14_code
def yX9_key : MethodName := ⟨RX9, "key", "(II)I"⟩
abbrev cX9_cell : ByteArray := prog_1_method_15_code
def yX9_cell : MethodName := ⟨RX9, "cell", "(II)I"⟩
abbrev cX9_tile : ByteArray := prog_1_method_16_code
def yX9_tile : MethodName := ⟨RX9, "tile", "(III)I"⟩
abbrev cX9_beside : ByteArray := prog_1_method_17_code
def yX9_beside : MethodName := ⟨RX9, "beside", "(IIII)I"⟩
abbrev cX9_common : ByteArray := prog_1_method_18_code
def yX9_common : MethodName := ⟨RX9, "common", "(IIII)I"⟩
abbrev cX9_leaps : ByteArray := prog_1_method_19_code
def yX9_leaps : MethodName := ⟨RX9, "leaps", "()I"⟩
abbrev cX9_in : ByteArray := prog_1_method_20_code
def yX9_in : MethodName := ⟨RX9, "in", "(II)I"⟩
abbrev cX9_cover : ByteArray := prog_1_method_21_code
def yX9_cover : MethodName := ⟨RX9, "cover", "(III)I"⟩
abbrev cX9_rest : ByteArray := prog_1_method_22_code
def yX9_rest : MethodName := ⟨RX9, "rest", "(I)I"⟩
abbrev cX9_best : ByteArray := prog_1_method_23_code
def yX9_best : MethodName := ⟨RX9, "best", "(I)I"⟩
abbrev cX9_span : ByteArray := prog_1_method_24_code
def yX9_span : MethodName := ⟨RX9, "span", "(III)I"⟩
abbrev cX9_joined : ByteArray := prog_1_method_25_code
def yX9_joined : MethodName := ⟨RX9, "joined", "(II)I"⟩
abbrev cX9_at : ByteArray := prog_1_method_26_code
def yX9_at : MethodName := ⟨RX9, "at", "(II)I"⟩
abbrev cX9_ordered : ByteArray := prog_1_method_27_code
def yX9_ordered : MethodName := ⟨RX9, "ordered", "(I)I"⟩
abbrev cX9_search : ByteArray := prog_1_method_28_code
def yX9_search : MethodName := ⟨RX9, "search", "(I)I"⟩
abbrev cX9_found : ByteArray := prog_1_method_29_code
def yX9_found : MethodName := ⟨RX9, "found", "(I)I"⟩
abbrev cX9_nearest : ByteArray := prog_1_method_30_code
def yX9_nearest : MethodName := ⟨RX9, "nearest", "(II)I"⟩
abbrev cX9_count : ByteArray := prog_1_method_31_code
def yX9_count : MethodName := ⟨RX9, "count", "(I)I"⟩
abbrev cX9_isBit : ByteArray := prog_1_method_32_code
def yX9_isBit : MethodName := ⟨RX9, "isBit", "(I)Z"⟩
abbrev cX9_isStep : ByteArray := prog_1_method_33_code
def yX9_isStep : MethodName := ⟨RX9, "isStep", "(I)Z"⟩
def RX10 : String := "QuadKeysModel"
def TX10 : u_T := fun k => match k with
  | 0 => ("QuadKeysModel", "depth", "I", false)
  | 1 => ("QuadKeysModel", "curve", "I", false)
  | 2 => ("QuadKeysModel", "low", "I", false)
  | 3 => ("QuadKeysModel", "high", "I", false)
  | 4 => ("QuadKeysModel", "partMany", "I", false)
  | 5 => ("QuadKeysModel", "parts", "[I", true)
  | 6 => ("QuadKeysModel", "pointMany", "I", false)
  | 7 => ("QuadKeysModel", "pointX", "[I", true)
  | 8 => ("QuadKeysModel", "pointY", "[I", true)
  | 9 => ("QuadKeysModel", "text", "[I", true)
  | 10 => ("QuadKeysModel", "length", "I", false)
  | 11 => ("QuadKeysModel", "causeMany", "I", false)
  | 12 => ("QuadKeysModel", "causes", "[I", true)
  | 13 => ("QuadKeysModel", "readAt", "I", false)
  | 14 => ("QuadKeysModel", "items", "I", false)
  | 15 => ("QuadKeysModel", "itemParts", "I", false)
  | 16 => ("QuadKeysModel", "itemPoints", "I", false)
  | 17 => ("QuadKeysModel", "itemSide", "I", false)
  | 18 => ("QuadKeysModel", "read", "[I", true)
  | 19 => ("QuadKeysModel", "foundX", "I", false)
  | 20 => ("QuadKeysModel", "foundY", "I", false)
  | 21 => ("QuadKeysModel", "shape", "[I", true)
  | 22 => ("QuadKeysModel", "covered", "[I", true)
  | 23 => ("QuadKeysModel", "foundLevel", "I", false)
  | 24 => ("QuadKeysModel", "foundKey", "I", false)
  | 25 => ("QuadKeysModel", "least", "[I", true)
  | 26 => ("QuadKeysModel", "sum", "[I", true)
  | 27 => ("QuadKeysModel", "now", "[I", true)
  | 28 => ("QuadKeysModel", "gaps", "[I", true)
  | _ => ("QuadKeysModel", "gapMany", "I", false)
def tyX10 : Nat → FieldType := fun k => match k with
  | 0 => .int
  | 1 => .int
  | 2 => .int
  | 3 => .int
  | 4 => .int
  | 5 => .array .int
  | 6 => .int
  | 7 => .array .int
  | 8 => .array .int
  | 9 => .array .int
  | 10 => .int
  | 11 => .int
  | 12 => .array .int
  | 13 => .int
  | 14 => .int
  | 15 => .int
  | 16 => .int
  | 17 => .int
  | 18 => .array .int
  | 19 => .int
  | 20 => .int
  | 21 => .array .int
  | 22 => .array .int
  | 23 => .int
  | 24 => .int
  | 25 => .array .int
  | 26 => .array .int
  | 27 => .array .int
  | 28 => .array .int
  | _ => .int
abbrev wsX100 : List Cond := u_ws RX10 TX10 30
theorem nmX10 : ∀ a, a < 30 → ∀ b, b < 30 → a ≠ b → (TX10 a).2.1 ≠ (TX10 b).2.1 := by decide +kernel
theorem tyX10_ok : ∀ k, k < 30 → parseFieldDescriptor (TX10 k).2.2.1 = some (tyX10 k) := by decide +kernel
abbrev cX10_init : ByteArray := prog_12_method_1_code
def yX10_init : MethodName := ⟨RX10, "<init>", "()V"⟩
abbrev cX10_isIn : ByteArray := prog_12_method_2_code
def yX10_isIn : MethodName := ⟨RX10, "isIn", "(III)Z"⟩
abbrev cX10_side : ByteArray := prog_12_method_3_code
def yX10_side : MethodName := ⟨RX10, "side", "()I"⟩
abbrev cX10_cells : ByteArray := prog_12_method_4_code
def yX10_cells : MethodName := ⟨RX10, "cells", "()I"⟩
abbrev cX10_isCell : ByteArray := prog_12_method_5_code
def yX10_isCell : MethodName := ⟨RX10, "isCell", "(II)Z"⟩
abbrev cX10_write : ByteArray := prog_12_method_6_code
def yX10_write : MethodName := ⟨RX10, "write", "(I)I"⟩
abbrev cX10_wipe : ByteArray := prog_12_method_7_code
def yX10_wipe : MethodName := ⟨RX10, "wipe", "()I"⟩
abbrev cX10_here : ByteArray := prog_12_method_8_code
def yX10_here : MethodName := ⟨RX10, "here", "()I"⟩
abbrev cX10_isFigure : ByteArray := prog_12_method_9_code
def yX10_isFigure : MethodName := ⟨RX10, "isFigure", "()Z"⟩
abbrev cX10_causes : ByteArray := prog_12_method_10_code
def yX10_causes : MethodName := ⟨RX10, "causes", "(II)Z"⟩
abbrev cX10_number : ByteArray := prog_12_method_11_code
def yX10_number : MethodName := ⟨RX10, "number", "(IIII)Z"⟩
abbrev cX10_readsWorld : ByteArray := prog_12_method_12_code
def yX10_readsWorld : MethodName := ⟨RX10, "readsWorld", "()Z"⟩
abbrev cX10_readsBox : ByteArray := prog_12_method_13_code
def yX10_readsBox : MethodName := ⟨RX10, "readsBox", "()Z"⟩
abbrev cX10_readsDisc : ByteArray := prog_12_method_14_code
def yX10_readsDisc : MethodName := ⟨RX10, "readsDisc", "()Z"⟩
abbrev cX10_begins : ByteArray := prog_12_method_15_code
def yX10_begins : MethodName := ⟨RX10, "begins", "()I"⟩
abbrev cX10_mayBegin : ByteArray := prog_12_method_16_code
def yX10_mayBegin : MethodName := ⟨RX10, "mayBegin", "(I)Z"⟩
abbrev cX10_lays : ByteArray := prog_12_method_17_code
def yX10_lays : MethodName := ⟨RX10, "lays", "(II)V"⟩
abbrev cX10_puts : ByteArray := prog_12_method_18_code
def yX10_puts : MethodName := ⟨RX10, "puts", "(IIIIIII)V"⟩
abbrev cX10_readsItem : ByteArray := prog_12_method_19_code
def yX10_readsItem : MethodName := ⟨RX10, "readsItem", "(Z)Z"⟩
abbrev cX10_goesThrough : ByteArray := prog_12_method_20_code
def yX10_goesThrough : MethodName := ⟨RX10, "goesThrough", "(Z)I"⟩
abbrev cX10_fault : ByteArray := prog_12_method_21_code
def yX10_fault : MethodName := ⟨RX10, "fault", "()I"⟩
abbrev cX10_lay : ByteArray := prog_12_method_22_code
def yX10_lay : MethodName := ⟨RX10, "lay", "()I"⟩
abbrev cX10_cause : ByteArray := prog_12_method_23_code
def yX10_cause : MethodName := ⟨RX10, "cause", "(I)I"⟩
abbrev cX10_curve : ByteArray := prog_12_method_24_code
def yX10_curve : MethodName := ⟨RX10, "curve", "(I)I"⟩
abbrev cX10_levels : ByteArray := prog_12_method_25_code
def yX10_levels : MethodName := ⟨RX10, "levels", "(II)I"⟩
abbrev cX10_more : ByteArray := prog_12_method_26_code
def yX10_more : MethodName := ⟨RX10, "more", "(IIIIII)I"⟩
abbrev cX10_box : ByteArray := prog_12_method_27_code
def yX10_box : MethodName := ⟨RX10, "box", "(IIIII)I"⟩
abbrev cX10_disc : ByteArray := prog_12_method_28_code
def yX10_disc : MethodName := ⟨RX10, "disc", "(IIII)I"⟩
abbrev cX10_drop : ByteArray := prog_12_method_29_code
def yX10_drop : MethodName := ⟨RX10, "drop", "(I)I"⟩
abbrev cX10_point : ByteArray := prog_12_method_30_code
def yX10_point : MethodName := ⟨RX10, "point", "(II)I"⟩
abbrev cX10_lift : ByteArray := prog_12_method_31_code
def yX10_lift : MethodName := ⟨RX10, "lift", "(I)I"⟩
abbrev cX10_keyOf : ByteArray := prog_12_method_32_code
def yX10_keyOf : MethodName := ⟨RX10, "keyOf", "(II)I"⟩
abbrev cX10_setCell : ByteArray := prog_12_method_33_code
def yX10_setCell : MethodName := ⟨RX10, "setCell", "(I)V"⟩
abbrev cX10_key : ByteArray := prog_12_method_34_code
def yX10_key : MethodName := ⟨RX10, "key", "(II)I"⟩
abbrev cX10_cell : ByteArray := prog_12_method_35_code
def yX10_cell : MethodName := ⟨RX10, "cell", "(II)I"⟩
abbrev cX10_isTile : ByteArray := prog_12_method_36_code
def yX10_isTile : MethodName := ⟨RX10, "isTile", "(II)Z"⟩
abbrev cX10_sizeOf : ByteArray := prog_12_method_37_code
def yX10_sizeOf : MethodName := ⟨RX10, "sizeOf", "(I)I"⟩
abbrev cX10_sideOf : ByteArray := prog_12_method_38_code
def yX10_sideOf : MethodName := ⟨RX10, "sideOf", "(I)I"⟩
abbrev cX10_has : ByteArray := prog_12_method_39_code
def yX10_has : MethodName := ⟨RX10, "has", "(III)Z"⟩
abbrev cX10_isShape : ByteArray := prog_12_method_40_code
def yX10_isShape : MethodName := ⟨RX10, "isShape", "(II)Z"⟩
abbrev cX10_setShape : ByteArray := prog_12_method_41_code
def yX10_setShape : MethodName := ⟨RX10, "setShape", "()V"⟩
abbrev cX10_shapeIn : ByteArray := prog_12_method_42_code
def yX10_shapeIn : MethodName := ⟨RX10, "shapeIn", "(II)I"⟩
abbrev cX10_pointsIn : ByteArray := prog_12_method_43_code
def yX10_pointsIn : MethodName := ⟨RX10, "pointsIn", "(II)I"⟩
abbrev cX10_tile : ByteArray := prog_12_method_44_code
def yX10_tile : MethodName := ⟨RX10, "tile", "(III)I"⟩
abbrev cX10_beside : ByteArray := prog_12_method_45_code
def yX10_beside : MethodName := ⟨RX10, "beside", "(IIII)I"⟩
abbrev cX10_common : ByteArray := prog_12_method_46_code
def yX10_common : MethodName := ⟨RX10, "common", "(IIII)I"⟩
abbrev cX10_leaps : ByteArray := prog_12_method_47_code
def yX10_leaps : MethodName := ⟨RX10, "leaps", "()I"⟩
abbrev cX10_in : ByteArray := prog_12_method_48_code
def yX10_in : MethodName := ⟨RX10, "in", "(II)I"⟩
abbrev cX10_setCover : ByteArray := prog_12_method_49_code
def yX10_setCover : MethodName := ⟨RX10, "setCover", "(I)V"⟩
abbrev cX10_isWhole : ByteArray := prog_12_method_50_code
def yX10_isWhole : MethodName := ⟨RX10, "isWhole", "(II)Z"⟩
abbrev cX10_levelAt : ByteArray := prog_12_method_51_code
def yX10_levelAt : MethodName := ⟨RX10, "levelAt", "(I)I"⟩
abbrev cX10_tiles : ByteArray := prog_12_method_52_code
def yX10_tiles : MethodName := ⟨RX10, "tiles", "(I)I"⟩
abbrev cX10_isAsked : ByteArray := prog_12_method_53_code
def yX10_isAsked : MethodName := ⟨RX10, "isAsked", "(III)Z"⟩
abbrev cX10_cover : ByteArray := prog_12_method_54_code
def yX10_cover : MethodName := ⟨RX10, "cover", "(III)I"⟩
abbrev cX10_rest : ByteArray := prog_12_method_55_code
def yX10_rest : MethodName := ⟨RX10, "rest", "(I)I"⟩
abbrev cX10_clears : ByteArray := prog_12_method_56_code
def yX10_clears : MethodName := ⟨RX10, "clears", "(I)V"⟩
abbrev cX10_comes : ByteArray := prog_12_method_57_code
def yX10_comes : MethodName := ⟨RX10, "comes", "(I)V"⟩
abbrev cX10_closes : ByteArray := prog_12_method_58_code
def yX10_closes : MethodName := ⟨RX10, "closes", "(I)V"⟩
abbrev cX10_setLeaf : ByteArray := prog_12_method_59_code
def yX10_setLeaf : MethodName := ⟨RX10, "setLeaf", "(I)V"⟩
abbrev cX10_best : ByteArray := prog_12_method_60_code
def yX10_best : MethodName := ⟨RX10, "best", "(I)I"⟩
abbrev cX10_spans : ByteArray := prog_12_method_61_code
def yX10_spans : MethodName := ⟨RX10, "spans", "(I)I"⟩
abbrev cX10_span : ByteArray := prog_12_method_62_code
def yX10_span : MethodName := ⟨RX10, "span", "(III)I"⟩
abbrev cX10_joined : ByteArray := prog_12_method_63_code
def yX10_joined : MethodName := ⟨RX10, "joined", "(II)I"⟩
abbrev cX10_isPoint : ByteArray := prog_12_method_64_code
def yX10_isPoint : MethodName := ⟨RX10, "isPoint", "(I)Z"⟩
abbrev cX10_placeOf : ByteArray := prog_12_method_65_code
def yX10_placeOf : MethodName := ⟨RX10, "placeOf", "(I)I"⟩
abbrev cX10_at : ByteArray := prog_12_method_66_code
def yX10_at : MethodName := ⟨RX10, "at", "(II)I"⟩
abbrev cX10_orderedAt : ByteArray := prog_12_method_67_code
def yX10_orderedAt : MethodName := ⟨RX10, "orderedAt", "(I)I"⟩
abbrev cX10_ordered : ByteArray := prog_12_method_68_code
def yX10_ordered : MethodName := ⟨RX10, "ordered", "(I)I"⟩
abbrev cX10_isFound : ByteArray := prog_12_method_69_code
def yX10_isFound : MethodName := ⟨RX10, "isFound", "(I)Z"⟩
abbrev cX10_search : ByteArray := prog_12_method_70_code
def yX10_search : MethodName := ⟨RX10, "search", "(I)I"⟩
abbrev cX10_found : ByteArray := prog_12_method_71_code
def yX10_found : MethodName := ⟨RX10, "found", "(I)I"⟩
abbrev cX10_nearest : ByteArray := prog_12_method_72_code
def yX10_nearest : MethodName := ⟨RX10, "nearest", "(II)I"⟩
abbrev cX10_shapeMany : ByteArray := prog_12_method_73_code
def yX10_shapeMany : MethodName := ⟨RX10, "shapeMany", "()I"⟩
abbrev cX10_count : ByteArray := prog_12_method_74_code
def yX10_count : MethodName := ⟨RX10, "count", "(I)I"⟩
def RJx145de : String := "java/io/Serializable"
def TJx145de : u_T := fun k => match k with
  | _ => ("", "", "", false)
def tyJx145de : Nat → FieldType := fun k => match k with
  | _ => .int
abbrev wsJx145de0 : List Cond := u_ws RJx145de TJx145de 0
theorem nmJx145de : ∀ a, a < 0 → ∀ b, b < 0 → a ≠ b → (TJx145de a).2.1 ≠ (TJx145de b).2.1 := by decide +kernel
theorem tyJx145de_ok : ∀ k, k < 0 → parseFieldDescriptor (TJx145de k).2.2.1 = some (tyJx145de k) := by decide +kernel
def RJx9f9b0 : String := "java/lang/CharSequence"
def TJx9f9b0 : u_T := fun k => match k with
  | _ => ("", "", "", false)
def tyJx9f9b0 : Nat → FieldType := fun k => match k with
  | _ => .int
abbrev wsJx9f9b00 : List Cond := u_ws RJx9f9b0 TJx9f9b0 0
theorem nmJx9f9b0 : ∀ a, a < 0 → ∀ b, b < 0 → a ≠ b → (TJx9f9b0 a).2.1 ≠ (TJx9f9b0 b).2.1 := by decide +kernel
theorem tyJx9f9b0_ok : ∀ k, k < 0 → parseFieldDescriptor (TJx9f9b0 k).2.2.1 = some (tyJx9f9b0 k) := by decide +kernel
def RJxb160c : String := "java/lang/Comparable"
def TJxb160c : u_T := fun k => match k with
  | _ => ("", "", "", false)
def tyJxb160c : Nat → FieldType := fun k => match k with
  | _ => .int
abbrev wsJxb160c0 : List Cond := u_ws RJxb160c TJxb160c 0
theorem nmJxb160c : ∀ a, a < 0 → ∀ b, b < 0 → a ≠ b → (TJxb160c a).2.1 ≠ (TJxb160c b).2.1 := by decide +kernel
theorem tyJxb160c_ok : ∀ k, k < 0 → parseFieldDescriptor (TJxb160c k).2.2.1 = some (tyJxb160c k) := by decide +kernel
def RJ13 : String := "java/lang/Long"
def TJ13 : u_T := fun k => match k with
  | _ => ("", "", "", false)
def tyJ13 : Nat → FieldType := fun k => match k with
  | _ => .int
abbrev wsJ130 : List Cond := u_ws RJ13 TJ13 0
theorem nmJ13 : ∀ a, a < 0 → ∀ b, b < 0 → a ≠ b → (TJ13 a).2.1 ≠ (TJ13 b).2.1 := by decide +kernel
theorem tyJ13_ok : ∀ k, k < 0 → parseFieldDescriptor (TJ13 k).2.2.1 = some (tyJ13 k) := by decide +kernel
abbrev cJ13_bitCount_95d88 : ByteArray := prog_13_method_50_code
def yJ13_bitCount_95d88 : MethodName := ⟨RJ13, "bitCount", "(J)I"⟩
def RJ9 : String := "java/lang/Math"
def TJ9 : u_T := fun k => match k with
  | _ => ("", "", "", false)
def tyJ9 : Nat → FieldType := fun k => match k with
  | _ => .int
abbrev wsJ90 : List Cond := u_ws RJ9 TJ9 0
theorem nmJ9 : ∀ a, a < 0 → ∀ b, b < 0 → a ≠ b → (TJ9 a).2.1 ≠ (TJ9 b).2.1 := by decide +kernel
theorem tyJ9_ok : ∀ k, k < 0 → parseFieldDescriptor (TJ9 k).2.2.1 = some (tyJ9 k) := by decide +kernel
abbrev cJ9_abs_0f7a4 : ByteArray := prog_14_method_59_code
def yJ9_abs_0f7a4 : MethodName := ⟨RJ9, "abs", "(I)I"⟩
abbrev cJ9_min_7cf53 : ByteArray := prog_14_method_69_code
def yJ9_min_7cf53 : MethodName := ⟨RJ9, "min", "(II)I"⟩
def RJ0 : String := "java/lang/String"
def TJ0 : u_T := fun k => match k with
  | _ => ("", "", "", false)
def tyJ0 : Nat → FieldType := fun k => match k with
  | _ => .int
abbrev wsJ00 : List Cond := u_ws RJ0 TJ0 0
theorem nmJ0 : ∀ a, a < 0 → ∀ b, b < 0 → a ≠ b → (TJ0 a).2.1 ≠ (TJ0 b).2.1 := by decide +kernel
theorem tyJ0_ok : ∀ k, k < 0 → parseFieldDescriptor (TJ0 k).2.2.1 = some (tyJ0 k) := by decide +kernel
abbrev cJ0_length_8abf5 : ByteArray := prog_15_method_54_code
def yJ0_length_8abf5 : MethodName := ⟨RJ0, "length", "()I"⟩
abbrev cJ0_charAt_5068e : ByteArray := prog_15_method_56_code
def yJ0_charAt_5068e : MethodName := ⟨RJ0, "charAt", "(I)C"⟩
abbrev cJ0_coder_7d493 : ByteArray := prog_15_method_152_code
def yJ0_coder_7d493 : MethodName := ⟨RJ0, "coder", "()B"⟩
abbrev cJ0_isLatin1_aae02 : ByteArray := prog_15_method_154_code
def yJ0_isLatin1_aae02 : MethodName := ⟨RJ0, "isLatin1", "()Z"⟩
abbrev cJ0_checkIndex_df160 : ByteArray := prog_15_method_155_code
def yJ0_checkIndex_df160 : MethodName := ⟨RJ0, "checkIndex", "(II)V"⟩
def RJ1 : String := "java/lang/StringLatin1"
def TJ1 : u_T := fun k => match k with
  | _ => ("", "", "", false)
def tyJ1 : Nat → FieldType := fun k => match k with
  | _ => .int
abbrev wsJ10 : List Cond := u_ws RJ1 TJ1 0
theorem nmJ1 : ∀ a, a < 0 → ∀ b, b < 0 → a ≠ b → (TJ1 a).2.1 ≠ (TJ1 b).2.1 := by decide +kernel
theorem tyJ1_ok : ∀ k, k < 0 → parseFieldDescriptor (TJ1 k).2.2.1 = some (tyJ1 k) := by decide +kernel
abbrev cJ1_charAt_3b067 : ByteArray := prog_16_method_2_code
def yJ1_charAt_3b067 : MethodName := ⟨RJ1, "charAt", "([BI)C"⟩
def RJ2 : String := "java/lang/StringUTF16"
def TJ2 : u_T := fun k => match k with
  | _ => ("", "", "", false)
def tyJ2 : Nat → FieldType := fun k => match k with
  | _ => .int
abbrev wsJ20 : List Cond := u_ws RJ2 TJ2 0
theorem nmJ2 : ∀ a, a < 0 → ∀ b, b < 0 → a ≠ b → (TJ2 a).2.1 ≠ (TJ2 b).2.1 := by decide +kernel
theorem tyJ2_ok : ∀ k, k < 0 → parseFieldDescriptor (TJ2 k).2.2.1 = some (tyJ2 k) := by decide +kernel
abbrev cJ2_getChar_3b067 : ByteArray := prog_17_method_5_code
def yJ2_getChar_3b067 : MethodName := ⟨RJ2, "getChar", "([BI)C"⟩
abbrev cJ2_length_9d52b : ByteArray := prog_17_method_6_code
def yJ2_length_9d52b : MethodName := ⟨RJ2, "length", "([B)I"⟩
abbrev cJ2_charAt_3b067 : ByteArray := prog_17_method_83_code
def yJ2_charAt_3b067 : MethodName := ⟨RJ2, "charAt", "([BI)C"⟩
abbrev cJ2_checkIndex_2214a : ByteArray := prog_17_method_91_code
def yJ2_checkIndex_2214a : MethodName := ⟨RJ2, "checkIndex", "(I[B)V"⟩
def RJxfd54e : String := "java/lang/constant/Constable"
def TJxfd54e : u_T := fun k => match k with
  | _ => ("", "", "", false)
def tyJxfd54e : Nat → FieldType := fun k => match k with
  | _ => .int
abbrev wsJxfd54e0 : List Cond := u_ws RJxfd54e TJxfd54e 0
theorem nmJxfd54e : ∀ a, a < 0 → ∀ b, b < 0 → a ≠ b → (TJxfd54e a).2.1 ≠ (TJxfd54e b).2.1 := by decide +kernel
theorem tyJxfd54e_ok : ∀ k, k < 0 → parseFieldDescriptor (TJxfd54e k).2.2.1 = some (tyJxfd54e k) := by decide +kernel
def RJx3cf43 : String := "java/lang/constant/ConstantDesc"
def TJx3cf43 : u_T := fun k => match k with
  | _ => ("", "", "", false)
def tyJx3cf43 : Nat → FieldType := fun k => match k with
  | _ => .int
abbrev wsJx3cf430 : List Cond := u_ws RJx3cf43 TJx3cf43 0
theorem nmJx3cf43 : ∀ a, a < 0 → ∀ b, b < 0 → a ≠ b → (TJx3cf43 a).2.1 ≠ (TJx3cf43 b).2.1 := by decide +kernel
theorem tyJx3cf43_ok : ∀ k, k < 0 → parseFieldDescriptor (TJx3cf43 k).2.2.1 = some (tyJx3cf43 k) := by decide +kernel
def RJ7 : String := "java/util/Arrays"
def TJ7 : u_T := fun k => match k with
  | _ => ("", "", "", false)
def tyJ7 : Nat → FieldType := fun k => match k with
  | _ => .int
abbrev wsJ70 : List Cond := u_ws RJ7 TJ7 0
theorem nmJ7 : ∀ a, a < 0 → ∀ b, b < 0 → a ≠ b → (TJ7 a).2.1 ≠ (TJ7 b).2.1 := by decide +kernel
theorem tyJ7_ok : ∀ k, k < 0 → parseFieldDescriptor (TJ7 k).2.2.1 = some (tyJ7 k) := by decide +kernel
abbrev cJ7_fill_d0a16 : ByteArray := prog_18_method_101_code
def yJ7_fill_d0a16 : MethodName := ⟨RJ7, "fill", "([JJ)V"⟩
abbrev cJ7_fill_53178 : ByteArray := prog_18_method_103_code
def yJ7_fill_53178 : MethodName := ⟨RJ7, "fill", "([II)V"⟩
def RJ3 : String := "jdk/internal/util/Preconditions"
def TJ3 : u_T := fun k => match k with
  | _ => ("", "", "", false)
def tyJ3 : Nat → FieldType := fun k => match k with
  | _ => .int
abbrev wsJ30 : List Cond := u_ws RJ3 TJ3 0
theorem nmJ3 : ∀ a, a < 0 → ∀ b, b < 0 → a ≠ b → (TJ3 a).2.1 ≠ (TJ3 b).2.1 := by decide +kernel
theorem tyJ3_ok : ∀ k, k < 0 → parseFieldDescriptor (TJ3 k).2.2.1 = some (tyJ3 k) := by decide +kernel
abbrev cJ3_checkIndex_8e157 : ByteArray := prog_19_method_11_code
def yJ3_checkIndex_8e157 : MethodName := ⟨RJ3, "checkIndex", "(IILjava/util/function/BiFunction;)I"⟩
def RL : String := "QuadKeysLaw"
abbrev cL_law : ByteArray := code
def yL_law : MethodName := ⟨RL, "law", "([I)Z"⟩
abbrev vwCl : List vw_C := [(RX0, TX0, 7), (RX2, TX2, 2), (RX3, TX3, 1), (RX4, TX4, 6), (RX5, TX5, 7), (RX6, TX6, 5), (RX7, TX7, 6), (RX8, TX8, 1), (RX9, TX9, 4), (RX10, TX10, 30)]
end
section
/-! tables of the classes, by their numbers in vwCl (laid by wip/whole/gentab.py) -/
def am_CN : Nat → String := fun c => match c with
  | 0 => RX0
  | 1 => RX2
  | 2 => RX3
  | 3 => RX4
  | 4 => RX5
  | 5 => RX6
  | 6 => RX7
  | 7 => RX8
  | 8 => RX9
  | _ => RX10
def am_TT : Nat → u_T := fun c => match c with
  | 0 => TX0
  | 1 => TX2
  | 2 => TX3
  | 3 => TX4
  | 4 => TX5
  | 5 => TX6
  | 6 => TX7
  | 7 => TX8
  | 8 => TX9
  | _ => TX10
def am_N : Nat → Nat := fun c => match c with
  | 0 => 7
  | 1 => 2
  | 2 => 1
  | 3 => 6
  | 4 => 7
  | 5 => 5
  | 6 => 6
  | 7 => 1
  | 8 => 4
  | _ => 30
def am_ty : Nat → Nat → FieldType := fun c => match c with
  | 0 => tyX0
  | 1 => tyX2
  | 2 => tyX3
  | 3 => tyX4
  | 4 => tyX5
  | 5 => tyX6
  | 6 => tyX7
  | 7 => tyX8
  | 8 => tyX9
  | _ => tyX10
def am_fk (c j : Nat) : Nat := match c, j with
  | 0, 0 => 7
  | 0, 1 => 7
  | 0, 2 => 7
  | 0, 3 => 6
  | 0, 4 => 12
  | 1, 0 => 0
  | 2, 0 => 1
  | 4, 0 => 10
  | 4, 1 => 3
  | 5, 0 => 0
  | 5, 1 => 0
  | 5, 2 => 0
  | 5, 3 => 0
  | 6, 0 => 2
  | 6, 1 => 0
  | 6, 2 => 0
  | 7, 0 => 4
  | 8, 0 => 11
  | 8, 1 => 5
  | 8, 2 => 9
  | 8, 3 => 9
  | 9, 5 => 0
  | 9, 7 => 0
  | 9, 8 => 0
  | 9, 9 => 0
  | 9, 12 => 0
  | 9, 18 => 0
  | 9, 21 => 0
  | 9, 22 => 0
  | 9, 25 => 0
  | 9, 26 => 0
  | 9, 27 => 0
  | 9, 28 => 0
  | _, _ => 0
def am_Nest : List (String × Nat × MethodName × String) := [(RX9, 9, yX7_init, RX9), (RX9, 18, yX0_init, RX9), (RX0, 11, yX3_init, RX9), (RX0, 26, yX2_init, RX9), (RX0, 33, yX8_init, RX9), (RX5, 11, yX6_init, RX9), (RX5, 24, yX4_init, RX9), (RX7, 83, yX9_isBit, RX9)]
/-- the words that keep: of all methods alike -/
def am_T : List Cond := lw_tbl.filter goodWord
theorem am_T_in : ∀ w ∈ am_T, w ∈ lw_tbl := fun w h => (List.mem_filter.mp h).1
theorem am_T_good : ∀ w ∈ am_T, (w.onTables && w.keeps) = true ∨ ∃ ty, w = .arrayClass ty := fun w h => good_of_word (List.mem_filter.mp h).2
theorem am_in {w : Cond} {i : Nat} (h : lw_tbl[i]? = some w) (hg : goodWord w = true) : w ∈ am_T := List.mem_filter.mpr ⟨List.mem_of_getElem? h, hg⟩
theorem am_ins {ws : List Cond} (ps : List Nat) (hp : ws = ps.filterMap (fun i => lw_tbl[i]?)) (h : ws.all goodWord = true) : ∀ w ∈ ws, w ∈ am_T := by
  intro w hw
  have h1 := List.all_eq_true.mp h w hw
  rw [hp] at hw
  obtain ⟨i, -, hi⟩ := List.mem_filterMap.mp hw
  exact am_in hi h1
/-- an array of int rows can be made: the tables' word, moved -/
theorem am_over_spec {s : State} (h : (Cond.arrayOver (.array .int)).before #[] s = true) :
    ∃ comp c k, s.vm.findClass (FieldType.array .int).toString = some comp ∧ (s.vm.classes.findIdx? fun (x : Class) => match x.kind with | .array component _ => component == comp | _ => false) = some c ∧ s.vm.classes[c]? = some k ∧ k.kind = .array comp (.array .int) ∧ s.vm.findClass ("[" ++ (FieldType.array .int).toString) = some c := by
  unfold Cond.before at h
  simp only [Cond.holds, Cond.value, beq_iff_eq] at h
  cases hc : s.vm.findClass (FieldType.array .int).toString with
  | none => simp [hc] at h
  | some comp =>
    simp only [hc, Option.bind_some, Option.bind_eq_some_iff, Option.map_eq_some_iff] at h
    obtain ⟨c, hi, k, hk, hb⟩ := h
    obtain ⟨hlt, hp, -⟩ := Array.findIdx?_eq_some_iff_getElem.mp hi
    have hkk : s.vm.classes[c] = k := (Array.getElem?_eq_some_iff.mp hk).2
    rw [hkk] at hp
    cases hkind : k.kind with
    | array component ty =>
      rw [hkind] at hb hp
      simp at hb hp
      exact ⟨comp, c, k, rfl, hi, hk, by rw [hkind, hp, hb.1], hb.2⟩
    | _ => rw [hkind] at hb; simp at hb
theorem am_over_moved {u U : State} (hvm : u.vm.Alike U.vm) (h : va_Nw (.arrayOver (.array .int)) u) : va_Nw (.arrayOver (.array .int)) U := by
  obtain ⟨comp, c, k, h1, h2, h3, h4, h5⟩ := am_over_spec h
  obtain ⟨k', hk', he⟩ := hvm.2.2 _ _ h3
  have hi : (U.vm.classes.findIdx? fun (x : Class) => match x.kind with | .array component _ => component == comp | _ => false) = some c := by
    have e1 := va_idx_bare U.vm comp
    have e2 := va_idx_bare u.vm comp
    have e3 : U.vm.bare = u.vm.bare := by first | exact hvm.bare_eq | exact hvm.bare_eq.symm
    rw [e3] at e1
    exact e1.symm.trans (e2.trans h2)
  have hkind : k'.kind = .array comp (.array .int) := by rw [he]; exact h4
  have f1 : U.vm.findClass (FieldType.array .int).toString = some comp := by rw [hvm.findClass]; exact h1
  have f2 : U.vm.findClass ("[" ++ (FieldType.array .int).toString) = some c := by rw [hvm.findClass]; exact h5
  unfold va_Nw Cond.before Cond.holds
  simp only [Cond.value]
  rw [f1, Option.bind_some]
  refine (congrArg (fun o : Option Nat => (o.bind (fun c => (U.vm.classes[c]?).map fun (k : Class) => match k.kind with | .array _ ty => decide (ty = FieldType.array .int) && decide (U.vm.findClass ("[" ++ (FieldType.array .int).toString) = some c) | _ => false) == some true)) hi).trans ?_
  simp [hk', hkind, f2]
end
section
/-! ===== THE ABSTRACT MEMORY: cells by their places (a place is how many cells the run made before it); ints, longs and references of a place by their slots; the places' kinds and lengths.
Kinds: 0 int[], 1 long[], 2 char[], 3 Part[], 4 int[][], 5 + c an object of class c of vwCl. ===== -/
abbrev am_M : Type := (Nat → Nat → Int32) × (Nat → Nat → Int64) × (Nat → Nat → Option Nat) × List (Nat × Nat)
/-- launch, how many cells there were before, the classes, the array classes -/
abbrev am_G : Type := Launch × Nat × va_G × (Nat → ClassId)
def am_c (b : Nat) (v : Value) : Value := match v with
  | .ref k => .ref (b + k)
  | v => v
theorem am_c_cat (b : Nat) (v : Value) : (am_c b v).category = v.category := by cases v <;> rfl
abbrev am_n (M : am_M) : Nat := M.2.2.2.length
def am_sl (M : am_M) : Nat := (M.2.2.2.map (fun q => q.2)).sum
def am_up {α : Type} (f : Nat → Nat → α) (k j : Nat) (x : α) : Nat → Nat → α := fun a i => if a = k ∧ i = j then x else f a i
theorem am_up_row {α : Type} (f : Nat → Nat → α) (k j : Nat) (x : α) : am_up f k j x k = fun i => if i = j then x else f k i := by
  funext i; simp [am_up]
theorem am_up_ne {α : Type} (f : Nat → Nat → α) {a k : Nat} (j : Nat) (x : α) (h : a ≠ k) : am_up f k j x a = f a := by
  funext i; simp [am_up, h]
def am_pI (M : am_M) (k j : Nat) (x : Int32) : am_M := (am_up M.1 k j x, M.2.1, M.2.2.1, M.2.2.2)
def am_pJ (M : am_M) (k j : Nat) (x : Int64) : am_M := (M.1, am_up M.2.1 k j x, M.2.2.1, M.2.2.2)
def am_pR (M : am_M) (k j : Nat) (x : Option Nat) : am_M := (M.1, M.2.1, am_up M.2.2.1 k j x, M.2.2.2)
def am_new (M : am_M) (kd n : Nat) : am_M := (fun a i => if a = am_n M then 0 else M.1 a i, fun a i => if a = am_n M then 0 else M.2.1 a i, fun a i => if a = am_n M then none else M.2.2.1 a i, M.2.2.2 ++ [(kd, n)])
def am_fv (b : Nat) (t : FieldType) (i : Int32) (j : Int64) (r : Option Nat) : Value := match t with
  | .object _ => va_rf (r.map (b + ·))
  | .array _ => va_rf (r.map (b + ·))
  | .long => .long j
  | _ => .int i
def am_fs (b : Nat) (M : am_M) (k c n : Nat) : List Value := (List.range n).map fun j => am_fv b (am_ty c j) (M.1 k j) (M.2.1 k j) (M.2.2.1 k j)
def am_e (G : am_G) (M : am_M) (k : Nat) (sh : Nat × Nat) : va_E :=
  if sh.1 = 0 then .inl (G.2.2.2 0, sh.2, .inl (M.1 k))
  else if sh.1 = 1 then .inl (G.2.2.2 1, sh.2, .inr (.inl (M.2.1 k)))
  else if sh.1 = 2 then .inl (G.2.2.2 2, sh.2, .inl (M.1 k))
  else if sh.1 = 3 then .inl (G.2.2.2 3, sh.2, .inr (.inr (.inr (.inr (fun j => (M.2.2.1 k j).map (G.2.1 + ·))))))
  else if sh.1 = 4 then .inl (G.2.2.2 4, sh.2, .inr (.inr (.inr (.inr (fun j => (M.2.2.1 k j).map (G.2.1 + ·))))))
  else .inr (sh.1 - 5, am_fs G.2.1 M k (sh.1 - 5) sh.2)
def am_ws (G : am_G) (M : am_M) : va_W := M.2.2.2.mapIdx (fun k sh => (G.2.1 + k, am_e G M k sh))
theorem am_ws_get (G : am_G) (M : am_M) (k : Nat) : (am_ws G M)[k]? = (M.2.2.2[k]?).map (fun sh => (G.2.1 + k, am_e G M k sh)) := by
  simp [am_ws, List.getElem?_mapIdx]
theorem am_ws_at {G : am_G} {M : am_M} {k : Nat} {sh : Nat × Nat} (h : M.2.2.2[k]? = some sh) : (am_ws G M)[k]? = some (G.2.1 + k, am_e G M k sh) := by
  rw [am_ws_get, h]; rfl
theorem am_ws_inv {G : am_G} {M : am_M} {k : Nat} {q : Nat × va_E} (h : (am_ws G M)[k]? = some q) : k < am_n M ∧ q.1 = G.2.1 + k := by
  rw [am_ws_get] at h
  cases hs : M.2.2.2[k]? with
  | none => rw [hs] at h; cases h
  | some sh => rw [hs] at h; cases h; exact ⟨(List.getElem?_eq_some_iff.mp hs).1, rfl⟩
abbrev am_A (b : Nat) : Nat → Prop := fun q => b ≤ q
theorem am_ws_D (G : am_G) (M : am_M) : va_D (am_A G.2.1) (am_ws G M) := by
  refine ⟨fun i j p q hi hj e => ?_, fun k q hk => ?_⟩
  · have h1 := (am_ws_inv hi).2
    have h2 := (am_ws_inv hj).2
    rw [h1, h2] at e
    omega
  · show G.2.1 ≤ q.1
    rw [(am_ws_inv hk).2]
    exact Nat.le_add_right _ _
abbrev am_tys (cA : Nat → ClassId) : List (ClassId × FieldType) := [(cA 0, .int), (cA 1, .long), (cA 2, .char), (cA 3, .object RX4), (cA 4, .array .int)]
/-- the heap holds the memory, and nothing else that was made since -/
def am_H (G : am_G) (M : am_M) (H : Heap) : Prop := H.size = G.2.1 + am_n M ∧ va_P G.2.2.1 vwCl (am_ws G M) H
/-- what is known of a place -/
def am_sh (M : am_M) (q kd : Nat) : Prop := ∃ n, M.2.2.2[q]? = some (kd, n)
def am_len (M : am_M) (q : Nat) : Nat := match M.2.2.2[q]? with
  | some s => s.2
  | none => 0
theorem am_sh.at {M : am_M} {q kd : Nat} (h : am_sh M q kd) : M.2.2.2[q]? = some (kd, am_len M q) := by
  obtain ⟨n, hn⟩ := h
  simp [am_len, hn]
/-- which kind a reference of a cell's slot has -/
def am_ek (kd j : Nat) : Nat := if kd = 3 then 5 + 3 else if kd = 4 then 0 else am_fk (kd - 5) j
/-- objects have their fields, references are of their kinds -/
def am_wt (M : am_M) : Prop := ∀ (k kd n : Nat), M.2.2.2[k]? = some (kd, n) → (5 ≤ kd → n = am_N (kd - 5)) ∧ ∀ (j q : Nat), M.2.2.1 k j = some q → am_sh M q (am_ek kd j)
def am_le (M M' : am_M) : Prop := ∃ t, M'.2.2.2 = M.2.2.2 ++ t
theorem am_le.rf (M : am_M) : am_le M M := ⟨[], by simp⟩
theorem am_le.tr {A B C : am_M} (h : am_le A B) (h2 : am_le B C) : am_le A C := by
  obtain ⟨t, ht⟩ := h
  obtain ⟨u, hu⟩ := h2
  exact ⟨t ++ u, by rw [hu, ht, List.append_assoc]⟩
theorem am_le.at {A B : am_M} (h : am_le A B) {k : Nat} {s : Nat × Nat} (hk : A.2.2.2[k]? = some s) : B.2.2.2[k]? = some s := by
  obtain ⟨t, ht⟩ := h
  rw [ht, List.getElem?_append_left (List.getElem?_eq_some_iff.mp hk).1]
  exact hk
theorem am_sh.mono {A B : am_M} (h : am_le A B) {q kd : Nat} (hs : am_sh A q kd) : am_sh B q kd := by
  obtain ⟨n, hn⟩ := hs
  exact ⟨n, h.at hn⟩
theorem am_le.n {A B : am_M} (h : am_le A B) : am_n A ≤ am_n B := by
  obtain ⟨t, ht⟩ := h
  simp [am_n, ht]
theorem am_le.sl {A B : am_M} (h : am_le A B) : am_sl A ≤ am_sl B := by
  obtain ⟨t, ht⟩ := h
  simp [am_sl, ht]
theorem am_le.len {A B : am_M} (h : am_le A B) {q kd : Nat} (hs : am_sh A q kd) : am_len B q = am_len A q := by
  obtain ⟨n, hn⟩ := hs
  have h2 := h.at hn
  simp [am_len, hn, h2]
theorem am_wt.ob {M : am_M} (h : am_wt M) {q c : Nat} (hs : am_sh M q (5 + c)) : M.2.2.2[q]? = some (5 + c, am_N c) := by
  obtain ⟨n, hn⟩ := hs
  have h1 := (h q _ n hn).1 (by omega)
  rw [hn, h1]
  have : 5 + c - 5 = c := by omega
  rw [this]
theorem am_wt.rf {M : am_M} (h : am_wt M) {k kd j q : Nat} (hs : am_sh M k kd) (hq : M.2.2.1 k j = some q) : am_sh M q (am_ek kd j) := by
  obtain ⟨n, hn⟩ := hs
  exact (h k kd n hn).2 j q hq
theorem am_wt.pI {M : am_M} (h : am_wt M) (k j : Nat) (x : Int32) : am_wt (am_pI M k j x) := h
theorem am_wt.pJ {M : am_M} (h : am_wt M) (k j : Nat) (x : Int64) : am_wt (am_pJ M k j x) := h
theorem am_wt.pR {M : am_M} (h : am_wt M) {k kd j q : Nat} (hk : am_sh M k kd) (hq : am_sh M q (am_ek kd j)) : am_wt (am_pR M k j (some q)) := by
  intro a ka n ha
  refine ⟨(h a ka n ha).1, fun i r hr => ?_⟩
  have hr : am_up M.2.2.1 k j (some q) a i = some r := hr
  by_cases he : a = k ∧ i = j
  · obtain ⟨rfl, rfl⟩ := he
    simp [am_up] at hr
    subst hr
    obtain ⟨n2, hn2⟩ := hk
    have ha : M.2.2.2[a]? = some (ka, n) := ha
    rw [hn2] at ha
    cases ha
    exact hq
  · simp [am_up, he] at hr
    exact (h a ka n ha).2 i r hr
theorem am_wt.new {M : am_M} (h : am_wt M) {kd n : Nat} (hn : 5 ≤ kd → n = am_N (kd - 5)) : am_wt (am_new M kd n) := by
  have hle : am_le M (am_new M kd n) := ⟨[(kd, n)], rfl⟩
  intro a ka m ha
  have ha : (M.2.2.2 ++ [(kd, n)])[a]? = some (ka, m) := ha
  by_cases he : a < M.2.2.2.length
  · rw [List.getElem?_append_left he] at ha
    refine ⟨(h a ka m ha).1, fun i r hr => ?_⟩
    have hr : (if a = am_n M then none else M.2.2.1 a i) = some r := hr
    rw [if_neg (by show ¬ a = M.2.2.2.length; omega)] at hr
    exact ((h a ka m ha).2 i r hr).mono hle
  · rw [List.getElem?_append_right (by omega)] at ha
    have hz : a - M.2.2.2.length < 1 := (List.getElem?_eq_some_iff.mp ha).1
    have hz0 : a = M.2.2.2.length := by omega
    rw [show a - M.2.2.2.length = 0 by omega] at ha
    cases ha
    refine ⟨hn, fun i r hr => ?_⟩
    have hr : (if a = am_n M then none else M.2.2.1 a i) = some r := hr
    rw [if_pos hz0] at hr
    cases hr
/-! ===== the world's list behind a store ===== -/
theorem am_ws_ext {G : am_G} {M M' : am_M} {k : Nat} {sh : Nat × Nat} (hs : M'.2.2.2 = M.2.2.2) (h : M.2.2.2[k]? = some sh) (ho : ∀ (a : Nat) (s2 : Nat × Nat), a ≠ k → am_e G M' a s2 = am_e G M a s2) :
    am_ws G M' = (am_ws G M).set k (G.2.1 + k, am_e G M' k sh) := by
  have hl : k < (am_ws G M).length := (List.getElem?_eq_some_iff.mp (am_ws_at (G := G) h)).1
  apply List.ext_getElem?
  intro i
  by_cases hi : i = k
  · subst hi
    rw [List.getElem?_set_self hl, am_ws_get, hs, h]
    rfl
  · rw [List.getElem?_set_ne (fun e => hi e.symm), am_ws_get, am_ws_get, hs]
    cases M.2.2.2[i]? with
    | none => rfl
    | some s2 => simp [ho i s2 hi]
theorem am_e_pI {G : am_G} {M : am_M} {k j : Nat} {x : Int32} (a : Nat) (s2 : Nat × Nat) (h : a ≠ k) : am_e G (am_pI M k j x) a s2 = am_e G M a s2 := by
  simp only [am_e, am_fs, am_pI, am_up_ne _ j x h]
theorem am_e_pJ {G : am_G} {M : am_M} {k j : Nat} {x : Int64} (a : Nat) (s2 : Nat × Nat) (h : a ≠ k) : am_e G (am_pJ M k j x) a s2 = am_e G M a s2 := by
  simp only [am_e, am_fs, am_pJ, am_up_ne _ j x h]
theorem am_e_pR {G : am_G} {M : am_M} {k j : Nat} {x : Option Nat} (a : Nat) (s2 : Nat × Nat) (h : a ≠ k) : am_e G (am_pR M k j x) a s2 = am_e G M a s2 := by
  simp only [am_e, am_fs, am_pR, am_up_ne _ j x h]
theorem am_e_ob (G : am_G) (M : am_M) (k c n : Nat) : am_e G M k (5 + c, n) = .inr (c, am_fs G.2.1 M k c n) := by
  unfold am_e
  rw [if_neg (by show ¬ 5 + c = 0; omega), if_neg (by show ¬ 5 + c = 1; omega), if_neg (by show ¬ 5 + c = 2; omega), if_neg (by show ¬ 5 + c = 3; omega), if_neg (by show ¬ 5 + c = 4; omega)]
  show (Sum.inr (5 + c - 5, am_fs G.2.1 M k (5 + c - 5) n) : va_E) = _
  rw [show 5 + c - 5 = c by omega]
theorem am_fs_get {b : Nat} {M : am_M} {k c n j : Nat} (h : j < n) : (am_fs b M k c n)[j]? = some (am_fv b (am_ty c j) (M.1 k j) (M.2.1 k j) (M.2.2.1 k j)) := by
  simp [am_fs, h]
theorem am_fs_len (b : Nat) (M : am_M) (k c n : Nat) : (am_fs b M k c n).length = n := by simp [am_fs]
theorem am_fs_set {b : Nat} {M M' : am_M} {k c n j : Nat} {v : Value} (h : j < n) (hv : am_fv b (am_ty c j) (M'.1 k j) (M'.2.1 k j) (M'.2.2.1 k j) = v)
    (ho : ∀ i, i ≠ j → am_fv b (am_ty c i) (M'.1 k i) (M'.2.1 k i) (M'.2.2.1 k i) = am_fv b (am_ty c i) (M.1 k i) (M.2.1 k i) (M.2.2.1 k i)) :
    am_fs b M' k c n = (am_fs b M k c n).set j v := by
  apply List.ext_getElem?
  intro i
  by_cases hi : i = j
  · subst hi
    rw [List.getElem?_set_self (by rw [am_fs_len]; exact h), am_fs_get h, hv]
  · rw [List.getElem?_set_ne (fun e => hi e.symm)]
    by_cases hin : i < n
    · rw [am_fs_get hin, am_fs_get hin, ho i hi]
    · rw [List.getElem?_eq_none (by rw [am_fs_len]; omega), List.getElem?_eq_none (by rw [am_fs_len]; omega)]
/-! ===== what the tables say, for all methods alike ===== -/
def am_K (G : am_G) (U : State) : Prop := va_K G.2.2.1 vwCl (am_tys G.2.2.2) U ∧ (∀ q ∈ am_Nest, va_Nw (.methodLinkNest q.1 q.2.1 q.2.2.1 q.2.2.2) U) ∧ va_AO RX4 U ∧ va_Nw (.arrayOver (.array .int)) U
theorem am_K.warm {G : am_G} {s U : State} (hW : s.WarmedH U.vm) (h : am_K G s) : am_K G U :=
  ⟨h.1.moved hW.alike, fun q hq => va_Nw.warmM hW (h.2.1 q hq), h.2.2.1.moved hW.alike, am_over_moved hW.alike h.2.2.2⟩
theorem am_K.same {G : am_G} {u U : State} (h : u.vm = U.vm) (hK : am_K G u) : am_K G U :=
  ⟨hK.1.moved (h ▸ Vm.Alike.refl u.vm), fun q hq => va_Nw.same rfl h (hK.2.1 q hq), hK.2.2.1.moved (h ▸ Vm.Alike.refl u.vm), am_over_moved (h ▸ Vm.Alike.refl u.vm) hK.2.2.2⟩
def am_R (d mc ms : Nat) : Room := { frames := d, cells := mc, slots := ms, locals := 64 * d }
/-- a method's end: its answer, its memory -/
def am_Q (G : am_G) (v : Option Value) (M' : am_M) : Array Value → State → Outcome → State → Prop := fun _ st o t => (o = .returned (v.map (am_c G.2.1)) ∧ am_H G M' t.heap) ∧ va_F (am_A G.2.1) st t
/-- THE CONTRACT of a method at the arguments av and the memory M: it does what X says, if X says something -/
def am_C {β : Type} (emb : β → Option Value × am_M) (G : am_G) (d : Nat) (y : MethodName) (cc : ByteArray) (nL : Nat) (ret : Option FieldType) (av : List Value) (M : am_M) (X : Option β) : Prop :=
  am_wt M → ∀ r : β, X = some r → am_le M (emb r).2 ∧ am_wt (emb r).2 ∧
    Met G.1 y (.code y cc nL ret :: am_T) (am_R d (am_n (emb r).2 - am_n M) (am_sl (emb r).2 - am_sl M)) (va_Pc (av.map (am_c G.2.1)) (fun U => am_H G M U.heap ∧ am_K G U)) (am_Q G (emb r).1 (emb r).2) (am_n (emb r).2 - am_n M) (am_sl (emb r).2 - am_sl M) (am_A G.2.1)
def am_Lc (b : Nat) (L : List (Nat × Value)) : List (Nat × Value) := L.map (fun q => (q.1, am_c b q.2))
def am_Z (G : am_G) (d : Nat) (own nm : String) (cc : ByteArray) (nL : Nat) (ret : Option FieldType) (p : Program) (R : Room) (s : State) (m : MethodId) (args : Array Value) (meth : Method) (c : Code) : Prop :=
  p.tables.exec = Jvm.exec ∧ c.code = cc ∧ c.maxLocals = nL ∧ s.vm.findClass own = some m.cls ∧ (∀ w ∈ am_T, w.before args s = true) ∧ meth.sig.returnType = ret ∧ meth.locks = false ∧ meth.name = nm ∧ am_K G s ∧ G.2.1 ≤ s.heap.size ∧ d ≤ R.frames ∧ 64 * d ≤ R.locals
/-- THE JUDGEMENT: the method, at pc with the locals L, the stack st and the memory M, does what X says, if X says something -/
def am_S {β : Type} (emb : β → Option Value × am_M) (G : am_G) (d : Nat) (own nm : String) (cc : ByteArray) (nL : Nat) (ret : Option FieldType) (pc : Nat) (L : List (Nat × Value)) (st : List Value) (M : am_M) (X : Option β) : Prop :=
  am_wt M → ∀ r : β, X = some r → am_le M (emb r).2 ∧ am_wt (emb r).2 ∧
    ∀ (p : Program) (e : Env) (R : Room) (s : State) (m : MethodId) (args : Array Value) (below : List Frame) (meth : Method) (c : Code) (H : Heap) (locs : List Loc) (cells slots : Nat) (ls : Array Slot),
      am_Z G d own nm cc nL ret p R s m args meth c → lv_has ls nL (am_Lc G.2.1 L) → am_H G M H → va_S (am_A G.2.1) s.heap H locs → s.heap.size + cells = G.2.1 + am_n M → cells + am_n (emb r).2 ≤ R.cells + am_n M → slots + am_sl (emb r).2 ≤ R.slots + am_sl M →
      W p G.1 e R s m args below meth c H locs cells slots (MQ below (am_Q G (emb r).1 (emb r).2) args s R.cells R.slots (am_A G.2.1)) (F0 m pc ls (st.map (am_c G.2.1)))
section AM1
variable {G : am_G} {d : Nat} {own nm : String} {cc : ByteArray} {nL : Nat} {ret : Option FieldType} {pc pc' : Nat} {L L' : List (Nat × Value)} {st st' : List Value} {M : am_M} {β : Type} {emb : β → Option Value × am_M} {X Y : Option β}
theorem am_none : am_S emb G d own nm cc nL ret pc L st M none := fun _ _ h => by cases h
theorem am_eq (h : X = Y) (k : am_S emb G d own nm cc nL ret pc L st M Y) : am_S emb G d own nm cc nL ret pc L st M X := h ▸ k
/-- only the locals and the stack move -/
theorem am_stepL (h : ∀ (p : Program) (e : Env) (R : Room) (s : State) (m : MethodId) (args : Array Value) (below : List Frame) (meth : Method) (c : Code) (H : Heap) (locs : List Loc) (cells slots : Nat) (ls : Array Slot) (Q : State → Prop),
      am_Z G d own nm cc nL ret p R s m args meth c → lv_has ls nL (am_Lc G.2.1 L) → (∀ ls' : Array Slot, lv_has ls' nL (am_Lc G.2.1 L') → W p G.1 e R s m args below meth c H locs cells slots Q (F0 m pc' ls' (st'.map (am_c G.2.1)))) → W p G.1 e R s m args below meth c H locs cells slots Q (F0 m pc ls (st.map (am_c G.2.1))))
    (k : am_S emb G d own nm cc nL ret pc' L' st' M X) : am_S emb G d own nm cc nL ret pc L st M X := by
  intro hwt r0 hX
  obtain ⟨hle, hw', hk⟩ := k hwt r0 hX
  refine ⟨hle, hw', ?_⟩
  intro p e R s m args below meth c H locs cells slots ls hZ hl hH hS hc h1 h2
  exact h p e R s m args below meth c H locs cells slots ls _ hZ hl (fun ls' hl' => hk p e R s m args below meth c H locs cells slots ls' hZ hl' hH hS hc h1 h2)
/-- only the stack moves -/
theorem am_step (h : ∀ (p : Program) (e : Env) (R : Room) (s : State) (m : MethodId) (args : Array Value) (below : List Frame) (meth : Method) (c : Code) (H : Heap) (locs : List Loc) (cells slots : Nat) (ls : Array Slot) (Q : State → Prop),
      am_Z G d own nm cc nL ret p R s m args meth c → lv_has ls nL (am_Lc G.2.1 L) → W p G.1 e R s m args below meth c H locs cells slots Q (F0 m pc' ls (st'.map (am_c G.2.1))) → W p G.1 e R s m args below meth c H locs cells slots Q (F0 m pc ls (st.map (am_c G.2.1))))
    (k : am_S emb G d own nm cc nL ret pc' L st' M X) : am_S emb G d own nm cc nL ret pc L st M X :=
  am_stepL (fun p e R s m args below meth c H locs cells slots ls Q hZ hl kk => h p e R s m args below meth c H locs cells slots ls Q hZ hl (kk ls hl)) k
/-- a test -/
theorem am_stepB {P : Prop} [Decidable P] {pt pf : Nat} (h : ∀ (p : Program) (e : Env) (R : Room) (s : State) (m : MethodId) (args : Array Value) (below : List Frame) (meth : Method) (c : Code) (H : Heap) (locs : List Loc) (cells slots : Nat) (ls : Array Slot) (Q : State → Prop),
      am_Z G d own nm cc nL ret p R s m args meth c → (P → W p G.1 e R s m args below meth c H locs cells slots Q (F0 m pt ls (st'.map (am_c G.2.1)))) → (¬ P → W p G.1 e R s m args below meth c H locs cells slots Q (F0 m pf ls (st'.map (am_c G.2.1)))) → W p G.1 e R s m args below meth c H locs cells slots Q (F0 m pc ls (st.map (am_c G.2.1))))
    (kt : P → am_S emb G d own nm cc nL ret pt L st' M X) (kf : ¬ P → am_S emb G d own nm cc nL ret pf L st' M Y) : am_S emb G d own nm cc nL ret pc L st M (if P then X else Y) := by
  intro hwt r0 hX
  by_cases hP : P
  · rw [if_pos hP] at hX
    obtain ⟨hle, hw', hk⟩ := kt hP hwt r0 hX
    refine ⟨hle, hw', ?_⟩
    intro p e R s m args below meth c H locs cells slots ls hZ hl hH hS hc h1 h2
    exact h p e R s m args below meth c H locs cells slots ls _ hZ (fun _ => hk p e R s m args below meth c H locs cells slots ls hZ hl hH hS hc h1 h2) (fun n => absurd hP n)
  · rw [if_neg hP] at hX
    obtain ⟨hle, hw', hk⟩ := kf hP hwt r0 hX
    refine ⟨hle, hw', ?_⟩
    intro p e R s m args below meth c H locs cells slots ls hZ hl hH hS hc h1 h2
    exact h p e R s m args below meth c H locs cells slots ls _ hZ (fun n => absurd n hP) (fun _ => hk p e R s m args below meth c H locs cells slots ls hZ hl hH hS hc h1 h2)
theorem am_Lat {b : Nat} {ls : Array Slot} (h : lv_has ls nL (am_Lc b L)) {k i : Nat} {v : Value} (hk : L[k]? = some (i, v)) : ls[i]? = some (.val (am_c b v)) :=
  lv_at h k (by show (L.map _)[k]? = _; rw [List.getElem?_map, hk]; rfl)
theorem am_Lset1 (b i : Nat) (v : Value) (L : List (Nat × Value)) : (i, am_c b v) :: (am_Lc b L).filter (fun q => !(q.1 == i) && !(q.1 + 1 == i && q.2.category == 2)) = am_Lc b ((i, v) :: L.filter (fun q => !(q.1 == i) && !(q.1 + 1 == i && q.2.category == 2))) := by
  simp only [am_Lc, List.map_cons, List.filter_map]
  congr 2
  apply List.filter_congr
  intro q _
  simp [am_c_cat]
theorem am_Lset2 (b i : Nat) (v : Value) (L : List (Nat × Value)) : (i, am_c b v) :: (am_Lc b L).filter (fun q => !(q.1 == i) && (!(q.1 == i + 1) && !(q.1 + 1 == i && q.2.category == 2))) = am_Lc b ((i, v) :: L.filter (fun q => !(q.1 == i) && (!(q.1 == i + 1) && !(q.1 + 1 == i && q.2.category == 2)))) := by
  simp only [am_Lc, List.map_cons, List.filter_map]
  congr 2
  apply List.filter_congr
  intro q _
  simp [am_c_cat]
/-- fewer locals -/
theorem am_sub (ks : List Nat) (h : lv_pick L ks = L') (k : am_S emb G d own nm cc nL ret pc L' st M X) : am_S emb G d own nm cc nL ret pc L st M X :=
  am_stepL (fun p e R s m args below meth c H locs cells slots ls Q hZ hl kk => kk ls (lv_sub hl ks (by
    subst h
    show (ks.filterMap fun k => (L.map _)[k]?) = (ks.filterMap fun k => L[k]?).map _
    rw [List.map_filterMap]
    congr 1
    funext k
    rw [List.getElem?_map]))) k
/-! ===== an instruction, a row ===== -/
theorem am_iconst {n : Int} {x : Int32} (hd : decode cc pc = .ok (.iconst n, 1)) (hv : Int32.ofInt n = x) (k : am_S emb G d own nm cc nL ret (pc + 1) L (.int x :: st) M X) : am_S emb G d own nm cc nL ret pc L st M X := am_step (fun p e R s m args below meth c H locs cells slots ls Q hZ hl kk => lv_iconst hZ.1 hZ.2.1 hd hv kk) k
theorem am_bipush {n : Int} {x : Int32} (hd : decode cc pc = .ok (.bipush n, 2)) (hv : (Int8.ofInt n).toInt32 = x) (k : am_S emb G d own nm cc nL ret (pc + 2) L (.int x :: st) M X) : am_S emb G d own nm cc nL ret pc L st M X := am_step (fun p e R s m args below meth c H locs cells slots ls Q hZ hl kk => lv_bipush hZ.1 hZ.2.1 hd hv kk) k
theorem am_sipush {n : Int} {x : Int32} (hd : decode cc pc = .ok (.sipush n, 3)) (hv : (Int16.ofInt n).toInt32 = x) (k : am_S emb G d own nm cc nL ret (pc + 3) L (.int x :: st) M X) : am_S emb G d own nm cc nL ret pc L st M X := am_step (fun p e R s m args below meth c H locs cells slots ls Q hZ hl kk => lv_sipush hZ.1 hZ.2.1 hd hv kk) k
theorem am_lconst {n : Fin 2} {x : Int64} (hd : decode cc pc = .ok (.lconst n, 1)) (hv : Int64.ofNat (n : Nat) = x) (k : am_S emb G d own nm cc nL ret (pc + 1) L (.long x :: st) M X) : am_S emb G d own nm cc nL ret pc L st M X := am_step (fun p e R s m args below meth c H locs cells slots ls Q hZ hl kk => lv_lconst hZ.1 hZ.2.1 hd hv kk) k
theorem am_ldc {i : Nat} {x : Int32} (hd : decode cc pc = .ok (.ldc i, 2)) (hw : .constant own i x ∈ am_T) (k : am_S emb G d own nm cc nL ret (pc + 2) L (.int x :: st) M X) : am_S emb G d own nm cc nL ret pc L st M X := am_step (fun p e R s m args below meth c H locs cells slots ls Q hZ hl kk => lv_ldc hZ.1 hZ.2.1 hZ.2.2.2.1 (hZ.2.2.2.2.1 _ hw) hd kk) k
theorem am_ldc2 {i : Nat} {x : Int64} (hd : decode cc pc = .ok (.ldc2_w i, 3)) (hw : .constantLong own i x ∈ am_T) (k : am_S emb G d own nm cc nL ret (pc + 3) L (.long x :: st) M X) : am_S emb G d own nm cc nL ret pc L st M X := am_step (fun p e R s m args below meth c H locs cells slots ls Q hZ hl kk => lv_ldc2 hZ.1 hZ.2.1 hZ.2.2.2.1 (hZ.2.2.2.2.1 _ hw) hd kk) k
theorem am_iload_n (j : Nat) {k : Fin 4} {i : Nat} {x : Int32} (hd : decode cc pc = .ok (.iload_n k, 1)) (hi : (k : Nat) = i) (hj : L[j]? = some (i, .int x)) (kk : am_S emb G d own nm cc nL ret (pc + 1) L (.int x :: st) M X) : am_S emb G d own nm cc nL ret pc L st M X := am_step (fun p e R s m args below meth c H locs cells slots ls Q hZ hl kk => lv_iload_n hZ.1 hZ.2.1 hd hi (am_Lat hl hj) kk) kk
theorem am_iload (j : Nat) {i : Nat} {x : Int32} (hd : decode cc pc = .ok (.iload i, 2)) (hj : L[j]? = some (i, .int x)) (kk : am_S emb G d own nm cc nL ret (pc + 2) L (.int x :: st) M X) : am_S emb G d own nm cc nL ret pc L st M X := am_step (fun p e R s m args below meth c H locs cells slots ls Q hZ hl kk => lv_iload hZ.1 hZ.2.1 hd (am_Lat hl hj) kk) kk
theorem am_lload_n (j : Nat) {k : Fin 4} {i : Nat} {x : Int64} (hd : decode cc pc = .ok (.lload_n k, 1)) (hi : (k : Nat) = i) (hj : L[j]? = some (i, .long x)) (kk : am_S emb G d own nm cc nL ret (pc + 1) L (.long x :: st) M X) : am_S emb G d own nm cc nL ret pc L st M X := am_step (fun p e R s m args below meth c H locs cells slots ls Q hZ hl kk => lv_lload_n hZ.1 hZ.2.1 hd hi (am_Lat hl hj) kk) kk
theorem am_aload_n (j : Nat) {k : Fin 4} {i : Nat} {x : Nat} (hd : decode cc pc = .ok (.aload_n k, 1)) (hi : (k : Nat) = i) (hj : L[j]? = some (i, .ref x)) (kk : am_S emb G d own nm cc nL ret (pc + 1) L (.ref x :: st) M X) : am_S emb G d own nm cc nL ret pc L st M X := am_step (fun p e R s m args below meth c H locs cells slots ls Q hZ hl kk => lv_aload_n hZ.1 hZ.2.1 hd hi (am_Lat hl hj) kk) kk
theorem am_aload (j : Nat) {i : Nat} {x : Nat} (hd : decode cc pc = .ok (.aload i, 2)) (hj : L[j]? = some (i, .ref x)) (kk : am_S emb G d own nm cc nL ret (pc + 2) L (.ref x :: st) M X) : am_S emb G d own nm cc nL ret pc L st M X := am_step (fun p e R s m args below meth c H locs cells slots ls Q hZ hl kk => lv_aload hZ.1 hZ.2.1 hd (am_Lat hl hj) kk) kk
theorem am_istore_n {k : Fin 4} {i : Nat} {x : Int32} (hd : decode cc pc = .ok (.istore_n k, 1)) (hi : (k : Nat) = i) (hn : i < nL) (hL : (i, Value.int x) :: L.filter (fun q => !(q.1 == i) && !(q.1 + 1 == i && q.2.category == 2)) = L') (kk : am_S emb G d own nm cc nL ret (pc + 1) L' st M X) : am_S emb G d own nm cc nL ret pc L (.int x :: st) M X := am_stepL (fun p e R s m args below meth c H locs cells slots ls Q hZ hl kk => lv_istore_n hZ.1 hZ.2.1 hd hi hl hn (by subst hL; exact am_Lset1 G.2.1 i (.int x) L) kk) kk
theorem am_istore {i : Nat} {x : Int32} (hd : decode cc pc = .ok (.istore i, 2)) (hn : i < nL) (hL : (i, Value.int x) :: L.filter (fun q => !(q.1 == i) && !(q.1 + 1 == i && q.2.category == 2)) = L') (kk : am_S emb G d own nm cc nL ret (pc + 2) L' st M X) : am_S emb G d own nm cc nL ret pc L (.int x :: st) M X := am_stepL (fun p e R s m args below meth c H locs cells slots ls Q hZ hl kk => lv_istore hZ.1 hZ.2.1 hd hl hn (by subst hL; exact am_Lset1 G.2.1 i (.int x) L) kk) kk
theorem am_astore_n {k : Fin 4} {i : Nat} {x : Nat} (hd : decode cc pc = .ok (.astore_n k, 1)) (hi : (k : Nat) = i) (hn : i < nL) (hL : (i, Value.ref x) :: L.filter (fun q => !(q.1 == i) && !(q.1 + 1 == i && q.2.category == 2)) = L') (kk : am_S emb G d own nm cc nL ret (pc + 1) L' st M X) : am_S emb G d own nm cc nL ret pc L (.ref x :: st) M X := am_stepL (fun p e R s m args below meth c H locs cells slots ls Q hZ hl kk => lv_astore_n hZ.1 hZ.2.1 hd hi hl hn (by subst hL; exact am_Lset1 G.2.1 i (.ref x) L) kk) kk
theorem am_astore {i : Nat} {x : Nat} (hd : decode cc pc = .ok (.astore i, 2)) (hn : i < nL) (hL : (i, Value.ref x) :: L.filter (fun q => !(q.1 == i) && !(q.1 + 1 == i && q.2.category == 2)) = L') (kk : am_S emb G d own nm cc nL ret (pc + 2) L' st M X) : am_S emb G d own nm cc nL ret pc L (.ref x :: st) M X := am_stepL (fun p e R s m args below meth c H locs cells slots ls Q hZ hl kk => lv_astore hZ.1 hZ.2.1 hd hl hn (by subst hL; exact am_Lset1 G.2.1 i (.ref x) L) kk) kk
theorem am_lstore_n {k : Fin 4} {i : Nat} {x : Int64} (hd : decode cc pc = .ok (.lstore_n k, 1)) (hi : (k : Nat) = i) (hn : i + 1 < nL) (hL : (i, Value.long x) :: L.filter (fun q => !(q.1 == i) && (!(q.1 == i + 1) && !(q.1 + 1 == i && q.2.category == 2))) = L') (kk : am_S emb G d own nm cc nL ret (pc + 1) L' st M X) : am_S emb G d own nm cc nL ret pc L (.long x :: st) M X := am_stepL (fun p e R s m args below meth c H locs cells slots ls Q hZ hl kk => lv_lstore_n hZ.1 hZ.2.1 hd hi hl hn (by subst hL; exact am_Lset2 G.2.1 i (.long x) L) kk) kk
theorem am_iinc (j : Nat) {i : Nat} {n : Int} {x y : Int32} (hd : decode cc pc = .ok (.iinc i n, 3)) (hj : L[j]? = some (i, .int x)) (hy : x + Int32.ofInt n = y) (hn : i < nL) (hL : (i, Value.int y) :: L.filter (fun q => !(q.1 == i) && !(q.1 + 1 == i && q.2.category == 2)) = L') (kk : am_S emb G d own nm cc nL ret (pc + 3) L' st M X) : am_S emb G d own nm cc nL ret pc L st M X := am_stepL (fun p e R s m args below meth c H locs cells slots ls Q hZ hl kk => lv_iinc (k := j) hZ.1 hZ.2.1 hd hl (by show (L.map _)[j]? = _; rw [List.getElem?_map, hj]; rfl) hy hn (by subst hL; exact am_Lset1 G.2.1 i (.int y) L) kk) kk
theorem am_iadd {x y : Int32} (hd : decode cc pc = .ok (.iadd, 1)) (k : am_S emb G d own nm cc nL ret (pc + 1) L (.int (x + y) :: st) M X) : am_S emb G d own nm cc nL ret pc L (.int y :: .int x :: st) M X := am_step (fun p e R s m args below meth c H locs cells slots ls Q hZ hl kk => lv_iadd hZ.1 hZ.2.1 hd kk) k
theorem am_isub {x y : Int32} (hd : decode cc pc = .ok (.isub, 1)) (k : am_S emb G d own nm cc nL ret (pc + 1) L (.int (x - y) :: st) M X) : am_S emb G d own nm cc nL ret pc L (.int y :: .int x :: st) M X := am_step (fun p e R s m args below meth c H locs cells slots ls Q hZ hl kk => lv_isub hZ.1 hZ.2.1 hd kk) k
theorem am_imul {x y : Int32} (hd : decode cc pc = .ok (.imul, 1)) (k : am_S emb G d own nm cc nL ret (pc + 1) L (.int (x * y) :: st) M X) : am_S emb G d own nm cc nL ret pc L (.int y :: .int x :: st) M X := am_step (fun p e R s m args below meth c H locs cells slots ls Q hZ hl kk => lv_imul hZ.1 hZ.2.1 hd kk) k
theorem am_iand {x y : Int32} (hd : decode cc pc = .ok (.iand, 1)) (k : am_S emb G d own nm cc nL ret (pc + 1) L (.int (x &&& y) :: st) M X) : am_S emb G d own nm cc nL ret pc L (.int y :: .int x :: st) M X := am_step (fun p e R s m args below meth c H locs cells slots ls Q hZ hl kk => lv_iand hZ.1 hZ.2.1 hd kk) k
theorem am_ior {x y : Int32} (hd : decode cc pc = .ok (.ior, 1)) (k : am_S emb G d own nm cc nL ret (pc + 1) L (.int (x ||| y) :: st) M X) : am_S emb G d own nm cc nL ret pc L (.int y :: .int x :: st) M X := am_step (fun p e R s m args below meth c H locs cells slots ls Q hZ hl kk => lv_ior hZ.1 hZ.2.1 hd kk) k
theorem am_ixor {x y : Int32} (hd : decode cc pc = .ok (.ixor, 1)) (k : am_S emb G d own nm cc nL ret (pc + 1) L (.int (x ^^^ y) :: st) M X) : am_S emb G d own nm cc nL ret pc L (.int y :: .int x :: st) M X := am_step (fun p e R s m args below meth c H locs cells slots ls Q hZ hl kk => lv_ixor hZ.1 hZ.2.1 hd kk) k
theorem am_ishl {x y : Int32} (hd : decode cc pc = .ok (.ishl, 1)) (k : am_S emb G d own nm cc nL ret (pc + 1) L (.int (x <<< (y &&& 31)) :: st) M X) : am_S emb G d own nm cc nL ret pc L (.int y :: .int x :: st) M X := am_step (fun p e R s m args below meth c H locs cells slots ls Q hZ hl kk => lv_ishl hZ.1 hZ.2.1 hd kk) k
theorem am_ishr {x y : Int32} (hd : decode cc pc = .ok (.ishr, 1)) (k : am_S emb G d own nm cc nL ret (pc + 1) L (.int (x >>> (y &&& 31)) :: st) M X) : am_S emb G d own nm cc nL ret pc L (.int y :: .int x :: st) M X := am_step (fun p e R s m args below meth c H locs cells slots ls Q hZ hl kk => lv_ishr hZ.1 hZ.2.1 hd kk) k
theorem am_ineg {x : Int32} (hd : decode cc pc = .ok (.ineg, 1)) (k : am_S emb G d own nm cc nL ret (pc + 1) L (.int (-x) :: st) M X) : am_S emb G d own nm cc nL ret pc L (.int x :: st) M X := am_step (fun p e R s m args below meth c H locs cells slots ls Q hZ hl kk => lv_ineg hZ.1 hZ.2.1 hd kk) k
theorem am_idiv {x y : Int32} (hd : decode cc pc = .ok (.idiv, 1)) (k : ¬ y = 0 → am_S emb G d own nm cc nL ret (pc + 1) L (.int (x / y) :: st) M X) : am_S emb G d own nm cc nL ret pc L (.int y :: .int x :: st) M (if y = 0 then none else X) := by
  by_cases h : y = 0
  · rw [if_pos h]; exact am_none
  · rw [if_neg h]; exact am_step (fun p e R s m args below meth c H locs cells slots ls Q hZ hl kk => lv_idiv hZ.1 hZ.2.1 hd h kk) (k h)
theorem am_irem {x y : Int32} (hd : decode cc pc = .ok (.irem, 1)) (k : ¬ y = 0 → am_S emb G d own nm cc nL ret (pc + 1) L (.int (x - x / y * y) :: st) M X) : am_S emb G d own nm cc nL ret pc L (.int y :: .int x :: st) M (if y = 0 then none else X) := by
  by_cases h : y = 0
  · rw [if_pos h]; exact am_none
  · rw [if_neg h]; exact am_step (fun p e R s m args below meth c H locs cells slots ls Q hZ hl kk => lv_irem hZ.1 hZ.2.1 hd h kk) (k h)
theorem am_ladd {x y : Int64} (hd : decode cc pc = .ok (.ladd, 1)) (k : am_S emb G d own nm cc nL ret (pc + 1) L (.long (x + y) :: st) M X) : am_S emb G d own nm cc nL ret pc L (.long y :: .long x :: st) M X := am_step (fun p e R s m args below meth c H locs cells slots ls Q hZ hl kk => lv_ladd hZ.1 hZ.2.1 hd kk) k
theorem am_lsub {x y : Int64} (hd : decode cc pc = .ok (.lsub, 1)) (k : am_S emb G d own nm cc nL ret (pc + 1) L (.long (x - y) :: st) M X) : am_S emb G d own nm cc nL ret pc L (.long y :: .long x :: st) M X := am_step (fun p e R s m args below meth c H locs cells slots ls Q hZ hl kk => lv_lsub hZ.1 hZ.2.1 hd kk) k
theorem am_lmul {x y : Int64} (hd : decode cc pc = .ok (.lmul, 1)) (k : am_S emb G d own nm cc nL ret (pc + 1) L (.long (x * y) :: st) M X) : am_S emb G d own nm cc nL ret pc L (.long y :: .long x :: st) M X := am_step (fun p e R s m args below meth c H locs cells slots ls Q hZ hl kk => lv_lmul hZ.1 hZ.2.1 hd kk) k
theorem am_land {x y : Int64} (hd : decode cc pc = .ok (.land, 1)) (k : am_S emb G d own nm cc nL ret (pc + 1) L (.long (x &&& y) :: st) M X) : am_S emb G d own nm cc nL ret pc L (.long y :: .long x :: st) M X := am_step (fun p e R s m args below meth c H locs cells slots ls Q hZ hl kk => lv_land hZ.1 hZ.2.1 hd kk) k
theorem am_lor {x y : Int64} (hd : decode cc pc = .ok (.lor, 1)) (k : am_S emb G d own nm cc nL ret (pc + 1) L (.long (x ||| y) :: st) M X) : am_S emb G d own nm cc nL ret pc L (.long y :: .long x :: st) M X := am_step (fun p e R s m args below meth c H locs cells slots ls Q hZ hl kk => lv_lor hZ.1 hZ.2.1 hd kk) k
theorem am_lxor {x y : Int64} (hd : decode cc pc = .ok (.lxor, 1)) (k : am_S emb G d own nm cc nL ret (pc + 1) L (.long (x ^^^ y) :: st) M X) : am_S emb G d own nm cc nL ret pc L (.long y :: .long x :: st) M X := am_step (fun p e R s m args below meth c H locs cells slots ls Q hZ hl kk => lv_lxor hZ.1 hZ.2.1 hd kk) k
theorem am_lushr {x : Int64} {y : Int32} (hd : decode cc pc = .ok (.lushr, 1)) (k : am_S emb G d own nm cc nL ret (pc + 1) L (.long ((x.toUInt64 >>> (y.toInt64.toUInt64 &&& Int64.toUInt64 63)).toInt64) :: st) M X) : am_S emb G d own nm cc nL ret pc L (.int y :: .long x :: st) M X := am_step (fun p e R s m args below meth c H locs cells slots ls Q hZ hl kk => lv_lushr hZ.1 hZ.2.1 hd rfl kk) k
theorem am_lshl {x : Int64} {y : Int32} (hd : decode cc pc = .ok (.lshl, 1)) (k : am_S emb G d own nm cc nL ret (pc + 1) L (.long (x <<< (y.toInt64 &&& 63)) :: st) M X) : am_S emb G d own nm cc nL ret pc L (.int y :: .long x :: st) M X := am_step (fun p e R s m args below meth c H locs cells slots ls Q hZ hl kk => lv_lshl hZ.1 hZ.2.1 hd rfl kk) k
theorem am_l2i {x : Int64} (hd : decode cc pc = .ok (.l2i, 1)) (k : am_S emb G d own nm cc nL ret (pc + 1) L (.int x.toInt32 :: st) M X) : am_S emb G d own nm cc nL ret pc L (.long x :: st) M X := am_step (fun p e R s m args below meth c H locs cells slots ls Q hZ hl kk => lv_l2i hZ.1 hZ.2.1 hd rfl kk) k
theorem am_i2c {x : Int32} (hd : decode cc pc = .ok (.i2c, 1)) (k : am_S emb G d own nm cc nL ret (pc + 1) L (.int (x.toUInt32 % 65536).toInt32 :: st) M X) : am_S emb G d own nm cc nL ret pc L (.int x :: st) M X := am_step (fun p e R s m args below meth c H locs cells slots ls Q hZ hl kk => lv_i2c hZ.1 hZ.2.1 hd rfl kk) k
theorem am_lcmp {x y : Int64} (hd : decode cc pc = .ok (.lcmp, 1)) (k : am_S emb G d own nm cc nL ret (pc + 1) L (.int (lg_cmp x y) :: st) M X) : am_S emb G d own nm cc nL ret pc L (.long y :: .long x :: st) M X := am_step (fun p e R s m args below meth c H locs cells slots ls Q hZ hl kk => W.lcmp hZ.1 hZ.2.1 hd kk) k
theorem am_dup {a : Value} (hd : decode cc pc = .ok (.dup, 1)) (ha : a.category = 1) (k : am_S emb G d own nm cc nL ret (pc + 1) L (a :: a :: st) M X) : am_S emb G d own nm cc nL ret pc L (a :: st) M X := am_step (fun p e R s m args below meth c H locs cells slots ls Q hZ hl kk => lv_dup hZ.1 hZ.2.1 hd (by rw [am_c_cat]; exact ha) kk) k
theorem am_dup2 {a b : Value} (hd : decode cc pc = .ok (.dup2, 1)) (ha : a.category = 1) (hb : b.category = 1) (k : am_S emb G d own nm cc nL ret (pc + 1) L (a :: b :: a :: b :: st) M X) : am_S emb G d own nm cc nL ret pc L (a :: b :: st) M X := am_step (fun p e R s m args below meth c H locs cells slots ls Q hZ hl kk => lv_dup2_11 hZ.1 hZ.2.1 hd (by rw [am_c_cat]; exact ha) (by rw [am_c_cat]; exact hb) kk) k
theorem am_pop {a : Value} (hd : decode cc pc = .ok (.pop, 1)) (ha : a.category = 1) (k : am_S emb G d own nm cc nL ret (pc + 1) L st M X) : am_S emb G d own nm cc nL ret pc L (a :: st) M X := am_step (fun p e R s m args below meth c H locs cells slots ls Q hZ hl kk => lv_pop hZ.1 hZ.2.1 hd (by rw [am_c_cat]; exact ha) kk) k
theorem am_goto {off : Int} {tgt : Nat} (hd : decode cc pc = .ok (.goto off, 3)) (ht : (pc : Int) + off = (tgt : Int)) (k : am_S emb G d own nm cc nL ret tgt L st M X) : am_S emb G d own nm cc nL ret pc L st M X := am_step (fun p e R s m args below meth c H locs cells slots ls Q hZ hl kk => lv_goto hZ.1 hZ.2.1 hd ht kk) k
theorem am_if_eq {x : Int32} {off : Int} {tgt : Nat} (hd : decode cc pc = .ok (.ifCond .eq off, 3)) (ht : (pc : Int) + off = (tgt : Int)) (kt : x = 0 → am_S emb G d own nm cc nL ret tgt L st M X) (kf : ¬ x = 0 → am_S emb G d own nm cc nL ret (pc + 3) L st M Y) : am_S emb G d own nm cc nL ret pc L (.int x :: st) M (if x = 0 then X else Y) := am_stepB (fun p e R s m args below meth c H locs cells slots ls Q hZ kt kf => lv_if_eq hZ.1 hZ.2.1 hd ht kt kf) kt kf
theorem am_icmp_eq {x y : Int32} {off : Int} {tgt : Nat} (hd : decode cc pc = .ok (.if_icmp .eq off, 3)) (ht : (pc : Int) + off = (tgt : Int)) (kt : x = y → am_S emb G d own nm cc nL ret tgt L st M X) (kf : ¬ x = y → am_S emb G d own nm cc nL ret (pc + 3) L st M Y) : am_S emb G d own nm cc nL ret pc L (.int y :: .int x :: st) M (if x = y then X else Y) := am_stepB (fun p e R s m args below meth c H locs cells slots ls Q hZ kt kf => lv_icmp_eq hZ.1 hZ.2.1 hd ht kt kf) kt kf
theorem am_if_ne {x : Int32} {off : Int} {tgt : Nat} (hd : decode cc pc = .ok (.ifCond .ne off, 3)) (ht : (pc : Int) + off = (tgt : Int)) (kt : ¬ x = 0 → am_S emb G d own nm cc nL ret tgt L st M X) (kf : x = 0 → am_S emb G d own nm cc nL ret (pc + 3) L st M Y) : am_S emb G d own nm cc nL ret pc L (.int x :: st) M (if x = 0 then Y else X) := am_stepB (fun p e R s m args below meth c H locs cells slots ls Q hZ kt kf => lv_if_ne hZ.1 hZ.2.1 hd ht kf kt) kf kt
theorem am_icmp_ne {x y : Int32} {off : Int} {tgt : Nat} (hd : decode cc pc = .ok (.if_icmp .ne off, 3)) (ht : (pc : Int) + off = (tgt : Int)) (kt : ¬ x = y → am_S emb G d own nm cc nL ret tgt L st M X) (kf : x = y → am_S emb G d own nm cc nL ret (pc + 3) L st M Y) : am_S emb G d own nm cc nL ret pc L (.int y :: .int x :: st) M (if x = y then Y else X) := am_stepB (fun p e R s m args below meth c H locs cells slots ls Q hZ kt kf => lv_icmp_ne hZ.1 hZ.2.1 hd ht kf kt) kf kt
theorem am_if_lt {x : Int32} {off : Int} {tgt : Nat} (hd : decode cc pc = .ok (.ifCond .lt off, 3)) (ht : (pc : Int) + off = (tgt : Int)) (kt : x < 0 → am_S emb G d own nm cc nL ret tgt L st M X) (kf : ¬ x < 0 → am_S emb G d own nm cc nL ret (pc + 3) L st M Y) : am_S emb G d own nm cc nL ret pc L (.int x :: st) M (if x < 0 then X else Y) := am_stepB (fun p e R s m args below meth c H locs cells slots ls Q hZ kt kf => lv_if_lt hZ.1 hZ.2.1 hd ht kt kf) kt kf
theorem am_icmp_lt {x y : Int32} {off : Int} {tgt : Nat} (hd : decode cc pc = .ok (.if_icmp .lt off, 3)) (ht : (pc : Int) + off = (tgt : Int)) (kt : x < y → am_S emb G d own nm cc nL ret tgt L st M X) (kf : ¬ x < y → am_S emb G d own nm cc nL ret (pc + 3) L st M Y) : am_S emb G d own nm cc nL ret pc L (.int y :: .int x :: st) M (if x < y then X else Y) := am_stepB (fun p e R s m args below meth c H locs cells slots ls Q hZ kt kf => lv_icmp_lt hZ.1 hZ.2.1 hd ht kt kf) kt kf
theorem am_if_ge {x : Int32} {off : Int} {tgt : Nat} (hd : decode cc pc = .ok (.ifCond .ge off, 3)) (ht : (pc : Int) + off = (tgt : Int)) (kt : 0 ≤ x → am_S emb G d own nm cc nL ret tgt L st M X) (kf : ¬ 0 ≤ x → am_S emb G d own nm cc nL ret (pc + 3) L st M Y) : am_S emb G d own nm cc nL ret pc L (.int x :: st) M (if 0 ≤ x then X else Y) := am_stepB (fun p e R s m args below meth c H locs cells slots ls Q hZ kt kf => lv_if_ge hZ.1 hZ.2.1 hd ht kt kf) kt kf
theorem am_icmp_ge {x y : Int32} {off : Int} {tgt : Nat} (hd : decode cc pc = .ok (.if_icmp .ge off, 3)) (ht : (pc : Int) + off = (tgt : Int)) (kt : y ≤ x → am_S emb G d own nm cc nL ret tgt L st M X) (kf : ¬ y ≤ x → am_S emb G d own nm cc nL ret (pc + 3) L st M Y) : am_S emb G d own nm cc nL ret pc L (.int y :: .int x :: st) M (if y ≤ x then X else Y) := am_stepB (fun p e R s m args below meth c H locs cells slots ls Q hZ kt kf => lv_icmp_ge hZ.1 hZ.2.1 hd ht kt kf) kt kf
theorem am_if_gt {x : Int32} {off : Int} {tgt : Nat} (hd : decode cc pc = .ok (.ifCond .gt off, 3)) (ht : (pc : Int) + off = (tgt : Int)) (kt : 0 < x → am_S emb G d own nm cc nL ret tgt L st M X) (kf : ¬ 0 < x → am_S emb G d own nm cc nL ret (pc + 3) L st M Y) : am_S emb G d own nm cc nL ret pc L (.int x :: st) M (if 0 < x then X else Y) := am_stepB (fun p e R s m args below meth c H locs cells slots ls Q hZ kt kf => lv_if_gt hZ.1 hZ.2.1 hd ht kt kf) kt kf
theorem am_icmp_gt {x y : Int32} {off : Int} {tgt : Nat} (hd : decode cc pc = .ok (.if_icmp .gt off, 3)) (ht : (pc : Int) + off = (tgt : Int)) (kt : y < x → am_S emb G d own nm cc nL ret tgt L st M X) (kf : ¬ y < x → am_S emb G d own nm cc nL ret (pc + 3) L st M Y) : am_S emb G d own nm cc nL ret pc L (.int y :: .int x :: st) M (if y < x then X else Y) := am_stepB (fun p e R s m args below meth c H locs cells slots ls Q hZ kt kf => lv_icmp_gt hZ.1 hZ.2.1 hd ht kt kf) kt kf
theorem am_if_le {x : Int32} {off : Int} {tgt : Nat} (hd : decode cc pc = .ok (.ifCond .le off, 3)) (ht : (pc : Int) + off = (tgt : Int)) (kt : x ≤ 0 → am_S emb G d own nm cc nL ret tgt L st M X) (kf : ¬ x ≤ 0 → am_S emb G d own nm cc nL ret (pc + 3) L st M Y) : am_S emb G d own nm cc nL ret pc L (.int x :: st) M (if x ≤ 0 then X else Y) := am_stepB (fun p e R s m args below meth c H locs cells slots ls Q hZ kt kf => lv_if_le hZ.1 hZ.2.1 hd ht kt kf) kt kf
theorem am_icmp_le {x y : Int32} {off : Int} {tgt : Nat} (hd : decode cc pc = .ok (.if_icmp .le off, 3)) (ht : (pc : Int) + off = (tgt : Int)) (kt : x ≤ y → am_S emb G d own nm cc nL ret tgt L st M X) (kf : ¬ x ≤ y → am_S emb G d own nm cc nL ret (pc + 3) L st M Y) : am_S emb G d own nm cc nL ret pc L (.int y :: .int x :: st) M (if x ≤ y then X else Y) := am_stepB (fun p e R s m args below meth c H locs cells slots ls Q hZ kt kf => lv_icmp_le hZ.1 hZ.2.1 hd ht kt kf) kt kf
end AM1
end
section
/-! ===== the memory's rows ===== -/
/-- what is known of a class of the memory -/
def am_cf (c : Nat) : Prop := vwCl[c]? = some (am_CN c, am_TT c, am_N c) ∧ (∀ w ∈ u_ws (am_CN c) (am_TT c) (am_N c), w ∈ am_T) ∧ (∀ k, k < am_N c → parseFieldDescriptor (am_TT c k).2.2.1 = some (am_ty c k)) ∧ (∀ a, a < am_N c → ∀ b, b < am_N c → a ≠ b → (am_TT c a).2.1 ≠ (am_TT c b).2.1)
/-- a field link of a class's pool: class c's field j -/
def am_fl (own : String) (idx c j : Nat) : Prop := am_cf c ∧ j < am_N c ∧ Cond.fieldLink own idx (am_TT c j).1 (am_TT c j).2.1 (am_TT c j).2.2.1 ∈ am_T
def am_it (t : FieldType) : Bool := match t with
  | .object _ => false
  | .array _ => false
  | .long => false
  | _ => true
def am_rt (t : FieldType) : Bool := match t with
  | .object _ => true
  | .array _ => true
  | _ => false
theorem am_fv_i {b : Nat} {t : FieldType} {i : Int32} {j : Int64} {r : Option Nat} (h : am_it t = true) : am_fv b t i j r = .int i := by
  cases t <;> first | rfl | cases h
theorem am_fv_r {b : Nat} {t : FieldType} {i : Int32} {j : Int64} {r : Option Nat} (h : am_rt t = true) : am_fv b t i j r = va_rf (r.map (b + ·)) := by
  cases t <;> first | rfl | cases h
theorem am_ek_ob (c j : Nat) : am_ek (5 + c) j = am_fk c j := by
  unfold am_ek
  rw [if_neg (by omega), if_neg (by omega), show 5 + c - 5 = c by omega]
theorem am_sh_new (M : am_M) (kd n : Nat) : am_sh (am_new M kd n) (am_n M) kd := ⟨n, by
  show (M.2.2.2 ++ [(kd, n)])[M.2.2.2.length]? = _
  simp⟩
theorem am_le_new (M : am_M) (kd n : Nat) : am_le M (am_new M kd n) := ⟨[(kd, n)], rfl⟩
theorem am_S_tr {A : Nat → Prop} {H0 H H1 : Heap} {locs locs1 : List Loc} (h : va_S A H0 H locs) (h1 : va_S A H H1 locs1) : va_S A H0 H1 locs1 :=
  ⟨Nat.le_trans h.1 h1.1, fun q hq hn => (h1.2.1 q (Nat.lt_of_lt_of_le hq h.1) hn).trans (h.2.1 q hq hn), h1.2.2⟩
theorem am_S_re {A : Nat → Prop} {H0 H : Heap} {locs : List Loc} (h : va_S A H0 H locs) : va_S A H H locs := ⟨Nat.le_refl _, fun _ _ _ => rfl, h.2.2⟩
/-- how large the heap can be -/
theorem am_W_sz {p : Program} {l : Launch} {e : Env} {R : Room} {s : State} {m : MethodId} {args : Array Value} {below : List Frame} {meth : Method} {c : Code} {H : Heap} {locs : List Loc} {cells slots : Nat} {Q : State → Prop} {g : JFrame}
    (h : H.size ≤ s.heap.size + cells → W p l e R s m args below meth c H locs cells slots Q g) : W p l e R s m args below meth c H locs cells slots Q g := by
  intro T hT X
  exact h (by rw [← hT]; exact X.heapSize) T hT X
section AM2
variable {G : am_G} {d : Nat} {own nm : String} {cc : ByteArray} {nL : Nat} {ret : Option FieldType} {pc pc' : Nat} {L L' : List (Nat × Value)} {st st' : List Value} {M M1 : am_M} {β : Type} {emb : β → Option Value × am_M} {X Y : Option β}
/-- the memory is read -/
theorem am_stepH (h : ∀ (p : Program) (e : Env) (R : Room) (s : State) (m : MethodId) (args : Array Value) (below : List Frame) (meth : Method) (c : Code) (H : Heap) (locs : List Loc) (cells slots : Nat) (ls : Array Slot) (Q : State → Prop),
      am_wt M → am_Z G d own nm cc nL ret p R s m args meth c → va_P G.2.2.1 vwCl (am_ws G M) H → W p G.1 e R s m args below meth c H locs cells slots Q (F0 m pc' ls (st'.map (am_c G.2.1))) → W p G.1 e R s m args below meth c H locs cells slots Q (F0 m pc ls (st.map (am_c G.2.1))))
    (k : am_wt M → am_S emb G d own nm cc nL ret pc' L st' M X) : am_S emb G d own nm cc nL ret pc L st M X := by
  intro hwt r0 hX
  obtain ⟨hle, hw', hk⟩ := k hwt hwt r0 hX
  refine ⟨hle, hw', ?_⟩
  intro p e R s m args below meth c H locs cells slots ls hZ hl hH hS hc h1 h2
  exact h p e R s m args below meth c H locs cells slots ls _ hwt hZ hH.2 (hk p e R s m args below meth c H locs cells slots ls hZ hl hH hS hc h1 h2)
/-- the memory is written, no cell comes -/
theorem am_stepW (hs : M1.2.2.2 = M.2.2.2) (hw1 : am_wt M → am_wt M1)
    (h : ∀ (p : Program) (e : Env) (R : Room) (s : State) (m : MethodId) (args : Array Value) (below : List Frame) (meth : Method) (c : Code) (H : Heap) (locs : List Loc) (cells slots : Nat) (ls : Array Slot) (Q : State → Prop),
      am_wt M → am_Z G d own nm cc nL ret p R s m args meth c → va_P G.2.2.1 vwCl (am_ws G M) H → va_S (am_A G.2.1) H H locs → (∀ (H1 : Heap) (locs1 : List Loc), va_P G.2.2.1 vwCl (am_ws G M1) H1 → va_S (am_A G.2.1) H H1 locs1 → W p G.1 e R s m args below meth c H1 locs1 cells slots Q (F0 m pc' ls (st'.map (am_c G.2.1)))) → W p G.1 e R s m args below meth c H locs cells slots Q (F0 m pc ls (st.map (am_c G.2.1))))
    (k : am_S emb G d own nm cc nL ret pc' L st' M1 X) : am_S emb G d own nm cc nL ret pc L st M X := by
  intro hwt r0 hX
  obtain ⟨hle, hw', hk⟩ := k (hw1 hwt) r0 hX
  have hn : am_n M1 = am_n M := by show M1.2.2.2.length = _; rw [hs]
  have hsl : am_sl M1 = am_sl M := by unfold am_sl; rw [hs]
  refine ⟨?_, hw', ?_⟩
  · obtain ⟨t, ht⟩ := hle
    exact ⟨t, by rw [ht, hs]⟩
  intro p e R s m args below meth c H locs cells slots ls hZ hl hH hS hc h1 h2
  refine h p e R s m args below meth c H locs cells slots ls _ hwt hZ hH.2 (am_S_re hS) (fun H1 locs1 hP1 hS1 => am_W_sz fun hz => ?_)
  refine hk p e R s m args below meth c H1 locs1 cells slots ls hZ hl ⟨?_, hP1⟩ (am_S_tr hS hS1) (by rw [hn]; exact hc) (by rw [hn]; exact h1) (by rw [hsl]; exact h2)
  have h3 := hS1.1
  have h4 := hH.1
  rw [hn]
  omega
/-- a cell comes -/
theorem am_stepN {kd n : Nat} (hw1 : 5 ≤ kd → n = am_N (kd - 5))
    (h : ∀ (p : Program) (e : Env) (R : Room) (s : State) (m : MethodId) (args : Array Value) (below : List Frame) (meth : Method) (c : Code) (H : Heap) (locs : List Loc) (cells slots : Nat) (ls : Array Slot) (Q : State → Prop),
      am_Z G d own nm cc nL ret p R s m args meth c → va_P G.2.2.1 vwCl (am_ws G M) H → va_S (am_A G.2.1) H H locs → G.2.1 ≤ H.size → cells + 1 ≤ R.cells → slots + n ≤ R.slots → (∀ (q : Nat) (H1 : Heap), va_P G.2.2.1 vwCl (am_ws G M ++ [(q, am_e G (am_new M kd n) (am_n M) (kd, n))]) H1 → va_D (am_A G.2.1) (am_ws G M ++ [(q, am_e G (am_new M kd n) (am_n M) (kd, n))]) → va_S (am_A G.2.1) H H1 locs → W p G.1 e R s m args below meth c H1 locs (cells + 1) (slots + n) Q (F0 m pc' ls (.ref q :: st'.map (am_c G.2.1)))) → W p G.1 e R s m args below meth c H locs cells slots Q (F0 m pc ls (st.map (am_c G.2.1))))
    (k : am_S emb G d own nm cc nL ret pc' L (.ref (am_n M) :: st') (am_new M kd n) X) : am_S emb G d own nm cc nL ret pc L st M X := by
  intro hwt r0 hX
  obtain ⟨hle, hw', hk⟩ := k (hwt.new hw1) r0 hX
  have hn : am_n (am_new M kd n) = am_n M + 1 := by show (M.2.2.2 ++ [(kd, n)]).length = _; simp
  have hsl : am_sl (am_new M kd n) = am_sl M + n := by
    show ((M.2.2.2 ++ [(kd, n)]).map (fun q => q.2)).sum = _
    simp [am_sl]
  refine ⟨(am_le_new M kd n).tr hle, hw', ?_⟩
  have hn' := hle.n
  have hsl' := hle.sl
  intro p e R s m args below meth c H locs cells slots ls hZ hl hH hS hc h1 h2
  have hws : am_ws G (am_new M kd n) = am_ws G M ++ [(G.2.1 + am_n M, am_e G (am_new M kd n) (am_n M) (kd, n))] := by
    have ho : ∀ (a : Nat) (s2 : Nat × Nat), a < am_n M → am_e G (am_new M kd n) a s2 = am_e G M a s2 := by
      intro a s2 ha
      have hne : ¬ a = am_n M := by omega
      have e1 : (am_new M kd n).1 a = M.1 a := by funext i; show (if a = am_n M then 0 else M.1 a i) = _; rw [if_neg hne]
      have e2 : (am_new M kd n).2.1 a = M.2.1 a := by funext i; show (if a = am_n M then 0 else M.2.1 a i) = _; rw [if_neg hne]
      have e3 : (am_new M kd n).2.2.1 a = M.2.2.1 a := by funext i; show (if a = am_n M then none else M.2.2.1 a i) = _; rw [if_neg hne]
      unfold am_e am_fs
      rw [e1, e2, e3]
    apply List.ext_getElem?
    intro i
    rw [am_ws_get]
    show Option.map _ ((M.2.2.2 ++ [(kd, n)])[i]?) = _
    by_cases hi : i < M.2.2.2.length
    · rw [List.getElem?_append_left hi, List.getElem?_append_left (by simpa [am_ws] using hi), am_ws_get, List.getElem?_eq_getElem hi]
      simp [ho i _ hi]
    · rw [List.getElem?_append_right (by omega), List.getElem?_append_right (by simp [am_ws]; omega)]
      have hlen : (am_ws G M).length = M.2.2.2.length := by simp [am_ws]
      rw [hlen]
      by_cases he : i = M.2.2.2.length
      · subst he
        simp
      · rw [List.getElem?_eq_none (by simp; omega), List.getElem?_eq_none (by simp; omega)]
        rfl
  refine h p e R s m args below meth c H locs cells slots ls _ hZ hH.2 (am_S_re hS) (Nat.le_trans hZ.2.2.2.2.2.2.2.2.2.1 hS.1) (by omega) (by omega) (fun q H1 hP1 hD1 hS1 => am_W_sz fun hz => ?_)
  have hlen : (am_ws G M).length = am_n M := by simp [am_ws, am_n]
  have hq0 : (am_ws G M ++ [(q, am_e G (am_new M kd n) (am_n M) (kd, n))])[am_n M]? = some (q, am_e G (am_new M kd n) (am_n M) (kd, n)) := by
    rw [List.getElem?_append_right (by omega), hlen, Nat.sub_self]
    rfl
  have hq1 : q < H1.size := (hP1 _ _ hq0).lt
  have hq2 : G.2.1 ≤ q := hD1.2 _ _ hq0
  have h4 := hH.1
  have hq3 : ¬ q < G.2.1 + am_n M := by
    intro hlt
    have hk2 : q - G.2.1 < am_n M := by omega
    have hs2 : M.2.2.2[q - G.2.1]? = some M.2.2.2[q - G.2.1] := List.getElem?_eq_getElem hk2
    have h5 : (am_ws G M ++ [(q, am_e G (am_new M kd n) (am_n M) (kd, n))])[q - G.2.1]? = some (G.2.1 + (q - G.2.1), am_e G M (q - G.2.1) M.2.2.2[q - G.2.1]) := by
      rw [List.getElem?_append_left (by omega)]
      exact am_ws_at hs2
    have h6 := hD1.1 _ _ _ _ h5 hq0 (by show G.2.1 + (q - G.2.1) = q; omega)
    omega
  have hq : q = G.2.1 + am_n M := by omega
  subst hq
  refine hk p e R s m args below meth c H1 locs (cells + 1) (slots + n) ls hZ hl ⟨?_, ?_⟩ (am_S_tr hS hS1) (by rw [hn]; omega) (by rw [hn]; omega) (by rw [hsl]; omega)
  · rw [hn]
    omega
  · rw [hws]
    exact hP1
theorem am_getI {q j idx : Nat} (c : Nat) (hd : decode cc pc = .ok (.getfield idx, 3)) (hf : am_fl own idx c j) (hs : am_sh M q (5 + c)) (ht : am_it (am_ty c j) = true)
    (k : am_S emb G d own nm cc nL ret (pc + 3) L (.int (M.1 q j) :: st) M X) : am_S emb G d own nm cc nL ret pc L (.ref q :: st) M X := by
  refine am_stepH (fun p e R s m args below meth c0 H locs cells slots ls Q hwt hZ hP kk => ?_) (fun _ => k)
  obtain ⟨⟨hc, hin, -, -⟩, hj, hw⟩ := hf
  have he : (am_ws G M)[q]? = some (G.2.1 + q, .inr (c, am_fs G.2.1 M q c (am_N c))) := by rw [am_ws_at (hwt.ob hs), am_e_ob]
  refine va_get (D := G.2.2.1) (tys := am_tys G.2.2.2) hZ.1 hZ.2.1 hZ.2.2.2.2.1 hin hZ.2.2.2.1 hZ.2.2.2.2.2.2.2.2.1.1 hP q he hc j hj (hZ.2.2.2.2.1 _ hw) (fun _ h9 => h9) (am_fs_get hj) hd ?_
  rw [am_fv_i ht]
  exact kk
theorem am_getR {q j idx : Nat} (c : Nat) {Xk : Nat → Option β} (hd : decode cc pc = .ok (.getfield idx, 3)) (hf : am_fl own idx c j) (hs : am_sh M q (5 + c)) (ht : am_rt (am_ty c j) = true)
    (k : ∀ r : Nat, M.2.2.1 q j = some r → am_sh M r (am_fk c j) → am_S emb G d own nm cc nL ret (pc + 3) L (.ref r :: st) M (Xk r)) : am_S emb G d own nm cc nL ret pc L (.ref q :: st) M ((M.2.2.1 q j).bind Xk) := by
  cases hr : M.2.2.1 q j with
  | none => exact am_none
  | some r =>
    refine am_stepH (pc' := pc + 3) (st' := .ref r :: st) (fun p e R s m args below meth c0 H locs cells slots ls Q hwt hZ hP kk => ?_) (fun hwt => k r hr (by rw [← am_ek_ob]; exact hwt.rf hs hr))
    obtain ⟨⟨hc, hin, -, -⟩, hj, hw⟩ := hf
    have he : (am_ws G M)[q]? = some (G.2.1 + q, .inr (c, am_fs G.2.1 M q c (am_N c))) := by rw [am_ws_at (hwt.ob hs), am_e_ob]
    refine va_get (D := G.2.2.1) (tys := am_tys G.2.2.2) hZ.1 hZ.2.1 hZ.2.2.2.2.1 hin hZ.2.2.2.1 hZ.2.2.2.2.2.2.2.2.1.1 hP q he hc j hj (hZ.2.2.2.2.1 _ hw) (fun _ h9 => h9) (am_fs_get hj) hd ?_
    rw [am_fv_r ht, hr]
    exact kk
/-- an int field (not narrowed: .int; boolean, char ..: hn, hfit say that it fits) -/
theorem am_putI {q j idx : Nat} {x : Int32} (c : Nat) (hd : decode cc pc = .ok (.putfield idx, 3)) (hf : am_fl own idx c j) (hs : am_sh M q (5 + c)) (ht : am_it (am_ty c j) = true) (hn : narrow (am_ty c j) (.int x) = .int x) (hfit : fits (am_ty c j) (.int x) = true) (hfin : (am_TT c j).2.2.2 = false)
    (k : am_S emb G d own nm cc nL ret (pc + 3) L st (am_pI M q j x) X) : am_S emb G d own nm cc nL ret pc L (.int x :: .ref q :: st) M X := by
  refine am_stepW (M1 := am_pI M q j x) rfl (fun h => h.pI q j x) (fun p e R s m args below meth c0 H locs cells slots ls Q hwt hZ hP hS kk => ?_) k
  obtain ⟨⟨hc, hin, hty, hnm⟩, hj, hw⟩ := hf
  have hsh := hwt.ob hs
  have he : (am_ws G M)[q]? = some (G.2.1 + q, .inr (c, am_fs G.2.1 M q c (am_N c))) := by rw [am_ws_at hsh, am_e_ob]
  refine va_put (D := G.2.2.1) (tys := am_tys G.2.2.2) (v := .int x) hZ.1 hZ.2.1 hZ.2.2.2.2.1 hin (am_ty c) hty hnm hZ.2.2.2.1 hZ.2.2.2.2.2.2.2.2.1.1 hP (am_ws_D G M) hS q he hc j hj (hZ.2.2.2.2.1 _ hw) (fun _ h9 => h9) hfin (hty j hj) hn hfit (by rw [am_fs_len]; exact hj) hd (fun H1 locs1 hP1 _ hS1 => kk H1 locs1 ?_ hS1)
  rw [am_ws_ext (M := M) (M' := am_pI M q j x) rfl hsh (fun a s2 h => am_e_pI a s2 h), am_e_ob, am_fs_set (M := M) (v := .int x) hj (by rw [am_fv_i ht]; simp [am_pI, am_up]) (fun i hi => by
    have e1 : (am_pI M q j x).1 q i = M.1 q i := by simp [am_pI, am_up, hi]
    rw [e1]; rfl)]
  exact hP1
/-- a final int field in its own constructor -/
theorem am_putFI {q j idx : Nat} {x : Int32} (c : Nat) (hd : decode cc pc = .ok (.putfield idx, 3)) (hf : am_fl own idx c j) (hs : am_sh M q (5 + c)) (ht : am_it (am_ty c j) = true) (hn : narrow (am_ty c j) (.int x) = .int x) (hfit : fits (am_ty c j) (.int x) = true) (hfin : (am_TT c j).2.2.2 = true) (hin2 : nm = "<init>") (hdecl : (am_TT c j).1 = own)
    (k : am_S emb G d own nm cc nL ret (pc + 3) L st (am_pI M q j x) X) : am_S emb G d own nm cc nL ret pc L (.int x :: .ref q :: st) M X := by
  refine am_stepW (M1 := am_pI M q j x) rfl (fun h => h.pI q j x) (fun p e R s m args below meth c0 H locs cells slots ls Q hwt hZ hP hS kk => ?_) k
  obtain ⟨⟨hc, hin, hty, hnm⟩, hj, hw⟩ := hf
  have hsh := hwt.ob hs
  have he : (am_ws G M)[q]? = some (G.2.1 + q, .inr (c, am_fs G.2.1 M q c (am_N c))) := by rw [am_ws_at hsh, am_e_ob]
  refine va_putF (D := G.2.2.1) (tys := am_tys G.2.2.2) (v := .int x) hZ.1 hZ.2.1 hZ.2.2.2.2.1 hin (am_ty c) hty hnm hZ.2.2.2.1 hZ.2.2.2.2.2.2.2.2.1.1 hP (am_ws_D G M) hS q he hc j hj (hZ.2.2.2.2.1 _ hw) (fun _ h9 => h9) hfin (by rw [hZ.2.2.2.2.2.2.2.1]; exact hin2) hdecl (hty j hj) hn hfit (by rw [am_fs_len]; exact hj) hd (fun H1 locs1 hP1 _ hS1 => kk H1 locs1 ?_ hS1)
  rw [am_ws_ext (M := M) (M' := am_pI M q j x) rfl hsh (fun a s2 h => am_e_pI a s2 h), am_e_ob, am_fs_set (M := M) (v := .int x) hj (by rw [am_fv_i ht]; simp [am_pI, am_up]) (fun i hi => by
    have e1 : (am_pI M q j x).1 q i = M.1 q i := by simp [am_pI, am_up, hi]
    rw [e1]; rfl)]
  exact hP1
theorem am_fit_r {t : FieldType} (h : am_rt t = true) (a : Nat) : narrow t (.ref a) = .ref a ∧ fits t (.ref a) = true := by
  cases t <;> first | exact ⟨rfl, rfl⟩ | cases h
theorem am_putR {q j idx r : Nat} (c : Nat) (hd : decode cc pc = .ok (.putfield idx, 3)) (hf : am_fl own idx c j) (hs : am_sh M q (5 + c)) (ht : am_rt (am_ty c j) = true) (hr : am_sh M r (am_fk c j)) (hfin : (am_TT c j).2.2.2 = false)
    (k : am_S emb G d own nm cc nL ret (pc + 3) L st (am_pR M q j (some r)) X) : am_S emb G d own nm cc nL ret pc L (.ref r :: .ref q :: st) M X := by
  refine am_stepW (M1 := am_pR M q j (some r)) rfl (fun h => h.pR hs (by rw [am_ek_ob]; exact hr)) (fun p e R s m args below meth c0 H locs cells slots ls Q hwt hZ hP hS kk => ?_) k
  obtain ⟨⟨hc, hin, hty, hnm⟩, hj, hw⟩ := hf
  have hsh := hwt.ob hs
  have he : (am_ws G M)[q]? = some (G.2.1 + q, .inr (c, am_fs G.2.1 M q c (am_N c))) := by rw [am_ws_at hsh, am_e_ob]
  refine va_put (D := G.2.2.1) (tys := am_tys G.2.2.2) (v := .ref (G.2.1 + r)) hZ.1 hZ.2.1 hZ.2.2.2.2.1 hin (am_ty c) hty hnm hZ.2.2.2.1 hZ.2.2.2.2.2.2.2.2.1.1 hP (am_ws_D G M) hS q he hc j hj (hZ.2.2.2.2.1 _ hw) (fun _ h9 => h9) hfin (hty j hj) (am_fit_r ht _).1 (am_fit_r ht _).2 (by rw [am_fs_len]; exact hj) hd (fun H1 locs1 hP1 _ hS1 => kk H1 locs1 ?_ hS1)
  rw [am_ws_ext (M := M) (M' := am_pR M q j (some r)) rfl hsh (fun a s2 h => am_e_pR a s2 h), am_e_ob, am_fs_set (M := M) (v := .ref (G.2.1 + r)) hj (by rw [am_fv_r ht]; simp [am_pR, am_up, va_rf]) (fun i hi => by
    have e1 : (am_pR M q j (some r)).2.2.1 q i = M.2.2.1 q i := by simp [am_pR, am_up, hi]
    rw [e1]; rfl)]
  exact hP1
theorem am_putFR {q j idx r : Nat} (c : Nat) (hd : decode cc pc = .ok (.putfield idx, 3)) (hf : am_fl own idx c j) (hs : am_sh M q (5 + c)) (ht : am_rt (am_ty c j) = true) (hr : am_sh M r (am_fk c j)) (hfin : (am_TT c j).2.2.2 = true) (hin2 : nm = "<init>") (hdecl : (am_TT c j).1 = own)
    (k : am_S emb G d own nm cc nL ret (pc + 3) L st (am_pR M q j (some r)) X) : am_S emb G d own nm cc nL ret pc L (.ref r :: .ref q :: st) M X := by
  refine am_stepW (M1 := am_pR M q j (some r)) rfl (fun h => h.pR hs (by rw [am_ek_ob]; exact hr)) (fun p e R s m args below meth c0 H locs cells slots ls Q hwt hZ hP hS kk => ?_) k
  obtain ⟨⟨hc, hin, hty, hnm⟩, hj, hw⟩ := hf
  have hsh := hwt.ob hs
  have he : (am_ws G M)[q]? = some (G.2.1 + q, .inr (c, am_fs G.2.1 M q c (am_N c))) := by rw [am_ws_at hsh, am_e_ob]
  refine va_putF (D := G.2.2.1) (tys := am_tys G.2.2.2) (v := .ref (G.2.1 + r)) hZ.1 hZ.2.1 hZ.2.2.2.2.1 hin (am_ty c) hty hnm hZ.2.2.2.1 hZ.2.2.2.2.2.2.2.2.1.1 hP (am_ws_D G M) hS q he hc j hj (hZ.2.2.2.2.1 _ hw) (fun _ h9 => h9) hfin (by rw [hZ.2.2.2.2.2.2.2.1]; exact hin2) hdecl (hty j hj) (am_fit_r ht _).1 (am_fit_r ht _).2 (by rw [am_fs_len]; exact hj) hd (fun H1 locs1 hP1 _ hS1 => kk H1 locs1 ?_ hS1)
  rw [am_ws_ext (M := M) (M' := am_pR M q j (some r)) rfl hsh (fun a s2 h => am_e_pR a s2 h), am_e_ob, am_fs_set (M := M) (v := .ref (G.2.1 + r)) hj (by rw [am_fv_r ht]; simp [am_pR, am_up, va_rf]) (fun i hi => by
    have e1 : (am_pR M q j (some r)).2.2.1 q i = M.2.2.1 q i := by simp [am_pR, am_up, hi]
    rw [e1]; rfl)]
  exact hP1
/-! arrays -/
theorem am_iald {q : Nat} {i : Int32} (hd : decode cc pc = .ok (.iaload, 1)) (hs : am_sh M q 0)
    (k : ¬ (i < 0 ∨ am_len M q ≤ i.toNatClampNeg) → am_S emb G d own nm cc nL ret (pc + 1) L (.int (M.1 q i.toNatClampNeg) :: st) M X) : am_S emb G d own nm cc nL ret pc L (.int i :: .ref q :: st) M (if i < 0 ∨ am_len M q ≤ i.toNatClampNeg then none else X) := by
  by_cases h : i < 0 ∨ am_len M q ≤ i.toNatClampNeg
  · rw [if_pos h]; exact am_none
  · rw [if_neg h]
    refine am_stepH (fun p e R s m args below meth c0 H locs cells slots ls Q hwt hZ hP kk => ?_) (fun _ => k h)
    have he : (am_ws G M)[q]? = some (G.2.1 + q, .inl (G.2.2.2 0, am_len M q, .inl (M.1 q))) := am_ws_at hs.at
    exact va_iald (D := G.2.2.1) (tys := am_tys G.2.2.2) hZ.1 hZ.2.1 hZ.2.2.2.2.2.2.2.2.1.1 hP q 0 he rfl h hd kk
theorem am_cald {q : Nat} {i : Int32} (hd : decode cc pc = .ok (.caload, 1)) (hs : am_sh M q 2)
    (k : ¬ (i < 0 ∨ am_len M q ≤ i.toNatClampNeg) → am_S emb G d own nm cc nL ret (pc + 1) L (.int (M.1 q i.toNatClampNeg) :: st) M X) : am_S emb G d own nm cc nL ret pc L (.int i :: .ref q :: st) M (if i < 0 ∨ am_len M q ≤ i.toNatClampNeg then none else X) := by
  by_cases h : i < 0 ∨ am_len M q ≤ i.toNatClampNeg
  · rw [if_pos h]; exact am_none
  · rw [if_neg h]
    refine am_stepH (fun p e R s m args below meth c0 H locs cells slots ls Q hwt hZ hP kk => ?_) (fun _ => k h)
    have he : (am_ws G M)[q]? = some (G.2.1 + q, .inl (G.2.2.2 2, am_len M q, .inl (M.1 q))) := am_ws_at hs.at
    exact va_cald (D := G.2.2.1) (tys := am_tys G.2.2.2) hZ.1 hZ.2.1 hZ.2.2.2.2.2.2.2.2.1.1 hP q 2 he rfl h hd kk
theorem am_lald {q : Nat} {i : Int32} (hd : decode cc pc = .ok (.laload, 1)) (hs : am_sh M q 1)
    (k : ¬ (i < 0 ∨ am_len M q ≤ i.toNatClampNeg) → am_S emb G d own nm cc nL ret (pc + 1) L (.long (M.2.1 q i.toNatClampNeg) :: st) M X) : am_S emb G d own nm cc nL ret pc L (.int i :: .ref q :: st) M (if i < 0 ∨ am_len M q ≤ i.toNatClampNeg then none else X) := by
  by_cases h : i < 0 ∨ am_len M q ≤ i.toNatClampNeg
  · rw [if_pos h]; exact am_none
  · rw [if_neg h]
    refine am_stepH (fun p e R s m args below meth c0 H locs cells slots ls Q hwt hZ hP kk => ?_) (fun _ => k h)
    have he : (am_ws G M)[q]? = some (G.2.1 + q, .inl (G.2.2.2 1, am_len M q, .inr (.inl (M.2.1 q)))) := am_ws_at hs.at
    exact va_lald (D := G.2.2.1) (tys := am_tys G.2.2.2) hZ.1 hZ.2.1 hZ.2.2.2.2.2.2.2.2.1.1 hP q 1 he rfl h hd kk
theorem am_iast {q : Nat} {i x : Int32} (hd : decode cc pc = .ok (.iastore, 1)) (hs : am_sh M q 0)
    (k : ¬ (i < 0 ∨ am_len M q ≤ i.toNatClampNeg) → am_S emb G d own nm cc nL ret (pc + 1) L st (am_pI M q i.toNatClampNeg x) X) : am_S emb G d own nm cc nL ret pc L (.int x :: .int i :: .ref q :: st) M (if i < 0 ∨ am_len M q ≤ i.toNatClampNeg then none else X) := by
  by_cases h : i < 0 ∨ am_len M q ≤ i.toNatClampNeg
  · rw [if_pos h]; exact am_none
  · rw [if_neg h]
    refine am_stepW (M1 := am_pI M q i.toNatClampNeg x) rfl (fun h => h.pI q _ x) (fun p e R s m args below meth c0 H locs cells slots ls Q hwt hZ hP hS kk => ?_) (k h)
    have he : (am_ws G M)[q]? = some (G.2.1 + q, .inl (G.2.2.2 0, am_len M q, .inl (M.1 q))) := am_ws_at hs.at
    refine va_iast (D := G.2.2.1) (tys := am_tys G.2.2.2) hZ.1 hZ.2.1 hZ.2.2.2.2.2.2.2.2.1.1 hP (am_ws_D G M) hS q 0 he rfl h hd (fun H1 locs1 hP1 _ hS1 => kk H1 locs1 ?_ hS1)
    rw [am_ws_ext (M := M) (M' := am_pI M q i.toNatClampNeg x) rfl hs.at (fun a s2 h => am_e_pI a s2 h)]
    have e1 : am_e G (am_pI M q i.toNatClampNeg x) q (0, am_len M q) = .inl (G.2.2.2 0, am_len M q, .inl (upd (M.1 q) i.toNatClampNeg x)) := by
      show (Sum.inl (G.2.2.2 0, am_len M q, .inl (am_up M.1 q i.toNatClampNeg x q)) : va_E) = _
      rw [am_up_row]; rfl
    rw [e1]
    exact hP1
theorem am_cast {q : Nat} {i x : Int32} (hd : decode cc pc = .ok (.castore, 1)) (hs : am_sh M q 2)
    (k : ¬ (i < 0 ∨ am_len M q ≤ i.toNatClampNeg) → am_S emb G d own nm cc nL ret (pc + 1) L st (am_pI M q i.toNatClampNeg (vp_nar .char x)) X) : am_S emb G d own nm cc nL ret pc L (.int x :: .int i :: .ref q :: st) M (if i < 0 ∨ am_len M q ≤ i.toNatClampNeg then none else X) := by
  by_cases h : i < 0 ∨ am_len M q ≤ i.toNatClampNeg
  · rw [if_pos h]; exact am_none
  · rw [if_neg h]
    refine am_stepW (M1 := am_pI M q i.toNatClampNeg (vp_nar .char x)) rfl (fun h => h.pI q _ _) (fun p e R s m args below meth c0 H locs cells slots ls Q hwt hZ hP hS kk => ?_) (k h)
    have he : (am_ws G M)[q]? = some (G.2.1 + q, .inl (G.2.2.2 2, am_len M q, .inl (M.1 q))) := am_ws_at hs.at
    refine va_cast (D := G.2.2.1) (tys := am_tys G.2.2.2) hZ.1 hZ.2.1 hZ.2.2.2.2.2.2.2.2.1.1 hP (am_ws_D G M) hS q 2 he rfl h hd (fun H1 locs1 hP1 _ hS1 => kk H1 locs1 ?_ hS1)
    rw [am_ws_ext (M := M) (M' := am_pI M q i.toNatClampNeg (vp_nar .char x)) rfl hs.at (fun a s2 h => am_e_pI a s2 h)]
    have e1 : am_e G (am_pI M q i.toNatClampNeg (vp_nar .char x)) q (2, am_len M q) = .inl (G.2.2.2 2, am_len M q, .inl (upd (M.1 q) i.toNatClampNeg (vp_nar .char x))) := by
      show (Sum.inl (G.2.2.2 2, am_len M q, .inl (am_up M.1 q i.toNatClampNeg (vp_nar .char x) q)) : va_E) = _
      rw [am_up_row]; rfl
    rw [e1]
    exact hP1
theorem am_last {q : Nat} {i : Int32} {x : Int64} (hd : decode cc pc = .ok (.lastore, 1)) (hs : am_sh M q 1)
    (k : ¬ (i < 0 ∨ am_len M q ≤ i.toNatClampNeg) → am_S emb G d own nm cc nL ret (pc + 1) L st (am_pJ M q i.toNatClampNeg x) X) : am_S emb G d own nm cc nL ret pc L (.long x :: .int i :: .ref q :: st) M (if i < 0 ∨ am_len M q ≤ i.toNatClampNeg then none else X) := by
  by_cases h : i < 0 ∨ am_len M q ≤ i.toNatClampNeg
  · rw [if_pos h]; exact am_none
  · rw [if_neg h]
    refine am_stepW (M1 := am_pJ M q i.toNatClampNeg x) rfl (fun h => h.pJ q _ x) (fun p e R s m args below meth c0 H locs cells slots ls Q hwt hZ hP hS kk => ?_) (k h)
    have he : (am_ws G M)[q]? = some (G.2.1 + q, .inl (G.2.2.2 1, am_len M q, .inr (.inl (M.2.1 q)))) := am_ws_at hs.at
    refine va_last (D := G.2.2.1) (tys := am_tys G.2.2.2) hZ.1 hZ.2.1 hZ.2.2.2.2.2.2.2.2.1.1 hP (am_ws_D G M) hS q 1 he rfl h hd (fun H1 locs1 hP1 _ hS1 => kk H1 locs1 ?_ hS1)
    rw [am_ws_ext (M := M) (M' := am_pJ M q i.toNatClampNeg x) rfl hs.at (fun a s2 h => am_e_pJ a s2 h)]
    have e1 : am_e G (am_pJ M q i.toNatClampNeg x) q (1, am_len M q) = .inl (G.2.2.2 1, am_len M q, .inr (.inl (vp_updL (M.2.1 q) i.toNatClampNeg x))) := by
      show (Sum.inl (G.2.2.2 1, am_len M q, .inr (.inl (am_up M.2.1 q i.toNatClampNeg x q))) : va_E) = _
      rw [am_up_row]; rfl
    rw [e1]
    exact hP1
theorem am_alen {q kd : Nat} (hd : decode cc pc = .ok (.arraylength, 1)) (hs : am_sh M q kd) (hk : kd < 5)
    (k : am_S emb G d own nm cc nL ret (pc + 1) L (.int (Int32.ofNat (am_len M q)) :: st) M X) : am_S emb G d own nm cc nL ret pc L (.ref q :: st) M X := by
  refine am_stepH (fun p e R s m args below meth c0 H locs cells slots ls Q hwt hZ hP kk => ?_) (fun _ => k)
  have h0 := am_ws_at (G := G) hs.at
  rcases (show kd = 0 ∨ kd = 1 ∨ kd = 2 ∨ kd = 3 ∨ kd = 4 by omega) with rfl | rfl | rfl | rfl | rfl
  · exact va_alen (D := G.2.2.1) (tys := am_tys G.2.2.2) hZ.1 hZ.2.1 hZ.2.2.2.2.2.2.2.2.1.1 hP q 0 (cA := G.2.2.2 0) (x := (am_len M q, .inl (M.1 q))) h0 (ty := .int) rfl rfl hd kk
  · exact va_alen (D := G.2.2.1) (tys := am_tys G.2.2.2) hZ.1 hZ.2.1 hZ.2.2.2.2.2.2.2.2.1.1 hP q 1 (cA := G.2.2.2 1) (x := (am_len M q, .inr (.inl (M.2.1 q)))) h0 (ty := .long) rfl rfl hd kk
  · exact va_alen (D := G.2.2.1) (tys := am_tys G.2.2.2) hZ.1 hZ.2.1 hZ.2.2.2.2.2.2.2.2.1.1 hP q 2 (cA := G.2.2.2 2) (x := (am_len M q, .inl (M.1 q))) h0 (ty := .char) rfl rfl hd kk
  · exact va_alen (D := G.2.2.1) (tys := am_tys G.2.2.2) hZ.1 hZ.2.1 hZ.2.2.2.2.2.2.2.2.1.1 hP q 3 (cA := G.2.2.2 3) (x := (am_len M q, .inr (.inr (.inr (.inr (fun j => (M.2.2.1 q j).map (G.2.1 + ·))))))) h0 (ty := .object RX4) rfl rfl hd kk
  · exact va_alen (D := G.2.2.1) (tys := am_tys G.2.2.2) hZ.1 hZ.2.1 hZ.2.2.2.2.2.2.2.2.1.1 hP q 4 (cA := G.2.2.2 4) (x := (am_len M q, .inr (.inr (.inr (.inr (fun j => (M.2.2.1 q j).map (G.2.1 + ·))))))) h0 (ty := .array .int) rfl rfl hd kk
theorem am_aald {q kd : Nat} {i : Int32} {Xk : Nat → Option β} (hd : decode cc pc = .ok (.aaload, 1)) (hs : am_sh M q kd) (hkd : kd = 3 ∨ kd = 4)
    (k : ∀ r : Nat, ¬ (i < 0 ∨ am_len M q ≤ i.toNatClampNeg) → M.2.2.1 q i.toNatClampNeg = some r → am_sh M r (am_ek kd i.toNatClampNeg) → am_S emb G d own nm cc nL ret (pc + 1) L (.ref r :: st) M (Xk r)) : am_S emb G d own nm cc nL ret pc L (.int i :: .ref q :: st) M (if i < 0 ∨ am_len M q ≤ i.toNatClampNeg then none else (M.2.2.1 q i.toNatClampNeg).bind Xk) := by
  by_cases h : i < 0 ∨ am_len M q ≤ i.toNatClampNeg
  · rw [if_pos h]; exact am_none
  · rw [if_neg h]
    cases hr : M.2.2.1 q i.toNatClampNeg with
    | none => exact am_none
    | some r =>
      refine am_stepH (pc' := pc + 1) (st' := .ref r :: st) (fun p e R s m args below meth c0 H locs cells slots ls Q hwt hZ hP kk => ?_) (fun hwt => k r h hr (hwt.rf hs hr))
      have h0 := am_ws_at (G := G) hs.at
      have hlt : i.toNatClampNeg < am_len M q := Nat.not_le.mp fun z => h (Or.inr z)
      have hsz : ∀ (cA : ClassId) (f : Nat → Option Nat), ¬ (i < 0 ∨ (vp_cell cA (am_len M q, .inr (.inr (.inr (.inr f))))).slots.size ≤ i.toNatClampNeg) := by
        intro cA f
        show ¬ (i < 0 ∨ (arrV _ _ _).slots.size ≤ _)
        rw [arrV_size]
        exact h
      have hval : ∀ (cA : ClassId), (vp_cell cA (am_len M q, .inr (.inr (.inr (.inr (fun j => (M.2.2.1 q j).map (G.2.1 + ·))))))).slots[i.toNatClampNeg]? = some (.ref (G.2.1 + r)) := by
        intro cA
        show (arrV _ _ _).slots[i.toNatClampNeg]? = _
        simp [arrV, hlt, hr, va_rf]
      rcases hkd with rfl | rfl
      · exact W.aald hZ.1 hZ.2.1 (hP q _ h0) ((hZ.2.2.2.2.2.2.2.2.1.1.2 3 _ rfl).1 _ _) rfl (fun z => by cases z) (hsz _ _) (hval _) rfl rfl hd kk
      · exact W.aald hZ.1 hZ.2.1 (hP q _ h0) ((hZ.2.2.2.2.2.2.2.2.1.1.2 4 _ rfl).1 _ _) rfl (fun z => by cases z) (hsz _ _) (hval _) rfl rfl hd kk
theorem am_aast {q r : Nat} {i : Int32} (hd : decode cc pc = .ok (.aastore, 1)) (hs : am_sh M q 3) (hr : am_sh M r (5 + 3))
    (k : ¬ (i < 0 ∨ am_len M q ≤ i.toNatClampNeg) → am_S emb G d own nm cc nL ret (pc + 1) L st (am_pR M q i.toNatClampNeg (some r)) X) : am_S emb G d own nm cc nL ret pc L (.ref r :: .int i :: .ref q :: st) M (if i < 0 ∨ am_len M q ≤ i.toNatClampNeg then none else X) := by
  by_cases h : i < 0 ∨ am_len M q ≤ i.toNatClampNeg
  · rw [if_pos h]; exact am_none
  · rw [if_neg h]
    refine am_stepW (M1 := am_pR M q i.toNatClampNeg (some r)) rfl (fun h => h.pR hs hr) (fun p e R s m args below meth c0 H locs cells slots ls Q hwt hZ hP hS kk => ?_) (k h)
    have he : (am_ws G M)[q]? = some (G.2.1 + q, .inl (G.2.2.2 3, am_len M q, .inr (.inr (.inr (.inr (fun j => (M.2.2.1 q j).map (G.2.1 + ·))))))) := am_ws_at hs.at
    have hv : (am_ws G M)[r]? = some (G.2.1 + r, .inr (3, am_fs G.2.1 M r 3 (am_N 3))) := by rw [am_ws_at (hwt.ob hr), am_e_ob]
    refine va_astq (D := G.2.2.1) (tys := am_tys G.2.2.2) (r := (RX4, TX4, 6)) hZ.1 hZ.2.1 hZ.2.2.2.2.2.2.2.2.1.1 hP (am_ws_D G M) hS q 3 r 3 he rfl hv rfl h hd (fun H1 locs1 hP1 _ hS1 => kk H1 locs1 ?_ hS1)
    rw [am_ws_ext (M := M) (M' := am_pR M q i.toNatClampNeg (some r)) rfl hs.at (fun a s2 h => am_e_pR a s2 h)]
    have e1 : am_e G (am_pR M q i.toNatClampNeg (some r)) q (3, am_len M q) = .inl (G.2.2.2 3, am_len M q, .inr (.inr (.inr (.inr (va_up (fun j => (M.2.2.1 q j).map (G.2.1 + ·)) i.toNatClampNeg (some (G.2.1 + r))))))) := by
      show (Sum.inl (G.2.2.2 3, am_len M q, .inr (.inr (.inr (.inr (fun j => (am_up M.2.2.1 q i.toNatClampNeg (some r) q j).map (G.2.1 + ·)))))) : va_E) = _
      rw [am_up_row]
      congr 7
      funext j
      by_cases hj : j = i.toNatClampNeg
      · simp [va_up, hj]
      · simp [va_up, hj]
    rw [e1]
    exact hP1
end AM2
end
section
/-! ===== a method's end, a method, a call ===== -/
section AM3
variable {G : am_G} {d : Nat} {own nm : String} {cc : ByteArray} {nL : Nat} {ret : Option FieldType} {pc pc' : Nat} {L L' : List (Nat × Value)} {st st' : List Value} {M M1 : am_M} {β : Type} {emb : β → Option Value × am_M} {X Y : Option β}
/-- answers: nothing, an int, a reference -/
abbrev am_ev : am_M → Option Value × am_M := fun M => (none, M)
abbrev am_ei : Int32 × am_M → Option Value × am_M := fun q => (some (.int q.1), q.2)
abbrev am_er : Nat × am_M → Option Value × am_M := fun q => (some (.ref q.1), q.2)
/-- a return: the answer, the memory as it is -/
theorem am_stepR (r0 : β) (hM : (emb r0).2 = M) (h : ∀ (p : Program) (e : Env) (R : Room) (s : State) (m : MethodId) (args : Array Value) (below : List Frame) (meth : Method) (c : Code) (H : Heap) (locs : List Loc) (cells slots : Nat) (ls : Array Slot) (Qc : Array Value → State → Outcome → State → Prop) (free : Addr → Prop),
      am_Z G d own nm cc nL ret p R s m args meth c → (∀ t : State, t.heap = H → s.WarmedH t.vm → Qc args s (.returned ((emb r0).1.map (am_c G.2.1))) t) → (∀ q ∈ locs, free q.base) → W p G.1 e R s m args below meth c H locs cells slots (MQ below Qc args s cells slots free) (F0 m pc ls (st.map (am_c G.2.1)))) :
    am_S emb G d own nm cc nL ret pc L st M (some r0) := by
  subst hM
  intro hwt v' hX
  cases hX
  refine ⟨am_le.rf _, hwt, ?_⟩
  intro p e R s m args below meth c H locs cells slots ls hZ hl hH hS hc h1 h2
  refine W.widen (k := R.cells) (n := R.slots) (by omega) (by omega) ?_
  exact h p e R s m args below meth c H locs R.cells R.slots ls _ _ hZ (fun t ht _ => ⟨⟨rfl, by rw [ht]; exact hH⟩, hS.F ht⟩) hS.2.2
theorem am_vret (hd : decode cc pc = .ok (.return_, 1)) : am_S am_ev G d own nm cc nL none pc L [] M (some M) :=
  am_stepR M rfl (fun p e R s m args below meth c H locs cells slots ls Qc free hZ hq hf => W.vret hZ.1 hZ.2.1 hZ.2.2.2.2.2.1 hq hf hd hZ.2.2.2.2.2.2.1)
theorem am_iret {x : Int32} (hd : decode cc pc = .ok (.ireturn, 1)) : am_S am_ei G d own nm cc nL (some .int) pc L [.int x] M (some (x, M)) :=
  am_stepR (x, M) rfl (fun p e R s m args below meth c H locs cells slots ls Qc free hZ hq hf => W.iret hZ.1 hZ.2.1 hZ.2.2.2.2.2.1 hq hf hd hZ.2.2.2.2.2.2.1)
theorem am_aret {q : Nat} {rt : FieldType} (hrt : (∃ n, rt = .object n) ∨ ∃ t, rt = .array t) (hd : decode cc pc = .ok (.areturn, 1)) : am_S am_er G d own nm cc nL (some rt) pc L [.ref q] M (some (q, M)) :=
  am_stepR (q, M) rfl (fun p e R s m args below meth c H locs cells slots ls Qc free hZ hq hf => W.aret hZ.1 hZ.2.1 hZ.2.2.2.2.2.1 hrt (Or.inr ⟨_, rfl⟩) hq hf hd hZ.2.2.2.2.2.2.1)
/-- a narrow answer -/
theorem am_W_nret {p : Program} {l : Launch} {e : Env} {R : Room} {s : State} {m : MethodId} {args : Array Value} {below : List Frame} {meth : Method} {c : Code} {H : Heap} {locs : List Loc} {cells slots : Nat} {cc : ByteArray} {Qc : Array Value → State → Outcome → State → Prop} {free : Addr → Prop} {v w : Int32} {ty : FieldType} (hexec : p.tables.exec = Jvm.exec) (hb : c.code = cc) (hr : meth.sig.returnType = some ty) (hn : narrow ty (.int v) = .int w)
    (hq : ∀ t : State, t.heap = H → s.WarmedH t.vm → Qc args s (.returned (some (.int w))) t) (hf : ∀ q ∈ locs, free q.base)
    {pc : Nat} {ls : Array Slot} (hdg : decode cc pc = .ok (.ireturn, 1)) (hlocks : meth.locks = false) : W p l e R s m args below meth c H locs cells slots (MQ below Qc args s cells slots free) (F0 m pc ls [.int v]) := by
  intro T hT X
  obtain ⟨fs, hret, hrun, hended, hW, hframe⟩ := X.leave (v := some (.int w)) (fun h => by rw [hr] at h; cases h)
  have hmeth' : T.vm.method? m = some meth := X.method'
  refine ⟨T.setFrames fs, ?_, .returned (some (.int w)), hrun, hended, hq _ hT hW, locs, ⟨⟨_, rfl⟩, hW, hframe⟩, hf⟩
  jvm_step X.here [X.here.top, hexec, hb, hdg, hmeth', hr, hn]
  (try refine ⟨rfl, ?_⟩); (try refine ⟨rfl, ?_⟩)
  first | (intro acts; rw [hret _ acts rfl rfl rfl]) | rw [hret _ _ rfl rfl rfl]
  exact Steps.refl _
theorem am_zret {x : Int32} (hd : decode cc pc = .ok (.ireturn, 1)) : am_S am_ei G d own nm cc nL (some .boolean) pc L [.int x] M (some (x &&& 1, M)) :=
  am_stepR (x &&& 1, M) rfl (fun p e R s m args below meth c H locs cells slots ls Qc free hZ hq hf => am_W_nret hZ.1 hZ.2.1 hZ.2.2.2.2.2.1 rfl hq hf hd hZ.2.2.2.2.2.2.1)
theorem am_cret {x : Int32} (hd : decode cc pc = .ok (.ireturn, 1)) : am_S am_ei G d own nm cc nL (some .char) pc L [.int x] M (some (x.toUInt32.toUInt16.toUInt32.toInt32, M)) :=
  am_stepR (x.toUInt32.toUInt16.toUInt32.toInt32, M) rfl (fun p e R s m args below meth c H locs cells slots ls Qc free hZ hq hf => am_W_nret hZ.1 hZ.2.1 hZ.2.2.2.2.2.1 rfl hq hf hd hZ.2.2.2.2.2.2.1)
/-- A METHOD: its body from its entry gives its contract -/
theorem am_meth {y : MethodName} {av : List Value} {L0 : List (Nat × Value)} (hy : plainName y.cls = true) (hL : lv_args 0 (av.map (am_c G.2.1)) = am_Lc G.2.1 L0) (hn : (lg_sl (av.map (am_c G.2.1))).length ≤ nL)
    (h : am_S emb G d y.cls y.name cc nL ret 0 L0 [] M X) : am_C emb G d y cc nL ret av M X := by
  intro hwt r0 hX
  obtain ⟨hle, hw', hk⟩ := h hwt r0 hX
  have hnn := hle.n
  have hss := hle.sl
  refine ⟨hle, hw', Met.ofW (cc := cc) (maxL := nL) (ret := ret) hy rfl ?_⟩
  intro p e s m args below meth c s₁ B hml hv
  obtain ⟨rfl, hH, hK⟩ := hv
  have hts := atoms_spec (ws := .code y cc nL ret :: am_T) B.pre
  have hown : s.vm.findClass y.cls = some m.cls := findClass_of_methodNamed B.named
  have hl := lv_entry (av.map (am_c G.2.1)) (n := nL) hn
  rw [lg_entry_eq]
  generalize (lg_sl (av.map (am_c G.2.1)) ++ List.replicate (nL - (lg_sl (av.map (am_c G.2.1))).length) Slot.unset).toArray = ls at hl ⊢
  rw [hL] at hl
  have hh : G.2.1 ≤ s.heap.size := by rw [hH.1]; exact Nat.le_add_right _ _
  exact hk p e _ s m _ below meth c s.heap [] 0 0 ls ⟨B.exec, B.bytes, hml, hown, fun w hw => hts w (List.mem_cons_of_mem _ hw), B.returns, B.notSynchronized, (name_of_methodNamed B.named B.method).1, hK, hh, Nat.le_refl _, Nat.le_refl _⟩ hl hH va_S.rf hH.1 (by show 0 + am_n (emb r0).2 ≤ (am_n (emb r0).2 - am_n M) + am_n M; omega) (by show 0 + am_sl (emb r0).2 ≤ (am_sl (emb r0).2 - am_sl M) + am_sl M; omega)
theorem am_blind (G : am_G) (M : am_M) (av : List Value) : FrameBlind (va_Pc av (fun U => am_H G M U.heap ∧ am_K G U)) :=
  fun a U g mk q => ⟨q.1, q.2.1, am_K.same (u := U) rfl q.2.2⟩
theorem am_goodC {y : MethodName} {cc' : ByteArray} {nL' : Nat} {ret' : Option FieldType} (h : Cond.code y cc' nL' ret' ∈ am_T) : GoodIn am_T (.code y cc' nL' ret' :: am_T) := by
  intro w hw
  rcases List.mem_cons.mp hw with rfl | hw
  · exact ⟨h, am_T_good _ h⟩
  · exact ⟨hw, am_T_good _ hw⟩
/-- what a call needs of the tables -/
def am_mB (y : MethodName) (cc' : ByteArray) (nL' : Nat) (ret' : Option FieldType) (n : Nat) : Prop :=
  Cond.initialized y.cls ∈ am_T ∧ Cond.code y cc' nL' ret' ∈ am_T ∧ (y.cls ≠ "java/lang/invoke/MethodHandle" ∧ y.cls ≠ "java/lang/invoke/VarHandle" ∧ (parseMethodDescriptor y.desc).map (fun q => q.parameters.length) = some n) ∧ nL' ≤ 45
/-- behind a call -/
theorem am_stepC {β' : Type} {em' : β' → Option Value × am_M} {Xc : Option β'} {Xk : β' → Option β} {d' : Nat} {y : MethodName} {cc' : ByteArray} {nL' : Nat} {ret' : Option FieldType} {av : List Value}
    (hC : am_C em' G d' y cc' nL' ret' av M Xc) (hdd : d' + 1 ≤ d)
    (h : ∀ (v : Option Value) (M1 : am_M) (p : Program) (e : Env) (R : Room) (s : State) (m : MethodId) (args : Array Value) (below : List Frame) (meth : Method) (c : Code) (H : Heap) (locs : List Loc) (cells slots : Nat) (ls : Array Slot),
      am_wt M → am_Z G d own nm cc nL ret p R s m args meth c → ls.size = nL → am_H G M H → d' + 1 ≤ R.frames → 64 * d' + 64 ≤ R.locals → Met G.1 y (.code y cc' nL' ret' :: am_T) (am_R d' (am_n M1 - am_n M) (am_sl M1 - am_sl M)) (va_Pc (av.map (am_c G.2.1)) (fun U => am_H G M U.heap ∧ am_K G U)) (am_Q G v M1) (am_n M1 - am_n M) (am_sl M1 - am_sl M) (am_A G.2.1) →
      cells + (am_n M1 - am_n M) ≤ R.cells ∧ slots + (am_sl M1 - am_sl M) ≤ R.slots →
      ∃ a, va_Run p G.1 e R s m args below meth c H locs cells slots (am_n M1 - am_n M) (am_sl M1 - am_sl M) (F0 m pc ls (st.map (am_c G.2.1))) (st'.map (am_c G.2.1)) (am_Q G v M1 a) (am_A G.2.1))
    (k : ∀ r : β', Xc = some r → am_wt M → am_le M (em' r).2 → am_wt (em' r).2 → am_S emb G d own nm cc nL ret (pc + 3) L ((em' r).1.toList ++ st') (em' r).2 (Xk r)) :
    am_S emb G d own nm cc nL ret pc L st M (Xc.bind Xk) := by
  intro hwt r0 hX
  cases hXc : Xc with
  | none => rw [hXc] at hX; cases hX
  | some q =>
    rw [hXc] at hX
    have hX : Xk q = some r0 := hX
    obtain ⟨hle1, hwt1, hM⟩ := hC hwt q hXc
    obtain ⟨hle2, hw', hk⟩ := k q hXc hwt hle1 hwt1 hwt1 r0 hX
    generalize (em' q).1 = v at *
    generalize (em' q).2 = M1 at *
    have n1 := hle1.n
    have n2 := hle2.n
    have l1 := hle1.sl
    have l2 := hle2.sl
    refine ⟨hle1.tr hle2, hw', ?_⟩
    intro p e R s m args below meth c H locs cells slots ls hZ hl hH hS hc h1 h2
    have hfr : d' + 1 ≤ R.frames := Nat.le_trans hdd hZ.2.2.2.2.2.2.2.2.2.2.1
    have hlo : 64 * d' + 64 ≤ R.locals := Nat.le_trans (by omega) hZ.2.2.2.2.2.2.2.2.2.2.2
    obtain ⟨a, hr⟩ := h v M1 p e R s m args below meth c H locs cells slots ls hwt hZ hl.1 hH hfr hlo hM ⟨by omega, by omega⟩
    intro T hT X0
    obtain ⟨v2, st₀, t, T', Lc, h0, X', hL, e1, e2, ⟨⟨hv, hH1⟩, hz, hkk⟩, stp⟩ := hr T hT X0
    cases hv
    rw [h0] at hz hkk
    obtain ⟨t2, a1, b1⟩ := hk p e R s m args below meth c T'.heap (locs ++ Lc) (cells + (am_n M1 - am_n M)) (slots + (am_sl M1 - am_sl M)) ls hZ hl (by rw [e1]; exact hH1)
      ⟨Nat.le_trans hS.1 (by rw [e1]; exact hz), fun q hq hn => by rw [e1, hkk q (Nat.lt_of_lt_of_le hq hS.1) hn]; exact hS.2.1 q hq hn, fun q hq => by
        rcases List.mem_append.mp hq with h | h
        · exact hS.2.2 q h
        · exact hL q h⟩ (by omega) (by omega) (by omega) T' rfl X'
    refine ⟨t2, stp t2 ?_, b1⟩
    have e3 : (v.toList ++ st').map (am_c G.2.1) = (v.map (am_c G.2.1)).toList ++ st'.map (am_c G.2.1) := by cases v <;> simp
    rw [e3] at a1
    exact a1
theorem am_room {R : Room} {d' mc ms nL' : Nat} (h1 : d' + 1 ≤ R.frames) (h2 : 64 * d' + 64 ≤ R.locals) (h3 : nL' ≤ 45) : (am_R d' mc ms).frames + 1 ≤ R.frames ∧ 8 + (nL' + 11) + (am_R d' mc ms).locals ≤ R.locals :=
  ⟨h1, by show 8 + (nL' + 11) + 64 * d' ≤ R.locals; omega⟩
theorem am_cats (b : Nat) (l : List Value) : ((l.map (am_c b)).map fun v => v.category) = l.map fun v => v.category := by
  rw [List.map_map]
  apply List.map_congr_left
  intro v _
  exact am_c_cat b v
theorem am_callV {β' : Type} {em' : β' → Option Value × am_M} {Xc : Option β'} {Xk : β' → Option β} {d' idx q n : Nat} {y : MethodName} {cc' : ByteArray} {nL' : Nat} {ret' : Option FieldType} (c : Nat) (As : List Value)
    (hC : am_C em' G d' y cc' nL' ret' (.ref q :: As) M Xc) (hd : decode cc pc = .ok (.invokevirtual idx, 3)) (hB : am_mB y cc' nL' ret' n) (hw : Cond.methodLink own idx y ∈ am_T ∧ Cond.instanceMethod y ∈ am_T ∧ Cond.selects y.cls y y ∈ am_T) (hcl : vwCl[c]? = some (y.cls, am_TT c, am_N c)) (hs : am_sh M q (5 + c)) (hdd : d' + 1 ≤ d) (hn : As.length = n) (hst : st = As.reverse ++ .ref q :: st') (hr8 : (st'.map fun v => v.category).sum ≤ 8)
    (k : ∀ r : β', Xc = some r → am_wt M → am_le M (em' r).2 → am_wt (em' r).2 → am_S emb G d own nm cc nL ret (pc + 3) L ((em' r).1.toList ++ st') (em' r).2 (Xk r)) :
    am_S emb G d own nm cc nL ret pc L st M (Xc.bind Xk) := by
  refine am_stepC hC hdd (fun v M1 p e R s m args below meth c0 H locs cells slots ls hwt hZ hls hH hfr hlo hM hf => ⟨(Value.ref (G.2.1 + q) :: As.map (am_c G.2.1)).toArray, ?_⟩) k
  have he : (am_ws G M)[q]? = some (G.2.1 + q, .inr (c, am_fs G.2.1 M q c (am_N c))) := by rw [am_ws_at (hwt.ob hs), am_e_ob]
  have hts := hZ.2.2.2.2.1
  exact va_runV (As := As.map (am_c G.2.1)) ⟨hZ.1, hZ.2.1, hZ.2.2.1, hZ.2.2.2.1, hts⟩ hM ⟨callB_of n hts (am_goodC hB.2.1) rfl rfl rfl (hts _ hB.1) (hts _ hw.1) hB.2.2.1 (am_room hfr hlo hB.2.2.2), hts _ hw.2.1, hts _ hw.2.2⟩
    ⟨am_blind G M _, va_recv hZ.2.2.2.2.2.2.2.2.1.1 hH.2 hcl he, fun U hU hW => ⟨rfl, by rw [hU]; exact hH, hZ.2.2.2.2.2.2.2.2.1.warm hW⟩⟩ rfl (by rw [List.length_map]; exact hn) hls (by rw [hst]; show ((As.reverse ++ Value.ref q :: st').map (am_c G.2.1)) = _; simp [am_c]) (lv_room (by rw [am_cats]; exact hr8)) hd hf
theorem am_callS {β' : Type} {em' : β' → Option Value × am_M} {Xc : Option β'} {Xk : β' → Option β} {d' idx n : Nat} {y : MethodName} {cc' : ByteArray} {nL' : Nat} {ret' : Option FieldType} (As : List Value)
    (hC : am_C em' G d' y cc' nL' ret' As M Xc) (hd : decode cc pc = .ok (.invokestatic idx, 3)) (hB : am_mB y cc' nL' ret' n) (hw : Cond.methodLink own idx y ∈ am_T ∧ Cond.static y ∈ am_T) (hdd : d' + 1 ≤ d) (hn : As.length = n) (hst : st = As.reverse ++ st') (hr8 : (st'.map fun v => v.category).sum ≤ 8)
    (k : ∀ r : β', Xc = some r → am_wt M → am_le M (em' r).2 → am_wt (em' r).2 → am_S emb G d own nm cc nL ret (pc + 3) L ((em' r).1.toList ++ st') (em' r).2 (Xk r)) :
    am_S emb G d own nm cc nL ret pc L st M (Xc.bind Xk) := by
  refine am_stepC hC hdd (fun v M1 p e R s m args below meth c0 H locs cells slots ls hwt hZ hls hH hfr hlo hM hf => ⟨(As.map (am_c G.2.1)).toArray, ?_⟩) k
  have hts := hZ.2.2.2.2.1
  exact va_runS (As := As.map (am_c G.2.1)) ⟨hZ.1, hZ.2.1, hZ.2.2.1, hZ.2.2.2.1, hts⟩ hM ⟨callB_of n hts (am_goodC hB.2.1) rfl rfl rfl (hts _ hB.1) (hts _ hw.1) hB.2.2.1 (am_room hfr hlo hB.2.2.2), hts _ hw.2⟩
    ⟨am_blind G M _, fun U hU hW => ⟨rfl, by rw [hU]; exact hH, hZ.2.2.2.2.2.2.2.2.1.warm hW⟩⟩ rfl (by rw [List.length_map]; exact hn) hls (by rw [hst]; show ((As.reverse ++ st').map (am_c G.2.1)) = _; simp) (lv_room (by rw [am_cats]; exact hr8)) hd hf
theorem am_callSN {β' : Type} {em' : β' → Option Value × am_M} {Xc : Option β'} {Xk : β' → Option β} {d' idx n : Nat} {y : MethodName} {cc' : ByteArray} {nL' : Nat} {ret' : Option FieldType} (As : List Value) (host : String)
    (hC : am_C em' G d' y cc' nL' ret' As M Xc) (hd : decode cc pc = .ok (.invokestatic idx, 3)) (hB : am_mB y cc' nL' ret' n) (hw : (own, idx, y, host) ∈ am_Nest ∧ Cond.static y ∈ am_T) (hdd : d' + 1 ≤ d) (hn : As.length = n) (hst : st = As.reverse ++ st') (hr8 : (st'.map fun v => v.category).sum ≤ 8)
    (k : ∀ r : β', Xc = some r → am_wt M → am_le M (em' r).2 → am_wt (em' r).2 → am_S emb G d own nm cc nL ret (pc + 3) L ((em' r).1.toList ++ st') (em' r).2 (Xk r)) :
    am_S emb G d own nm cc nL ret pc L st M (Xc.bind Xk) := by
  refine am_stepC hC hdd (fun v M1 p e R s m args below meth c0 H locs cells slots ls hwt hZ hls hH hfr hlo hM hf => ⟨(As.map (am_c G.2.1)).toArray, ?_⟩) k
  have hts := hZ.2.2.2.2.1
  exact va_runSN (As := As.map (am_c G.2.1)) ⟨hZ.1, hZ.2.1, hZ.2.2.1, hZ.2.2.2.1, hts⟩ hM ⟨va_cnB n hts (am_goodC hB.2.1) rfl rfl rfl (hZ.2.2.2.2.2.2.2.2.1.2.1 _ hw.1) (hts _ hB.1) hB.2.2.1 (am_room hfr hlo hB.2.2.2), hts _ hw.2, trivial⟩
    ⟨am_blind G M _, fun U hU hW => ⟨rfl, by rw [hU]; exact hH, hZ.2.2.2.2.2.2.2.2.1.warm hW⟩⟩ rfl (by rw [List.length_map]; exact hn) hls (by rw [hst]; show ((As.reverse ++ st').map (am_c G.2.1)) = _; simp) (lv_room (by rw [am_cats]; exact hr8)) hd hf
theorem am_callI {β' : Type} {em' : β' → Option Value × am_M} {Xc : Option β'} {Xk : β' → Option β} {d' idx q n : Nat} {y : MethodName} {cc' : ByteArray} {nL' : Nat} (As : List Value)
    (hC : am_C em' G d' y cc' nL' none (.ref q :: As) M Xc) (hd : decode cc pc = .ok (.invokespecial idx, 3)) (hB : am_mB y cc' nL' none n) (hw : Cond.methodLink own idx y ∈ am_T ∧ Cond.instanceMethod y ∈ am_T) (hy : y.name = "<init>") (hdd : d' + 1 ≤ d) (hn : As.length = n) (hst : st = As.reverse ++ .ref q :: st') (hr8 : (st'.map fun v => v.category).sum ≤ 8)
    (k : ∀ r : β', Xc = some r → am_wt M → am_le M (em' r).2 → am_wt (em' r).2 → am_S emb G d own nm cc nL ret (pc + 3) L ((em' r).1.toList ++ st') (em' r).2 (Xk r)) :
    am_S emb G d own nm cc nL ret pc L st M (Xc.bind Xk) := by
  refine am_stepC hC hdd (fun v M1 p e R s m args below meth c0 H locs cells slots ls hwt hZ hls hH hfr hlo hM hf => ⟨(Value.ref (G.2.1 + q) :: As.map (am_c G.2.1)).toArray, ?_⟩) k
  have hts := hZ.2.2.2.2.1
  exact va_runI (As := As.map (am_c G.2.1)) (b := G.2.1 + q) ⟨hZ.1, hZ.2.1, hZ.2.2.1, hZ.2.2.2.1, hts⟩ hM ⟨callB_of n hts (am_goodC hB.2.1) rfl rfl rfl (hts _ hB.1) (hts _ hw.1) hB.2.2.1 (am_room hfr hlo hB.2.2.2), hy, hts _ hw.2⟩
    ⟨am_blind G M _, fun U hU hW => ⟨rfl, by rw [hU]; exact hH, hZ.2.2.2.2.2.2.2.2.1.warm hW⟩⟩ rfl (by rw [List.length_map]; exact hn) hls (by rw [hst]; show ((As.reverse ++ Value.ref q :: st').map (am_c G.2.1)) = _; simp [am_c]) (lv_room (by rw [am_cats]; exact hr8)) hd hf
theorem am_callIN {β' : Type} {em' : β' → Option Value × am_M} {Xc : Option β'} {Xk : β' → Option β} {d' idx q n : Nat} {y : MethodName} {cc' : ByteArray} {nL' : Nat} (As : List Value) (host : String)
    (hC : am_C em' G d' y cc' nL' none (.ref q :: As) M Xc) (hd : decode cc pc = .ok (.invokespecial idx, 3)) (hB : am_mB y cc' nL' none n) (hw : (own, idx, y, host) ∈ am_Nest ∧ Cond.instanceMethod y ∈ am_T) (hy : y.name = "<init>") (hdd : d' + 1 ≤ d) (hn : As.length = n) (hst : st = As.reverse ++ .ref q :: st') (hr8 : (st'.map fun v => v.category).sum ≤ 8)
    (k : ∀ r : β', Xc = some r → am_wt M → am_le M (em' r).2 → am_wt (em' r).2 → am_S emb G d own nm cc nL ret (pc + 3) L ((em' r).1.toList ++ st') (em' r).2 (Xk r)) :
    am_S emb G d own nm cc nL ret pc L st M (Xc.bind Xk) := by
  refine am_stepC hC hdd (fun v M1 p e R s m args below meth c0 H locs cells slots ls hwt hZ hls hH hfr hlo hM hf => ⟨(Value.ref (G.2.1 + q) :: As.map (am_c G.2.1)).toArray, ?_⟩) k
  have hts := hZ.2.2.2.2.1
  exact va_runIN (As := As.map (am_c G.2.1)) (b := G.2.1 + q) ⟨hZ.1, hZ.2.1, hZ.2.2.1, hZ.2.2.2.1, hts⟩ hM ⟨va_cnB n hts (am_goodC hB.2.1) rfl rfl rfl (hZ.2.2.2.2.2.2.2.2.1.2.1 _ hw.1) (hts _ hB.1) hB.2.2.1 (am_room hfr hlo hB.2.2.2), hy, hts _ hw.2⟩
    ⟨am_blind G M _, fun U hU hW => ⟨rfl, by rw [hU]; exact hH, hZ.2.2.2.2.2.2.2.2.1.warm hW⟩⟩ rfl (by rw [List.length_map]; exact hn) hls (by rw [hst]; show ((As.reverse ++ Value.ref q :: st').map (am_c G.2.1)) = _; simp [am_c]) (lv_room (by rw [am_cats]; exact hr8)) hd hf
/-- Object's constructor -/
theorem am_obj {idx q : Nat} (hd : decode cc pc = .ok (.invokespecial idx, 3)) (hw : Cond.methodLink own idx objectInit ∈ am_T ∧ Cond.instanceMethod objectInit ∈ am_T ∧ Cond.code objectInit ⟨#[0xb1]⟩ 1 none ∈ am_T) (hdd : 1 ≤ d) (hr8 : (st.map fun v => v.category).sum ≤ 8)
    (k : am_S emb G d own nm cc nL ret (pc + 3) L st M X) : am_S emb G d own nm cc nL ret pc L (.ref q :: st) M X := by
  refine am_step (fun p e R s m args below meth c0 H locs cells slots ls Q hZ hl kk => ?_) k
  have hts := hZ.2.2.2.2.1
  have hfr : 1 ≤ R.frames := Nat.le_trans hdd hZ.2.2.2.2.2.2.2.2.2.2.1
  have hlo : 64 * 1 ≤ R.locals := Nat.le_trans (Nat.mul_le_mul_left 64 hdd) hZ.2.2.2.2.2.2.2.2.2.2.2
  have h8 := lv_room (m := m) (pc := pc) (ls := ls) (rest := (st.map (am_c G.2.1))) (st := st.map (am_c G.2.1)) (by rw [am_cats]; exact hr8)
  exact W.objInit hZ.1 hZ.2.1 hZ.2.2.2.1 (hts _ hw.1) (hts _ hw.2.1) (hts _ hw.2.2) rfl (by rw [hZ.2.2.1]; exact hl.1) rfl hd hfr (by
    have h9 : 2 * (F0 m pc ls ((Value.ref q :: st).map (am_c G.2.1))).monitorRoom + ((st.map (am_c G.2.1)).map fun v => v.category).sum ≤ 8 := h8
    omega) kk
end AM3
end
section
/-! ===== what comes new ===== -/
theorem am_pushed_eq {s : State} {cA : Nat → ClassId} {D : va_G} {cl : List vw_C} {t0 : Nat} {ty : FieldType} {c0 c1 : ClassId} (hK : va_K D cl (am_tys cA) s) (ht : (am_tys cA)[t0]? = some (c0, ty)) (hK1 : va_K D cl (am_tys cA ++ [(c1, ty)]) s) : c1 = c0 := by
  have h0 := (hK.2 t0 _ ht).2
  have h1 := (hK1.2 5 (c1, ty) rfl).2
  cases ty with
  | object C =>
    obtain ⟨-, -, -, -, -, e0⟩ := h0
    obtain ⟨-, -, -, -, -, e1⟩ := h1
    exact Option.some.inj (e1.symm.trans e0)
  | _ =>
    have e0 : s.vm.findClass _ = some c0 := h0
    have e1 : s.vm.findClass _ = some c1 := h1
    exact Option.some.inj (e1.symm.trans e0)
def am_okt (t : FieldType) : Bool := match t with
  | .float => false
  | .double => false
  | _ => true
theorem am_fv_def {b : Nat} {t : FieldType} (h : am_okt t = true) : am_fv b t 0 0 none = defaultValue t := by
  cases t <;> first | rfl | cases h
section AM4
variable {G : am_G} {d : Nat} {own nm : String} {cc : ByteArray} {nL : Nat} {ret : Option FieldType} {pc pc' : Nat} {L L' : List (Nat × Value)} {st st' : List Value} {M M1 : am_M} {β : Type} {emb : β → Option Value × am_M} {X Y : Option β}
theorem am_newO {idx : Nat} (c : Nat) (hd : decode cc pc = .ok (.new idx, 3)) (hcf : am_cf c) (hok : ∀ j, j < am_N c → am_okt (am_ty c j) = true) (hw : Cond.classLink own idx (am_CN c) ∈ am_T ∧ Cond.instantiable (am_CN c) (am_N c) ∈ am_T ∧ Cond.initialized (am_CN c) ∈ am_T)
    (k : am_S emb G d own nm cc nL ret (pc + 3) L (.ref (am_n M) :: st) (am_new M (5 + c) (am_N c)) X) : am_S emb G d own nm cc nL ret pc L st M X := by
  refine am_stepN (fun _ => by rw [show 5 + c - 5 = c by omega]) (fun p e R s m args below meth c0 H locs cells slots ls Q hZ hP hS hb h1 h2 kk => ?_) k
  obtain ⟨hc, hin, hty, -⟩ := hcf
  have hts := hZ.2.2.2.2.1
  have hfs : ∀ j, j < am_N c → defaultValue (am_ty c j) = vp_V (am_fs G.2.1 (am_new M (5 + c) (am_N c)) (am_n M) c (am_N c)) j := by
    intro j hj
    unfold vp_V
    rw [List.getD_eq_getElem?_getD, am_fs_get hj]
    show _ = am_fv G.2.1 (am_ty c j) (if am_n M = am_n M then 0 else M.1 (am_n M) j) (if am_n M = am_n M then 0 else M.2.1 (am_n M) j) (if am_n M = am_n M then none else M.2.2.1 (am_n M) j)
    rw [if_pos rfl, if_pos rfl, if_pos rfl, am_fv_def (hok j hj)]
  refine va_new (D := G.2.2.1) (tys := am_tys G.2.2.2) hZ.1 hZ.2.1 hts hin (am_ty c) hty hZ.2.2.2.1 (hts _ hw.1) (hts _ hw.2.1) (hts _ hw.2.2) hZ.2.2.2.2.2.2.2.2.1.1 hP (am_ws_D G M) hS (fun q hq => Nat.le_trans hb hq) hc hfs h1 h2 hd (fun q H1 hP1 hD1 hS1 => kk q H1 ?_ ?_ hS1)
  · rw [am_e_ob]; exact hP1
  · rw [am_e_ob]; exact hD1
theorem am_new_I (M : am_M) (kd n : Nat) : (am_new M kd n).1 (am_n M) = fun _ => 0 := by funext i; show (if am_n M = am_n M then 0 else M.1 (am_n M) i) = 0; rw [if_pos rfl]
theorem am_new_J (M : am_M) (kd n : Nat) : (am_new M kd n).2.1 (am_n M) = fun _ => 0 := by funext i; show (if am_n M = am_n M then 0 else M.2.1 (am_n M) i) = 0; rw [if_pos rfl]
theorem am_new_R (M : am_M) (kd n : Nat) : (am_new M kd n).2.2.1 (am_n M) = fun _ => none := by funext i; show (if am_n M = am_n M then none else M.2.2.1 (am_n M) i) = none; rw [if_pos rfl]
theorem am_newaI {x : Int32} (N : Nat) (hd : decode cc pc = .ok (.newarray .int, 2)) (hw : Cond.arrayClass .int ∈ am_T) (hn : ¬ x < 0) (hN : x.toNatClampNeg = N) (hb : N * 4 ≤ 536870912)
    (k : am_S emb G d own nm cc nL ret (pc + 2) L (.ref (am_n M) :: st) (am_new M 0 N) X) : am_S emb G d own nm cc nL ret pc L (.int x :: st) M X := by
  refine am_stepN (fun h => absurd h (by decide)) (fun p e R s m args below meth c0 H locs cells slots ls Q hZ hP hS hb0 h1 h2 kk => ?_) k
  have hK := hZ.2.2.2.2.2.2.2.2.1.1
  have he : am_e G (am_new M 0 N) (am_n M) (0, N) = .inl (G.2.2.2 0, N, .inl (fun _ => 0)) := by
    show (Sum.inl (G.2.2.2 0, N, .inl ((am_new M 0 N).1 (am_n M))) : va_E) = _
    rw [am_new_I]
  refine va_newa (D := G.2.2.1) (tys := am_tys G.2.2.2) (atype := .int) (ty := .int) (a0 := (N, .inl (fun _ => 0))) hZ.1 hZ.2.1 (hZ.2.2.2.2.1 _ hw) rfl hK hP (am_ws_D G M) hS (fun q hq => Nat.le_trans hb0 hq) (fun cA => rfl) hn hN hb h1 h2 hd (fun q cA H1 hK1 hP1 hD1 hS1 => ?_)
  have hq := am_pushed_eq hK (t0 := 0) rfl hK1
  subst hq
  exact kk q H1 (by rw [he]; exact hP1) (by rw [he]; exact hD1) hS1
theorem am_newaJ {x : Int32} (N : Nat) (hd : decode cc pc = .ok (.newarray .long, 2)) (hw : Cond.arrayClass .long ∈ am_T) (hn : ¬ x < 0) (hN : x.toNatClampNeg = N) (hb : N * 8 ≤ 536870912)
    (k : am_S emb G d own nm cc nL ret (pc + 2) L (.ref (am_n M) :: st) (am_new M 1 N) X) : am_S emb G d own nm cc nL ret pc L (.int x :: st) M X := by
  refine am_stepN (fun h => absurd h (by decide)) (fun p e R s m args below meth c0 H locs cells slots ls Q hZ hP hS hb0 h1 h2 kk => ?_) k
  have hK := hZ.2.2.2.2.2.2.2.2.1.1
  have he : am_e G (am_new M 1 N) (am_n M) (1, N) = .inl (G.2.2.2 1, N, .inr (.inl (fun _ => 0))) := by
    show (Sum.inl (G.2.2.2 1, N, .inr (.inl ((am_new M 1 N).2.1 (am_n M)))) : va_E) = _
    rw [am_new_J]
  refine va_newa (D := G.2.2.1) (tys := am_tys G.2.2.2) (atype := .long) (ty := .long) (a0 := (N, .inr (.inl (fun _ => 0)))) hZ.1 hZ.2.1 (hZ.2.2.2.2.1 _ hw) rfl hK hP (am_ws_D G M) hS (fun q hq => Nat.le_trans hb0 hq) (fun cA => rfl) hn hN hb h1 h2 hd (fun q cA H1 hK1 hP1 hD1 hS1 => ?_)
  have hq := am_pushed_eq hK (t0 := 1) rfl hK1
  subst hq
  exact kk q H1 (by rw [he]; exact hP1) (by rw [he]; exact hD1) hS1
theorem am_newaC {x : Int32} (N : Nat) (hd : decode cc pc = .ok (.newarray .char, 2)) (hw : Cond.arrayClass .char ∈ am_T) (hn : ¬ x < 0) (hN : x.toNatClampNeg = N) (hb : N * 2 ≤ 536870912)
    (k : am_S emb G d own nm cc nL ret (pc + 2) L (.ref (am_n M) :: st) (am_new M 2 N) X) : am_S emb G d own nm cc nL ret pc L (.int x :: st) M X := by
  refine am_stepN (fun h => absurd h (by decide)) (fun p e R s m args below meth c0 H locs cells slots ls Q hZ hP hS hb0 h1 h2 kk => ?_) k
  have hK := hZ.2.2.2.2.2.2.2.2.1.1
  have he : am_e G (am_new M 2 N) (am_n M) (2, N) = .inl (G.2.2.2 2, N, .inl (fun _ => 0)) := by
    show (Sum.inl (G.2.2.2 2, N, .inl ((am_new M 2 N).1 (am_n M))) : va_E) = _
    rw [am_new_I]
  refine va_newa (D := G.2.2.1) (tys := am_tys G.2.2.2) (atype := .char) (ty := .char) (a0 := (N, .inl (fun _ => 0))) hZ.1 hZ.2.1 (hZ.2.2.2.2.1 _ hw) rfl hK hP (am_ws_D G M) hS (fun q hq => Nat.le_trans hb0 hq) (fun cA => rfl) hn hN hb h1 h2 hd (fun q cA H1 hK1 hP1 hD1 hS1 => ?_)
  have hq := am_pushed_eq hK (t0 := 2) rfl hK1
  subst hq
  exact kk q H1 (by rw [he]; exact hP1) (by rw [he]; exact hD1) hS1
/-- an array of parts -/
theorem am_newaP {x : Int32} {idx : Nat} (N : Nat) (hd : decode cc pc = .ok (.anewarray idx, 3)) (hw : Cond.classLink own idx RX4 ∈ am_T) (hn : ¬ x < 0) (hN : x.toNatClampNeg = N) (hb : N * 4 ≤ 536870912)
    (k : am_S emb G d own nm cc nL ret (pc + 3) L (.ref (am_n M) :: st) (am_new M 3 N) X) : am_S emb G d own nm cc nL ret pc L (.int x :: st) M X := by
  refine am_stepN (fun h => absurd h (by decide)) (fun p e R s m args below meth c0 H locs cells slots ls Q hZ hP hS hb0 h1 h2 kk => ?_) k
  have hK := hZ.2.2.2.2.2.2.2.2.1.1
  have he : am_e G (am_new M 3 N) (am_n M) (3, N) = .inl (G.2.2.2 3, N, .inr (.inr (.inr (.inr (fun _ => none))))) := by
    show (Sum.inl (G.2.2.2 3, N, .inr (.inr (.inr (.inr (fun j => ((am_new M 3 N).2.2.1 (am_n M) j).map (G.2.1 + ·)))))) : va_E) = _
    rw [am_new_R]; rfl
  refine va_newq (D := G.2.2.1) (tys := am_tys G.2.2.2) (C := RX4) hZ.1 hZ.2.1 hZ.2.2.2.1 (hZ.2.2.2.2.1 _ hw) hZ.2.2.2.2.2.2.2.2.1.2.2.1 hK hP (am_ws_D G M) hS (fun q hq => Nat.le_trans hb0 hq) hn hN hb h1 h2 hd (fun q cA H1 hK1 hP1 hD1 hS1 => ?_)
  have hq := am_pushed_eq hK (t0 := 3) rfl hK1
  subst hq
  exact kk q H1 (by rw [he]; exact hP1) (by rw [he]; exact hD1) hS1
/-- a case apart, at the same place -/
theorem am_case {P : Prop} [Decidable P] (kt : P → am_S emb G d own nm cc nL ret pc L st M X) (kf : ¬ P → am_S emb G d own nm cc nL ret pc L st M Y) : am_S emb G d own nm cc nL ret pc L st M (if P then X else Y) := by
  by_cases h : P
  · rw [if_pos h]; exact kt h
  · rw [if_neg h]; exact kf h
theorem am_swIn {x : Int32} {dflt lo hi off : Int} {offs : Array Int} {len tgt : Nat} (hd : decode cc pc = .ok (.tableswitch dflt lo hi offs, len)) (h1 : ¬ x.toInt < lo) (h2 : ¬ hi < x.toInt) (ho : offs[(x.toInt - lo).toNat]? = some off) (ht : (pc : Int) + off = (tgt : Int))
    (k : am_S emb G d own nm cc nL ret tgt L st M X) : am_S emb G d own nm cc nL ret pc L (.int x :: st) M X :=
  am_step (fun p e R s m args below meth c H locs cells slots ls Q hZ hl kk => lv_tableIn hZ.1 hZ.2.1 hd h1 h2 ho ht kk) k
theorem am_swOut {x : Int32} {dflt lo hi : Int} {offs : Array Int} {len tgt : Nat} (hd : decode cc pc = .ok (.tableswitch dflt lo hi offs, len)) (h : x.toInt < lo ∨ hi < x.toInt) (ht : (pc : Int) + dflt = (tgt : Int))
    (k : am_S emb G d own nm cc nL ret tgt L st M X) : am_S emb G d own nm cc nL ret pc L (.int x :: st) M X :=
  am_step (fun p e R s m args below meth c H locs cells slots ls Q hZ hl kk => lv_tableOut hZ.1 hZ.2.1 hd h ht kk) k
theorem am_ine {x n : Int32} (h : ¬ x = n) : x.toInt ≠ n.toInt := fun e => h (Int32.toInt_inj.mp e)
end AM4
end
