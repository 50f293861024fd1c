section
-- ===== PART A: goes FIRST, ahead of the names: the tables' words, and 'selects' of the private methods out of them =====
/-- a private method of a class that the tables say can be made, by its rows of tables_1 -/
def lw_okq (q : MethodName × Nat) : Prop := (q.1.cls ≠ "java/lang/invoke/MethodHandle" ∧ q.1.cls ≠ "java/lang/invoke/VarHandle") ∧ Cond.instantiable q.1.cls q.2 ∈ tables_1 ∧ Cond.privateMethod q.1 ∈ tables_1 ∧ Cond.instanceMethod q.1 ∈ tables_1
theorem lw_p0 : lw_okq (⟨"Treebark", "keepAllTrees", "()V"⟩, 13) := ⟨⟨by decide +kernel, by decide +kernel⟩, List.mem_of_getElem? (i := 20) (by decide +kernel), List.mem_of_getElem? (i := 278) (by decide +kernel), List.mem_of_getElem? (i := 279) (by decide +kernel)⟩
theorem lw_p1 : lw_okq (⟨"Treebark$Disks", "giveRoom", "(II)V"⟩, 6) := ⟨⟨by decide +kernel, by decide +kernel⟩, List.mem_of_getElem? (i := 28) (by decide +kernel), List.mem_of_getElem? (i := 287) (by decide +kernel), List.mem_of_getElem? (i := 288) (by decide +kernel)⟩
theorem lw_p2 : lw_okq (⟨"Treebark", "treesThere", "()I"⟩, 13) := ⟨⟨by decide +kernel, by decide +kernel⟩, List.mem_of_getElem? (i := 20) (by decide +kernel), List.mem_of_getElem? (i := 291) (by decide +kernel), List.mem_of_getElem? (i := 292) (by decide +kernel)⟩
theorem lw_p3 : lw_okq (⟨"Treebark", "bringBack", "(LTreebark$Logged;)Z"⟩, 13) := ⟨⟨by decide +kernel, by decide +kernel⟩, List.mem_of_getElem? (i := 20) (by decide +kernel), List.mem_of_getElem? (i := 299) (by decide +kernel), List.mem_of_getElem? (i := 300) (by decide +kernel)⟩
theorem lw_p4 : lw_okq (⟨"Treebark", "changeableRoot", "(LTreebark$Tree;)LTreebark$Root;"⟩, 13) := ⟨⟨by decide +kernel, by decide +kernel⟩, List.mem_of_getElem? (i := 20) (by decide +kernel), List.mem_of_getElem? (i := 303) (by decide +kernel), List.mem_of_getElem? (i := 304) (by decide +kernel)⟩
theorem lw_p5 : lw_okq (⟨"Treebark", "changeableNode", "(LTreebark$Tree;LTreebark$Node;)LTreebark$Node;"⟩, 13) := ⟨⟨by decide +kernel, by decide +kernel⟩, List.mem_of_getElem? (i := 20) (by decide +kernel), List.mem_of_getElem? (i := 346) (by decide +kernel), List.mem_of_getElem? (i := 347) (by decide +kernel)⟩
theorem lw_p6 : lw_okq (⟨"Treebark", "treeAt", "(I)LTreebark$Tree;"⟩, 13) := ⟨⟨by decide +kernel, by decide +kernel⟩, List.mem_of_getElem? (i := 20) (by decide +kernel), List.mem_of_getElem? (i := 415) (by decide +kernel), List.mem_of_getElem? (i := 416) (by decide +kernel)⟩
theorem lw_p7 : lw_okq (⟨"java/lang/Throwable", "fillInStackTrace", "(I)Ljava/lang/Throwable;"⟩, 6) := ⟨⟨by decide +kernel, by decide +kernel⟩, List.mem_of_getElem? (i := 457) (by decide +kernel), List.mem_of_getElem? (i := 455) (by decide +kernel), List.mem_of_getElem? (i := 456) (by decide +kernel)⟩
theorem lw_p8 : lw_okq (⟨"Treebark", "clearRow", "()V"⟩, 13) := ⟨⟨by decide +kernel, by decide +kernel⟩, List.mem_of_getElem? (i := 20) (by decide +kernel), List.mem_of_getElem? (i := 576) (by decide +kernel), List.mem_of_getElem? (i := 577) (by decide +kernel)⟩
theorem lw_p9 : lw_okq (⟨"Treebark", "changeByRow", "(ILTreebark$Node;)V"⟩, 13) := ⟨⟨by decide +kernel, by decide +kernel⟩, List.mem_of_getElem? (i := 20) (by decide +kernel), List.mem_of_getElem? (i := 580) (by decide +kernel), List.mem_of_getElem? (i := 581) (by decide +kernel)⟩
theorem lw_p10 : lw_okq (⟨"Treebark$Disks", "make", "([II)LTreebark$Extent;"⟩, 6) := ⟨⟨by decide +kernel, by decide +kernel⟩, List.mem_of_getElem? (i := 28) (by decide +kernel), List.mem_of_getElem? (i := 593) (by decide +kernel), List.mem_of_getElem? (i := 594) (by decide +kernel)⟩
theorem lw_p11 : lw_okq (⟨"Treebark$Disks", "disksFor", "(I)I"⟩, 6) := ⟨⟨by decide +kernel, by decide +kernel⟩, List.mem_of_getElem? (i := 28) (by decide +kernel), List.mem_of_getElem? (i := 597) (by decide +kernel), List.mem_of_getElem? (i := 598) (by decide +kernel)⟩
theorem lw_p12 : lw_okq (⟨"Treebark", "isAboveLimits", "(ILTreebark$Node;)Z"⟩, 13) := ⟨⟨by decide +kernel, by decide +kernel⟩, List.mem_of_getElem? (i := 20) (by decide +kernel), List.mem_of_getElem? (i := 605) (by decide +kernel), List.mem_of_getElem? (i := 606) (by decide +kernel)⟩
theorem lw_p13 : lw_okq (⟨"Treebark", "weigh", "(ILTreebark$Node;LTreebark$Weight;)V"⟩, 13) := ⟨⟨by decide +kernel, by decide +kernel⟩, List.mem_of_getElem? (i := 20) (by decide +kernel), List.mem_of_getElem? (i := 609) (by decide +kernel), List.mem_of_getElem? (i := 610) (by decide +kernel)⟩
theorem lw_p14 : lw_okq (⟨"Treebark", "changePlaces", "(LTreebark$Tree;LTreebark$Node;)V"⟩, 13) := ⟨⟨by decide +kernel, by decide +kernel⟩, List.mem_of_getElem? (i := 20) (by decide +kernel), List.mem_of_getElem? (i := 658) (by decide +kernel), List.mem_of_getElem? (i := 659) (by decide +kernel)⟩
theorem lw_p15 : lw_okq (⟨"Treebark", "checkBothRuns", "(IIIIIII)V"⟩, 13) := ⟨⟨by decide +kernel, by decide +kernel⟩, List.mem_of_getElem? (i := 20) (by decide +kernel), List.mem_of_getElem? (i := 669) (by decide +kernel), List.mem_of_getElem? (i := 670) (by decide +kernel)⟩
def lw_privs_1 : List (MethodName × Nat) := [(⟨"Treebark", "keepAllTrees", "()V"⟩, 13), (⟨"Treebark$Disks", "giveRoom", "(II)V"⟩, 6), (⟨"Treebark", "treesThere", "()I"⟩, 13), (⟨"Treebark", "bringBack", "(LTreebark$Logged;)Z"⟩, 13), (⟨"Treebark", "changeableRoot", "(LTreebark$Tree;)LTreebark$Root;"⟩, 13), (⟨"Treebark", "changeableNode", "(LTreebark$Tree;LTreebark$Node;)LTreebark$Node;"⟩, 13), (⟨"Treebark", "treeAt", "(I)LTreebark$Tree;"⟩, 13), (⟨"java/lang/Throwable", "fillInStackTrace", "(I)Ljava/lang/Throwable;"⟩, 6), (⟨"Treebark", "clearRow", "()V"⟩, 13), (⟨"Treebark", "changeByRow", "(ILTreebark$Node;)V"⟩, 13), (⟨"Treebark$Disks", "make", "([II)LTreebark$Extent;"⟩, 6), (⟨"Treebark$Disks", "disksFor", "(I)I"⟩, 6), (⟨"Treebark", "isAboveLimits", "(ILTreebark$Node;)Z"⟩, 13), (⟨"Treebark", "weigh", "(ILTreebark$Node;LTreebark$Weight;)V"⟩, 13), (⟨"Treebark", "changePlaces", "(LTreebark$Tree;LTreebark$Node;)V"⟩, 13), (⟨"Treebark", "checkBothRuns", "(IIIIIII)V"⟩, 13)]
theorem lw_r1 : ∀ q ∈ lw_privs_1, lw_okq q := List.forall_mem_cons.mpr ⟨lw_p0, List.forall_mem_cons.mpr ⟨lw_p1, List.forall_mem_cons.mpr ⟨lw_p2, List.forall_mem_cons.mpr ⟨lw_p3, List.forall_mem_cons.mpr ⟨lw_p4, List.forall_mem_cons.mpr ⟨lw_p5, List.forall_mem_cons.mpr ⟨lw_p6, List.forall_mem_cons.mpr ⟨lw_p7, List.forall_mem_cons.mpr ⟨lw_p8, List.forall_mem_cons.mpr ⟨lw_p9, List.forall_mem_cons.mpr ⟨lw_p10, List.forall_mem_cons.mpr ⟨lw_p11, List.forall_mem_cons.mpr ⟨lw_p12, List.forall_mem_cons.mpr ⟨lw_p13, List.forall_mem_cons.mpr ⟨lw_p14, List.forall_mem_cons.mpr ⟨lw_p15, fun _ h => absurd h List.not_mem_nil⟩⟩⟩⟩⟩⟩⟩⟩⟩⟩⟩⟩⟩⟩⟩⟩
theorem lw_p16 : lw_okq (⟨"Treebark", "planClone", "(LTreebark$Node;IILTreebark$Node;I)V"⟩, 13) := ⟨⟨by decide +kernel, by decide +kernel⟩, List.mem_of_getElem? (i := 20) (by decide +kernel), List.mem_of_getElem? (i := 673) (by decide +kernel), List.mem_of_getElem? (i := 674) (by decide +kernel)⟩
theorem lw_p17 : lw_okq (⟨"Treebark$Places", "isFirstOfExtent", "(I)Z"⟩, 2) := ⟨⟨by decide +kernel, by decide +kernel⟩, List.mem_of_getElem? (i := 154) (by decide +kernel), List.mem_of_getElem? (i := 686) (by decide +kernel), List.mem_of_getElem? (i := 687) (by decide +kernel)⟩
theorem lw_p18 : lw_okq (⟨"Treebark", "fileWithPlace", "(III)LTreebark$Node;"⟩, 13) := ⟨⟨by decide +kernel, by decide +kernel⟩, List.mem_of_getElem? (i := 20) (by decide +kernel), List.mem_of_getElem? (i := 729) (by decide +kernel), List.mem_of_getElem? (i := 730) (by decide +kernel)⟩
theorem lw_p19 : lw_okq (⟨"Treebark", "freeTree", "()I"⟩, 13) := ⟨⟨by decide +kernel, by decide +kernel⟩, List.mem_of_getElem? (i := 20) (by decide +kernel), List.mem_of_getElem? (i := 763) (by decide +kernel), List.mem_of_getElem? (i := 764) (by decide +kernel)⟩
theorem lw_p20 : lw_okq (⟨"Treebark", "forgetLogged", "(II)V"⟩, 13) := ⟨⟨by decide +kernel, by decide +kernel⟩, List.mem_of_getElem? (i := 20) (by decide +kernel), List.mem_of_getElem? (i := 811) (by decide +kernel), List.mem_of_getElem? (i := 812) (by decide +kernel)⟩
theorem lw_p21 : lw_okq (⟨"Treebark$Stream", "tellFile", "(LTreebark$Root;LTreebark$Root;LTreebark$Node;)I"⟩, 5) := ⟨⟨by decide +kernel, by decide +kernel⟩, List.mem_of_getElem? (i := 125) (by decide +kernel), List.mem_of_getElem? (i := 854) (by decide +kernel), List.mem_of_getElem? (i := 855) (by decide +kernel)⟩
theorem lw_p22 : lw_okq (⟨"Treebark", "receiveFiles", "(LTreebark$Root;[LTreebark$Node;)Z"⟩, 13) := ⟨⟨by decide +kernel, by decide +kernel⟩, List.mem_of_getElem? (i := 20) (by decide +kernel), List.mem_of_getElem? (i := 876) (by decide +kernel), List.mem_of_getElem? (i := 877) (by decide +kernel)⟩
theorem lw_p23 : lw_okq (⟨"Treebark$Disks", "loseCopy", "(LTreebark$Extent;)V"⟩, 6) := ⟨⟨by decide +kernel, by decide +kernel⟩, List.mem_of_getElem? (i := 28) (by decide +kernel), List.mem_of_getElem? (i := 910) (by decide +kernel), List.mem_of_getElem? (i := 911) (by decide +kernel)⟩
theorem lw_p24 : lw_okq (⟨"Treebark$Disks", "gainCopy", "(LTreebark$Extent;)V"⟩, 6) := ⟨⟨by decide +kernel, by decide +kernel⟩, List.mem_of_getElem? (i := 28) (by decide +kernel), List.mem_of_getElem? (i := 914) (by decide +kernel), List.mem_of_getElem? (i := 915) (by decide +kernel)⟩
theorem lw_p25 : lw_okq (⟨"TreebarkModel", "isName", "(II)Z"⟩, 36) := ⟨⟨by decide +kernel, by decide +kernel⟩, List.mem_of_getElem? (i := 954) (by decide +kernel), List.mem_of_getElem? (i := 1077) (by decide +kernel), List.mem_of_getElem? (i := 1078) (by decide +kernel)⟩
theorem lw_p26 : lw_okq (⟨"TreebarkModel", "isTree", "(I)Z"⟩, 36) := ⟨⟨by decide +kernel, by decide +kernel⟩, List.mem_of_getElem? (i := 954) (by decide +kernel), List.mem_of_getElem? (i := 1081) (by decide +kernel), List.mem_of_getElem? (i := 1082) (by decide +kernel)⟩
theorem lw_p27 : lw_okq (⟨"TreebarkModel", "in", "(III)Z"⟩, 36) := ⟨⟨by decide +kernel, by decide +kernel⟩, List.mem_of_getElem? (i := 954) (by decide +kernel), List.mem_of_getElem? (i := 1085) (by decide +kernel), List.mem_of_getElem? (i := 1086) (by decide +kernel)⟩
theorem lw_p28 : lw_okq (⟨"TreebarkModel", "node", "(II)I"⟩, 36) := ⟨⟨by decide +kernel, by decide +kernel⟩, List.mem_of_getElem? (i := 954) (by decide +kernel), List.mem_of_getElem? (i := 1089) (by decide +kernel), List.mem_of_getElem? (i := 1090) (by decide +kernel)⟩
theorem lw_p29 : lw_okq (⟨"TreebarkModel", "holds", "(I)Z"⟩, 36) := ⟨⟨by decide +kernel, by decide +kernel⟩, List.mem_of_getElem? (i := 954) (by decide +kernel), List.mem_of_getElem? (i := 1093) (by decide +kernel), List.mem_of_getElem? (i := 1094) (by decide +kernel)⟩
theorem lw_p30 : lw_okq (⟨"TreebarkModel", "ownRoot", "(I)V"⟩, 36) := ⟨⟨by decide +kernel, by decide +kernel⟩, List.mem_of_getElem? (i := 954) (by decide +kernel), List.mem_of_getElem? (i := 1097) (by decide +kernel), List.mem_of_getElem? (i := 1098) (by decide +kernel)⟩
theorem lw_p31 : lw_okq (⟨"TreebarkModel", "isRootShared", "(I)Z"⟩, 36) := ⟨⟨by decide +kernel, by decide +kernel⟩, List.mem_of_getElem? (i := 954) (by decide +kernel), List.mem_of_getElem? (i := 1101) (by decide +kernel), List.mem_of_getElem? (i := 1102) (by decide +kernel)⟩
def lw_privs_2 : List (MethodName × Nat) := [(⟨"Treebark", "planClone", "(LTreebark$Node;IILTreebark$Node;I)V"⟩, 13), (⟨"Treebark$Places", "isFirstOfExtent", "(I)Z"⟩, 2), (⟨"Treebark", "fileWithPlace", "(III)LTreebark$Node;"⟩, 13), (⟨"Treebark", "freeTree", "()I"⟩, 13), (⟨"Treebark", "forgetLogged", "(II)V"⟩, 13), (⟨"Treebark$Stream", "tellFile", "(LTreebark$Root;LTreebark$Root;LTreebark$Node;)I"⟩, 5), (⟨"Treebark", "receiveFiles", "(LTreebark$Root;[LTreebark$Node;)Z"⟩, 13), (⟨"Treebark$Disks", "loseCopy", "(LTreebark$Extent;)V"⟩, 6), (⟨"Treebark$Disks", "gainCopy", "(LTreebark$Extent;)V"⟩, 6), (⟨"TreebarkModel", "isName", "(II)Z"⟩, 36), (⟨"TreebarkModel", "isTree", "(I)Z"⟩, 36), (⟨"TreebarkModel", "in", "(III)Z"⟩, 36), (⟨"TreebarkModel", "node", "(II)I"⟩, 36), (⟨"TreebarkModel", "holds", "(I)Z"⟩, 36), (⟨"TreebarkModel", "ownRoot", "(I)V"⟩, 36), (⟨"TreebarkModel", "isRootShared", "(I)Z"⟩, 36)]
theorem lw_r2 : ∀ q ∈ lw_privs_2, lw_okq q := List.forall_mem_cons.mpr ⟨lw_p16, List.forall_mem_cons.mpr ⟨lw_p17, List.forall_mem_cons.mpr ⟨lw_p18, List.forall_mem_cons.mpr ⟨lw_p19, List.forall_mem_cons.mpr ⟨lw_p20, List.forall_mem_cons.mpr ⟨lw_p21, List.forall_mem_cons.mpr ⟨lw_p22, List.forall_mem_cons.mpr ⟨lw_p23, List.forall_mem_cons.mpr ⟨lw_p24, List.forall_mem_cons.mpr ⟨lw_p25, List.forall_mem_cons.mpr ⟨lw_p26, List.forall_mem_cons.mpr ⟨lw_p27, List.forall_mem_cons.mpr ⟨lw_p28, List.forall_mem_cons.mpr ⟨lw_p29, List.forall_mem_cons.mpr ⟨lw_p30, List.forall_mem_cons.mpr ⟨lw_p31, fun _ h => absurd h List.not_mem_nil⟩⟩⟩⟩⟩⟩⟩⟩⟩⟩⟩⟩⟩⟩⟩⟩
theorem lw_p32 : lw_okq (⟨"TreebarkModel", "hasRoot", "(II)Z"⟩, 36) := ⟨⟨by decide +kernel, by decide +kernel⟩, List.mem_of_getElem? (i := 954) (by decide +kernel), List.mem_of_getElem? (i := 1105) (by decide +kernel), List.mem_of_getElem? (i := 1106) (by decide +kernel)⟩
theorem lw_p33 : lw_okq (⟨"TreebarkModel", "freeRoot", "()I"⟩, 36) := ⟨⟨by decide +kernel, by decide +kernel⟩, List.mem_of_getElem? (i := 954) (by decide +kernel), List.mem_of_getElem? (i := 1109) (by decide +kernel), List.mem_of_getElem? (i := 1110) (by decide +kernel)⟩
theorem lw_p34 : lw_okq (⟨"TreebarkModel", "newNode", "(I)I"⟩, 36) := ⟨⟨by decide +kernel, by decide +kernel⟩, List.mem_of_getElem? (i := 954) (by decide +kernel), List.mem_of_getElem? (i := 1113) (by decide +kernel), List.mem_of_getElem? (i := 1114) (by decide +kernel)⟩
theorem lw_p35 : lw_okq (⟨"TreebarkModel", "freeNode", "()I"⟩, 36) := ⟨⟨by decide +kernel, by decide +kernel⟩, List.mem_of_getElem? (i := 954) (by decide +kernel), List.mem_of_getElem? (i := 1117) (by decide +kernel), List.mem_of_getElem? (i := 1118) (by decide +kernel)⟩
theorem lw_p36 : lw_okq (⟨"TreebarkModel", "names", "(II)I"⟩, 36) := ⟨⟨by decide +kernel, by decide +kernel⟩, List.mem_of_getElem? (i := 954) (by decide +kernel), List.mem_of_getElem? (i := 1125) (by decide +kernel), List.mem_of_getElem? (i := 1126) (by decide +kernel)⟩
theorem lw_p37 : lw_okq (⟨"TreebarkModel", "settle", "()V"⟩, 36) := ⟨⟨by decide +kernel, by decide +kernel⟩, List.mem_of_getElem? (i := 954) (by decide +kernel), List.mem_of_getElem? (i := 1133) (by decide +kernel), List.mem_of_getElem? (i := 1134) (by decide +kernel)⟩
theorem lw_p38 : lw_okq (⟨"TreebarkModel", "clear", "()V"⟩, 36) := ⟨⟨by decide +kernel, by decide +kernel⟩, List.mem_of_getElem? (i := 954) (by decide +kernel), List.mem_of_getElem? (i := 1137) (by decide +kernel), List.mem_of_getElem? (i := 1138) (by decide +kernel)⟩
theorem lw_p39 : lw_okq (⟨"TreebarkModel", "hasNode", "(II)Z"⟩, 36) := ⟨⟨by decide +kernel, by decide +kernel⟩, List.mem_of_getElem? (i := 954) (by decide +kernel), List.mem_of_getElem? (i := 1141) (by decide +kernel), List.mem_of_getElem? (i := 1142) (by decide +kernel)⟩
theorem lw_p40 : lw_okq (⟨"TreebarkModel", "sweep", "()V"⟩, 36) := ⟨⟨by decide +kernel, by decide +kernel⟩, List.mem_of_getElem? (i := 954) (by decide +kernel), List.mem_of_getElem? (i := 1145) (by decide +kernel), List.mem_of_getElem? (i := 1146) (by decide +kernel)⟩
theorem lw_p41 : lw_okq (⟨"TreebarkModel", "useTree", "(I[I)V"⟩, 36) := ⟨⟨by decide +kernel, by decide +kernel⟩, List.mem_of_getElem? (i := 954) (by decide +kernel), List.mem_of_getElem? (i := 1149) (by decide +kernel), List.mem_of_getElem? (i := 1150) (by decide +kernel)⟩
theorem lw_p42 : lw_okq (⟨"TreebarkModel", "use", "(I[I)V"⟩, 36) := ⟨⟨by decide +kernel, by decide +kernel⟩, List.mem_of_getElem? (i := 954) (by decide +kernel), List.mem_of_getElem? (i := 1153) (by decide +kernel), List.mem_of_getElem? (i := 1154) (by decide +kernel)⟩
theorem lw_p43 : lw_okq (⟨"TreebarkModel", "isPlace", "(I)Z"⟩, 36) := ⟨⟨by decide +kernel, by decide +kernel⟩, List.mem_of_getElem? (i := 954) (by decide +kernel), List.mem_of_getElem? (i := 1169) (by decide +kernel), List.mem_of_getElem? (i := 1170) (by decide +kernel)⟩
theorem lw_p44 : lw_okq (⟨"TreebarkModel", "make", "(I)I"⟩, 36) := ⟨⟨by decide +kernel, by decide +kernel⟩, List.mem_of_getElem? (i := 954) (by decide +kernel), List.mem_of_getElem? (i := 1173) (by decide +kernel), List.mem_of_getElem? (i := 1174) (by decide +kernel)⟩
theorem lw_p45 : lw_okq (⟨"TreebarkModel", "room", "(I)I"⟩, 36) := ⟨⟨by decide +kernel, by decide +kernel⟩, List.mem_of_getElem? (i := 954) (by decide +kernel), List.mem_of_getElem? (i := 1177) (by decide +kernel), List.mem_of_getElem? (i := 1178) (by decide +kernel)⟩
theorem lw_p46 : lw_okq (⟨"TreebarkModel", "blocks", "(I)I"⟩, 36) := ⟨⟨by decide +kernel, by decide +kernel⟩, List.mem_of_getElem? (i := 954) (by decide +kernel), List.mem_of_getElem? (i := 1181) (by decide +kernel), List.mem_of_getElem? (i := 1182) (by decide +kernel)⟩
theorem lw_p47 : lw_okq (⟨"TreebarkModel", "planned", "(I)V"⟩, 36) := ⟨⟨by decide +kernel, by decide +kernel⟩, List.mem_of_getElem? (i := 954) (by decide +kernel), List.mem_of_getElem? (i := 1185) (by decide +kernel), List.mem_of_getElem? (i := 1186) (by decide +kernel)⟩
def lw_privs_3 : List (MethodName × Nat) := [(⟨"TreebarkModel", "hasRoot", "(II)Z"⟩, 36), (⟨"TreebarkModel", "freeRoot", "()I"⟩, 36), (⟨"TreebarkModel", "newNode", "(I)I"⟩, 36), (⟨"TreebarkModel", "freeNode", "()I"⟩, 36), (⟨"TreebarkModel", "names", "(II)I"⟩, 36), (⟨"TreebarkModel", "settle", "()V"⟩, 36), (⟨"TreebarkModel", "clear", "()V"⟩, 36), (⟨"TreebarkModel", "hasNode", "(II)Z"⟩, 36), (⟨"TreebarkModel", "sweep", "()V"⟩, 36), (⟨"TreebarkModel", "useTree", "(I[I)V"⟩, 36), (⟨"TreebarkModel", "use", "(I[I)V"⟩, 36), (⟨"TreebarkModel", "isPlace", "(I)Z"⟩, 36), (⟨"TreebarkModel", "make", "(I)I"⟩, 36), (⟨"TreebarkModel", "room", "(I)I"⟩, 36), (⟨"TreebarkModel", "blocks", "(I)I"⟩, 36), (⟨"TreebarkModel", "planned", "(I)V"⟩, 36)]
theorem lw_r3 : ∀ q ∈ lw_privs_3, lw_okq q := List.forall_mem_cons.mpr ⟨lw_p32, List.forall_mem_cons.mpr ⟨lw_p33, List.forall_mem_cons.mpr ⟨lw_p34, List.forall_mem_cons.mpr ⟨lw_p35, List.forall_mem_cons.mpr ⟨lw_p36, List.forall_mem_cons.mpr ⟨lw_p37, List.forall_mem_cons.mpr ⟨lw_p38, List.forall_mem_cons.mpr ⟨lw_p39, List.forall_mem_cons.mpr ⟨lw_p40, List.forall_mem_cons.mpr ⟨lw_p41, List.forall_mem_cons.mpr ⟨lw_p42, List.forall_mem_cons.mpr ⟨lw_p43, List.forall_mem_cons.mpr ⟨lw_p44, List.forall_mem_cons.mpr ⟨lw_p45, List.forall_mem_cons.mpr ⟨lw_p46, List.forall_mem_cons.mpr ⟨lw_p47, fun _ h => absurd h List.not_mem_nil⟩⟩⟩⟩⟩⟩⟩⟩⟩⟩⟩⟩⟩⟩⟩⟩
theorem lw_p48 : lw_okq (⟨"TreebarkModel", "keeps", "(II)Z"⟩, 36) := ⟨⟨by decide +kernel, by decide +kernel⟩, List.mem_of_getElem? (i := 954) (by decide +kernel), List.mem_of_getElem? (i := 1189) (by decide +kernel), List.mem_of_getElem? (i := 1190) (by decide +kernel)⟩
theorem lw_p49 : lw_okq (⟨"TreebarkModel", "markAll", "(IIZ)V"⟩, 36) := ⟨⟨by decide +kernel, by decide +kernel⟩, List.mem_of_getElem? (i := 954) (by decide +kernel), List.mem_of_getElem? (i := 1193) (by decide +kernel), List.mem_of_getElem? (i := 1194) (by decide +kernel)⟩
theorem lw_p50 : lw_okq (⟨"TreebarkModel", "refers", "(Z)I"⟩, 36) := ⟨⟨by decide +kernel, by decide +kernel⟩, List.mem_of_getElem? (i := 954) (by decide +kernel), List.mem_of_getElem? (i := 1197) (by decide +kernel), List.mem_of_getElem? (i := 1198) (by decide +kernel)⟩
theorem lw_p51 : lw_okq (⟨"TreebarkModel", "undo", "(I)V"⟩, 36) := ⟨⟨by decide +kernel, by decide +kernel⟩, List.mem_of_getElem? (i := 954) (by decide +kernel), List.mem_of_getElem? (i := 1201) (by decide +kernel), List.mem_of_getElem? (i := 1202) (by decide +kernel)⟩
theorem lw_p52 : lw_okq (⟨"TreebarkModel", "apply", "(II)V"⟩, 36) := ⟨⟨by decide +kernel, by decide +kernel⟩, List.mem_of_getElem? (i := 954) (by decide +kernel), List.mem_of_getElem? (i := 1205) (by decide +kernel), List.mem_of_getElem? (i := 1206) (by decide +kernel)⟩
theorem lw_p53 : lw_okq (⟨"TreebarkModel", "ownNode", "(II)I"⟩, 36) := ⟨⟨by decide +kernel, by decide +kernel⟩, List.mem_of_getElem? (i := 954) (by decide +kernel), List.mem_of_getElem? (i := 1209) (by decide +kernel), List.mem_of_getElem? (i := 1210) (by decide +kernel)⟩
theorem lw_p54 : lw_okq (⟨"TreebarkModel", "isNodeShared", "(II)Z"⟩, 36) := ⟨⟨by decide +kernel, by decide +kernel⟩, List.mem_of_getElem? (i := 954) (by decide +kernel), List.mem_of_getElem? (i := 1213) (by decide +kernel), List.mem_of_getElem? (i := 1214) (by decide +kernel)⟩
theorem lw_p55 : lw_okq (⟨"TreebarkModel", "bars", "(IIIIIII)I"⟩, 36) := ⟨⟨by decide +kernel, by decide +kernel⟩, List.mem_of_getElem? (i := 954) (by decide +kernel), List.mem_of_getElem? (i := 1225) (by decide +kernel), List.mem_of_getElem? (i := 1226) (by decide +kernel)⟩
theorem lw_p56 : lw_okq (⟨"TreebarkModel", "isPair", "(IIIIII)Z"⟩, 36) := ⟨⟨by decide +kernel, by decide +kernel⟩, List.mem_of_getElem? (i := 954) (by decide +kernel), List.mem_of_getElem? (i := 1229) (by decide +kernel), List.mem_of_getElem? (i := 1230) (by decide +kernel)⟩
theorem lw_p57 : lw_okq (⟨"TreebarkModel", "planClone", "(IIIIIII)V"⟩, 36) := ⟨⟨by decide +kernel, by decide +kernel⟩, List.mem_of_getElem? (i := 954) (by decide +kernel), List.mem_of_getElem? (i := 1233) (by decide +kernel), List.mem_of_getElem? (i := 1234) (by decide +kernel)⟩
theorem lw_p58 : lw_okq (⟨"TreebarkModel", "common", "(II)I"⟩, 36) := ⟨⟨by decide +kernel, by decide +kernel⟩, List.mem_of_getElem? (i := 954) (by decide +kernel), List.mem_of_getElem? (i := 1237) (by decide +kernel), List.mem_of_getElem? (i := 1238) (by decide +kernel)⟩
theorem lw_p59 : lw_okq (⟨"TreebarkModel", "told", "(I)I"⟩, 36) := ⟨⟨by decide +kernel, by decide +kernel⟩, List.mem_of_getElem? (i := 954) (by decide +kernel), List.mem_of_getElem? (i := 1245) (by decide +kernel), List.mem_of_getElem? (i := 1246) (by decide +kernel)⟩
theorem lw_p60 : lw_okq (⟨"TreebarkModel", "isGood", "(I)Z"⟩, 36) := ⟨⟨by decide +kernel, by decide +kernel⟩, List.mem_of_getElem? (i := 954) (by decide +kernel), List.mem_of_getElem? (i := 1249) (by decide +kernel), List.mem_of_getElem? (i := 1250) (by decide +kernel)⟩
theorem lw_p61 : lw_okq (⟨"TreebarkModel", "runs", "([II)I"⟩, 36) := ⟨⟨by decide +kernel, by decide +kernel⟩, List.mem_of_getElem? (i := 954) (by decide +kernel), List.mem_of_getElem? (i := 1257) (by decide +kernel), List.mem_of_getElem? (i := 1258) (by decide +kernel)⟩
theorem lw_p62 : lw_okq (⟨"TreebarkModel", "trees", "()I"⟩, 36) := ⟨⟨by decide +kernel, by decide +kernel⟩, List.mem_of_getElem? (i := 954) (by decide +kernel), List.mem_of_getElem? (i := 1277) (by decide +kernel), List.mem_of_getElem? (i := 1278) (by decide +kernel)⟩
theorem lw_p63 : lw_okq (⟨"TreebarkModel", "freeTree", "()I"⟩, 36) := ⟨⟨by decide +kernel, by decide +kernel⟩, List.mem_of_getElem? (i := 954) (by decide +kernel), List.mem_of_getElem? (i := 1281) (by decide +kernel), List.mem_of_getElem? (i := 1282) (by decide +kernel)⟩
def lw_privs_4 : List (MethodName × Nat) := [(⟨"TreebarkModel", "keeps", "(II)Z"⟩, 36), (⟨"TreebarkModel", "markAll", "(IIZ)V"⟩, 36), (⟨"TreebarkModel", "refers", "(Z)I"⟩, 36), (⟨"TreebarkModel", "undo", "(I)V"⟩, 36), (⟨"TreebarkModel", "apply", "(II)V"⟩, 36), (⟨"TreebarkModel", "ownNode", "(II)I"⟩, 36), (⟨"TreebarkModel", "isNodeShared", "(II)Z"⟩, 36), (⟨"TreebarkModel", "bars", "(IIIIIII)I"⟩, 36), (⟨"TreebarkModel", "isPair", "(IIIIII)Z"⟩, 36), (⟨"TreebarkModel", "planClone", "(IIIIIII)V"⟩, 36), (⟨"TreebarkModel", "common", "(II)I"⟩, 36), (⟨"TreebarkModel", "told", "(I)I"⟩, 36), (⟨"TreebarkModel", "isGood", "(I)Z"⟩, 36), (⟨"TreebarkModel", "runs", "([II)I"⟩, 36), (⟨"TreebarkModel", "trees", "()I"⟩, 36), (⟨"TreebarkModel", "freeTree", "()I"⟩, 36)]
theorem lw_r4 : ∀ q ∈ lw_privs_4, lw_okq q := List.forall_mem_cons.mpr ⟨lw_p48, List.forall_mem_cons.mpr ⟨lw_p49, List.forall_mem_cons.mpr ⟨lw_p50, List.forall_mem_cons.mpr ⟨lw_p51, List.forall_mem_cons.mpr ⟨lw_p52, List.forall_mem_cons.mpr ⟨lw_p53, List.forall_mem_cons.mpr ⟨lw_p54, List.forall_mem_cons.mpr ⟨lw_p55, List.forall_mem_cons.mpr ⟨lw_p56, List.forall_mem_cons.mpr ⟨lw_p57, List.forall_mem_cons.mpr ⟨lw_p58, List.forall_mem_cons.mpr ⟨lw_p59, List.forall_mem_cons.mpr ⟨lw_p60, List.forall_mem_cons.mpr ⟨lw_p61, List.forall_mem_cons.mpr ⟨lw_p62, List.forall_mem_cons.mpr ⟨lw_p63, fun _ h => absurd h List.not_mem_nil⟩⟩⟩⟩⟩⟩⟩⟩⟩⟩⟩⟩⟩⟩⟩⟩
theorem lw_p64 : lw_okq (⟨"TreebarkModel", "like", "(IIIII)V"⟩, 36) := ⟨⟨by decide +kernel, by decide +kernel⟩, List.mem_of_getElem? (i := 954) (by decide +kernel), List.mem_of_getElem? (i := 1285) (by decide +kernel), List.mem_of_getElem? (i := 1286) (by decide +kernel)⟩
theorem lw_p65 : lw_okq (⟨"TreebarkModel", "keep", "()V"⟩, 36) := ⟨⟨by decide +kernel, by decide +kernel⟩, List.mem_of_getElem? (i := 954) (by decide +kernel), List.mem_of_getElem? (i := 1309) (by decide +kernel), List.mem_of_getElem? (i := 1310) (by decide +kernel)⟩
theorem lw_p66 : lw_okq (⟨"TreebarkModel", "replay", "(I)V"⟩, 36) := ⟨⟨by decide +kernel, by decide +kernel⟩, List.mem_of_getElem? (i := 954) (by decide +kernel), List.mem_of_getElem? (i := 1321) (by decide +kernel), List.mem_of_getElem? (i := 1322) (by decide +kernel)⟩
theorem lw_p67 : lw_okq (⟨"TreebarkModel", "numbered", "(II)I"⟩, 36) := ⟨⟨by decide +kernel, by decide +kernel⟩, List.mem_of_getElem? (i := 954) (by decide +kernel), List.mem_of_getElem? (i := 1325) (by decide +kernel), List.mem_of_getElem? (i := 1326) (by decide +kernel)⟩
theorem lw_p68 : lw_okq (⟨"TreebarkModel", "canSend", "(II)Z"⟩, 36) := ⟨⟨by decide +kernel, by decide +kernel⟩, List.mem_of_getElem? (i := 954) (by decide +kernel), List.mem_of_getElem? (i := 1333) (by decide +kernel), List.mem_of_getElem? (i := 1334) (by decide +kernel)⟩
theorem lw_p69 : lw_okq (⟨"TreebarkModel", "above", "(II)I"⟩, 36) := ⟨⟨by decide +kernel, by decide +kernel⟩, List.mem_of_getElem? (i := 954) (by decide +kernel), List.mem_of_getElem? (i := 1337) (by decide +kernel), List.mem_of_getElem? (i := 1338) (by decide +kernel)⟩
theorem lw_p70 : lw_okq (⟨"TreebarkModel", "isOther", "(III)Z"⟩, 36) := ⟨⟨by decide +kernel, by decide +kernel⟩, List.mem_of_getElem? (i := 954) (by decide +kernel), List.mem_of_getElem? (i := 1341) (by decide +kernel), List.mem_of_getElem? (i := 1342) (by decide +kernel)⟩
theorem lw_p71 : lw_okq (⟨"TreebarkModel", "unpack", "()Z"⟩, 36) := ⟨⟨by decide +kernel, by decide +kernel⟩, List.mem_of_getElem? (i := 954) (by decide +kernel), List.mem_of_getElem? (i := 1349) (by decide +kernel), List.mem_of_getElem? (i := 1350) (by decide +kernel)⟩
theorem lw_p72 : lw_okq (⟨"TreebarkModel", "become", "(II)I"⟩, 36) := ⟨⟨by decide +kernel, by decide +kernel⟩, List.mem_of_getElem? (i := 954) (by decide +kernel), List.mem_of_getElem? (i := 1353) (by decide +kernel), List.mem_of_getElem? (i := 1354) (by decide +kernel)⟩
theorem lw_p73 : lw_okq (⟨"TreebarkModel", "later", "(I)I"⟩, 36) := ⟨⟨by decide +kernel, by decide +kernel⟩, List.mem_of_getElem? (i := 954) (by decide +kernel), List.mem_of_getElem? (i := 1365) (by decide +kernel), List.mem_of_getElem? (i := 1366) (by decide +kernel)⟩
def lw_privs_5 : List (MethodName × Nat) := [(⟨"TreebarkModel", "like", "(IIIII)V"⟩, 36), (⟨"TreebarkModel", "keep", "()V"⟩, 36), (⟨"TreebarkModel", "replay", "(I)V"⟩, 36), (⟨"TreebarkModel", "numbered", "(II)I"⟩, 36), (⟨"TreebarkModel", "canSend", "(II)Z"⟩, 36), (⟨"TreebarkModel", "above", "(II)I"⟩, 36), (⟨"TreebarkModel", "isOther", "(III)Z"⟩, 36), (⟨"TreebarkModel", "unpack", "()Z"⟩, 36), (⟨"TreebarkModel", "become", "(II)I"⟩, 36), (⟨"TreebarkModel", "later", "(I)I"⟩, 36)]
theorem lw_r5 : ∀ q ∈ lw_privs_5, lw_okq q := List.forall_mem_cons.mpr ⟨lw_p64, List.forall_mem_cons.mpr ⟨lw_p65, List.forall_mem_cons.mpr ⟨lw_p66, List.forall_mem_cons.mpr ⟨lw_p67, List.forall_mem_cons.mpr ⟨lw_p68, List.forall_mem_cons.mpr ⟨lw_p69, List.forall_mem_cons.mpr ⟨lw_p70, List.forall_mem_cons.mpr ⟨lw_p71, List.forall_mem_cons.mpr ⟨lw_p72, List.forall_mem_cons.mpr ⟨lw_p73, fun _ h => absurd h List.not_mem_nil⟩⟩⟩⟩⟩⟩⟩⟩⟩⟩
def lw_privs : List (MethodName × Nat) := lw_privs_1 ++ (lw_privs_2 ++ (lw_privs_3 ++ (lw_privs_4 ++ (lw_privs_5))))
def lw_tbl : List Cond := k2_sels lw_privs ++ tables_1
theorem lw_privs_ok : ∀ q ∈ lw_privs, lw_okq q := by
  show ∀ q ∈ lw_privs_1 ++ (lw_privs_2 ++ (lw_privs_3 ++ (lw_privs_4 ++ (lw_privs_5)))), lw_okq q
  exact List.forall_mem_append.mpr ⟨lw_r1, List.forall_mem_append.mpr ⟨lw_r2, List.forall_mem_append.mpr ⟨lw_r3, List.forall_mem_append.mpr ⟨lw_r4, lw_r5⟩⟩⟩⟩
-- ===== end of PART A; then your names; then what follows =====
/-! ===== BEGIN words of one list among another's, by their places ===== -/
theorem goodIn_r {big : List Cond} (ws : List Cond) (ps : List Nat) (hp : ws = ps.filterMap (fun i => big[i]?)) (h : ws.all goodWord = true) : GoodIn big ws := by
  intro w hw
  have h1 := List.all_eq_true.mp h w hw
  rw [hp] at hw
  obtain ⟨i, -, hi⟩ := List.mem_filterMap.mp hw
  have hm : w ∈ big := by first | exact List.mem_of_getElem? hi | exact List.getElem?_mem hi
  exact ⟨hm, good_of_word h1⟩
theorem goodIn_app {big a b : List Cond} (ha : GoodIn big a) (hb : GoodIn big b) : GoodIn big (a ++ b) := fun w h => (List.mem_append.mp h).elim (ha w) (hb w)
theorem goodIn_ca {big a b : List Cond} {c : Cond} (ha : GoodIn big (c :: a)) (hb : GoodIn big b) : GoodIn big (c :: (a ++ b)) := fun w h => (List.mem_cons.mp h).elim (fun e => ha w (List.mem_cons.mpr (Or.inl e))) (fun h => (List.mem_append.mp h).elim (fun h => ha w (List.mem_cons.mpr (Or.inr h))) (hb w))
theorem goodIn_sub {big ws : List Cond} (hm : ∀ w ∈ ws, w ∈ big) (h : ws.all goodWord = true) : GoodIn big ws := fun w hw => ⟨hm w hw, good_of_word (List.all_eq_true.mp h w hw)⟩
/-! ===== END ===== -/
/-! ===== BEGIN exceptions that leave a method, and their catching by the caller (launches without stack traces) ===== -/
section VXA
/-! The laws vx_back, vx_callV, vx_callS, vx_callSW, vx_throw0, vx_throwS follow proofs of the library, with one case more: JvmDerived/Free/Laws.lean (Back.of_free), Shelf42/LK1.lean (callV, callS), Shelf/KitTraced.lean (throwNew0V, throwNewS). -/
/-- where a method has thrown q: the class by its name, the cell, what was written, the world -/
def vx_T (XC : String → State → State → Prop) (st : State) (q : Addr) (t : State) (mc ms : Nat) (free : Addr → Prop) : Prop :=
  ∃ (E : String) (ce : Cell) (L : List Loc), XC E st t ∧ t.heap[q]? = some ce ∧ ce.vm = .none ∧ st.vm.findClass E = some ce.cls ∧ st.WarmedH t.vm ∧ st.sameButNew ({ t with vm := st.vm } : State) L mc ms ∧ ∀ z ∈ L, free z.base
def vx_Q (Qc : Array Value → State → Outcome → State → Prop) (XC : String → State → State → Prop) (mc ms : Nat) (free : Addr → Prop) : Array Value → State → Outcome → State → Prop := fun a st o t =>
  (Qc a st o t ∧ ∃ L, FrameEnd st o t L mc ms ∧ ∀ q ∈ L, free q.base) ∨ ∃ q, o = .threw q ∧ vx_T XC st q t mc ms free
/-- a callee that returns or throws -/
def vx_Met (l : Launch) (y : MethodName) (ws : List Cond) (rm : Room) (Pc : Array Value → State → Prop) (Qc : Array Value → State → Outcome → State → Prop) (XC : String → State → State → Prop) (mc ms : Nat) (free : Addr → Prop) : Prop :=
  MetFree l y (headSpec ws rm) Pc (fun _ _ _ _ _ => True) (vx_Q Qc XC mc ms free)
def vx_Post (XC : String → State → State → Prop) (mc ms : Nat) (free : Addr → Prop) : Pt → Array Value → Addr → Pt → Prop := fun A a q B =>
  ∃ (g : JFrame) (mk : MethodId) (t : State) (L : List Loc) (E : String) (ce : Cell), B.U.heap = t.heap ∧ B.U.vm = t.vm ∧ XC E (A.U.calling g mk a) t ∧ t.heap[q]? = some ce ∧ ce.vm = .none ∧ A.U.vm.findClass E = some ce.cls ∧ B.locs = A.locs ++ L ∧ (∀ z ∈ L, free z.base) ∧ B.cells = A.cells + mc ∧ B.slots = A.slots + ms
def vx_Back (l : Launch) (R : Room) (p : Program) (e : Env) (below : List Frame) (s : State) (sargs : Array Value) (y : MethodName) (len W9 : Nat)
    (Pre : Pt → Array Value → Prop) (Post : Pt → Array Value → Option Value → Pt → Prop) (PostX : Pt → Array Value → Addr → Pt → Prop) : Prop :=
  ∀ (m : MethodId) (meth : Method) (c : Code) (A : Pt) (g : JFrame) (ig : Instr) (mk : MethodId) (a : Array Value),
    Stand p l e R s m sargs below meth c A.U A.locs A.cells A.slots → g.method = m → g.locals.size = c.maxLocals → decode c.code g.pc = .ok (ig, len) →
    2 * g.monitorRoom + (g.stack.map fun v => v.category).sum ≤ W9 → A.U.methodNamed? y = some mk → Pre A a →
    (∃ (v : Option Value) (B : Pt), Stand p l e R s m sargs below meth c B.U B.locs B.cells B.slots ∧ Post A a v B ∧
      Steps p.tables e below (doInvoke e (A.U.setTop g) [] mk a).1 (B.U.setTop { g with pc := g.pc + len, stack := v.toList ++ g.stack })) ∨
    (∃ (q : Addr) (B : Pt), Stand p l e R s m sargs below meth c B.U B.locs B.cells B.slots ∧ PostX A a q B ∧
      Steps p.tables e below (doInvoke e (A.U.setTop g) [] mk a).1 ((B.U.setTop g).pushFrame (.throwing q)))
section Payer
variable {l : Launch} {R : Room} {p : Program} {e : Env} {below : List Frame} {s : State} {sargs : Array Value} {y : MethodName} {len W9 : Nat}
theorem vx_back {ws : List Cond} {rm : Room} {Pc : Array Value → State → Prop} {Qc : Array Value → State → Outcome → State → Prop} {XC : String → State → State → Prop} {mc ms : Nat} {free : Addr → Prop} {bytes : ByteArray} {maxL : Nat} {ret : Option FieldType}
    (hM : vx_Met l y ws rm Pc Qc XC mc ms free) (hblind : FrameBlind Pc) (hrc : rm.cells = mc) (hrs : rm.slots = ms)
    (hframes : rm.frames + 1 ≤ R.frames) (hlocals : W9 + (maxL + 11) + rm.locals ≤ R.locals)
    (hws : ∀ w ∈ ws, ∀ a' U, s.WarmedH U.vm → w.before a' U = true) (hcode : Cond.code y bytes maxL ret ∈ ws) (hinit : ∀ a' U, s.WarmedH U.vm → (Cond.initialized y.cls).before a' U = true) :
    vx_Back l R p e below s sargs y len W9 (PreOf R mc ms Pc) (PostOf Qc mc ms free) (vx_Post XC mc ms free) := by
  intro m meth c A g ig mk a X hg hsize hdg hW hn hp
  have h1 : (headSpec ws rm).pre.before a A.U = true := atoms_intro fun w hw => hws w hw _ _ X.warmed
  have h2 : (Cond.code y bytes maxL ret).before a A.U = true := hws _ hcode _ _ X.warmed
  have h3 : (Cond.initialized y.cls).before a A.U = true := hinit _ _ X.warmed
  have h4 : A.cells + (headSpec ws rm).room.cells ≤ R.cells := by rw [show (headSpec ws rm).room.cells = mc from hrc]; exact hp.1
  have h5 : A.slots + (headSpec ws rm).room.slots ≤ R.slots := by rw [show (headSpec ws rm).room.slots = ms from hrs]; exact hp.2.1
  have hPc : Pc a (A.U.calling g mk a) := hblind _ _ _ _ hp.2.2
  obtain ⟨U, Ls, c0, s0⟩ := A
  dsimp only [Pt.U, Pt.locs, Pt.cells, Pt.slots] at h1 h2 h3 h4 h5 X hn hPc ⊢
  obtain ⟨methY, cY, hmY, hcY, -, hlY, -, -, -, -⟩ := Cond.code_spec hn h2
  obtain ⟨kY, hkY, -⟩ := className_of_methodNamed hn
  have hinitY : kY.init = .initialized := Cond.initialized_spec (findClass_of_methodNamed hn) hkY h3
  have h : At U g.method c below := by rw [hg]; exact X.here
  have hlocals9 : W9 + (maxL + 11) + (headSpec ws rm).room.locals ≤ R.locals := hlocals
  have happ : (headSpec ws rm).appliesLoose y e.platform (U.calling g mk a) = true :=
    Spec.appliesLoose_calling (g := g) h hdg hn hkY hinitY
      (X.room_calling (g := g) (R' := (headSpec ws rm).room) hsize hmY hcY hframes (by rw [hlY]; omega) h4 h5) h1
  obtain ⟨mid, hmid⟩ := h.above
  have hfr : (U.setTop g).frames = (.java g :: mid) ++ below := by rw [State.frames_setTop' g h.top, hmid]; rfl
  obtain ⟨o, s₂, hsteps, -, hend, hq⟩ := Steps.callFree hM p X.admits X.cas X.clock (acts := []) hfr happ hPc trivial
  have hq' : vx_Q Qc XC mc ms free a (U.calling g mk a) o s₂ := hq
  rw [State.frames_setTop' g h.top] at hend
  obtain ⟨g₀, hg0⟩ := Option.isSome_iff_exists.mp h.top
  obtain ⟨r, hr⟩ := State.topJava?_eq_some.mp hg0
  have hr' : (({ U with heap := s₂.heap, slotsUsed := s₂.slotsUsed } : State).setVm s₂.vm).frames = .java g₀ :: r := hr
  rcases hq' with ⟨hqc, L, hfe, hL⟩ | ⟨q, rfl, E, ce, L, hx, hce, hcv, hcl, hW₂, hsm, hL⟩
  · obtain ⟨⟨v, rfl⟩, hW₂, e2, q2, q3, q4, q5, q6⟩ := id hfe
    have e3 : s₂ = ({ (U.calling g mk a).setFrames s₂.frames with heap := s₂.heap, slotsUsed := s₂.slotsUsed } : State).setVm s₂.vm := by
      have : s₂ = ({ s₂ with vm := (U.calling g mk a).vm } : State).setVm s₂.vm := rfl
      rw [e2] at this
      exact this
    obtain ⟨c₂, i₂, len₂, hc₂, hd₂, hf₂⟩ := hend
    have hW' : U.WarmedH s₂.vm := hW₂
    have hcc : c₂ = c := by
      have h1 : s₂.code? g.method = U.code? g.method := by
        rw [State.code?_eq, State.code?_eq, hW'.alike.method?]
      exact Option.some.inj (hc₂.symm.trans (h1.trans h.code))
    subst hcc
    have hlen : len₂ = len := by rw [hdg] at hd₂; cases hd₂; rfl
    subst hlen
    have hs₂ : s₂ = (({ U with heap := s₂.heap, slotsUsed := s₂.slotsUsed } : State).setVm s₂.vm).setTop { g with pc := g.pc + len₂, stack := v.toList ++ g.stack } := by
      refine e3.trans ?_
      rw [hf₂, State.calling_eq h.top, State.setFrames_setFrames, State.setTop_of_frames _ hr', hr]
      rfl
    have hsame : U.sameButNew ({ U with heap := s₂.heap, slotsUsed := s₂.slotsUsed } : State) L mc ms := by
      refine ⟨?_, q2, q3, q4, q5, q6⟩
      obtain ⟨t, ht, -⟩ := State.frames_cons hr
      show ({ U with heap := s₂.heap, slotsUsed := s₂.slotsUsed } : State) = { U.setFrames U.frames with heap := s₂.heap, slotsUsed := s₂.slotsUsed }
      rw [State.setFrames_self ht]
    subst hg
    refine Or.inl ⟨v, ⟨(({ U with heap := s₂.heap, slotsUsed := s₂.slotsUsed } : State).setVm s₂.vm), Ls ++ L, c0 + mc, s0 + ms⟩,
      ⟨X.admits, X.cas, X.clock, X.frames, X.room, X.hears, X.method, X.code, (X.here.setHeapUsed s₂.heap s₂.slotsUsed).setVm hW'.alike, X.tail, State.WarmedH.trans X.warmed hW', X.limits, X.bytes, X.same.trans (hsame.setVm s.vm)⟩,
      ⟨g, mk, s₂, L, rfl, rfl, hqc, rfl, hL, rfl, rfl⟩, ?_⟩
    show Steps p.tables e below _ ((({ U with heap := s₂.heap, slotsUsed := s₂.slotsUsed } : State).setVm s₂.vm).setTop { g with pc := g.pc + len₂, stack := v.toList ++ g.stack })
    rw [← hs₂]
    exact hsteps
  · obtain ⟨e2, q2, q3, q4, q5, q6⟩ := id hsm
    have e3 : s₂ = ({ (U.calling g mk a).setFrames s₂.frames with heap := s₂.heap, slotsUsed := s₂.slotsUsed } : State).setVm s₂.vm := by
      have : s₂ = ({ s₂ with vm := (U.calling g mk a).vm } : State).setVm s₂.vm := rfl
      rw [e2] at this
      exact this
    have hf₂ : s₂.frames = .throwing q :: .java g :: U.frames.tail := hend
    have hW' : U.WarmedH s₂.vm := hW₂
    have hs₂ : s₂ = ((({ U with heap := s₂.heap, slotsUsed := s₂.slotsUsed } : State).setVm s₂.vm).setTop g).pushFrame (.throwing q) := by
      refine e3.trans ?_
      rw [hf₂, State.calling_eq h.top, State.setFrames_setFrames, State.pushFrame, State.frames_setTop _ hr', State.setTop_of_frames _ hr', State.setFrames_setFrames, hr]
      rfl
    have hsame : U.sameButNew ({ U with heap := s₂.heap, slotsUsed := s₂.slotsUsed } : State) L mc ms := by
      refine ⟨?_, q2, q3, q4, q5, q6⟩
      obtain ⟨t, ht, -⟩ := State.frames_cons hr
      show ({ U with heap := s₂.heap, slotsUsed := s₂.slotsUsed } : State) = { U.setFrames U.frames with heap := s₂.heap, slotsUsed := s₂.slotsUsed }
      rw [State.setFrames_self ht]
    subst hg
    refine Or.inr ⟨q, ⟨(({ U with heap := s₂.heap, slotsUsed := s₂.slotsUsed } : State).setVm s₂.vm), Ls ++ L, c0 + mc, s0 + ms⟩,
      ⟨X.admits, X.cas, X.clock, X.frames, X.room, X.hears, X.method, X.code, (X.here.setHeapUsed s₂.heap s₂.slotsUsed).setVm hW'.alike, X.tail, State.WarmedH.trans X.warmed hW', X.limits, X.bytes, X.same.trans (hsame.setVm s.vm)⟩,
      ⟨g, mk, s₂, L, E, ce, rfl, rfl, hx, hce, hcv, hcl, rfl, hL, rfl, rfl⟩, ?_⟩
    show Steps p.tables e below _ (((({ U with heap := s₂.heap, slotsUsed := s₂.slotsUsed } : State).setVm s₂.vm).setTop g).pushFrame (.throwing q))
    rw [← hs₂]
    exact hsteps
end Payer
section Calls
variable {p : Program} {l : Launch} {e : Env} {R : Room} {s : State} {m : MethodId} {args : Array Value} {below : List Frame} {meth : Method} {c : Code} {T : State} {locs : List Loc} {cells slots : Nat}
theorem vx_callV (X : Stand p l e R s m args below meth c T locs cells slots) (hexec : p.tables.exec = Jvm.exec) {own C : String} {index : Nat} {y : MethodName} {bytes : ByteArray} {maxL : Nat} {ret : Option FieldType}
    (hown : s.vm.findClass own = some m.cls) (hlink : (Cond.methodLink own index y).before args s = true) (hinst : (Cond.instanceMethod y).before args s = true) (hsel : (Cond.selects C y y).before args s = true)
    (hcode : (Cond.code y bytes maxL ret).before args s = true) (hy : y.cls ≠ "java/lang/invoke/MethodHandle" ∧ y.cls ≠ "java/lang/invoke/VarHandle")
    {W9 : Nat} {Pre : Pt → Array Value → Prop} {Post : Pt → Array Value → Option Value → Pt → Prop} {PostX : Pt → Array Value → Addr → Pt → Prop} (hK : vx_Back l R p e below s args y 3 W9 Pre Post PostX)
    {b : Addr} {cellB : Cell} (hcell : T.heap[b]? = some cellB) (hobj : cellB.vm.isStatics = false) (hcls : s.vm.findClass C = some cellB.cls)
    {g : JFrame} (hg : g.method = m) (hsize : g.locals.size = c.maxLocals) {argsL rest : List Value} (hlen : ∀ sig, parseMethodDescriptor y.desc = some sig → argsL.length = sig.parameters.length)
    (hstack : g.stack = argsL.reverse ++ .ref b :: rest) (hW : 2 * g.monitorRoom + (rest.map fun v => v.category).sum ≤ W9) (hdg : decode c.code g.pc = .ok (.invokevirtual index, 3))
    (hpre : ∀ vm₁, s.WarmedH vm₁ → Pre ⟨T.setVm vm₁, locs, cells, slots⟩ (Value.ref b :: argsL).toArray) :
    (∃ (v : Option Value) (vm₁ : Vm) (B : Pt), s.WarmedH vm₁ ∧ Stand p l e R s m args below meth c B.U B.locs B.cells B.slots ∧ Post ⟨T.setVm vm₁, locs, cells, slots⟩ (Value.ref b :: argsL).toArray v B ∧
      ∀ target, Steps p.tables e below (B.U.setTop { g with pc := g.pc + 3, stack := v.toList ++ rest }) target → Steps p.tables e below (T.setTop g) target) ∨
    (∃ (q : Addr) (vm₁ : Vm) (B : Pt), s.WarmedH vm₁ ∧ Stand p l e R s m args below meth c B.U B.locs B.cells B.slots ∧ PostX ⟨T.setVm vm₁, locs, cells, slots⟩ (Value.ref b :: argsL).toArray q B ∧
      Steps p.tables e below (T.setTop g) ((B.U.setTop { g with stack := rest }).pushFrame (.throwing q))) := by
  obtain ⟨mk, methM, hnamed, hmethM, hstM, habM⟩ := Cond.instanceMethod_spec hinst
  obtain ⟨methM', cM, hmethM', -, -, -, -, -, -, hsigM⟩ := Cond.code_spec hnamed hcode
  cases hmethM.symm.trans hmethM'
  obtain ⟨c2, r2, m2, q1, q2, q3, q4, kP, hkP, hkPi⟩ := Cond.selects_spec hsel
  cases hcls.symm.trans q1
  cases (State.methodFound?_of_named hnamed hy).symm.trans q2
  cases hnamed.symm.trans q3
  have hselP : selectMethod e.platform s.vm cellB.cls mk = .method mk := by rw [Launch.admits_selectMethod X.admits]; exact q4
  obtain ⟨vm₁, X₁, hstep₁⟩ := X.invokevirtual hexec hown hlink hnamed hmethM hstM hkP hkPi hy (a := b) (cell := cellB) hcell
    (fun z h => by rw [h] at hobj; cases hobj) hselP hmethM habM hkP hkPi (g := g) hg (argsL := argsL) (rest := rest) (hlen _ hsigM) hstack hdg
  rcases hK m meth c ⟨T.setVm vm₁, locs, cells, slots⟩ { g with stack := rest } (.invokevirtual index) mk (Value.ref b :: argsL).toArray X₁ hg hsize hdg hW (X₁.named hnamed) (hpre vm₁ X₁.warmed) with ⟨v, B, X', hpost, hsteps⟩ | ⟨q, B, X', hpost, hsteps⟩
  · exact Or.inl ⟨v, vm₁, B, X₁.warmed, X', hpost, fun target h => hstep₁ _ fun acts => by rw [doInvoke_state]; exact hsteps.trans h⟩
  · exact Or.inr ⟨q, vm₁, B, X₁.warmed, X', hpost, hstep₁ _ fun acts => by rw [doInvoke_state]; exact hsteps⟩
theorem vx_callS (X : Stand p l e R s m args below meth c T locs cells slots) (hexec : p.tables.exec = Jvm.exec) {own : String} {index : Nat} {y : MethodName} {bytes : ByteArray} {maxL : Nat} {ret : Option FieldType}
    (hown : s.vm.findClass own = some m.cls) (hlink : (Cond.methodLink own index y).before args s = true) (hstat : (Cond.static y).before args s = true) (hinit : (Cond.initialized y.cls).before args s = true)
    (hcode : (Cond.code y bytes maxL ret).before args s = true) (hy : y.cls ≠ "java/lang/invoke/MethodHandle" ∧ y.cls ≠ "java/lang/invoke/VarHandle")
    {W9 : Nat} {Pre : Pt → Array Value → Prop} {Post : Pt → Array Value → Option Value → Pt → Prop} {PostX : Pt → Array Value → Addr → Pt → Prop} (hK : vx_Back l R p e below s args y 3 W9 Pre Post PostX)
    {g : JFrame} (hg : g.method = m) (hsize : g.locals.size = c.maxLocals) {argsL rest : List Value} (hlen : ∀ sig, parseMethodDescriptor y.desc = some sig → argsL.length = sig.parameters.length)
    (hstack : g.stack = argsL.reverse ++ rest) (hW : 2 * g.monitorRoom + (rest.map fun v => v.category).sum ≤ W9) (hdg : decode c.code g.pc = .ok (.invokestatic index, 3))
    (hpre : ∀ vm₁, s.WarmedH vm₁ → Pre ⟨T.setVm vm₁, locs, cells, slots⟩ argsL.toArray) :
    (∃ (v : Option Value) (vm₁ : Vm) (B : Pt), s.WarmedH vm₁ ∧ Stand p l e R s m args below meth c B.U B.locs B.cells B.slots ∧ Post ⟨T.setVm vm₁, locs, cells, slots⟩ argsL.toArray v B ∧
      ∀ target, Steps p.tables e below (B.U.setTop { g with pc := g.pc + 3, stack := v.toList ++ rest }) target → Steps p.tables e below (T.setTop g) target) ∨
    (∃ (q : Addr) (vm₁ : Vm) (B : Pt), s.WarmedH vm₁ ∧ Stand p l e R s m args below meth c B.U B.locs B.cells B.slots ∧ PostX ⟨T.setVm vm₁, locs, cells, slots⟩ argsL.toArray q B ∧
      Steps p.tables e below (T.setTop g) ((B.U.setTop { g with stack := rest }).pushFrame (.throwing q))) := by
  obtain ⟨mk, hnamed⟩ := Cond.code_named hcode
  obtain ⟨methM, cM, hmethM, -, -, -, -, -, -, hsigM⟩ := Cond.code_spec hnamed hcode
  have hstatic : methM.isStatic = true := Cond.static_spec hnamed hmethM hstat
  obtain ⟨kP, hkP, -⟩ := className_of_methodNamed hnamed
  have hinitP : kP.init = .initialized := Cond.initialized_spec (findClass_of_methodNamed hnamed) hkP hinit
  obtain ⟨vm₁, X₁, hstep₁⟩ := X.invokestatic hexec hown hlink hnamed hmethM hstatic hkP hinitP hy (g := g) hg (argsL := argsL) (rest := rest) (hlen _ hsigM) hstack hdg
  rcases hK m meth c ⟨T.setVm vm₁, locs, cells, slots⟩ { g with stack := rest } (.invokestatic index) mk argsL.toArray X₁ hg hsize hdg hW (X₁.named hnamed) (hpre vm₁ X₁.warmed) with ⟨v, B, X', hpost, hsteps⟩ | ⟨q, B, X', hpost, hsteps⟩
  · exact Or.inl ⟨v, vm₁, B, X₁.warmed, X', hpost, fun target h => hstep₁ _ fun acts => by rw [doInvoke_state]; exact hsteps.trans h⟩
  · exact Or.inr ⟨q, vm₁, B, X₁.warmed, X', hpost, hstep₁ _ fun acts => by rw [doInvoke_state]; exact hsteps⟩
end Calls
theorem vx_cls {s : State} {T : State} {vm₁ : Vm} {E : String} {k : ClassId} (hW : s.WarmedH vm₁) (h : (T.setVm vm₁).vm.findClass E = some k) : s.vm.findClass E = some k := by
  have h1 : vm₁.findClass E = some k := h
  rw [hW.alike.findClass] at h1
  exact h1
/-- the method's frame g, with q thrown over it -/
def vx_W (p : Program) (l : Launch) (e : Env) (R : Room) (s : State) (m : MethodId) (args : Array Value) (below : List Frame) (meth : Method) (c : Code) (H : Heap) (locs : List Loc) (cells slots : Nat) (Q : State → Prop) (g : JFrame) (q : Addr) : Prop :=
  ∀ T : State, T.heap = H → Stand p l e R s m args below meth c T locs cells slots → ∃ t, Steps p.tables e below ((T.setTop g).pushFrame (.throwing q)) t ∧ Q t
def vx_Run (p : Program) (l : Launch) (e : Env) (R : Room) (s : State) (m : MethodId) (args : Array Value) (below : List Frame) (meth : Method) (c : Code) (H : Heap) (locs : List Loc) (cells slots mc ms : Nat) (g : JFrame) (rest : List Value) (Qa : State → Outcome → State → Prop) (XC : String → State → State → Prop) (free : Addr → Prop) : Prop :=
  ∀ T : State, T.heap = H → Stand p l e R s m args below meth c T locs cells slots →
    (∃ (v : Option Value) (st₀ t T' : State) (L : List Loc), st₀.heap = H ∧ Stand p l e R s m args below meth c T' (locs ++ L) (cells + mc) (slots + ms) ∧ (∀ q ∈ L, free q.base) ∧ T'.heap = t.heap ∧ T'.vm = t.vm ∧ Qa st₀ (.returned v) t ∧
      Goes p e below T g T' { g with pc := g.pc + 3, stack := v.toList ++ rest }) ∨
    (∃ (q : Addr) (st₀ t T' : State) (L : List Loc) (E : String) (ce : Cell), st₀.heap = H ∧ Stand p l e R s m args below meth c T' (locs ++ L) (cells + mc) (slots + ms) ∧ (∀ z ∈ L, free z.base) ∧ T'.heap = t.heap ∧ T'.vm = t.vm ∧ XC E st₀ t ∧ t.heap[q]? = some ce ∧ ce.vm = .none ∧ s.vm.findClass E = some ce.cls ∧
      Steps p.tables e below (T.setTop g) ((T'.setTop { g with stack := rest }).pushFrame (.throwing q)))
def vx_X {S : Type} (px : S → Prop) (B : String → S → State → Prop) (A : Nat → Prop) : String → State → State → Prop := fun E st t => ∃ u : S, px u ∧ B E u t ∧ va_F A st t
section Runs
variable {p : Program} {l : Launch} {e : Env} {R : Room} {s : State} {m : MethodId} {args : Array Value} {below : List Frame} {meth : Method} {c : Code} {H : Heap} {locs : List Loc} {cells slots : Nat}
variable {y : MethodName} {bytes cc : ByteArray} {maxL nL mc ms n index : Nat} {ret : Option FieldType} {ws : List Cond} {rm : Room} {Pc : Array Value → State → Prop} {Qc : Array Value → State → Outcome → State → Prop} {XC : String → State → State → Prop} {free : Addr → Prop} {Ts : List Cond} {own C : String} {b : Addr} {As rest : List Value} {g : JFrame}
theorem vx_callBack (cb : CallB R s args own index y bytes maxL ret ws rm mc ms n) (hM : vx_Met l y ws rm Pc Qc XC mc ms free) (hbl : FrameBlind Pc) : vx_Back l R p e below s args y 3 8 (PreOf R mc ms Pc) (PostOf Qc mc ms free) (vx_Post XC mc ms free) := by
  obtain ⟨hrc, hrs, hfr, hlo, hws, hcw, -, hini, -⟩ := cb
  exact vx_back (bytes := bytes) (maxL := maxL) (ret := ret) hM hbl hrc hrs hfr hlo hws hcw (fun a' U hW => word_at hW (Or.inl (by first | rfl | simp [Cond.onTables, Cond.keeps, Cond.steady])) hini)
theorem vx_runV (S : CallFix p m c cc nL s args Ts own) (hM : vx_Met l y ws rm Pc Qc XC mc ms free) (cw : CallW R s args own C index y bytes maxL ret ws rm mc ms n) (hp : PreV s H C b Pc As)
    (hg : g.method = m) (hn : As.length = n) (hsize : g.locals.size = nL) (hstack : g.stack = As.reverse ++ .ref b :: rest) (hW : 2 * g.monitorRoom + (rest.map fun v => v.category).sum ≤ 8) (hdg : decode cc g.pc = .ok (.invokevirtual index, 3)) (hf : cells + mc ≤ R.cells ∧ slots + ms ≤ R.slots) :
    vx_Run p l e R s m args below meth c H locs cells slots mc ms g rest (Qc (Value.ref b :: As).toArray) XC free := by
  have hK : vx_Back l R p e below s args y 3 8 (PreOf R mc ms Pc) (PostOf Qc mc ms free) (vx_Post XC mc ms free) := vx_callBack cw.1 hM hp.1
  obtain ⟨⟨-, -, -, -, -, -, hcode, -, hy, hlen, hl⟩, hin, hse⟩ := cw
  obtain ⟨hx, hb, hml, ho, -⟩ := S
  obtain ⟨-, ⟨cellB, hcB, hoB, hclB⟩, hPc⟩ := hp
  intro T hT X
  rcases vx_callV X hx (C := C) (bytes := bytes) (maxL := maxL) (ret := ret) ho hl hin hse hcode hy hK (by rw [hT]; exact hcB) hoB hclB hg (hsize.trans hml.symm) (argsL := As) (rest := rest) (fun sig h => hn.trans (hlen sig h)) hstack hW (by rw [hb]; exact hdg)
    (fun vm₁ hW₁ => ⟨hf.1, hf.2, hPc (T.setVm vm₁) hT hW₁⟩) with ⟨v, vm₁, ⟨U', l2, c2, s2⟩, hW₁, X', ⟨g', mk, t, L, e1, e2, hq, h1, hL, h2, h3⟩, st⟩ | ⟨q, vm₁, ⟨U', l2, c2, s2⟩, hW₁, X', ⟨g', mk, t, L, E, ce, e1, e2, hq, hce, hcv, hcl, h1, hL, h2, h3⟩, st⟩
  · dsimp only [Pt.U, Pt.locs, Pt.cells, Pt.slots] at X' e1 e2 h1 h2 h3 st
    subst h1; subst h2; subst h3
    exact Or.inl ⟨v, (T.setVm vm₁).calling g' mk (Value.ref b :: As).toArray, t, U', L, hT, X', hL, e1, e2, hq, st⟩
  · dsimp only [Pt.U, Pt.locs, Pt.cells, Pt.slots] at X' e1 e2 h1 h2 h3 st hcl
    subst h1; subst h2; subst h3
    exact Or.inr ⟨q, (T.setVm vm₁).calling g' mk (Value.ref b :: As).toArray, t, U', L, E, ce, hT, X', hL, e1, e2, hq, hce, hcv, vx_cls hW₁ hcl, st⟩
theorem vx_runS (S : CallFix p m c cc nL s args Ts own) (hM : vx_Met l y ws rm Pc Qc XC mc ms free) (cw : CallB R s args own index y bytes maxL ret ws rm mc ms n ∧ (Cond.static y).before args s = true) (hp : PreS s H Pc As)
    (hg : g.method = m) (hn : As.length = n) (hsize : g.locals.size = nL) (hstack : g.stack = As.reverse ++ rest) (hW : 2 * g.monitorRoom + (rest.map fun v => v.category).sum ≤ 8) (hdg : decode cc g.pc = .ok (.invokestatic index, 3)) (hf : cells + mc ≤ R.cells ∧ slots + ms ≤ R.slots) :
    vx_Run p l e R s m args below meth c H locs cells slots mc ms g rest (Qc As.toArray) XC free := by
  have hK : vx_Back l R p e below s args y 3 8 (PreOf R mc ms Pc) (PostOf Qc mc ms free) (vx_Post XC mc ms free) := vx_callBack cw.1 hM hp.1
  obtain ⟨⟨-, -, -, -, -, -, hcode, hini, hy, hlen, hl⟩, hstt⟩ := cw
  obtain ⟨hx, hb, hml, ho, -⟩ := S
  intro T hT X
  rcases vx_callS X hx (bytes := bytes) (maxL := maxL) (ret := ret) ho hl hstt hini hcode hy hK hg (hsize.trans hml.symm) (argsL := As) (rest := rest) (fun sig h => hn.trans (hlen sig h)) hstack hW (by rw [hb]; exact hdg)
    (fun vm₁ hW₁ => ⟨hf.1, hf.2, hp.2 (T.setVm vm₁) hT hW₁⟩) with ⟨v, vm₁, ⟨U', l2, c2, s2⟩, hW₁, X', ⟨g', mk, t, L, e1, e2, hq, h1, hL, h2, h3⟩, st⟩ | ⟨q, vm₁, ⟨U', l2, c2, s2⟩, hW₁, X', ⟨g', mk, t, L, E, ce, e1, e2, hq, hce, hcv, hcl, h1, hL, h2, h3⟩, st⟩
  · dsimp only [Pt.U, Pt.locs, Pt.cells, Pt.slots] at X' e1 e2 h1 h2 h3 st
    subst h1; subst h2; subst h3
    exact Or.inl ⟨v, (T.setVm vm₁).calling g' mk As.toArray, t, U', L, hT, X', hL, e1, e2, hq, st⟩
  · dsimp only [Pt.U, Pt.locs, Pt.cells, Pt.slots] at X' e1 e2 h1 h2 h3 st hcl
    subst h1; subst h2; subst h3
    exact Or.inr ⟨q, (T.setVm vm₁).calling g' mk As.toArray, t, U', L, E, ce, hT, X', hL, e1, e2, hq, hce, hcv, vx_cls hW₁ hcl, st⟩
end Runs
section Rows
variable {p : Program} {l : Launch} {e : Env} {R : Room} {s : State} {m : MethodId} {args : Array Value} {below : List Frame} {meth : Method} {c : Code} {H : Heap} {locs : List Loc} {cells slots : Nat} {Q : State → Prop}
variable {mc ms : Nat} {free : Addr → Prop} {A0 A1 : Nat → Prop} {H0 : Heap} {a : Array Value} {pc : Nat} {ls : Array Slot} {st0 rest : List Value}
theorem vx_keep {st₀ t T' : State} {L : List Loc} (h0 : st₀.heap = H) (e1 : T'.heap = t.heap) (hS : va_S A0 H0 H locs) (hA : ∀ q, q < H.size → A1 q → A0 q) (hf : ∀ q, free q → A0 q) (hL : ∀ q ∈ L, free q.base) (hF : va_F A1 st₀ t) :
    H.size ≤ T'.heap.size ∧ (∀ q : Nat, q < H.size → ¬ A1 q → T'.heap[q]? = H[q]?) ∧ va_S A0 H0 T'.heap (locs ++ L) := by
  obtain ⟨hz, hk⟩ := hF
  rw [h0] at hz hk
  exact ⟨by rw [e1]; exact hz, fun q h1 h2 => by rw [e1]; exact hk q h1 h2,
    ⟨Nat.le_trans hS.1 (by rw [e1]; exact hz), fun q h1 h2 => by rw [e1, hk q (Nat.lt_of_lt_of_le h1 hS.1) (fun z => h2 (hA q (Nat.lt_of_lt_of_le h1 hS.1) z))]; exact hS.2.1 q h1 h2, fun q hq => by
      rcases List.mem_append.mp hq with h | h
      · exact hS.2.2 q h
      · exact hf _ (hL q h)⟩⟩
theorem vx_calli {S SX : Type} {post : Int32 → S → Prop} {px : SX → Prop} {B : S → State → Prop} {BX : String → SX → State → Prop} {AX : Nat → Prop} (hr : vx_Run p l e R s m args below meth c H locs cells slots mc ms (F0 m pc ls st0) rest (va_Qi post B A1 a) (vx_X px BX AX) free) (hS : va_S A0 H0 H locs) (hA : ∀ q, q < H.size → A1 q → A0 q) (hf : ∀ q, free q → A0 q) (hAX : ∀ q, q < H.size → AX q → A0 q)
    (kx : ∀ (E : String) (ce : Cell) (q9 : Addr) (u : SX) (t : State) (H1 : Heap) (locs1 : List Loc), t.heap = H1 → s.vm.Alike t.vm → px u → BX E u t → H.size ≤ H1.size → (∀ q : Nat, q < H.size → ¬ AX q → H1[q]? = H[q]?) → va_S A0 H0 H1 locs1 → H1[q9]? = some ce → ce.vm = .none → s.vm.findClass E = some ce.cls → vx_W p l e R s m args below meth c H1 locs1 (cells + mc) (slots + ms) Q (F0 m pc ls rest) q9)
    (kk : ∀ (r : Int32) (u : S) (t : State) (H1 : Heap) (locs1 : List Loc), t.heap = H1 → s.vm.Alike t.vm → post r u → B u t → H.size ≤ H1.size → (∀ q : Nat, q < H.size → ¬ A1 q → H1[q]? = H[q]?) → va_S A0 H0 H1 locs1 → W p l e R s m args below meth c H1 locs1 (cells + mc) (slots + ms) Q (F0 m (pc + 3) ls (.int r :: rest))) : W p l e R s m args below meth c H locs cells slots Q (F0 m pc ls st0) := by
  intro T hT X
  rcases hr T hT X with ⟨v, st₀, t, T', L, h0, X', hL, e1, e2, ⟨⟨r, u, hv, hp, hb⟩, hF⟩, st⟩ | ⟨q, st₀, t, T', L, E, ce, h0, X', hL, e1, e2, ⟨u, hp, hb, hF⟩, hce, hcv, hcl, st⟩
  · cases hv
    obtain ⟨k1, k2, k3⟩ := vx_keep h0 e1 hS hA hf hL hF
    obtain ⟨t2, a1, b1⟩ := kk r u t T'.heap (locs ++ L) e1.symm (by rw [← e2]; exact X'.warmed.alike) hp hb k1 k2 k3 T' rfl X'
    exact ⟨t2, st t2 a1, b1⟩
  · obtain ⟨k1, k2, k3⟩ := vx_keep h0 e1 hS hAX hf hL hF
    obtain ⟨t2, a1, b1⟩ := kx E ce q u t T'.heap (locs ++ L) e1.symm (by rw [← e2]; exact X'.warmed.alike) hp hb k1 k2 k3 (by rw [e1]; exact hce) hcv hcl T' rfl X'
    exact ⟨t2, st.trans a1, b1⟩
theorem vx_calll {S SX : Type} {post : Int64 → S → Prop} {px : SX → Prop} {B : S → State → Prop} {BX : String → SX → State → Prop} {AX : Nat → Prop} (hr : vx_Run p l e R s m args below meth c H locs cells slots mc ms (F0 m pc ls st0) rest (va_Ql post B A1 a) (vx_X px BX AX) free) (hS : va_S A0 H0 H locs) (hA : ∀ q, q < H.size → A1 q → A0 q) (hf : ∀ q, free q → A0 q) (hAX : ∀ q, q < H.size → AX q → A0 q)
    (kx : ∀ (E : String) (ce : Cell) (q9 : Addr) (u : SX) (t : State) (H1 : Heap) (locs1 : List Loc), t.heap = H1 → s.vm.Alike t.vm → px u → BX E u t → H.size ≤ H1.size → (∀ q : Nat, q < H.size → ¬ AX q → H1[q]? = H[q]?) → va_S A0 H0 H1 locs1 → H1[q9]? = some ce → ce.vm = .none → s.vm.findClass E = some ce.cls → vx_W p l e R s m args below meth c H1 locs1 (cells + mc) (slots + ms) Q (F0 m pc ls rest) q9)
    (kk : ∀ (r : Int64) (u : S) (t : State) (H1 : Heap) (locs1 : List Loc), t.heap = H1 → s.vm.Alike t.vm → post r u → B u t → H.size ≤ H1.size → (∀ q : Nat, q < H.size → ¬ A1 q → H1[q]? = H[q]?) → va_S A0 H0 H1 locs1 → W p l e R s m args below meth c H1 locs1 (cells + mc) (slots + ms) Q (F0 m (pc + 3) ls (.long r :: rest))) : W p l e R s m args below meth c H locs cells slots Q (F0 m pc ls st0) := by
  intro T hT X
  rcases hr T hT X with ⟨v, st₀, t, T', L, h0, X', hL, e1, e2, ⟨⟨r, u, hv, hp, hb⟩, hF⟩, st⟩ | ⟨q, st₀, t, T', L, E, ce, h0, X', hL, e1, e2, ⟨u, hp, hb, hF⟩, hce, hcv, hcl, st⟩
  · cases hv
    obtain ⟨k1, k2, k3⟩ := vx_keep h0 e1 hS hA hf hL hF
    obtain ⟨t2, a1, b1⟩ := kk r u t T'.heap (locs ++ L) e1.symm (by rw [← e2]; exact X'.warmed.alike) hp hb k1 k2 k3 T' rfl X'
    exact ⟨t2, st t2 a1, b1⟩
  · obtain ⟨k1, k2, k3⟩ := vx_keep h0 e1 hS hAX hf hL hF
    obtain ⟨t2, a1, b1⟩ := kx E ce q u t T'.heap (locs ++ L) e1.symm (by rw [← e2]; exact X'.warmed.alike) hp hb k1 k2 k3 (by rw [e1]; exact hce) hcv hcl T' rfl X'
    exact ⟨t2, st.trans a1, b1⟩
theorem vx_callf {S SX : Type} {post : UInt32 → S → Prop} {px : SX → Prop} {B : S → State → Prop} {BX : String → SX → State → Prop} {AX : Nat → Prop} (hr : vx_Run p l e R s m args below meth c H locs cells slots mc ms (F0 m pc ls st0) rest (va_Qf post B A1 a) (vx_X px BX AX) free) (hS : va_S A0 H0 H locs) (hA : ∀ q, q < H.size → A1 q → A0 q) (hf : ∀ q, free q → A0 q) (hAX : ∀ q, q < H.size → AX q → A0 q)
    (kx : ∀ (E : String) (ce : Cell) (q9 : Addr) (u : SX) (t : State) (H1 : Heap) (locs1 : List Loc), t.heap = H1 → s.vm.Alike t.vm → px u → BX E u t → H.size ≤ H1.size → (∀ q : Nat, q < H.size → ¬ AX q → H1[q]? = H[q]?) → va_S A0 H0 H1 locs1 → H1[q9]? = some ce → ce.vm = .none → s.vm.findClass E = some ce.cls → vx_W p l e R s m args below meth c H1 locs1 (cells + mc) (slots + ms) Q (F0 m pc ls rest) q9)
    (kk : ∀ (r : UInt32) (u : S) (t : State) (H1 : Heap) (locs1 : List Loc), t.heap = H1 → s.vm.Alike t.vm → post r u → B u t → H.size ≤ H1.size → (∀ q : Nat, q < H.size → ¬ A1 q → H1[q]? = H[q]?) → va_S A0 H0 H1 locs1 → W p l e R s m args below meth c H1 locs1 (cells + mc) (slots + ms) Q (F0 m (pc + 3) ls (.float r :: rest))) : W p l e R s m args below meth c H locs cells slots Q (F0 m pc ls st0) := by
  intro T hT X
  rcases hr T hT X with ⟨v, st₀, t, T', L, h0, X', hL, e1, e2, ⟨⟨r, u, hv, hp, hb⟩, hF⟩, st⟩ | ⟨q, st₀, t, T', L, E, ce, h0, X', hL, e1, e2, ⟨u, hp, hb, hF⟩, hce, hcv, hcl, st⟩
  · cases hv
    obtain ⟨k1, k2, k3⟩ := vx_keep h0 e1 hS hA hf hL hF
    obtain ⟨t2, a1, b1⟩ := kk r u t T'.heap (locs ++ L) e1.symm (by rw [← e2]; exact X'.warmed.alike) hp hb k1 k2 k3 T' rfl X'
    exact ⟨t2, st t2 a1, b1⟩
  · obtain ⟨k1, k2, k3⟩ := vx_keep h0 e1 hS hAX hf hL hF
    obtain ⟨t2, a1, b1⟩ := kx E ce q u t T'.heap (locs ++ L) e1.symm (by rw [← e2]; exact X'.warmed.alike) hp hb k1 k2 k3 (by rw [e1]; exact hce) hcv hcl T' rfl X'
    exact ⟨t2, st.trans a1, b1⟩
theorem vx_calld {S SX : Type} {post : UInt64 → S → Prop} {px : SX → Prop} {B : S → State → Prop} {BX : String → SX → State → Prop} {AX : Nat → Prop} (hr : vx_Run p l e R s m args below meth c H locs cells slots mc ms (F0 m pc ls st0) rest (va_Qd post B A1 a) (vx_X px BX AX) free) (hS : va_S A0 H0 H locs) (hA : ∀ q, q < H.size → A1 q → A0 q) (hf : ∀ q, free q → A0 q) (hAX : ∀ q, q < H.size → AX q → A0 q)
    (kx : ∀ (E : String) (ce : Cell) (q9 : Addr) (u : SX) (t : State) (H1 : Heap) (locs1 : List Loc), t.heap = H1 → s.vm.Alike t.vm → px u → BX E u t → H.size ≤ H1.size → (∀ q : Nat, q < H.size → ¬ AX q → H1[q]? = H[q]?) → va_S A0 H0 H1 locs1 → H1[q9]? = some ce → ce.vm = .none → s.vm.findClass E = some ce.cls → vx_W p l e R s m args below meth c H1 locs1 (cells + mc) (slots + ms) Q (F0 m pc ls rest) q9)
    (kk : ∀ (r : UInt64) (u : S) (t : State) (H1 : Heap) (locs1 : List Loc), t.heap = H1 → s.vm.Alike t.vm → post r u → B u t → H.size ≤ H1.size → (∀ q : Nat, q < H.size → ¬ A1 q → H1[q]? = H[q]?) → va_S A0 H0 H1 locs1 → W p l e R s m args below meth c H1 locs1 (cells + mc) (slots + ms) Q (F0 m (pc + 3) ls (.double r :: rest))) : W p l e R s m args below meth c H locs cells slots Q (F0 m pc ls st0) := by
  intro T hT X
  rcases hr T hT X with ⟨v, st₀, t, T', L, h0, X', hL, e1, e2, ⟨⟨r, u, hv, hp, hb⟩, hF⟩, st⟩ | ⟨q, st₀, t, T', L, E, ce, h0, X', hL, e1, e2, ⟨u, hp, hb, hF⟩, hce, hcv, hcl, st⟩
  · cases hv
    obtain ⟨k1, k2, k3⟩ := vx_keep h0 e1 hS hA hf hL hF
    obtain ⟨t2, a1, b1⟩ := kk r u t T'.heap (locs ++ L) e1.symm (by rw [← e2]; exact X'.warmed.alike) hp hb k1 k2 k3 T' rfl X'
    exact ⟨t2, st t2 a1, b1⟩
  · obtain ⟨k1, k2, k3⟩ := vx_keep h0 e1 hS hAX hf hL hF
    obtain ⟨t2, a1, b1⟩ := kx E ce q u t T'.heap (locs ++ L) e1.symm (by rw [← e2]; exact X'.warmed.alike) hp hb k1 k2 k3 (by rw [e1]; exact hce) hcv hcl T' rfl X'
    exact ⟨t2, st.trans a1, b1⟩
theorem vx_callv {S SX : Type} {post : S → Prop} {px : SX → Prop} {B : S → State → Prop} {BX : String → SX → State → Prop} {AX : Nat → Prop} (hr : vx_Run p l e R s m args below meth c H locs cells slots mc ms (F0 m pc ls st0) rest (va_Qv post B A1 a) (vx_X px BX AX) free) (hS : va_S A0 H0 H locs) (hA : ∀ q, q < H.size → A1 q → A0 q) (hf : ∀ q, free q → A0 q) (hAX : ∀ q, q < H.size → AX q → A0 q)
    (kx : ∀ (E : String) (ce : Cell) (q9 : Addr) (u : SX) (t : State) (H1 : Heap) (locs1 : List Loc), t.heap = H1 → s.vm.Alike t.vm → px u → BX E u t → H.size ≤ H1.size → (∀ q : Nat, q < H.size → ¬ AX q → H1[q]? = H[q]?) → va_S A0 H0 H1 locs1 → H1[q9]? = some ce → ce.vm = .none → s.vm.findClass E = some ce.cls → vx_W p l e R s m args below meth c H1 locs1 (cells + mc) (slots + ms) Q (F0 m pc ls rest) q9)
    (kk : ∀ (u : S) (t : State) (H1 : Heap) (locs1 : List Loc), t.heap = H1 → s.vm.Alike t.vm → post u → B u t → H.size ≤ H1.size → (∀ q : Nat, q < H.size → ¬ A1 q → H1[q]? = H[q]?) → va_S A0 H0 H1 locs1 → W p l e R s m args below meth c H1 locs1 (cells + mc) (slots + ms) Q (F0 m (pc + 3) ls (rest))) : W p l e R s m args below meth c H locs cells slots Q (F0 m pc ls st0) := by
  intro T hT X
  rcases hr T hT X with ⟨v, st₀, t, T', L, h0, X', hL, e1, e2, ⟨⟨u, hv, hp, hb⟩, hF⟩, st⟩ | ⟨q, st₀, t, T', L, E, ce, h0, X', hL, e1, e2, ⟨u, hp, hb, hF⟩, hce, hcv, hcl, st⟩
  · cases hv
    obtain ⟨k1, k2, k3⟩ := vx_keep h0 e1 hS hA hf hL hF
    obtain ⟨t2, a1, b1⟩ := kk u t T'.heap (locs ++ L) e1.symm (by rw [← e2]; exact X'.warmed.alike) hp hb k1 k2 k3 T' rfl X'
    exact ⟨t2, st t2 a1, b1⟩
  · obtain ⟨k1, k2, k3⟩ := vx_keep h0 e1 hS hAX hf hL hF
    obtain ⟨t2, a1, b1⟩ := kx E ce q u t T'.heap (locs ++ L) e1.symm (by rw [← e2]; exact X'.warmed.alike) hp hb k1 k2 k3 (by rw [e1]; exact hce) hcv hcl T' rfl X'
    exact ⟨t2, st.trans a1, b1⟩
/-- caught by the row x of this method's table; the rows ahead don't take it -/
theorem vx_catch {own name : String} {E : String} {ce : Cell} {q : Addr} (hown : s.vm.findClass own = some m.cls) (pre : List ExceptionTableEntry) (x : ExceptionTableEntry) (suf : List ExceptionTableEntry) (hsplit : c.exceptionTable.toList = pre ++ x :: suf)
    (hpass : ∀ z ∈ pre, covers z pc = false ∨ (z.catchType ≠ 0 ∧ ∃ nm : String, (Cond.classLink own z.catchType nm).before args s = true ∧ va_Nc E nm s)) (hx : covers x pc = true) (h0 : x.catchType ≠ 0)
    (hlink : (Cond.classLink own x.catchType name).before args s = true) (hcast : (Cond.castable E name).before args s = true) (hcell : H[q]? = some ce) (hv : ce.vm = .none) (hcl : s.vm.findClass E = some ce.cls)
    (kk : W p l e R s m args below meth c H locs cells slots Q (F0 m x.handlerPc ls [.ref q])) : vx_W p l e R s m args below meth c H locs cells slots Q (F0 m pc ls rest) q := by
  intro T hT X
  have hpl : e.platform.magicAccessors = ({} : Platform).magicAccessors := by rw [X.admits.platform]
  obtain ⟨c3, c4, hc3, hc4, hasg⟩ := Cond.castable_spec hcast
  cases Option.some.inj (hc3.symm.trans hcl)
  obtain ⟨c5, hc5, hcl5⟩ := Cond.classLink_spec hown hlink e.platform hpl
  cases Option.some.inj (hc4.symm.trans hc5)
  obtain ⟨vm', X', st⟩ := X.thenCaughtThrough q (g := F0 m pc ls rest) rfl (Steps.refl _) (by rw [hT]; exact hcell) (by rw [hv]; rfl) (by obtain ⟨k9, h9, -⟩ := Vm.findClass_spec hcl; exact ⟨k9, h9⟩) pre x suf hsplit
    (fun z hz => by
      rcases hpass z hz with h | ⟨hz0, nm, hl1, hn1⟩
      · exact Or.inl h
      · obtain ⟨c6, hc6, hcl6⟩ := Cond.classLink_spec hown hl1 e.platform hpl
        obtain ⟨a8, b8, h1, h2, h3⟩ := hn1
        cases Option.some.inj (h1.symm.trans hcl)
        cases Option.some.inj (h2.symm.trans hc6)
        exact Or.inr ⟨hz0, _, hcl6, h3⟩) hx (Or.inr ⟨h0, c4, hcl5, hasg⟩)
  obtain ⟨t, a1, b1⟩ := kk (T.setVm vm') hT X'
  exact ⟨t, st.trans a1, b1⟩
end Rows
section Ends
variable {p : Program} {l : Launch} {e : Env} {R : Room} {s : State} {m : MethodId} {args : Array Value} {below : List Frame} {meth : Method} {c : Code} {H : Heap} {locs : List Loc} {cells slots : Nat} {Q : State → Prop}
variable {mc ms : Nat} {free : Addr → Prop} {A0 A1 : Nat → Prop} {H0 : Heap} {a : Array Value} {ls : Array Slot} {st0 rest : List Value}
variable {Qc : Array Value → State → Outcome → State → Prop} {XC : String → State → State → Prop}
/-- what a body that may throw owes at its end -/
def vx_MQ (below : List Frame) (Qc : Array Value → State → Outcome → State → Prop) (XC : String → State → State → Prop) (a : Array Value) (s : State) (mc ms : Nat) (free : Addr → Prop) : State → Prop := fun t =>
  ∃ o, t.status = .running ∧ Ended t below o ∧ vx_Q Qc XC mc ms free a s o t
theorem vx_ret {g : JFrame} {mc ms : Nat} (k : W p l e R s m args below meth c H locs cells slots (MQ below Qc args s mc ms free) g) : W p l e R s m args below meth c H locs cells slots (vx_MQ below Qc XC args s mc ms free) g := by
  intro T hT X
  obtain ⟨t, a1, o, b1, b2, b3, b4⟩ := k T hT X
  exact ⟨t, a1, o, b1, b2, Or.inl ⟨b3, b4⟩⟩
/-- not caught here: it goes on to the caller -/
theorem vx_widen {g : JFrame} {q : Addr} {k n : Nat} (h1 : cells ≤ k) (h2 : slots ≤ n) (kk : vx_W p l e R s m args below meth c H locs k n Q g q) : vx_W p l e R s m args below meth c H locs cells slots Q g q := fun T hT X => kk T hT (stand_widen X h1 h2)
theorem vx_out {pc : Nat} {E : String} {ce : Cell} {q : Addr} {mc ms : Nat} (hout : ∀ x ∈ c.exceptionTable.toList, covers x pc = false) (hlocks : meth.locks = false) (hcell : H[q]? = some ce) (hv : ce.vm = .none) (hcl : s.vm.findClass E = some ce.cls)
    (hx : ∀ t : State, t.heap = H → s.vm.Alike t.vm → XC E s t) (hf : ∀ z ∈ locs, free z.base) (hc : cells ≤ mc) (hs : slots ≤ ms) :
    vx_W p l e R s m args below meth c H locs cells slots (vx_MQ below Qc XC args s mc ms free) (F0 m pc ls rest) q := by
  intro T hT X
  obtain ⟨st1, hrun, hend, hW, hsm⟩ := X.leaveThrown q (g := F0 m pc ls rest) rfl rfl rfl hout hlocks
  have hcell9 : (T.setFrames (.throwing q :: below)).heap[q]? = some ce := by
    show T.heap[q]? = some ce
    rw [hT]; exact hcell
  exact ⟨_, st1, .threw q, hrun, hend, Or.inr ⟨q, rfl, E, ce, locs, hx _ hT hW.alike, hcell9, hv, hcl, hW, hsm.mono hc hs, hf⟩⟩
theorem vx_frame {U : State} {k n : Nat} (h : s.sameButNew ({ U with vm := s.vm } : State) locs k n) : s.heap.size ≤ U.heap.size ∧ ∀ q : Nat, q < s.heap.size → (∀ z ∈ locs, z.base ≠ q) → U.heap[q]? = s.heap[q]? := by
  obtain ⟨-, h2, -, -, -, h6⟩ := h
  refine ⟨h2, fun q hq hz => ?_⟩
  obtain ⟨c9, e1, e2, e3, e4⟩ := h6 q _ (Array.getElem?_eq_getElem hq)
  have hs : c9.slots = (s.heap[q]).slots := Array.ext_getElem? fun i => e4 i fun hm => hz _ hm rfl
  have h9 : c9 = s.heap[q] := by
    rw [hs] at e2
    exact e2
  have e5 : U.heap[q]? = some c9 := e1
  rw [e5, h9, Array.getElem?_eq_getElem hq]
/-- the words of a throw but the four that speak of the heap -/
def vx_no (w : Cond) : Bool := decide (w ≠ .isRef (.static Bundle.tN "UNASSIGNED_STACK" Bundle.steD)) && decide (w ≠ .isRef (.static Bundle.tN "SUPPRESSED_SENTINEL" Bundle.listD)) && decide (w ≠ .laysStatic Bundle.tN "UNASSIGNED_STACK" Bundle.steD) && decide (w ≠ .laysStatic Bundle.tN "SUPPRESSED_SENTINEL" Bundle.listD)
def vx_at0 (own : String) (ic : Nat) (X : String) (names : List String) : List Cond := (Bundle.ownAtoms0 own ic X names).filter vx_no
def vx_atS (own : String) (ic : Nat) (X : String) (names : List String) : List Cond := (Bundle.ownAtoms own ic X names).filter vx_no
/-- a word that the tables alone decide, or a good one -/
def vx_ot (w : Cond) : Bool := w.onTables || goodWord w
theorem vx_ot_at {args a' : Array Value} {s U : State} {w : Cond} (hW : s.WarmedH U.vm) (hvm : s.vm = U.vm) (hg : vx_ot w = true) (h : w.before args s = true) : w.before a' U = true := by
  simp only [vx_ot, Bool.or_eq_true] at hg
  rcases hg with hg | hg
  · exact va_tabs hg hvm h
  · exact word_at hW (good_of_word hg) h
/-- a list's words: the good ones out of the method's own list, the others by premises of their own -/
theorem vx_hat {args : Array Value} {s : State} {L B : List Cond} (h1 : ∀ w ∈ L.filter goodWord, w.before args s = true) (h2 : ∀ w ∈ L.filter (fun w => !goodWord w), w ∈ B) (h3 : ∀ w ∈ B, w.before args s = true) : ∀ w ∈ L, w.before args s = true := by
  intro w hw
  by_cases g : goodWord w = true
  · exact h1 w (List.mem_filter.mpr ⟨hw, g⟩)
  · refine h3 w (h2 w (List.mem_filter.mpr ⟨hw, ?_⟩))
    show (!goodWord w) = true
    cases hgw : goodWord w
    · rfl
    · exact absurd hgw g
theorem vx_c {args : Array Value} {s : State} {w : Cond} {B : List Cond} (h : w.before args s = true) (t : ∀ w ∈ B, w.before args s = true) : ∀ w' ∈ w :: B, w'.before args s = true := fun w' h' => (List.mem_cons.mp h').elim (fun e => by rw [e]; exact h) (t w')
theorem vx_n {args : Array Value} {s : State} : ∀ w ∈ ([] : List Cond), w.before args s = true := fun _ h => nomatch h
theorem vx_own {args : Array Value} {s : State} {L : List Cond} (h1 : ∀ w ∈ L.filter vx_no, w.before args s = true)
    (hU : (Cond.isRef (.static Bundle.tN "UNASSIGNED_STACK" Bundle.steD)).before args s = true) (hN : (Cond.isRef (.static Bundle.tN "SUPPRESSED_SENTINEL" Bundle.listD)).before args s = true)
    (lU : (Cond.laysStatic Bundle.tN "UNASSIGNED_STACK" Bundle.steD).before args s = true) (lN : (Cond.laysStatic Bundle.tN "SUPPRESSED_SENTINEL" Bundle.listD).before args s = true) : ∀ w ∈ L, w.before args s = true := by
  intro w hw
  by_cases e1 : w = .isRef (.static Bundle.tN "UNASSIGNED_STACK" Bundle.steD)
  · rw [e1]; exact hU
  · by_cases e2 : w = .isRef (.static Bundle.tN "SUPPRESSED_SENTINEL" Bundle.listD)
    · rw [e2]; exact hN
    · by_cases e3 : w = .laysStatic Bundle.tN "UNASSIGNED_STACK" Bundle.steD
      · rw [e3]; exact lU
      · by_cases e4 : w = .laysStatic Bundle.tN "SUPPRESSED_SENTINEL" Bundle.listD
        · rw [e4]; exact lN
        · exact h1 w (List.mem_filter.mpr ⟨hw, by unfold vx_no; rw [decide_eq_true e1, decide_eq_true e2, decide_eq_true e3, decide_eq_true e4]; rfl⟩)
/-- where a static field lies, its class's statics cell in H -/
def vx_L (C n d : String) (A : Nat → Prop) (U : State) (H : Heap) : Prop := ∃ (c : ClassId) (k : Class) (i : Nat) (f : Field) (a : Nat) (cell : Cell), U.vm.findClass C = some c ∧ U.fieldFound? C n d = some (c, k, i, f) ∧ f.isStatic = true ∧ k.statics = some a ∧ H[a]? = some cell ∧ cell.vm.isStatics = true ∧ cell.cls = c ∧ f.slot < cell.slots.size ∧ k.staticTypes[f.slot]? = some f.type ∧ ¬ A a
theorem vx_L.moved {C n d : String} {A : Nat → Prop} {u U : State} {H : Heap} (hvm : u.vm.Alike U.vm) (h : vx_L C n d A u H) : vx_L C n d A U H := by
  obtain ⟨c, k, i, f, a, cell, h1, h2, h3, h4, h5, h6, h7, h8, h9, h10⟩ := h
  obtain ⟨k', hi', he⟩ := State.fieldFound?_setVm hvm h2
  exact ⟨c, k', i, f, a, cell, by rw [hvm.findClass]; exact h1, hi', h3, by rw [he]; exact h4, h5, h6, h7, h8, by rw [he]; exact h9, h10⟩
theorem vx_L.kept {C n d : String} {A : Nat → Prop} {U : State} {H H1 : Heap} (h : vx_L C n d A U H) (hq : ∀ a : Nat, a < H.size → ¬ A a → H1[a]? = H[a]?) : vx_L C n d A U H1 := by
  obtain ⟨c, k, i, f, a, cell, h1, h2, h3, h4, h5, h6, h7, h8, h9, h10⟩ := h
  exact ⟨c, k, i, f, a, cell, h1, h2, h3, h4, by rw [hq a (Array.getElem?_eq_some_iff.mp h5).1 h10]; exact h5, h6, h7, h8, h9, h10⟩
theorem vx_L.narrow {C n d : String} {A B : Nat → Prop} {U : State} {H : Heap} (h : vx_L C n d A U H) (hAB : ∀ q, B q → A q) : vx_L C n d B U H := by
  obtain ⟨c, k, i, f, a, cell, h1, h2, h3, h4, h5, h6, h7, h8, h9, h10⟩ := h
  exact ⟨c, k, i, f, a, cell, h1, h2, h3, h4, h5, h6, h7, h8, h9, fun z => h10 (hAB _ z)⟩
theorem vx_L.word {C n d : String} {A : Nat → Prop} {s : State} {args : Array Value} (h : vx_L C n d A s s.heap) : (Cond.laysStatic C n d).before args s = true := by
  obtain ⟨c, k, i, f, a, cell, h1, h2, h3, h4, h5, h6, h7, h8, h9, -⟩ := h
  show (Cond.laysStatic C n d).holds args s none s [] = true
  exact Cond.laysStatic_of h1 h2 h3 h4 h5 h6 h7 h8 h9
/-- .. and what it holds: null or some reference -/
def vx_Zq (C n d : String) (A : Nat → Prop) (U : State) (H : Heap) : Prop := va_Zq C n d A U H ∧ vx_L C n d A U H
theorem vx_Zq.moved {C n d : String} {A : Nat → Prop} {u U : State} {H : Heap} (hvm : u.vm.Alike U.vm) (h : vx_Zq C n d A u H) : vx_Zq C n d A U H := ⟨va_Zq.moved hvm h.1, vx_L.moved hvm h.2⟩
theorem vx_Zq.kept {C n d : String} {A : Nat → Prop} {U : State} {H H1 : Heap} (h : vx_Zq C n d A U H) (hq : ∀ a : Nat, a < H.size → ¬ A a → H1[a]? = H[a]?) : vx_Zq C n d A U H1 := ⟨va_Zq.kept h.1 hq, vx_L.kept h.2 hq⟩
theorem vx_Zq.narrow {C n d : String} {A B : Nat → Prop} {U : State} {H : Heap} (h : vx_Zq C n d A U H) (hAB : ∀ q, B q → A q) : vx_Zq C n d B U H := ⟨va_Zq.narrow h.1 hAB, vx_L.narrow h.2 hAB⟩
theorem vx_Zqof {args : Array Value} {s : State} {C n d : String} {A : Nat → Prop} (hl : (Cond.laysStatic C n d).before args s = true) (hini : (Cond.initialized C).before args s = true) (h : (Cond.isRef (.static C n d)).before args s = true) (hA : ∀ a : Nat, a < s.heap.size → ¬ A a) : vx_Zq C n d A s s.heap := by
  refine ⟨va_Zqof hl hini h hA, ?_⟩
  obtain ⟨c, k, i, f, a, cell, h1, h2, h3, h4, h5, h6, h7, h8, h9⟩ := Cond.laysStatic_spec hl
  exact ⟨c, k, i, f, a, cell, h1, h2, h3, h4, h5, h6, h7, h8, h9, hA a (Array.getElem?_eq_some_iff.mp h5).1⟩
theorem vx_isRef {C n d : String} {v : Value} {A : Nat → Prop} {s : State} {args : Array Value} (h : va_Z C n d v A s s.heap) (hv : v.isRef = true) : (Cond.isRef (.static C n d)).before args s = true := by
  obtain ⟨cf, kf, fi, f, a, cell, h1, h2, h3, h4, h5, h6, h7, -⟩ := h
  have he : (Term.static C n d).eval args s none [] s = some v := by
    simp [Term.eval, State.fieldNamed?, h1, h2, h4, h5, h6, h7]
  simp only [Cond.before, Cond.holds, Cond.value, he]
  cases v <;> simp_all [Value.isRef]
theorem vx_isRefq {C n d : String} {A : Nat → Prop} {s : State} {args : Array Value} (h : va_Zq C n d A s s.heap) : (Cond.isRef (.static C n d)).before args s = true := by
  rcases h with h | ⟨t, h⟩
  · exact vx_isRef h rfl
  · exact vx_isRef h rfl
/-- the same frame, seen from here: as if the method were called anew in this heap -/
theorem vx_rebase {T : State} (X : Stand p l e R s m args below meth c T locs cells slots) {R' : Room} (hf : R'.frames ≤ R.frames) (hl : R'.locals ≤ R.locals) (hc : cells + R'.cells ≤ R.cells) (hs : slots + R'.slots ≤ R.slots) :
    Stand p l e R' ((T.setVm s.vm).setFrames (.invoking m args :: below)) m args below meth c T [] 0 0 := by
  have htop : (T.setVm s.vm).topJava?.isSome := X.here.top
  have hF : ((T.setVm s.vm).setFrames (.invoking m args :: below)).frames = .invoking m args :: below := State.frames_setFrames _ (State.cur_lt_of_top htop)
  obtain ⟨g₀, hg0⟩ := Option.isSome_iff_exists.mp htop
  obtain ⟨r, hr⟩ := State.topJava?_eq_some.mp hg0
  have hl9 : e.platform.stackLimits (T.setVm s.vm).me = e.platform.stackLimits s.me := X.limits
  have hb9 : (T.setVm s.vm).me.stackBytes = s.me.stackBytes := X.bytes
  refine ⟨X.admits, X.cas, X.clock, hF, ?_, X.hears, X.method, X.code, X.here, X.tail, X.warmed, ?_, ?_, ?_⟩
  · have h := X.room
    have hU : ((T.setVm s.vm).setFrames (.invoking m args :: below)).localsInUse = s.localsInUse := by
      rw [State.localsInUse_invoking hF (meth := meth) (c := c) X.method X.code, State.localsInUse_invoking X.frames X.method X.code]
    simp only [State.hasRoom, Bool.and_eq_true, decide_eq_true_eq] at h ⊢
    obtain ⟨⟨⟨⟨h1, h2, h3, h4, h5, h6⟩, h7⟩, h8⟩, h9⟩ := h
    rw [X.frames, List.length_cons] at h2 h3
    have q1 := X.heapSize
    have q2 := X.used
    simp only [hF, hU, List.length_cons, State.stackLimits_setFrames, State.stackBytes_setFrames, hl9, hb9]
    refine ⟨⟨⟨⟨by omega, by omega, by omega, by omega, by omega, h6⟩, ?_⟩, ?_⟩, X.book⟩
    · show T.heap.size + R'.cells ≤ e.platform.maxCells
      omega
    · show T.slotsUsed + R'.slots ≤ e.platform.maxSlots
      omega
  · rw [State.stackLimits_setFrames]; rfl
  · rw [State.stackBytes_setFrames]; rfl
  · refine ⟨?_, Nat.le_refl _, Nat.le_refl _, ?_, ?_, fun a c9 h9 => ⟨c9, h9, rfl, rfl, fun _ _ => rfl⟩⟩
    · obtain ⟨t, ht, -⟩ := State.frames_cons hr
      show T.setVm s.vm = { ((T.setVm s.vm).setFrames (.invoking m args :: below)).setFrames (T.setVm s.vm).frames with heap := T.heap, slotsUsed := T.slotsUsed }
      rw [State.setFrames_setFrames, State.setFrames_self ht]
      rfl
    · show T.slotsUsed = T.slotsUsed + ((T.heap.toList.drop T.heap.size).map (·.slots.size)).sum
      rw [List.drop_eq_nil_of_le (Nat.le_of_eq Array.length_toList)]
      rfl
    · show ((T.heap.toList.drop T.heap.size).map (·.slots.size)).sum ≤ 0
      rw [List.drop_eq_nil_of_le (Nat.le_of_eq Array.length_toList)]
      exact Nat.le_refl _
/-- 'throw new E()': new; dup; invokespecial; athrow -/
theorem vx_throw0 {cc : ByteArray} {pc : Nat} (hexec : p.tables.exec = Jvm.exec) (hb : c.code = cc) (hl : l.stackTraces = false) {own cls : String} {names : List String} {ik ic mc ms : Nat} {A : Nat → Prop}
    (hown : s.vm.findClass own = some m.cls) (hcls : Bundle.fit cls = true) (hnames : ∀ n ∈ names, Bundle.fit n = true)
    (hk : (Cond.classLink own ik cls).before args s = true) (hini : (Cond.initialized cls).before args s = true) (hat : ∀ w ∈ vx_at0 own ic cls names, w.before args s = true)
    (hgood : ∀ w ∈ Cond.classLink own ik cls :: Cond.initialized cls :: vx_at0 own ic cls names, vx_ot w = true)
    (hU : vx_Zq Bundle.tN "UNASSIGNED_STACK" Bundle.steD A s s.heap) (hN : vx_Zq Bundle.tN "SUPPRESSED_SENTINEL" Bundle.listD A s s.heap) (hS : va_S A s.heap H locs) (hsize : ls.size = c.maxLocals)
    (d0 : decode cc pc = .ok (.new ik, 3)) (d3 : decode cc (pc + 3) = .ok (.dup, 1)) (d4 : decode cc (pc + 4) = .ok (.invokespecial ic, 3)) (d7 : decode cc (pc + 7) = .ok (.athrow, 1))
    (hout : ∀ x ∈ c.exceptionTable.toList, covers x (pc + 7) = false)
    (hRframes : names.length + 3 < R.frames) (hRlocals : (rest.map fun v => v.category).sum + (13 * (names.length + 1) + 42) ≤ R.locals) (hRcells : cells + 1 ≤ R.cells) (hRslots : slots + 6 ≤ R.slots) (hlocks : meth.locks = false)
    (hx : ∀ t : State, s.vm.Alike t.vm → H.size ≤ t.heap.size → (∀ q : Nat, q < H.size → t.heap[q]? = H[q]?) → XC cls s t)
    (hf : ∀ z ∈ locs, free z.base) (hc : cells + 1 ≤ mc) (hs : slots + 6 ≤ ms) :
    W p l e R s m args below meth c H locs cells slots (vx_MQ below Qc XC args s mc ms free) (F0 m pc ls rest) := by
  intro T hT X
  have htr : e.platform.stackTraces = false := (show e.platform.stackTraces = l.stackTraces by rw [X.admits.platform]).trans hl
  have Y := vx_rebase X (R' := { frames := R.frames, locals := R.locals, cells := 1, slots := 6 }) (Nat.le_refl _) (Nat.le_refl _) hRcells hRslots
  obtain ⟨s', hA⟩ : ∃ z, z = (T.setVm s.vm).setFrames (.invoking m args :: below) := ⟨_, rfl⟩
  rw [← hA] at Y
  have hvm : s'.vm = s.vm := by rw [hA]; rfl
  have hhp : s'.heap = H := by rw [hA]; exact hT
  have hW0 : s.WarmedH s'.vm := by rw [hvm]; exact State.WarmedH.refl s
  have hat' : ∀ w ∈ vx_at0 own ic cls names, w.before args s' = true := fun w hw => vx_ot_at hW0 hvm.symm (hgood w (List.mem_cons_of_mem _ (List.mem_cons_of_mem _ hw))) (hat w hw)
  have hk' : (Cond.classLink own ik cls).before args s' = true := vx_ot_at hW0 hvm.symm (hgood _ List.mem_cons_self) hk
  have hini' : (Cond.initialized cls).before args s' = true := vx_ot_at hW0 hvm.symm (hgood _ (List.mem_cons_of_mem _ List.mem_cons_self)) hini
  have hU' : vx_Zq Bundle.tN "UNASSIGNED_STACK" Bundle.steD A s' s'.heap := by rw [hhp]; exact vx_Zq.moved hW0.alike (hU.kept hS.2.1)
  have hN' : vx_Zq Bundle.tN "SUPPRESSED_SENTINEL" Bundle.listD A s' s'.heap := by rw [hhp]; exact vx_Zq.moved hW0.alike (hN.kept hS.2.1)
  have h : ∀ w ∈ Bundle.ownAtoms0 own ic cls names, w.before args s' = true := vx_own hat' (vx_isRefq hU'.1) (vx_isRefq hN'.1) hU'.2.word hN'.2.word
  have hown' : s'.vm.findClass own = some m.cls := by rw [hvm]; exact hown
  have hins : (Cond.instantiable cls 6).before args s' = true := h _ (by simp [Bundle.ownAtoms0])
  obtain ⟨vm₁, cX, kX, hfX, hkX, -, -, X₁, st1⟩ := Y.newCold hexec (own := own) (C := cls) (index := ik) (n := 6) hown' hk' hins hini'
    (g := F0 m pc ls rest) rfl (by rw [hb]; exact d0) (Nat.le_refl _) (Nat.le_refl _)
  generalize hT1 : (T.setVm vm₁).pushCell { cls := cX, slots := kX.instanceTypes.map defaultValue, vm := .none } = T1 at X₁ st1
  have hcat : (Value.ref T.heap.size).category = 1 := rfl
  have hcellA : T1.heap[T.heap.size]? = some (freshCell cX kX) := by rw [← hT1]; exact State.heap_pushCell_size _ _
  have d3' : decode c.code (pc + 3) = .ok (.dup, 1) := by rw [hb]; exact d3
  obtain ⟨U, hsteps, hrun, hend, hW, hsame, ce, hce, hO⟩ := X₁.ctorThrow0 hexec htr (own := own) (cls := cls) (names := names) (ic := ic) hown' hcls hnames h (fun x hx => nomatch hx) hfX hkX hcellA (by rw [hhp, hT]; exact Nat.le_refl _)
    (g := { method := m, pc := pc + 4, locals := ls, stack := .ref T.heap.size :: .ref T.heap.size :: rest, locked := none }) rfl hsize rfl rfl (rest := rest) rfl
    (by rw [hb]; exact d4) (by rw [hb]; exact d7) hout hRframes (by simp only [List.map_cons, List.sum_cons, hcat]; omega) hlocks
  obtain ⟨f1, f2⟩ := vx_frame hsame
  rw [hhp] at f1 f2
  have hWs : s.WarmedH U.vm := State.WarmedH.trans hW0 hW
  have hcl : s.vm.findClass cls = some ce.cls := by
    have h9 := hO.cls
    rw [hvm] at h9
    exact h9
  have hall : s.sameButNew ({ U with vm := s.vm } : State) locs mc ms := by
    subst hA
    obtain ⟨e1, e2⟩ := hsame
    rw [State.setFrames_setFrames] at e1
    have h2 : (T.setVm s.vm).sameButNew ({ U with vm := s.vm } : State) [] (0 + 1) (0 + 6) := ⟨e1, e2⟩
    have h3 := X.same.trans h2
    rw [List.append_nil] at h3
    exact h3.mono hc hs
  refine ⟨U, ?_, .threw T.heap.size, hrun, hend, Or.inr ⟨T.heap.size, rfl, cls, ce, locs, hx U hWs.alike f1 (fun q hq => f2 q hq (fun z hz => nomatch hz)), hce, hO.vm, hcl, hWs, hall, hf⟩⟩
  refine st1 _ ?_
  show Steps p.tables e below (T1.setTop { method := m, pc := pc + 3, locals := ls, stack := .ref T.heap.size :: rest, locked := none }) _
  jvm_step X₁.here [X₁.here.top, hexec, d3', Value.category]
  exact hsteps
/-- 'throw new E("text")': new; dup; ldc; invokespecial; athrow -/
theorem vx_throwS {cc : ByteArray} {pc : Nat} (hexec : p.tables.exec = Jvm.exec) (hb : c.code = cc) (hl : l.stackTraces = false) {own cls text : String} {names : List String} {ik is ic mc ms sa : Nat} {A : Nat → Prop}
    (hown : s.vm.findClass own = some m.cls) (hcls : Bundle.fit cls = true) (hnames : ∀ n ∈ names, Bundle.fit n = true)
    (hk : (Cond.classLink own ik cls).before args s = true) (hini : (Cond.initialized cls).before args s = true) (hstr : vk_R own is text sa s) (hat : ∀ w ∈ vx_atS own ic cls names, w.before args s = true)
    (hgood : ∀ w ∈ Cond.classLink own ik cls :: Cond.initialized cls :: vx_atS own ic cls names, vx_ot w = true)
    (hU : vx_Zq Bundle.tN "UNASSIGNED_STACK" Bundle.steD A s s.heap) (hN : vx_Zq Bundle.tN "SUPPRESSED_SENTINEL" Bundle.listD A s s.heap) (hS : va_S A s.heap H locs) (hsize : ls.size = c.maxLocals)
    (d0 : decode cc pc = .ok (.new ik, 3)) (d3 : decode cc (pc + 3) = .ok (.dup, 1)) (d4 : decode cc (pc + 4) = .ok (.ldc is, 2)) (d6 : decode cc (pc + 6) = .ok (.invokespecial ic, 3)) (d9 : decode cc (pc + 9) = .ok (.athrow, 1))
    (hout : ∀ x ∈ c.exceptionTable.toList, covers x (pc + 9) = false)
    (hRframes : names.length + 3 < R.frames) (hRlocals : (rest.map fun v => v.category).sum + (13 * (names.length + 1) + 43) ≤ R.locals) (hRcells : cells + 1 ≤ R.cells) (hRslots : slots + 6 ≤ R.slots) (hlocks : meth.locks = false)
    (hx : ∀ t : State, s.vm.Alike t.vm → H.size ≤ t.heap.size → (∀ q : Nat, q < H.size → t.heap[q]? = H[q]?) → XC cls s t)
    (hf : ∀ z ∈ locs, free z.base) (hc : cells + 1 ≤ mc) (hs : slots + 6 ≤ ms) :
    W p l e R s m args below meth c H locs cells slots (vx_MQ below Qc XC args s mc ms free) (F0 m pc ls rest) := by
  intro T hT X
  have htr : e.platform.stackTraces = false := (show e.platform.stackTraces = l.stackTraces by rw [X.admits.platform]).trans hl
  have Y := vx_rebase X (R' := { frames := R.frames, locals := R.locals, cells := 1, slots := 6 }) (Nat.le_refl _) (Nat.le_refl _) hRcells hRslots
  obtain ⟨s', hA⟩ : ∃ z, z = (T.setVm s.vm).setFrames (.invoking m args :: below) := ⟨_, rfl⟩
  rw [← hA] at Y
  have hvm : s'.vm = s.vm := by rw [hA]; rfl
  have hhp : s'.heap = H := by rw [hA]; exact hT
  have hW0 : s.WarmedH s'.vm := by rw [hvm]; exact State.WarmedH.refl s
  have hat' : ∀ w ∈ vx_atS own ic cls names, w.before args s' = true := fun w hw => vx_ot_at hW0 hvm.symm (hgood w (List.mem_cons_of_mem _ (List.mem_cons_of_mem _ hw))) (hat w hw)
  have hk' : (Cond.classLink own ik cls).before args s' = true := vx_ot_at hW0 hvm.symm (hgood _ List.mem_cons_self) hk
  have hini' : (Cond.initialized cls).before args s' = true := vx_ot_at hW0 hvm.symm (hgood _ (List.mem_cons_of_mem _ List.mem_cons_self)) hini
  have hU' : vx_Zq Bundle.tN "UNASSIGNED_STACK" Bundle.steD A s' s'.heap := by rw [hhp]; exact vx_Zq.moved hW0.alike (hU.kept hS.2.1)
  have hN' : vx_Zq Bundle.tN "SUPPRESSED_SENTINEL" Bundle.listD A s' s'.heap := by rw [hhp]; exact vx_Zq.moved hW0.alike (hN.kept hS.2.1)
  have h : ∀ w ∈ Bundle.ownAtoms own ic cls names, w.before args s' = true := vx_own hat' (vx_isRefq hU'.1) (vx_isRefq hN'.1) hU'.2.word hN'.2.word
  have hown' : s'.vm.findClass own = some m.cls := by rw [hvm]; exact hown
  have hins : (Cond.instantiable cls 6).before args s' = true := h _ (by simp [Bundle.ownAtoms])
  obtain ⟨vm₁, cX, kX, hfX, hkX, -, -, X₁, st1⟩ := Y.newCold hexec (own := own) (C := cls) (index := ik) (n := 6) hown' hk' hins hini'
    (g := F0 m pc ls rest) rfl (by rw [hb]; exact d0) (Nat.le_refl _) (Nat.le_refl _)
  generalize hT1 : (T.setVm vm₁).pushCell { cls := cX, slots := kX.instanceTypes.map defaultValue, vm := .none } = T1 at X₁ st1
  have hcat : (Value.ref T.heap.size).category = 1 := rfl
  have hcellA : T1.heap[T.heap.size]? = some (freshCell cX kX) := by rw [← hT1]; exact State.heap_pushCell_size _ _
  have d3' : decode c.code (pc + 3) = .ok (.dup, 1) := by rw [hb]; exact d3
  have d4' : decode c.code (pc + 4) = .ok (.ldc is, 2) := by rw [hb]; exact d4
  have hstr' : vk_R own is text sa s' := vk_R.warm hW0 hstr
  obtain ⟨U, hsteps, hrun, hend, hW, hsame, ce, hce, hO⟩ := X₁.ctorThrowS hexec htr (own := own) (cls := cls) (names := names) (ic := ic) hown' hcls hnames h (fun x hx => nomatch hx) hfX hkX hcellA (by rw [hhp, hT]; exact Nat.le_refl _) (msg := .ref sa) rfl
    (g := { method := m, pc := pc + 6, locals := ls, stack := .ref sa :: .ref T.heap.size :: .ref T.heap.size :: rest, locked := none }) rfl hsize rfl rfl (rest := rest) rfl
    (by rw [hb]; exact d6) (by rw [hb]; exact d9) hout hRframes (by simp only [List.map_cons, List.sum_cons, hcat]; omega) hlocks
  obtain ⟨f1, f2⟩ := vx_frame hsame
  rw [hhp] at f1 f2
  have hWs : s.WarmedH U.vm := State.WarmedH.trans hW0 hW
  have hcl : s.vm.findClass cls = some ce.cls := by
    have h9 := hO.cls
    rw [hvm] at h9
    exact h9
  have hall : s.sameButNew ({ U with vm := s.vm } : State) locs mc ms := by
    subst hA
    obtain ⟨e1, e2⟩ := hsame
    rw [State.setFrames_setFrames] at e1
    have h2 : (T.setVm s.vm).sameButNew ({ U with vm := s.vm } : State) [] (0 + 1) (0 + 6) := ⟨e1, e2⟩
    have h3 := X.same.trans h2
    rw [List.append_nil] at h3
    exact h3.mono hc hs
  refine ⟨U, ?_, .threw T.heap.size, hrun, hend, Or.inr ⟨T.heap.size, rfl, cls, ce, locs, hx U hWs.alike f1 (fun q hq => f2 q hq (fun z hz => nomatch hz)), hce, hO.vm, hcl, hWs, hall, hf⟩⟩
  refine st1 _ ?_
  show Steps p.tables e below (T1.setTop { method := m, pc := pc + 3, locals := ls, stack := .ref T.heap.size :: rest, locked := none }) _
  jvm_step X₁.here [X₁.here.top, hexec, d3', Value.category]
  exact X₁.ldcString hexec (own := own) (text := text) (index := is) (a := sa) hown' hstr'.1 hstr'.2
    (g := { method := m, pc := pc + 4, locals := ls, stack := .ref T.heap.size :: .ref T.heap.size :: rest, locked := none }) rfl d4' _ hsteps
/-- 'throw new E("text")', the text by a wide index -/
theorem vx_throwSW {cc : ByteArray} {pc : Nat} (hexec : p.tables.exec = Jvm.exec) (hb : c.code = cc) (hl : l.stackTraces = false) {own cls text : String} {names : List String} {ik is ic mc ms sa : Nat} {A : Nat → Prop}
    (hown : s.vm.findClass own = some m.cls) (hcls : Bundle.fit cls = true) (hnames : ∀ n ∈ names, Bundle.fit n = true)
    (hk : (Cond.classLink own ik cls).before args s = true) (hini : (Cond.initialized cls).before args s = true) (hstr : vk_R own is text sa s) (hat : ∀ w ∈ vx_atS own ic cls names, w.before args s = true)
    (hgood : ∀ w ∈ Cond.classLink own ik cls :: Cond.initialized cls :: vx_atS own ic cls names, vx_ot w = true)
    (hU : vx_Zq Bundle.tN "UNASSIGNED_STACK" Bundle.steD A s s.heap) (hN : vx_Zq Bundle.tN "SUPPRESSED_SENTINEL" Bundle.listD A s s.heap) (hS : va_S A s.heap H locs) (hsize : ls.size = c.maxLocals)
    (d0 : decode cc pc = .ok (.new ik, 3)) (d3 : decode cc (pc + 3) = .ok (.dup, 1)) (d4 : decode cc (pc + 4) = .ok (.ldc_w is, 3)) (d7 : decode cc (pc + 7) = .ok (.invokespecial ic, 3)) (d10 : decode cc (pc + 10) = .ok (.athrow, 1))
    (hout : ∀ x ∈ c.exceptionTable.toList, covers x (pc + 10) = false)
    (hRframes : names.length + 3 < R.frames) (hRlocals : (rest.map fun v => v.category).sum + (13 * (names.length + 1) + 43) ≤ R.locals) (hRcells : cells + 1 ≤ R.cells) (hRslots : slots + 6 ≤ R.slots) (hlocks : meth.locks = false)
    (hx : ∀ t : State, s.vm.Alike t.vm → H.size ≤ t.heap.size → (∀ q : Nat, q < H.size → t.heap[q]? = H[q]?) → XC cls s t)
    (hf : ∀ z ∈ locs, free z.base) (hc : cells + 1 ≤ mc) (hs : slots + 6 ≤ ms) :
    W p l e R s m args below meth c H locs cells slots (vx_MQ below Qc XC args s mc ms free) (F0 m pc ls rest) := by
  intro T hT X
  have htr : e.platform.stackTraces = false := (show e.platform.stackTraces = l.stackTraces by rw [X.admits.platform]).trans hl
  have Y := vx_rebase X (R' := { frames := R.frames, locals := R.locals, cells := 1, slots := 6 }) (Nat.le_refl _) (Nat.le_refl _) hRcells hRslots
  obtain ⟨s', hA⟩ : ∃ z, z = (T.setVm s.vm).setFrames (.invoking m args :: below) := ⟨_, rfl⟩
  rw [← hA] at Y
  have hvm : s'.vm = s.vm := by rw [hA]; rfl
  have hhp : s'.heap = H := by rw [hA]; exact hT
  have hW0 : s.WarmedH s'.vm := by rw [hvm]; exact State.WarmedH.refl s
  have hat' : ∀ w ∈ vx_atS own ic cls names, w.before args s' = true := fun w hw => vx_ot_at hW0 hvm.symm (hgood w (List.mem_cons_of_mem _ (List.mem_cons_of_mem _ hw))) (hat w hw)
  have hk' : (Cond.classLink own ik cls).before args s' = true := vx_ot_at hW0 hvm.symm (hgood _ List.mem_cons_self) hk
  have hini' : (Cond.initialized cls).before args s' = true := vx_ot_at hW0 hvm.symm (hgood _ (List.mem_cons_of_mem _ List.mem_cons_self)) hini
  have hU' : vx_Zq Bundle.tN "UNASSIGNED_STACK" Bundle.steD A s' s'.heap := by rw [hhp]; exact vx_Zq.moved hW0.alike (hU.kept hS.2.1)
  have hN' : vx_Zq Bundle.tN "SUPPRESSED_SENTINEL" Bundle.listD A s' s'.heap := by rw [hhp]; exact vx_Zq.moved hW0.alike (hN.kept hS.2.1)
  have h : ∀ w ∈ Bundle.ownAtoms own ic cls names, w.before args s' = true := vx_own hat' (vx_isRefq hU'.1) (vx_isRefq hN'.1) hU'.2.word hN'.2.word
  have hown' : s'.vm.findClass own = some m.cls := by rw [hvm]; exact hown
  have hins : (Cond.instantiable cls 6).before args s' = true := h _ (by simp [Bundle.ownAtoms])
  obtain ⟨vm₁, cX, kX, hfX, hkX, -, -, X₁, st1⟩ := Y.newCold hexec (own := own) (C := cls) (index := ik) (n := 6) hown' hk' hins hini'
    (g := F0 m pc ls rest) rfl (by rw [hb]; exact d0) (Nat.le_refl _) (Nat.le_refl _)
  generalize hT1 : (T.setVm vm₁).pushCell { cls := cX, slots := kX.instanceTypes.map defaultValue, vm := .none } = T1 at X₁ st1
  have hcat : (Value.ref T.heap.size).category = 1 := rfl
  have hcellA : T1.heap[T.heap.size]? = some (freshCell cX kX) := by rw [← hT1]; exact State.heap_pushCell_size _ _
  have d3' : decode c.code (pc + 3) = .ok (.dup, 1) := by rw [hb]; exact d3
  have d4' : decode c.code (pc + 4) = .ok (.ldc_w is, 3) := by rw [hb]; exact d4
  have hstr' : vk_R own is text sa s' := vk_R.warm hW0 hstr
  obtain ⟨U, hsteps, hrun, hend, hW, hsame, ce, hce, hO⟩ := X₁.ctorThrowS hexec htr (own := own) (cls := cls) (names := names) (ic := ic) hown' hcls hnames h (fun x hx => nomatch hx) hfX hkX hcellA (by rw [hhp, hT]; exact Nat.le_refl _) (msg := .ref sa) rfl
    (g := { method := m, pc := pc + 7, locals := ls, stack := .ref sa :: .ref T.heap.size :: .ref T.heap.size :: rest, locked := none }) rfl hsize rfl rfl (rest := rest) rfl
    (by rw [hb]; exact d7) (by rw [hb]; exact d10) hout hRframes (by simp only [List.map_cons, List.sum_cons, hcat]; omega) hlocks
  obtain ⟨f1, f2⟩ := vx_frame hsame
  rw [hhp] at f1 f2
  have hWs : s.WarmedH U.vm := State.WarmedH.trans hW0 hW
  have hcl : s.vm.findClass cls = some ce.cls := by
    have h9 := hO.cls
    rw [hvm] at h9
    exact h9
  have hall : s.sameButNew ({ U with vm := s.vm } : State) locs mc ms := by
    subst hA
    obtain ⟨e1, e2⟩ := hsame
    rw [State.setFrames_setFrames] at e1
    have h2 : (T.setVm s.vm).sameButNew ({ U with vm := s.vm } : State) [] (0 + 1) (0 + 6) := ⟨e1, e2⟩
    have h3 := X.same.trans h2
    rw [List.append_nil] at h3
    exact h3.mono hc hs
  refine ⟨U, ?_, .threw T.heap.size, hrun, hend, Or.inr ⟨T.heap.size, rfl, cls, ce, locs, hx U hWs.alike f1 (fun q hq => f2 q hq (fun z hz => nomatch hz)), hce, hO.vm, hcl, hWs, hall, hf⟩⟩
  refine st1 _ ?_
  show Steps p.tables e below (T1.setTop { method := m, pc := pc + 3, locals := ls, stack := .ref T.heap.size :: rest, locked := none }) _
  jvm_step X₁.here [X₁.here.top, hexec, d3', Value.category]
  exact X₁.ldcStringW hexec (own := own) (text := text) (index := is) (a := sa) hown' hstr'.1 hstr'.2
    (g := { method := m, pc := pc + 4, locals := ls, stack := .ref T.heap.size :: .ref T.heap.size :: rest, locked := none }) rfl d4' _ hsteps
end Ends
section Bodies
variable {l : Launch}
theorem vx_ofW {y : MethodName} {ws ws' : List Cond} {rm : Room} {Pc : Array Value → State → Prop} {Qc : Array Value → State → Outcome → State → Prop} {XC : String → State → State → Prop} {mc ms : Nat} {free : Addr → Prop} {cc : ByteArray} {maxL : Nat} {ret : Option FieldType}
    (hy : plainName y.cls = true) (hw : ws = Cond.code y cc maxL ret :: ws')
    (body : ∀ p e s m args below meth c s₁, BodyLoose p l y (headSpec ws rm) cc maxL ret e s m args below meth c s₁ → c.maxLocals = maxL → (∀ x ∈ c.exceptionTable.toList, False) → Pc args s →
      W p l e (headSpec ws rm).room s m args below meth c s.heap [] 0 0 (vx_MQ below Qc XC args s mc ms free) (entryFrame m args maxL)) : vx_Met l y ws rm Pc Qc XC mc ms free := by
  refine MetFree.of_bodyS (code := cc) (maxLocals := maxL) (ret := ret) hy ?_ ?_
  · intro args s m h hn
    obtain ⟨meth, c, h1, h2, h3, h4, h5, h6, -, -⟩ := Cond.code_spec hn (atoms_spec (ws := ws) h _ (by rw [hw]; exact List.mem_cons_self))
    exact ⟨meth, c, h1, h2, h3, h4, h5, h6⟩
  · intro p e s m args below meth c s₁ B hml hP _
    have hh0 : s₁.heap = s.heap := by rw [B.state]; rfl
    have ht : ∀ x ∈ c.exceptionTable.toList, False := by
      obtain ⟨meth9, c9, h1, h2, -, -, -, -, h7, -⟩ := Cond.code_spec B.named (atoms_spec (ws := ws) B.pre _ (by rw [hw]; exact List.mem_cons_self))
      cases Option.some.inj (h1.symm.trans B.method)
      cases Option.some.inj (h2.symm.trans (Stand.of_body B).code)
      intro x hx
      rw [Array.isEmpty_iff.mp h7] at hx
      cases hx
    obtain ⟨t, a1, o, b1, b2, b3⟩ := body p e s m args below meth c s₁ B hml ht hP s₁ hh0 (Stand.of_body B)
    exact ⟨t, o, a1, b1, b2, b3⟩
/-- the table of a body with handlers -/
theorem vx_table {p : Program} {x y : MethodName} {S : Spec} {cc bytes : ByteArray} {maxL maxL' : Nat} {ret ret' : Option FieldType} {e : Env} {s s₁ : State} {m : MethodId} {args : Array Value} {below : List Frame} {meth : Method} {c : Code} {hh : List (Nat × Nat × Nat × Nat)}
    (B : BodyLoose p l y S cc maxL ret e s m args below meth c s₁) (h : (Cond.codeWith y bytes maxL' ret' hh).before args s = true) : c.exceptionTable.toList = tableOf hh := by
  obtain ⟨m9, meth9, c9, hn9, h1, h2, -, -, h6, -⟩ := Cond.codeWith_spec h
  cases Option.some.inj (hn9.symm.trans B.named)
  cases Option.some.inj (h1.symm.trans B.method)
  cases Option.some.inj (h2.symm.trans (Stand.of_body B).code)
  rw [← h6, table_eq]
end Bodies
end VXA
/-! ===== END ===== -/
/-! ===== BEGIN a static call of a method with an exception table ===== -/
section VXS
variable {p : Program} {l : Launch} {e : Env} {R : Room} {s : State} {m : MethodId} {args : Array Value} {below : List Frame} {meth : Method} {c : Code} {T : State} {H : Heap} {locs : List Loc} {cells slots : Nat}
abbrev vx_CSW (R : Room) (s : State) (args : Array Value) (own : String) (index : Nat) (y : MethodName) (bytes : ByteArray) (maxL : Nat) (ret : Option FieldType) (hh : List (Nat × Nat × Nat × Nat)) (ws : List Cond) (rm : Room) (mc ms n : Nat) : Prop :=
  (rm.cells = mc ∧ rm.slots = ms ∧ rm.frames + 1 ≤ R.frames ∧ 8 + (maxL + 11) + rm.locals ≤ R.locals ∧ (∀ w ∈ ws, ∀ (a' : Array Value) (U : State), s.WarmedH U.vm → w.before a' U = true) ∧ Cond.codeWith y bytes maxL ret hh ∈ ws) ∧
  (Cond.codeWith y bytes maxL ret hh).before args s = true ∧ (Cond.initialized y.cls).before args s = true ∧ (y.cls ≠ "java/lang/invoke/MethodHandle" ∧ y.cls ≠ "java/lang/invoke/VarHandle") ∧
  (∀ sig, parseMethodDescriptor y.desc = some sig → n = sig.parameters.length) ∧ (Cond.methodLink own index y).before args s = true ∧ (Cond.static y).before args s = true
theorem vx_cwSW {own : String} {index maxL mc ms : Nat} {y : MethodName} {bytes : ByteArray} {ret : Option FieldType} {hh : List (Nat × Nat × Nat × Nat)} {Ts ws ws' : List Cond} {rm : Room} (n : Nat) (ht : ∀ w ∈ Ts, w.before args s = true) (hT : GoodIn Ts (va_wsS own index y ws)) (hw : ws = Cond.codeWith y bytes maxL ret hh :: ws') (hrc : rm.cells = mc) (hrs : rm.slots = ms)
    (hd : y.cls ≠ "java/lang/invoke/MethodHandle" ∧ y.cls ≠ "java/lang/invoke/VarHandle" ∧ (parseMethodDescriptor y.desc).map (fun d => d.parameters.length) = some n) (hR : rm.frames + 1 ≤ R.frames ∧ 8 + (maxL + 11) + rm.locals ≤ R.locals) :
    vx_CSW R s args own index y bytes maxL ret hh ws rm mc ms n := by
  have ok : ∀ w ∈ va_wsS own index y ws, w.before args s = true := fun w h => ht w (hT w h).1
  have hG : GoodIn Ts ws := fun w h => hT w (by unfold va_wsS; exact List.mem_append_right _ h)
  have hc : Cond.codeWith y bytes maxL ret hh ∈ ws := by rw [hw]; exact List.mem_cons_self
  refine ⟨⟨hrc, hrs, hR.1, hR.2, pay_in ht hG, hc⟩, ht _ (hG _ hc).1, ok _ (by simp [va_wsS]), ⟨hd.1, hd.2.1⟩, fun sig h => ?_, ok _ (by simp [va_wsS]), ok _ (by simp [va_wsS])⟩
  have h2 := hd.2.2
  rw [h] at h2
  exact (Option.some.inj h2).symm
theorem vx_callSW (X : Stand p l e R s m args below meth c T locs cells slots) (hexec : p.tables.exec = Jvm.exec) {own : String} {index : Nat} {y : MethodName} {bytes : ByteArray} {maxL : Nat} {ret : Option FieldType} {hh : List (Nat × Nat × Nat × Nat)}
    (hown : s.vm.findClass own = some m.cls) (hlink : (Cond.methodLink own index y).before args s = true) (hstat : (Cond.static y).before args s = true) (hinit : (Cond.initialized y.cls).before args s = true)
    (hcode : (Cond.codeWith y bytes maxL ret hh).before args s = true) (hy : y.cls ≠ "java/lang/invoke/MethodHandle" ∧ y.cls ≠ "java/lang/invoke/VarHandle")
    {W9 : Nat} {Pre : Pt → Array Value → Prop} {Post : Pt → Array Value → Option Value → Pt → Prop} (hK : Back l R p e below s args y 3 W9 Pre Post)
    {g : JFrame} (hg : g.method = m) (hsize : g.locals.size = c.maxLocals) {argsL rest : List Value} (hlen : ∀ sig, parseMethodDescriptor y.desc = some sig → argsL.length = sig.parameters.length)
    (hstack : g.stack = argsL.reverse ++ rest) (hW : 2 * g.monitorRoom + (rest.map fun v => v.category).sum ≤ W9) (hdg : decode c.code g.pc = .ok (.invokestatic index, 3))
    (hpre : ∀ vm₁, s.WarmedH vm₁ → Pre ⟨T.setVm vm₁, locs, cells, slots⟩ argsL.toArray) :
    ∃ (v : Option Value) (vm₁ : Vm) (B : Pt), s.WarmedH vm₁ ∧ Stand p l e R s m args below meth c B.U B.locs B.cells B.slots ∧ Post ⟨T.setVm vm₁, locs, cells, slots⟩ argsL.toArray v B ∧
      ∀ target, Steps p.tables e below (B.U.setTop { g with pc := g.pc + 3, stack := v.toList ++ rest }) target → Steps p.tables e below (T.setTop g) target := by
  obtain ⟨mk, methM, cM, hnamed, hmethM, -, -, -, -, -, -, hsigM⟩ := Cond.codeWith_spec hcode
  have hstatic : methM.isStatic = true := Cond.static_spec hnamed hmethM hstat
  obtain ⟨kP, hkP, -⟩ := className_of_methodNamed hnamed
  have hinitP : kP.init = .initialized := Cond.initialized_spec (findClass_of_methodNamed hnamed) hkP hinit
  obtain ⟨vm₁, X₁, hstep₁⟩ := X.invokestatic hexec hown hlink hnamed hmethM hstatic hkP hinitP hy (g := g) hg (argsL := argsL) (rest := rest) (hlen _ hsigM) hstack hdg
  obtain ⟨v, B, X', hpost, hsteps⟩ := hK m meth c ⟨T.setVm vm₁, locs, cells, slots⟩ { g with stack := rest } (.invokestatic index) mk argsL.toArray X₁ hg hsize hdg hW (X₁.named hnamed) (hpre vm₁ X₁.warmed)
  exact ⟨v, vm₁, B, X₁.warmed, X', hpost, fun target h => hstep₁ _ fun acts => by rw [doInvoke_state]; exact hsteps.trans h⟩
theorem vx_runSW {y : MethodName} {bytes cc : ByteArray} {maxL nL mc ms n index : Nat} {ret : Option FieldType} {hh : List (Nat × Nat × Nat × Nat)} {ws : List Cond} {rm : Room} {Pc : Array Value → State → Prop} {Qc : Array Value → State → Outcome → State → Prop} {free : Addr → Prop} {Ts : List Cond} {own : String} {As rest : List Value} {g : JFrame}
    (S : CallFix p m c cc nL s args Ts own) (hM : Met l y ws rm Pc Qc mc ms free) (cw : vx_CSW R s args own index y bytes maxL ret hh ws rm mc ms n) (hp : PreS s H Pc As)
    (hg : g.method = m) (hn : As.length = n) (hsize : g.locals.size = nL) (hstack : g.stack = As.reverse ++ rest) (hW : 2 * g.monitorRoom + (rest.map fun v => v.category).sum ≤ 8) (hdg : decode cc g.pc = .ok (.invokestatic index, 3)) (hf : cells + mc ≤ R.cells ∧ slots + ms ≤ R.slots) :
    va_Run p l e R s m args below meth c H locs cells slots mc ms g rest (Qc As.toArray) (free) := by
  obtain ⟨⟨hrc, hrs, hfr, hlo, hws, hcw⟩, hcode, hini, hy, hlen, hl, hstt⟩ := cw
  have hK : Back l R p e below s args y 3 8 (PreOf R mc ms Pc) (PostOf Qc mc ms free) := va_backW (hh := hh) (bytes := bytes) (maxL := maxL) (ret := ret) hM hp.1 hrc hrs hfr hlo hws hcw (fun a' U hW => word_at hW (Or.inl (by first | rfl | simp [Cond.onTables, Cond.keeps, Cond.steady])) hini)
  obtain ⟨hx, hb, hml, ho, -⟩ := S
  intro T hT X
  obtain ⟨v, vm₁, ⟨U', l2, c2, s2⟩, hW₁, X', ⟨g', mk, t, L, e1, e2, hq, h1, hL, h2, h3⟩, st⟩ := vx_callSW X hx (hh := hh) (bytes := bytes) (maxL := maxL) (ret := ret) ho hl hstt hini hcode hy hK hg (hsize.trans hml.symm) (argsL := As) (rest := rest) (fun sig h => hn.trans (hlen sig h)) hstack hW (by rw [hb]; exact hdg)
    (fun vm₁ hW₁ => ⟨hf.1, hf.2, hp.2 (T.setVm vm₁) hT hW₁⟩)
  dsimp only [Pt.U, Pt.locs, Pt.cells, Pt.slots] at X' e1 e2 h1 h2 h3 st
  subst h1; subst h2; subst h3
  exact ⟨v, (T.setVm vm₁).calling g' mk As.toArray, t, U', L, hT, X', hL, e1, e2, hq, st⟩
/-- not caught here, past rows that name other classes: it goes on to the caller -/
theorem vx_outP {p : Program} {l : Launch} {e : Env} {R : Room} {s : State} {m : MethodId} {args : Array Value} {below : List Frame} {meth : Method} {c : Code} {H : Heap} {locs : List Loc} {cells slots : Nat} {free : Addr → Prop} {ls : Array Slot} {rest : List Value} {Qc : Array Value → State → Outcome → State → Prop} {XC : String → State → State → Prop}
    {pc : Nat} {own E : String} {ce : Cell} {q : Addr} {mc ms : Nat} (hown : s.vm.findClass own = some m.cls) (hlocks : meth.locks = false)
    (hpass : ∀ z ∈ c.exceptionTable.toList, covers z pc = false ∨ (z.catchType ≠ 0 ∧ ∃ nm : String, (Cond.classLink own z.catchType nm).before args s = true ∧ va_Nc E nm s)) (hcell : H[q]? = some ce) (hv : ce.vm = .none) (hcl : s.vm.findClass E = some ce.cls)
    (hx : ∀ t : State, t.heap = H → s.vm.Alike t.vm → XC E s t) (hf : ∀ z ∈ locs, free z.base) (hc : cells ≤ mc) (hs : slots ≤ ms) :
    vx_W p l e R s m args below meth c H locs cells slots (vx_MQ below Qc XC args s mc ms free) (F0 m pc ls rest) q := by
  intro T hT X
  have hpl : e.platform.magicAccessors = ({} : Platform).magicAccessors := by rw [X.admits.platform]
  obtain ⟨vm', hW', X', st⟩ := X.outThrough hlocks q (g := F0 m pc ls rest) rfl rfl rfl (cell := ce) (by rw [hT]; exact hcell) (by rw [hv]; rfl)
    (by obtain ⟨k9, h9, -⟩ := Vm.findClass_spec hcl; exact ⟨k9, h9⟩) (fun z hz => by
      rcases hpass z hz with h | ⟨hz0, nm, hl1, hn1⟩
      · exact Or.inl h
      · obtain ⟨c6, hc6, hcl6⟩ := Cond.classLink_spec hown hl1 e.platform hpl
        obtain ⟨a8, b8, h1, h2, h3⟩ := hn1
        cases Option.some.inj (h1.symm.trans hcl)
        cases Option.some.inj (h2.symm.trans hc6)
        exact Or.inr ⟨hz0, _, hcl6, h3⟩)
  obtain ⟨g₀, hfr⟩ := X'.frames_eq
  have hcell9 : ((T.setVm vm').setFrames (.throwing q :: below)).heap[q]? = some ce := by
    show T.heap[q]? = some ce
    rw [hT]; exact hcell
  have hend : Ended ((T.setVm vm').setFrames (.throwing q :: below)) below (.threw q) := State.frames_setFrames _ (State.cur_lt_of_frames hfr)
  refine ⟨(T.setVm vm').setFrames (.throwing q :: below), ?_, .threw q, X'.here.running, hend, Or.inr ⟨q, rfl, E, ce, locs, hx _ hT (X'.ends _).1.alike, hcell9, hv, hcl, (X'.ends _).1, (X'.ends _).2.mono hc hs, hf⟩⟩
  rw [X.pushThrowing_eq]
  exact st
/-- a thing of a world lies in the heap -/
theorem vx_lt {D : va_G} {cl : List vw_C} {ws : va_W} {H1 : Heap} (h : va_P D cl ws H1) {k : Nat} {q : Nat × va_E} (hk : ws[k]? = some q) : q.1 < H1.size := (h k q hk).lt
end VXS
/-! ===== END ===== -/
/-! ===== BEGIN methods with a table of their own: called by a name, returning or throwing ===== -/
section VXH
/-! vx_backW, vx_callVX, vx_callSX, vx_callVW, vx_runVW, vx_runVX, vx_runSX, vx_ofWH follow the same proofs as their sisters above (Free/Laws.lean, Shelf42/LK1.lean); vx_outP calls Shelf42/NT130.lean (outThrough). -/
section
variable {l : Launch} {R : Room} {p : Program} {e : Env} {below : List Frame} {s : State} {sargs : Array Value} {y : MethodName} {len W9 : Nat}
theorem vx_backW {ws : List Cond} {rm : Room} {Pc : Array Value → State → Prop} {Qc : Array Value → State → Outcome → State → Prop} {XC : String → State → State → Prop} {mc ms : Nat} {free : Addr → Prop} {bytes : ByteArray} {maxL : Nat} {ret : Option FieldType} {hh : List (Nat × Nat × Nat × Nat)}
    (hM : vx_Met l y ws rm Pc Qc XC mc ms free) (hblind : FrameBlind Pc) (hrc : rm.cells = mc) (hrs : rm.slots = ms)
    (hframes : rm.frames + 1 ≤ R.frames) (hlocals : W9 + (maxL + 11) + rm.locals ≤ R.locals)
    (hws : ∀ w ∈ ws, ∀ a' U, s.WarmedH U.vm → w.before a' U = true) (hcode : Cond.codeWith y bytes maxL ret hh ∈ ws) (hinit : ∀ a' U, s.WarmedH U.vm → (Cond.initialized y.cls).before a' U = true) :
    vx_Back l R p e below s sargs y len W9 (PreOf R mc ms Pc) (PostOf Qc mc ms free) (vx_Post XC mc ms free) := by
  intro m meth c A g ig mk a X hg hsize hdg hW hn hp
  have h1 : (headSpec ws rm).pre.before a A.U = true := atoms_intro fun w hw => hws w hw _ _ X.warmed
  have h2 : (Cond.codeWith y bytes maxL ret hh).before a A.U = true := hws _ hcode _ _ X.warmed
  have h3 : (Cond.initialized y.cls).before a A.U = true := hinit _ _ X.warmed
  have h4 : A.cells + (headSpec ws rm).room.cells ≤ R.cells := by rw [show (headSpec ws rm).room.cells = mc from hrc]; exact hp.1
  have h5 : A.slots + (headSpec ws rm).room.slots ≤ R.slots := by rw [show (headSpec ws rm).room.slots = ms from hrs]; exact hp.2.1
  have hPc : Pc a (A.U.calling g mk a) := hblind _ _ _ _ hp.2.2
  obtain ⟨U, Ls, c0, s0⟩ := A
  dsimp only [Pt.U, Pt.locs, Pt.cells, Pt.slots] at h1 h2 h3 h4 h5 X hn hPc ⊢
  obtain ⟨m9, methY, cY, hn9, hmY, hcY, -, hlY, -⟩ := Cond.codeWith_spec h2
  cases Option.some.inj (hn9.symm.trans hn)
  obtain ⟨kY, hkY, -⟩ := className_of_methodNamed hn
  have hinitY : kY.init = .initialized := Cond.initialized_spec (findClass_of_methodNamed hn) hkY h3
  have h : At U g.method c below := by rw [hg]; exact X.here
  have hlocals9 : W9 + (maxL + 11) + (headSpec ws rm).room.locals ≤ R.locals := hlocals
  have happ : (headSpec ws rm).appliesLoose y e.platform (U.calling g mk a) = true :=
    Spec.appliesLoose_calling (g := g) h hdg hn hkY hinitY
      (X.room_calling (g := g) (R' := (headSpec ws rm).room) hsize hmY hcY hframes (by rw [hlY]; omega) h4 h5) h1
  obtain ⟨mid, hmid⟩ := h.above
  have hfr : (U.setTop g).frames = (.java g :: mid) ++ below := by rw [State.frames_setTop' g h.top, hmid]; rfl
  obtain ⟨o, s₂, hsteps, -, hend, hq⟩ := Steps.callFree hM p X.admits X.cas X.clock (acts := []) hfr happ hPc trivial
  have hq' : vx_Q Qc XC mc ms free a (U.calling g mk a) o s₂ := hq
  rw [State.frames_setTop' g h.top] at hend
  obtain ⟨g₀, hg0⟩ := Option.isSome_iff_exists.mp h.top
  obtain ⟨r, hr⟩ := State.topJava?_eq_some.mp hg0
  have hr' : (({ U with heap := s₂.heap, slotsUsed := s₂.slotsUsed } : State).setVm s₂.vm).frames = .java g₀ :: r := hr
  rcases hq' with ⟨hqc, L, hfe, hL⟩ | ⟨q, rfl, E, ce, L, hx, hce, hcv, hcl, hW₂, hsm, hL⟩
  · obtain ⟨⟨v, rfl⟩, hW₂, e2, q2, q3, q4, q5, q6⟩ := id hfe
    have e3 : s₂ = ({ (U.calling g mk a).setFrames s₂.frames with heap := s₂.heap, slotsUsed := s₂.slotsUsed } : State).setVm s₂.vm := by
      have : s₂ = ({ s₂ with vm := (U.calling g mk a).vm } : State).setVm s₂.vm := rfl
      rw [e2] at this
      exact this
    obtain ⟨c₂, i₂, len₂, hc₂, hd₂, hf₂⟩ := hend
    have hW' : U.WarmedH s₂.vm := hW₂
    have hcc : c₂ = c := by
      have h1 : s₂.code? g.method = U.code? g.method := by
        rw [State.code?_eq, State.code?_eq, hW'.alike.method?]
      exact Option.some.inj (hc₂.symm.trans (h1.trans h.code))
    subst hcc
    have hlen : len₂ = len := by rw [hdg] at hd₂; cases hd₂; rfl
    subst hlen
    have hs₂ : s₂ = (({ U with heap := s₂.heap, slotsUsed := s₂.slotsUsed } : State).setVm s₂.vm).setTop { g with pc := g.pc + len₂, stack := v.toList ++ g.stack } := by
      refine e3.trans ?_
      rw [hf₂, State.calling_eq h.top, State.setFrames_setFrames, State.setTop_of_frames _ hr', hr]
      rfl
    have hsame : U.sameButNew ({ U with heap := s₂.heap, slotsUsed := s₂.slotsUsed } : State) L mc ms := by
      refine ⟨?_, q2, q3, q4, q5, q6⟩
      obtain ⟨t, ht, -⟩ := State.frames_cons hr
      show ({ U with heap := s₂.heap, slotsUsed := s₂.slotsUsed } : State) = { U.setFrames U.frames with heap := s₂.heap, slotsUsed := s₂.slotsUsed }
      rw [State.setFrames_self ht]
    subst hg
    refine Or.inl ⟨v, ⟨(({ U with heap := s₂.heap, slotsUsed := s₂.slotsUsed } : State).setVm s₂.vm), Ls ++ L, c0 + mc, s0 + ms⟩,
      ⟨X.admits, X.cas, X.clock, X.frames, X.room, X.hears, X.method, X.code, (X.here.setHeapUsed s₂.heap s₂.slotsUsed).setVm hW'.alike, X.tail, State.WarmedH.trans X.warmed hW', X.limits, X.bytes, X.same.trans (hsame.setVm s.vm)⟩,
      ⟨g, mk, s₂, L, rfl, rfl, hqc, rfl, hL, rfl, rfl⟩, ?_⟩
    show Steps p.tables e below _ ((({ U with heap := s₂.heap, slotsUsed := s₂.slotsUsed } : State).setVm s₂.vm).setTop { g with pc := g.pc + len₂, stack := v.toList ++ g.stack })
    rw [← hs₂]
    exact hsteps
  · obtain ⟨e2, q2, q3, q4, q5, q6⟩ := id hsm
    have e3 : s₂ = ({ (U.calling g mk a).setFrames s₂.frames with heap := s₂.heap, slotsUsed := s₂.slotsUsed } : State).setVm s₂.vm := by
      have : s₂ = ({ s₂ with vm := (U.calling g mk a).vm } : State).setVm s₂.vm := rfl
      rw [e2] at this
      exact this
    have hf₂ : s₂.frames = .throwing q :: .java g :: U.frames.tail := hend
    have hW' : U.WarmedH s₂.vm := hW₂
    have hs₂ : s₂ = ((({ U with heap := s₂.heap, slotsUsed := s₂.slotsUsed } : State).setVm s₂.vm).setTop g).pushFrame (.throwing q) := by
      refine e3.trans ?_
      rw [hf₂, State.calling_eq h.top, State.setFrames_setFrames, State.pushFrame, State.frames_setTop _ hr', State.setTop_of_frames _ hr', State.setFrames_setFrames, hr]
      rfl
    have hsame : U.sameButNew ({ U with heap := s₂.heap, slotsUsed := s₂.slotsUsed } : State) L mc ms := by
      refine ⟨?_, q2, q3, q4, q5, q6⟩
      obtain ⟨t, ht, -⟩ := State.frames_cons hr
      show ({ U with heap := s₂.heap, slotsUsed := s₂.slotsUsed } : State) = { U.setFrames U.frames with heap := s₂.heap, slotsUsed := s₂.slotsUsed }
      rw [State.setFrames_self ht]
    subst hg
    refine Or.inr ⟨q, ⟨(({ U with heap := s₂.heap, slotsUsed := s₂.slotsUsed } : State).setVm s₂.vm), Ls ++ L, c0 + mc, s0 + ms⟩,
      ⟨X.admits, X.cas, X.clock, X.frames, X.room, X.hears, X.method, X.code, (X.here.setHeapUsed s₂.heap s₂.slotsUsed).setVm hW'.alike, X.tail, State.WarmedH.trans X.warmed hW', X.limits, X.bytes, X.same.trans (hsame.setVm s.vm)⟩,
      ⟨g, mk, s₂, L, E, ce, rfl, rfl, hx, hce, hcv, hcl, rfl, hL, rfl, rfl⟩, ?_⟩
    show Steps p.tables e below _ (((({ U with heap := s₂.heap, slotsUsed := s₂.slotsUsed } : State).setVm s₂.vm).setTop g).pushFrame (.throwing q))
    rw [← hs₂]
    exact hsteps
end
variable {p : Program} {l : Launch} {e : Env} {R : Room} {s : State} {m : MethodId} {args : Array Value} {below : List Frame} {meth : Method} {c : Code} {T : State} {H : Heap} {locs : List Loc} {cells slots : Nat}
theorem vx_callVX (X : Stand p l e R s m args below meth c T locs cells slots) (hexec : p.tables.exec = Jvm.exec) {own C : String} {index : Nat} {y : MethodName} {bytes : ByteArray} {maxL : Nat} {ret : Option FieldType} {hh : List (Nat × Nat × Nat × Nat)}
    (hown : s.vm.findClass own = some m.cls) (hlink : (Cond.methodLink own index y).before args s = true) (hinst : (Cond.instanceMethod y).before args s = true) (hsel : (Cond.selects C y y).before args s = true)
    (hcode : (Cond.codeWith y bytes maxL ret hh).before args s = true) (hy : y.cls ≠ "java/lang/invoke/MethodHandle" ∧ y.cls ≠ "java/lang/invoke/VarHandle")
    {W9 : Nat} {Pre : Pt → Array Value → Prop} {Post : Pt → Array Value → Option Value → Pt → Prop} {PostX : Pt → Array Value → Addr → Pt → Prop} (hK : vx_Back l R p e below s args y 3 W9 Pre Post PostX)
    {b : Addr} {cellB : Cell} (hcell : T.heap[b]? = some cellB) (hobj : cellB.vm.isStatics = false) (hcls : s.vm.findClass C = some cellB.cls)
    {g : JFrame} (hg : g.method = m) (hsize : g.locals.size = c.maxLocals) {argsL rest : List Value} (hlen : ∀ sig, parseMethodDescriptor y.desc = some sig → argsL.length = sig.parameters.length)
    (hstack : g.stack = argsL.reverse ++ .ref b :: rest) (hW : 2 * g.monitorRoom + (rest.map fun v => v.category).sum ≤ W9) (hdg : decode c.code g.pc = .ok (.invokevirtual index, 3))
    (hpre : ∀ vm₁, s.WarmedH vm₁ → Pre ⟨T.setVm vm₁, locs, cells, slots⟩ (Value.ref b :: argsL).toArray) :
    (∃ (v : Option Value) (vm₁ : Vm) (B : Pt), s.WarmedH vm₁ ∧ Stand p l e R s m args below meth c B.U B.locs B.cells B.slots ∧ Post ⟨T.setVm vm₁, locs, cells, slots⟩ (Value.ref b :: argsL).toArray v B ∧
      ∀ target, Steps p.tables e below (B.U.setTop { g with pc := g.pc + 3, stack := v.toList ++ rest }) target → Steps p.tables e below (T.setTop g) target) ∨
    (∃ (q : Addr) (vm₁ : Vm) (B : Pt), s.WarmedH vm₁ ∧ Stand p l e R s m args below meth c B.U B.locs B.cells B.slots ∧ PostX ⟨T.setVm vm₁, locs, cells, slots⟩ (Value.ref b :: argsL).toArray q B ∧
      Steps p.tables e below (T.setTop g) ((B.U.setTop { g with stack := rest }).pushFrame (.throwing q))) := by
  obtain ⟨mk, methM, hnamed, hmethM, hstM, habM⟩ := Cond.instanceMethod_spec hinst
  obtain ⟨m8, methM', cM, hn8, hmethM', -, -, -, -, -, -, hsigM⟩ := Cond.codeWith_spec hcode
  cases Option.some.inj (hn8.symm.trans hnamed)
  cases hmethM.symm.trans hmethM'
  obtain ⟨c2, r2, m2, q1, q2, q3, q4, kP, hkP, hkPi⟩ := Cond.selects_spec hsel
  cases hcls.symm.trans q1
  cases (State.methodFound?_of_named hnamed hy).symm.trans q2
  cases hnamed.symm.trans q3
  have hselP : selectMethod e.platform s.vm cellB.cls mk = .method mk := by rw [Launch.admits_selectMethod X.admits]; exact q4
  obtain ⟨vm₁, X₁, hstep₁⟩ := X.invokevirtual hexec hown hlink hnamed hmethM hstM hkP hkPi hy (a := b) (cell := cellB) hcell
    (fun z h => by rw [h] at hobj; cases hobj) hselP hmethM habM hkP hkPi (g := g) hg (argsL := argsL) (rest := rest) (hlen _ hsigM) hstack hdg
  rcases hK m meth c ⟨T.setVm vm₁, locs, cells, slots⟩ { g with stack := rest } (.invokevirtual index) mk (Value.ref b :: argsL).toArray X₁ hg hsize hdg hW (X₁.named hnamed) (hpre vm₁ X₁.warmed) with ⟨v, B, X', hpost, hsteps⟩ | ⟨q, B, X', hpost, hsteps⟩
  · exact Or.inl ⟨v, vm₁, B, X₁.warmed, X', hpost, fun target h => hstep₁ _ fun acts => by rw [doInvoke_state]; exact hsteps.trans h⟩
  · exact Or.inr ⟨q, vm₁, B, X₁.warmed, X', hpost, hstep₁ _ fun acts => by rw [doInvoke_state]; exact hsteps⟩
theorem vx_callSX (X : Stand p l e R s m args below meth c T locs cells slots) (hexec : p.tables.exec = Jvm.exec) {own : String} {index : Nat} {y : MethodName} {bytes : ByteArray} {maxL : Nat} {ret : Option FieldType} {hh : List (Nat × Nat × Nat × Nat)}
    (hown : s.vm.findClass own = some m.cls) (hlink : (Cond.methodLink own index y).before args s = true) (hstat : (Cond.static y).before args s = true) (hinit : (Cond.initialized y.cls).before args s = true)
    (hcode : (Cond.codeWith y bytes maxL ret hh).before args s = true) (hy : y.cls ≠ "java/lang/invoke/MethodHandle" ∧ y.cls ≠ "java/lang/invoke/VarHandle")
    {W9 : Nat} {Pre : Pt → Array Value → Prop} {Post : Pt → Array Value → Option Value → Pt → Prop} {PostX : Pt → Array Value → Addr → Pt → Prop} (hK : vx_Back l R p e below s args y 3 W9 Pre Post PostX)
    {g : JFrame} (hg : g.method = m) (hsize : g.locals.size = c.maxLocals) {argsL rest : List Value} (hlen : ∀ sig, parseMethodDescriptor y.desc = some sig → argsL.length = sig.parameters.length)
    (hstack : g.stack = argsL.reverse ++ rest) (hW : 2 * g.monitorRoom + (rest.map fun v => v.category).sum ≤ W9) (hdg : decode c.code g.pc = .ok (.invokestatic index, 3))
    (hpre : ∀ vm₁, s.WarmedH vm₁ → Pre ⟨T.setVm vm₁, locs, cells, slots⟩ argsL.toArray) :
    (∃ (v : Option Value) (vm₁ : Vm) (B : Pt), s.WarmedH vm₁ ∧ Stand p l e R s m args below meth c B.U B.locs B.cells B.slots ∧ Post ⟨T.setVm vm₁, locs, cells, slots⟩ argsL.toArray v B ∧
      ∀ target, Steps p.tables e below (B.U.setTop { g with pc := g.pc + 3, stack := v.toList ++ rest }) target → Steps p.tables e below (T.setTop g) target) ∨
    (∃ (q : Addr) (vm₁ : Vm) (B : Pt), s.WarmedH vm₁ ∧ Stand p l e R s m args below meth c B.U B.locs B.cells B.slots ∧ PostX ⟨T.setVm vm₁, locs, cells, slots⟩ argsL.toArray q B ∧
      Steps p.tables e below (T.setTop g) ((B.U.setTop { g with stack := rest }).pushFrame (.throwing q))) := by
  obtain ⟨mk, methM, cM, hnamed, hmethM, -, -, -, -, -, -, hsigM⟩ := Cond.codeWith_spec hcode
  have hstatic : methM.isStatic = true := Cond.static_spec hnamed hmethM hstat
  obtain ⟨kP, hkP, -⟩ := className_of_methodNamed hnamed
  have hinitP : kP.init = .initialized := Cond.initialized_spec (findClass_of_methodNamed hnamed) hkP hinit
  obtain ⟨vm₁, X₁, hstep₁⟩ := X.invokestatic hexec hown hlink hnamed hmethM hstatic hkP hinitP hy (g := g) hg (argsL := argsL) (rest := rest) (hlen _ hsigM) hstack hdg
  rcases hK m meth c ⟨T.setVm vm₁, locs, cells, slots⟩ { g with stack := rest } (.invokestatic index) mk argsL.toArray X₁ hg hsize hdg hW (X₁.named hnamed) (hpre vm₁ X₁.warmed) with ⟨v, B, X', hpost, hsteps⟩ | ⟨q, B, X', hpost, hsteps⟩
  · exact Or.inl ⟨v, vm₁, B, X₁.warmed, X', hpost, fun target h => hstep₁ _ fun acts => by rw [doInvoke_state]; exact hsteps.trans h⟩
  · exact Or.inr ⟨q, vm₁, B, X₁.warmed, X', hpost, hstep₁ _ fun acts => by rw [doInvoke_state]; exact hsteps⟩
theorem vx_callVW (X : Stand p l e R s m args below meth c T locs cells slots) (hexec : p.tables.exec = Jvm.exec) {own C : String} {index : Nat} {y : MethodName} {bytes : ByteArray} {maxL : Nat} {ret : Option FieldType} {hh : List (Nat × Nat × Nat × Nat)}
    (hown : s.vm.findClass own = some m.cls) (hlink : (Cond.methodLink own index y).before args s = true) (hinst : (Cond.instanceMethod y).before args s = true) (hsel : (Cond.selects C y y).before args s = true)
    (hcode : (Cond.codeWith y bytes maxL ret hh).before args s = true) (hy : y.cls ≠ "java/lang/invoke/MethodHandle" ∧ y.cls ≠ "java/lang/invoke/VarHandle")
    {W9 : Nat} {Pre : Pt → Array Value → Prop} {Post : Pt → Array Value → Option Value → Pt → Prop} (hK : Back l R p e below s args y 3 W9 Pre Post)
    {b : Addr} {cellB : Cell} (hcell : T.heap[b]? = some cellB) (hobj : cellB.vm.isStatics = false) (hcls : s.vm.findClass C = some cellB.cls)
    {g : JFrame} (hg : g.method = m) (hsize : g.locals.size = c.maxLocals) {argsL rest : List Value} (hlen : ∀ sig, parseMethodDescriptor y.desc = some sig → argsL.length = sig.parameters.length)
    (hstack : g.stack = argsL.reverse ++ .ref b :: rest) (hW : 2 * g.monitorRoom + (rest.map fun v => v.category).sum ≤ W9) (hdg : decode c.code g.pc = .ok (.invokevirtual index, 3))
    (hpre : ∀ vm₁, s.WarmedH vm₁ → Pre ⟨T.setVm vm₁, locs, cells, slots⟩ (Value.ref b :: argsL).toArray) :
    ∃ (v : Option Value) (vm₁ : Vm) (B : Pt), s.WarmedH vm₁ ∧ Stand p l e R s m args below meth c B.U B.locs B.cells B.slots ∧ Post ⟨T.setVm vm₁, locs, cells, slots⟩ (Value.ref b :: argsL).toArray v B ∧
      ∀ target, Steps p.tables e below (B.U.setTop { g with pc := g.pc + 3, stack := v.toList ++ rest }) target → Steps p.tables e below (T.setTop g) target := by
  obtain ⟨mk, methM, hnamed, hmethM, hstM, habM⟩ := Cond.instanceMethod_spec hinst
  obtain ⟨m8, methM', cM, hn8, hmethM', -, -, -, -, -, -, hsigM⟩ := Cond.codeWith_spec hcode
  cases Option.some.inj (hn8.symm.trans hnamed)
  cases hmethM.symm.trans hmethM'
  obtain ⟨c2, r2, m2, q1, q2, q3, q4, kP, hkP, hkPi⟩ := Cond.selects_spec hsel
  cases hcls.symm.trans q1
  cases (State.methodFound?_of_named hnamed hy).symm.trans q2
  cases hnamed.symm.trans q3
  have hselP : selectMethod e.platform s.vm cellB.cls mk = .method mk := by rw [Launch.admits_selectMethod X.admits]; exact q4
  obtain ⟨vm₁, X₁, hstep₁⟩ := X.invokevirtual hexec hown hlink hnamed hmethM hstM hkP hkPi hy (a := b) (cell := cellB) hcell
    (fun z h => by rw [h] at hobj; cases hobj) hselP hmethM habM hkP hkPi (g := g) hg (argsL := argsL) (rest := rest) (hlen _ hsigM) hstack hdg
  obtain ⟨v, B, X', hpost, hsteps⟩ := hK m meth c ⟨T.setVm vm₁, locs, cells, slots⟩ { g with stack := rest } (.invokevirtual index) mk (Value.ref b :: argsL).toArray X₁ hg hsize hdg hW (X₁.named hnamed) (hpre vm₁ X₁.warmed)
  exact ⟨v, vm₁, B, X₁.warmed, X', hpost, fun target h => hstep₁ _ fun acts => by rw [doInvoke_state]; exact hsteps.trans h⟩
abbrev vx_CVW (R : Room) (s : State) (args : Array Value) (own C : String) (index : Nat) (y : MethodName) (bytes : ByteArray) (maxL : Nat) (ret : Option FieldType) (hh : List (Nat × Nat × Nat × Nat)) (ws : List Cond) (rm : Room) (mc ms n : Nat) : Prop :=
  (rm.cells = mc ∧ rm.slots = ms ∧ rm.frames + 1 ≤ R.frames ∧ 8 + (maxL + 11) + rm.locals ≤ R.locals ∧ (∀ w ∈ ws, ∀ (a' : Array Value) (U : State), s.WarmedH U.vm → w.before a' U = true) ∧ Cond.codeWith y bytes maxL ret hh ∈ ws) ∧
  (Cond.codeWith y bytes maxL ret hh).before args s = true ∧ (Cond.initialized y.cls).before args s = true ∧ (y.cls ≠ "java/lang/invoke/MethodHandle" ∧ y.cls ≠ "java/lang/invoke/VarHandle") ∧
  (∀ sig, parseMethodDescriptor y.desc = some sig → n = sig.parameters.length) ∧ (Cond.methodLink own index y).before args s = true ∧ (Cond.instanceMethod y).before args s = true ∧ (Cond.selects C y y).before args s = true
theorem vx_cwVW {own C : String} {index maxL mc ms : Nat} {y : MethodName} {bytes : ByteArray} {ret : Option FieldType} {hh : List (Nat × Nat × Nat × Nat)} {Ts ws ws' : List Cond} {rm : Room} (n : Nat) (ht : ∀ w ∈ Ts, w.before args s = true) (hT : GoodIn Ts (wsV own index C y ws)) (hw : ws = Cond.codeWith y bytes maxL ret hh :: ws') (hrc : rm.cells = mc) (hrs : rm.slots = ms)
    (hd : y.cls = C ∧ y.cls ≠ "java/lang/invoke/MethodHandle" ∧ y.cls ≠ "java/lang/invoke/VarHandle" ∧ (parseMethodDescriptor y.desc).map (fun d => d.parameters.length) = some n) (hR : rm.frames + 1 ≤ R.frames ∧ 8 + (maxL + 11) + rm.locals ≤ R.locals) :
    vx_CVW R s args own C index y bytes maxL ret hh ws rm mc ms n := by
  obtain ⟨hC, hd⟩ := hd
  subst hC
  have ok : ∀ w ∈ wsV own index y.cls y ws, w.before args s = true := fun w h => ht w (hT w h).1
  have hG : GoodIn Ts ws := fun w h => hT w (by unfold wsV; exact List.mem_append_right _ h)
  have hc : Cond.codeWith y bytes maxL ret hh ∈ ws := by rw [hw]; exact List.mem_cons_self
  refine ⟨⟨hrc, hrs, hR.1, hR.2, pay_in ht hG, hc⟩, ht _ (hG _ hc).1, ok _ (by simp [wsV]), ⟨hd.1, hd.2.1⟩, fun sig h => ?_, ok _ (by simp [wsV]), ok _ (by simp [wsV]), ok _ (by simp [wsV])⟩
  have h2 := hd.2.2
  rw [h] at h2
  exact (Option.some.inj h2).symm
theorem vx_runVW {y : MethodName} {bytes cc : ByteArray} {maxL nL mc ms n index : Nat} {ret : Option FieldType} {hh : List (Nat × Nat × Nat × Nat)} {ws : List Cond} {rm : Room} {Pc : Array Value → State → Prop} {Qc : Array Value → State → Outcome → State → Prop} {free : Addr → Prop} {Ts : List Cond} {own C : String} {b : Addr} {As rest : List Value} {g : JFrame}
    (S : CallFix p m c cc nL s args Ts own) (hM : Met l y ws rm Pc Qc mc ms free) (cw : vx_CVW R s args own C index y bytes maxL ret hh ws rm mc ms n) (hp : PreV s H C b Pc As)
    (hg : g.method = m) (hn : As.length = n) (hsize : g.locals.size = nL) (hstack : g.stack = As.reverse ++ .ref b :: rest) (hW : 2 * g.monitorRoom + (rest.map fun v => v.category).sum ≤ 8) (hdg : decode cc g.pc = .ok (.invokevirtual index, 3)) (hf : cells + mc ≤ R.cells ∧ slots + ms ≤ R.slots) :
    va_Run p l e R s m args below meth c H locs cells slots mc ms g rest (Qc (Value.ref b :: As).toArray) free := by
  obtain ⟨⟨hrc, hrs, hfr, hlo, hws, hcw⟩, hcode, hini, hy, hlen, hl, hin, hse⟩ := cw
  have hK : Back l R p e below s args y 3 8 (PreOf R mc ms Pc) (PostOf Qc mc ms free) := va_backW (hh := hh) (bytes := bytes) (maxL := maxL) (ret := ret) hM hp.1 hrc hrs hfr hlo hws hcw (fun a' U hW => word_at hW (Or.inl (by first | rfl | simp [Cond.onTables, Cond.keeps, Cond.steady])) hini)
  obtain ⟨hx, hb, hml, ho, -⟩ := S
  obtain ⟨-, ⟨cellB, hcB, hoB, hclB⟩, hPc⟩ := hp
  intro T hT X
  obtain ⟨v, vm₁, ⟨U', l2, c2, s2⟩, hW₁, X', ⟨g', mk, t, L, e1, e2, hq, h1, hL, h2, h3⟩, st⟩ := vx_callVW X hx (C := C) (hh := hh) (bytes := bytes) (maxL := maxL) (ret := ret) ho hl hin hse hcode hy hK (by rw [hT]; exact hcB) hoB hclB hg (hsize.trans hml.symm) (argsL := As) (rest := rest) (fun sig h => hn.trans (hlen sig h)) hstack hW (by rw [hb]; exact hdg)
    (fun vm₁ hW₁ => ⟨hf.1, hf.2, hPc (T.setVm vm₁) hT hW₁⟩)
  dsimp only [Pt.U, Pt.locs, Pt.cells, Pt.slots] at X' e1 e2 h1 h2 h3 st
  subst h1; subst h2; subst h3
  exact ⟨v, (T.setVm vm₁).calling g' mk (Value.ref b :: As).toArray, t, U', L, hT, X', hL, e1, e2, hq, st⟩
section
variable {y : MethodName} {bytes cc : ByteArray} {maxL nL mc ms n index : Nat} {ret : Option FieldType} {ws : List Cond} {rm : Room} {Pc : Array Value → State → Prop} {Qc : Array Value → State → Outcome → State → Prop} {XC : String → State → State → Prop} {free : Addr → Prop} {Ts : List Cond} {own C : String} {b : Addr} {As rest : List Value} {g : JFrame}
theorem vx_runVX {hh : List (Nat × Nat × Nat × Nat)} (S : CallFix p m c cc nL s args Ts own) (hM : vx_Met l y ws rm Pc Qc XC mc ms free) (cw : vx_CVW R s args own C index y bytes maxL ret hh ws rm mc ms n) (hp : PreV s H C b Pc As)
    (hg : g.method = m) (hn : As.length = n) (hsize : g.locals.size = nL) (hstack : g.stack = As.reverse ++ .ref b :: rest) (hW : 2 * g.monitorRoom + (rest.map fun v => v.category).sum ≤ 8) (hdg : decode cc g.pc = .ok (.invokevirtual index, 3)) (hf : cells + mc ≤ R.cells ∧ slots + ms ≤ R.slots) :
    vx_Run p l e R s m args below meth c H locs cells slots mc ms g rest (Qc (Value.ref b :: As).toArray) XC free := by
  obtain ⟨⟨hrc, hrs, hfr, hlo, hws, hcw⟩, hcode, hini, hy, hlen, hl, hin, hse⟩ := cw
  have hK : vx_Back l R p e below s args y 3 8 (PreOf R mc ms Pc) (PostOf Qc mc ms free) (vx_Post XC mc ms free) := vx_backW (hh := hh) (bytes := bytes) (maxL := maxL) (ret := ret) hM hp.1 hrc hrs hfr hlo hws hcw (fun a' U hW => word_at hW (Or.inl (by first | rfl | simp [Cond.onTables, Cond.keeps, Cond.steady])) hini)
  obtain ⟨hx, hb, hml, ho, -⟩ := S
  obtain ⟨-, ⟨cellB, hcB, hoB, hclB⟩, hPc⟩ := hp
  intro T hT X
  rcases vx_callVX X hx (C := C) (hh := hh) (bytes := bytes) (maxL := maxL) (ret := ret) ho hl hin hse hcode hy hK (by rw [hT]; exact hcB) hoB hclB hg (hsize.trans hml.symm) (argsL := As) (rest := rest) (fun sig h => hn.trans (hlen sig h)) hstack hW (by rw [hb]; exact hdg)
    (fun vm₁ hW₁ => ⟨hf.1, hf.2, hPc (T.setVm vm₁) hT hW₁⟩) with ⟨v, vm₁, ⟨U', l2, c2, s2⟩, hW₁, X', ⟨g', mk, t, L, e1, e2, hq, h1, hL, h2, h3⟩, st⟩ | ⟨q, vm₁, ⟨U', l2, c2, s2⟩, hW₁, X', ⟨g', mk, t, L, E, ce, e1, e2, hq, hce, hcv, hcl, h1, hL, h2, h3⟩, st⟩
  · dsimp only [Pt.U, Pt.locs, Pt.cells, Pt.slots] at X' e1 e2 h1 h2 h3 st
    subst h1; subst h2; subst h3
    exact Or.inl ⟨v, (T.setVm vm₁).calling g' mk (Value.ref b :: As).toArray, t, U', L, hT, X', hL, e1, e2, hq, st⟩
  · dsimp only [Pt.U, Pt.locs, Pt.cells, Pt.slots] at X' e1 e2 h1 h2 h3 st hcl
    subst h1; subst h2; subst h3
    exact Or.inr ⟨q, (T.setVm vm₁).calling g' mk (Value.ref b :: As).toArray, t, U', L, E, ce, hT, X', hL, e1, e2, hq, hce, hcv, vx_cls hW₁ hcl, st⟩
theorem vx_runSX {hh : List (Nat × Nat × Nat × Nat)} (S : CallFix p m c cc nL s args Ts own) (hM : vx_Met l y ws rm Pc Qc XC mc ms free) (cw : vx_CSW R s args own index y bytes maxL ret hh ws rm mc ms n) (hp : PreS s H Pc As)
    (hg : g.method = m) (hn : As.length = n) (hsize : g.locals.size = nL) (hstack : g.stack = As.reverse ++ rest) (hW : 2 * g.monitorRoom + (rest.map fun v => v.category).sum ≤ 8) (hdg : decode cc g.pc = .ok (.invokestatic index, 3)) (hf : cells + mc ≤ R.cells ∧ slots + ms ≤ R.slots) :
    vx_Run p l e R s m args below meth c H locs cells slots mc ms g rest (Qc As.toArray) XC free := by
  obtain ⟨⟨hrc, hrs, hfr, hlo, hws, hcw⟩, hcode, hini, hy, hlen, hl, hstt⟩ := cw
  have hK : vx_Back l R p e below s args y 3 8 (PreOf R mc ms Pc) (PostOf Qc mc ms free) (vx_Post XC mc ms free) := vx_backW (hh := hh) (bytes := bytes) (maxL := maxL) (ret := ret) hM hp.1 hrc hrs hfr hlo hws hcw (fun a' U hW => word_at hW (Or.inl (by first | rfl | simp [Cond.onTables, Cond.keeps, Cond.steady])) hini)
  obtain ⟨hx, hb, hml, ho, -⟩ := S
  intro T hT X
  rcases vx_callSX X hx (hh := hh) (bytes := bytes) (maxL := maxL) (ret := ret) ho hl hstt hini hcode hy hK hg (hsize.trans hml.symm) (argsL := As) (rest := rest) (fun sig h => hn.trans (hlen sig h)) hstack hW (by rw [hb]; exact hdg)
    (fun vm₁ hW₁ => ⟨hf.1, hf.2, hp.2 (T.setVm vm₁) hT hW₁⟩) with ⟨v, vm₁, ⟨U', l2, c2, s2⟩, hW₁, X', ⟨g', mk, t, L, e1, e2, hq, h1, hL, h2, h3⟩, st⟩ | ⟨q, vm₁, ⟨U', l2, c2, s2⟩, hW₁, X', ⟨g', mk, t, L, E, ce, e1, e2, hq, hce, hcv, hcl, h1, hL, h2, h3⟩, st⟩
  · dsimp only [Pt.U, Pt.locs, Pt.cells, Pt.slots] at X' e1 e2 h1 h2 h3 st
    subst h1; subst h2; subst h3
    exact Or.inl ⟨v, (T.setVm vm₁).calling g' mk As.toArray, t, U', L, hT, X', hL, e1, e2, hq, st⟩
  · dsimp only [Pt.U, Pt.locs, Pt.cells, Pt.slots] at X' e1 e2 h1 h2 h3 st hcl
    subst h1; subst h2; subst h3
    exact Or.inr ⟨q, (T.setVm vm₁).calling g' mk As.toArray, t, U', L, E, ce, hT, X', hL, e1, e2, hq, hce, hcv, vx_cls hW₁ hcl, st⟩
end
end VXH
theorem vx_ofWH {l : Launch} {y : MethodName} {ws ws' : List Cond} {rm : Room} {Pc : Array Value → State → Prop} {Qc : Array Value → State → Outcome → State → Prop} {XC : String → State → State → Prop} {mc ms : Nat} {free : Addr → Prop} {cc : ByteArray} {maxL : Nat} {ret : Option FieldType} {hh : List (Nat × Nat × Nat × Nat)}
    (hy : plainName y.cls = true) (hw : ws = Cond.codeWith y cc maxL ret hh :: ws')
    (body : ∀ p e s m args below meth c s₁, BodyLoose p l y (headSpec ws rm) cc maxL ret e s m args below meth c s₁ → c.maxLocals = maxL → Pc args s →
      W p l e (headSpec ws rm).room s m args below meth c s.heap [] 0 0 (vx_MQ below Qc XC args s mc ms free) (entryFrame m args maxL)) : vx_Met l y ws rm Pc Qc XC mc ms free := by
  refine MetFree.of_bodyS (code := cc) (maxLocals := maxL) (ret := ret) hy ?_ ?_
  · intro args s m h hn
    obtain ⟨m9, meth, c, hn9, h1, h2, h3, h4, -, h5, h6, -⟩ := Cond.codeWith_spec (atoms_spec (ws := ws) h _ (by rw [hw]; exact List.mem_cons_self))
    cases hn.symm.trans hn9
    exact ⟨meth, c, h1, h2, h3, h4, h5, h6⟩
  · intro p e s m args below meth c s₁ B hml hP _
    have hh0 : s₁.heap = s.heap := by rw [B.state]; rfl
    obtain ⟨t, a1, o, b1, b2, b3⟩ := body p e s m args below meth c s₁ B hml hP s₁ hh0 (Stand.of_body B)
    exact ⟨t, o, a1, b1, b2, b3⟩
/-! ===== END ===== -/
/-! ===== BEGIN a constructor that throws (launches without stack traces) ===== -/
section VXIA
variable {p : Program} {l : Launch} {e : Env} {R : Room} {s : State} {m : MethodId} {args : Array Value} {below : List Frame} {meth : Method} {c : Code} {T : State} {locs : List Loc} {cells slots : Nat}
theorem vx_callI (X : Stand p l e R s m args below meth c T locs cells slots) (hexec : p.tables.exec = Jvm.exec) {own : String} {index : Nat} {y : MethodName} {bytes : ByteArray} {maxL : Nat}
    (hown : s.vm.findClass own = some m.cls) (hy1 : y.name = "<init>") (hlink : (Cond.methodLink own index y).before args s = true) (hinst : (Cond.instanceMethod y).before args s = true)
    (hcode : (Cond.code y bytes maxL none).before args s = true) (hy : y.cls ≠ "java/lang/invoke/MethodHandle" ∧ y.cls ≠ "java/lang/invoke/VarHandle")
    {W9 : Nat} {Pre : Pt → Array Value → Prop} {Post : Pt → Array Value → Option Value → Pt → Prop} {PostX : Pt → Array Value → Addr → Pt → Prop} (hK : vx_Back l R p e below s args y 3 W9 Pre Post PostX)
    {g : JFrame} (hg : g.method = m) (hsize : g.locals.size = c.maxLocals) {a : Addr} {argsL rest : List Value} (hlen : ∀ sig, parseMethodDescriptor y.desc = some sig → argsL.length = sig.parameters.length)
    (hstack : g.stack = argsL.reverse ++ .ref a :: rest) (hW : 2 * g.monitorRoom + (rest.map fun v => v.category).sum ≤ W9) (hdg : decode c.code g.pc = .ok (.invokespecial index, 3))
    (hpre : ∀ vm₁, s.WarmedH vm₁ → Pre ⟨T.setVm vm₁, locs, cells, slots⟩ (Value.ref a :: argsL).toArray) :
    (∃ (v : Option Value) (vm₁ : Vm) (B : Pt), s.WarmedH vm₁ ∧ Stand p l e R s m args below meth c B.U B.locs B.cells B.slots ∧ Post ⟨T.setVm vm₁, locs, cells, slots⟩ (Value.ref a :: argsL).toArray v B ∧
      ∀ target, Steps p.tables e below (B.U.setTop { g with pc := g.pc + 3, stack := v.toList ++ rest }) target → Steps p.tables e below (T.setTop g) target) ∨
    (∃ (q : Addr) (vm₁ : Vm) (B : Pt), s.WarmedH vm₁ ∧ Stand p l e R s m args below meth c B.U B.locs B.cells B.slots ∧ PostX ⟨T.setVm vm₁, locs, cells, slots⟩ (Value.ref a :: argsL).toArray q B ∧
      Steps p.tables e below (T.setTop g) ((B.U.setTop { g with stack := rest }).pushFrame (.throwing q))) := by
  subst hg
  have hpl : e.platform.magicAccessors = ({} : Platform).magicAccessors := by rw [X.admits.platform]
  obtain ⟨mk, methM, cM, kP, vm₁, hnamed, hmethM, hcodeM, -, hlocalsM, -, hkP, -, hW₁, hstep₁⟩ := Steps.initColdArgs (e := e) X.here hexec X.warmed hpl hown hy1 hy hlink hinst hcode (f := g) rfl hlen hstack hdg
  have X₁ := X.noted hW₁
  rcases hK g.method meth c ⟨T.setVm vm₁, locs, cells, slots⟩ { g with stack := rest } (.invokespecial index) mk (Value.ref a :: argsL).toArray X₁ rfl hsize hdg hW (X₁.named hnamed) (hpre vm₁ X₁.warmed) with ⟨v, B, X', hpost, hsteps⟩ | ⟨q, B, X', hpost, hsteps⟩
  · exact Or.inl ⟨v, vm₁, B, X₁.warmed, X', hpost, fun target h => hstep₁ _ fun acts => by rw [doInvoke_state]; exact hsteps.trans h⟩
  · exact Or.inr ⟨q, vm₁, B, X₁.warmed, X', hpost, hstep₁ _ fun acts => by rw [doInvoke_state]; exact hsteps⟩
end VXIA
section VXIB
variable {p : Program} {l : Launch} {e : Env} {R : Room} {s : State} {m : MethodId} {args : Array Value} {below : List Frame} {meth : Method} {c : Code} {H : Heap} {locs : List Loc} {cells slots : Nat}
variable {y : MethodName} {bytes cc : ByteArray} {maxL nL mc ms n index : Nat} {ret : Option FieldType} {ws : List Cond} {rm : Room} {Pc : Array Value → State → Prop} {Qc : Array Value → State → Outcome → State → Prop} {XC : String → State → State → Prop} {free : Addr → Prop} {Ts : List Cond} {own C : String} {b : Addr} {As rest : List Value} {g : JFrame}
theorem vx_runI (S : CallFix p m c cc nL s args Ts own) (hM : vx_Met l y ws rm Pc Qc XC mc ms free) (cw : CallB R s args own index y bytes maxL none ws rm mc ms n ∧ y.name = "<init>" ∧ (Cond.instanceMethod y).before args s = true) (hp : PreS s H Pc (.ref b :: As))
    (hg : g.method = m) (hn : As.length = n) (hsize : g.locals.size = nL) (hstack : g.stack = As.reverse ++ .ref b :: rest) (hW : 2 * g.monitorRoom + (rest.map fun v => v.category).sum ≤ 8) (hdg : decode cc g.pc = .ok (.invokespecial index, 3)) (hf : cells + mc ≤ R.cells ∧ slots + ms ≤ R.slots) :
    vx_Run p l e R s m args below meth c H locs cells slots mc ms g rest (Qc (Value.ref b :: As).toArray) XC free := by
  have hK : vx_Back l R p e below s args y 3 8 (PreOf R mc ms Pc) (PostOf Qc mc ms free) (vx_Post XC mc ms free) := vx_callBack cw.1 hM hp.1
  obtain ⟨⟨-, -, -, -, -, -, hcode, -, hy, hlen, hl⟩, hy1, hin⟩ := cw
  obtain ⟨hx, hb, hml, ho, -⟩ := S
  have hPc := hp.2
  intro T hT X
  rcases vx_callI X hx (bytes := bytes) (maxL := maxL) ho hy1 hl hin hcode hy hK hg (hsize.trans hml.symm) (a := b) (argsL := As) (rest := rest) (fun sig h => hn.trans (hlen sig h)) hstack hW (by rw [hb]; exact hdg)
    (fun vm₁ hW₁ => ⟨hf.1, hf.2, hPc (T.setVm vm₁) hT hW₁⟩) with ⟨v, vm₁, ⟨U', l2, c2, s2⟩, hW₁, X', ⟨g', mk, t, L, e1, e2, hq, h1, hL, h2, h3⟩, st⟩ | ⟨q, vm₁, ⟨U', l2, c2, s2⟩, hW₁, X', ⟨g', mk, t, L, E, ce, e1, e2, hq, hce, hcv, hcl, h1, hL, h2, h3⟩, st⟩
  · dsimp only [Pt.U, Pt.locs, Pt.cells, Pt.slots] at X' e1 e2 h1 h2 h3 st
    subst h1; subst h2; subst h3
    exact Or.inl ⟨v, (T.setVm vm₁).calling g' mk (Value.ref b :: As).toArray, t, U', L, hT, X', hL, e1, e2, hq, st⟩
  · dsimp only [Pt.U, Pt.locs, Pt.cells, Pt.slots] at X' e1 e2 h1 h2 h3 st hcl
    subst h1; subst h2; subst h3
    exact Or.inr ⟨q, (T.setVm vm₁).calling g' mk (Value.ref b :: As).toArray, t, U', L, E, ce, hT, X', hL, e1, e2, hq, hce, hcv, vx_cls hW₁ hcl, st⟩
end VXIB
/-! ===== END ===== -/
/-! ===== BEGIN a private constructor of a nest mate that throws ===== -/
section VXIC
variable {p : Program} {l : Launch} {e : Env} {R : Room} {s : State} {m : MethodId} {args : Array Value} {below : List Frame} {meth : Method} {c : Code} {T : State} {locs : List Loc} {cells slots : Nat}
theorem vx_callIN (X : Stand p l e R s m args below meth c T locs cells slots) (hexec : p.tables.exec = Jvm.exec) {own : String} {index : Nat} {host : String} {y : MethodName} {bytes : ByteArray} {maxL : Nat}
    (hown : s.vm.findClass own = some m.cls) (hy1 : y.name = "<init>") (hlink : (Cond.methodLinkNest own index y host).before args s = true) (hinst : (Cond.instanceMethod y).before args s = true)
    (hcode : (Cond.code y bytes maxL none).before args s = true) (hy : y.cls ≠ "java/lang/invoke/MethodHandle" ∧ y.cls ≠ "java/lang/invoke/VarHandle")
    {W9 : Nat} {Pre : Pt → Array Value → Prop} {Post : Pt → Array Value → Option Value → Pt → Prop} {PostX : Pt → Array Value → Addr → Pt → Prop} (hK : vx_Back l R p e below s args y 3 W9 Pre Post PostX)
    {g : JFrame} (hg : g.method = m) (hsize : g.locals.size = c.maxLocals) {a : Addr} {argsL rest : List Value} (hlen : ∀ sig, parseMethodDescriptor y.desc = some sig → argsL.length = sig.parameters.length)
    (hstack : g.stack = argsL.reverse ++ .ref a :: rest) (hW : 2 * g.monitorRoom + (rest.map fun v => v.category).sum ≤ W9) (hdg : decode c.code g.pc = .ok (.invokespecial index, 3))
    (hpre : ∀ vm₁, s.WarmedH vm₁ → Pre ⟨T.setVm vm₁, locs, cells, slots⟩ (Value.ref a :: argsL).toArray) :
    (∃ (v : Option Value) (vm₁ : Vm) (B : Pt), s.WarmedH vm₁ ∧ Stand p l e R s m args below meth c B.U B.locs B.cells B.slots ∧ Post ⟨T.setVm vm₁, locs, cells, slots⟩ (Value.ref a :: argsL).toArray v B ∧
      ∀ target, Steps p.tables e below (B.U.setTop { g with pc := g.pc + 3, stack := v.toList ++ rest }) target → Steps p.tables e below (T.setTop g) target) ∨
    (∃ (q : Addr) (vm₁ : Vm) (B : Pt), s.WarmedH vm₁ ∧ Stand p l e R s m args below meth c B.U B.locs B.cells B.slots ∧ PostX ⟨T.setVm vm₁, locs, cells, slots⟩ (Value.ref a :: argsL).toArray q B ∧
      Steps p.tables e below (T.setTop g) ((B.U.setTop { g with stack := rest }).pushFrame (.throwing q))) := by
  subst hg
  have hpl : e.platform.magicAccessors = ({} : Platform).magicAccessors := by rw [X.admits.platform]
  obtain ⟨mk, methM, cM, kP, vm₁, hnamed, hmethM, hcodeM, -, hlocalsM, -, hkP, -, hW₁, hstep₁⟩ := Steps.initColdArgsNest (e := e) X.here hexec X.warmed hpl hown hy1 hy hlink hinst hcode (f := g) rfl hlen hstack hdg
  have X₁ := X.noted hW₁
  rcases hK g.method meth c ⟨T.setVm vm₁, locs, cells, slots⟩ { g with stack := rest } (.invokespecial index) mk (Value.ref a :: argsL).toArray X₁ rfl hsize hdg hW (X₁.named hnamed) (hpre vm₁ X₁.warmed) with ⟨v, B, X', hpost, hsteps⟩ | ⟨q, B, X', hpost, hsteps⟩
  · exact Or.inl ⟨v, vm₁, B, X₁.warmed, X', hpost, fun target h => hstep₁ _ fun acts => by rw [doInvoke_state]; exact hsteps.trans h⟩
  · exact Or.inr ⟨q, vm₁, B, X₁.warmed, X', hpost, hstep₁ _ fun acts => by rw [doInvoke_state]; exact hsteps⟩
end VXIC
section VXID
variable {p : Program} {l : Launch} {e : Env} {R : Room} {s : State} {m : MethodId} {args : Array Value} {below : List Frame} {meth : Method} {c : Code} {H : Heap} {locs : List Loc} {cells slots : Nat}
theorem vx_runIN {y : MethodName} {bytes cc : ByteArray} {maxL nL mc ms n index : Nat} {ws : List Cond} {rm : Room} {Pc : Array Value → State → Prop} {Qc : Array Value → State → Outcome → State → Prop} {XC : String → State → State → Prop} {free : Addr → Prop} {Ts : List Cond} {own host : String} {b : Addr} {As rest : List Value} {g : JFrame}
    (S : CallFix p m c cc nL s args Ts own) (hM : vx_Met l y ws rm Pc Qc XC mc ms free) (cw : va_CN R s args own index y host bytes maxL none ws rm mc ms n ∧ y.name = "<init>" ∧ (Cond.instanceMethod y).before args s = true) (hp : PreS s H Pc (.ref b :: As))
    (hg : g.method = m) (hn : As.length = n) (hsize : g.locals.size = nL) (hstack : g.stack = As.reverse ++ .ref b :: rest) (hW : 2 * g.monitorRoom + (rest.map fun v => v.category).sum ≤ 8) (hdg : decode cc g.pc = .ok (.invokespecial index, 3)) (hf : cells + mc ≤ R.cells ∧ slots + ms ≤ R.slots) :
    vx_Run p l e R s m args below meth c H locs cells slots mc ms g rest (Qc (Value.ref b :: As).toArray) XC free := by
  obtain ⟨⟨⟨hrc, hrs, hfr, hlo, hws, hcw⟩, hcode, hini, hy, hlen, hl⟩, hx1, hx2⟩ := cw
  have hK : vx_Back l R p e below s args y 3 8 (PreOf R mc ms Pc) (PostOf Qc mc ms free) (vx_Post XC mc ms free) := vx_back (bytes := bytes) (maxL := maxL) (ret := none) hM hp.1 hrc hrs hfr hlo hws hcw (fun a' U hW => word_at hW (Or.inl (by first | rfl | simp [Cond.onTables, Cond.keeps, Cond.steady])) hini)
  obtain ⟨hx, hb, hml, ho, -⟩ := S
  have hPc := hp.2
  intro T hT X
  rcases vx_callIN X hx (bytes := bytes) (maxL := maxL) ho hx1 hl hx2 hcode hy hK hg (hsize.trans hml.symm) (a := b) (argsL := As) (rest := rest) (fun sig h => hn.trans (hlen sig h)) hstack hW (by rw [hb]; exact hdg)
    (fun vm₁ hW₁ => ⟨hf.1, hf.2, hPc (T.setVm vm₁) hT hW₁⟩) with ⟨v, vm₁, ⟨U', l2, c2, s2⟩, hW₁, X', ⟨g', mk, t, L, e1, e2, hq, h1, hL, h2, h3⟩, st⟩ | ⟨q, vm₁, ⟨U', l2, c2, s2⟩, hW₁, X', ⟨g', mk, t, L, E, ce, e1, e2, hq, hce, hcv, hcl, h1, hL, h2, h3⟩, st⟩
  · dsimp only [Pt.U, Pt.locs, Pt.cells, Pt.slots] at X' e1 e2 h1 h2 h3 st
    subst h1; subst h2; subst h3
    exact Or.inl ⟨v, (T.setVm vm₁).calling g' mk (Value.ref b :: As).toArray, t, U', L, hT, X', hL, e1, e2, hq, st⟩
  · dsimp only [Pt.U, Pt.locs, Pt.cells, Pt.slots] at X' e1 e2 h1 h2 h3 st hcl
    subst h1; subst h2; subst h3
    exact Or.inr ⟨q, (T.setVm vm₁).calling g' mk (Value.ref b :: As).toArray, t, U', L, E, ce, hT, X', hL, e1, e2, hq, hce, hcv, vx_cls hW₁ hcl, st⟩
end VXID
/-! ===== END ===== -/
def RX0 : String := "Treebark$Disks"
def TX0 : u_T := fun k => match k with
  | 0 => ("Treebark$Disks", "extents", "[LTreebark$Extent;", true)
  | 1 => ("Treebark$Disks", "room", "[I", true)
  | 2 => ("Treebark$Disks", "many", "I", false)
  | 3 => ("Treebark$Disks", "madeAs", "I", false)
  | 4 => ("Treebark$Disks", "mends", "I", false)
  | _ => ("Treebark$Disks", "walks", "I", false)
def tyX0 : Nat → FieldType := fun k => match k with
  | 0 => .array (.object "Treebark$Extent")
  | 1 => .array .int
  | 2 => .int
  | 3 => .int
  | 4 => .int
  | _ => .int
theorem nmX0 : ∀ a, a < 6 → ∀ b, b < 6 → a ≠ b → (TX0 a).2.1 ≠ (TX0 b).2.1 := by decide +kernel
theorem tyX0_ok : ∀ k, k < 6 → parseFieldDescriptor (TX0 k).2.2.1 = some (tyX0 k) := by decide +kernel
def RX1 : String := "Treebark$Extent"
def TX1 : u_T := fun k => match k with
  | 0 => ("Treebark$Extent", "cells", "[I", true)
  | 1 => ("Treebark$Extent", "blocks", "I", false)
  | 2 => ("Treebark$Extent", "copies", "I", false)
  | 3 => ("Treebark$Extent", "bad", "I", false)
  | 4 => ("Treebark$Extent", "uses", "I", false)
  | 5 => ("Treebark$Extent", "seenHere", "I", false)
  | _ => ("Treebark$Extent", "seenElsewhere", "I", false)
def tyX1 : Nat → FieldType := fun k => match k with
  | 0 => .array .int
  | 1 => .int
  | 2 => .int
  | 3 => .int
  | 4 => .int
  | 5 => .int
  | _ => .int
theorem nmX1 : ∀ a, a < 7 → ∀ b, b < 7 → a ≠ b → (TX1 a).2.1 ≠ (TX1 b).2.1 := by decide +kernel
theorem tyX1_ok : ∀ k, k < 7 → parseFieldDescriptor (TX1 k).2.2.1 = some (tyX1 k) := by decide +kernel
def RX2 : String := "Treebark$Logged"
def TX2 : u_T := fun k => match k with
  | 0 => ("Treebark$Logged", "tree", "I", true)
  | 1 => ("Treebark$Logged", "number", "I", true)
  | 2 => ("Treebark$Logged", "names", "I", true)
  | _ => ("Treebark$Logged", "places", "LTreebark$Places;", true)
def tyX2 : Nat → FieldType := fun k => match k with
  | 0 => .int
  | 1 => .int
  | 2 => .int
  | _ => .object "Treebark$Places"
theorem nmX2 : ∀ a, a < 4 → ∀ b, b < 4 → a ≠ b → (TX2 a).2.1 ≠ (TX2 b).2.1 := by decide +kernel
theorem tyX2_ok : ∀ k, k < 4 → parseFieldDescriptor (TX2 k).2.2.1 = some (tyX2 k) := by decide +kernel
def RX3 : String := "Treebark$Node"
def TX3 : u_T := fun k => match k with
  | 0 => ("Treebark$Node", "number", "I", true)
  | 1 => ("Treebark$Node", "places", "LTreebark$Places;", true)
  | _ => ("Treebark$Node", "roots", "I", false)
def tyX3 : Nat → FieldType := fun k => match k with
  | 0 => .int
  | 1 => .object "Treebark$Places"
  | _ => .int
theorem nmX3 : ∀ a, a < 3 → ∀ b, b < 3 → a ≠ b → (TX3 a).2.1 ≠ (TX3 b).2.1 := by decide +kernel
theorem tyX3_ok : ∀ k, k < 3 → parseFieldDescriptor (TX3 k).2.2.1 = some (tyX3 k) := by decide +kernel
def RX4 : String := "Treebark$Places"
def TX4 : u_T := fun k => match k with
  | 0 => ("Treebark$Places", "extents", "[LTreebark$Extent;", true)
  | _ => ("Treebark$Places", "cells", "[I", true)
def tyX4 : Nat → FieldType := fun k => match k with
  | 0 => .array (.object "Treebark$Extent")
  | _ => .array .int
theorem nmX4 : ∀ a, a < 2 → ∀ b, b < 2 → a ≠ b → (TX4 a).2.1 ≠ (TX4 b).2.1 := by decide +kernel
theorem tyX4_ok : ∀ k, k < 2 → parseFieldDescriptor (TX4 k).2.2.1 = some (tyX4 k) := by decide +kernel
def RX5 : String := "Treebark$Root"
def TX5 : u_T := fun k => match k with
  | 0 => ("Treebark$Root", "nodes", "[LTreebark$Node;", true)
  | _ => ("Treebark$Root", "trees", "I", false)
def tyX5 : Nat → FieldType := fun k => match k with
  | 0 => .array (.object "Treebark$Node")
  | _ => .int
theorem nmX5 : ∀ a, a < 2 → ∀ b, b < 2 → a ≠ b → (TX5 a).2.1 ≠ (TX5 b).2.1 := by decide +kernel
theorem tyX5_ok : ∀ k, k < 2 → parseFieldDescriptor (TX5 k).2.2.1 = some (tyX5 k) := by decide +kernel
def RX6 : String := "Treebark$Stream"
def TX6 : u_T := fun k => match k with
  | 0 => ("Treebark$Stream", "fileOf", "[I", true)
  | 1 => ("Treebark$Stream", "lowest", "[I", true)
  | 2 => ("Treebark$Stream", "rows", "[[I", true)
  | 3 => ("Treebark$Stream", "many", "I", false)
  | _ => ("Treebark$Stream", "isTold", "Z", false)
def tyX6 : Nat → FieldType := fun k => match k with
  | 0 => .array .int
  | 1 => .array .int
  | 2 => .array (.array .int)
  | 3 => .int
  | _ => .boolean
theorem nmX6 : ∀ a, a < 5 → ∀ b, b < 5 → a ≠ b → (TX6 a).2.1 ≠ (TX6 b).2.1 := by decide +kernel
theorem tyX6_ok : ∀ k, k < 5 → parseFieldDescriptor (TX6 k).2.2.1 = some (tyX6 k) := by decide +kernel
def RX7 : String := "Treebark$Tree"
def TX7 : u_T := fun k => match k with
  | 0 => ("Treebark$Tree", "root", "LTreebark$Root;", false)
  | 1 => ("Treebark$Tree", "isSnapshot", "Z", false)
  | 2 => ("Treebark$Tree", "refersLimit", "I", false)
  | _ => ("Treebark$Tree", "ownLimit", "I", false)
def tyX7 : Nat → FieldType := fun k => match k with
  | 0 => .object "Treebark$Root"
  | 1 => .boolean
  | 2 => .int
  | _ => .int
theorem nmX7 : ∀ a, a < 4 → ∀ b, b < 4 → a ≠ b → (TX7 a).2.1 ≠ (TX7 b).2.1 := by decide +kernel
theorem tyX7_ok : ∀ k, k < 4 → parseFieldDescriptor (TX7 k).2.2.1 = some (tyX7 k) := by decide +kernel
def RX8 : String := "Treebark$Weight"
def TX8 : u_T := fun k => match k with
  | 0 => ("Treebark$Weight", "refers", "I", false)
  | _ => ("Treebark$Weight", "own", "I", false)
def tyX8 : Nat → FieldType := fun k => match k with
  | 0 => .int
  | _ => .int
theorem nmX8 : ∀ a, a < 2 → ∀ b, b < 2 → a ≠ b → (TX8 a).2.1 ≠ (TX8 b).2.1 := by decide +kernel
theorem tyX8_ok : ∀ k, k < 2 → parseFieldDescriptor (TX8 k).2.2.1 = some (tyX8 k) := by decide +kernel
def RX9 : String := "Treebark"
def TX9 : u_T := fun k => match k with
  | 0 => ("Treebark", "disks", "LTreebark$Disks;", true)
  | 1 => ("Treebark", "trees", "[LTreebark$Tree;", true)
  | 2 => ("Treebark", "committed", "[LTreebark$Tree;", true)
  | 3 => ("Treebark", "logged", "[LTreebark$Logged;", true)
  | 4 => ("Treebark", "manyLogged", "I", false)
  | 5 => ("Treebark", "sent", "LTreebark$Stream;", false)
  | 6 => ("Treebark", "spare", "LTreebark$Stream;", false)
  | 7 => ("Treebark", "filesMade", "I", false)
  | 8 => ("Treebark", "copies", "I", false)
  | 9 => ("Treebark", "next", "LTreebark$Places;", true)
  | 10 => ("Treebark", "row", "[I", true)
  | 11 => ("Treebark", "ahead", "LTreebark$Weight;", true)
  | _ => ("Treebark", "behind", "LTreebark$Weight;", true)
def tyX9 : Nat → FieldType := fun k => match k with
  | 0 => .object "Treebark$Disks"
  | 1 => .array (.object "Treebark$Tree")
  | 2 => .array (.object "Treebark$Tree")
  | 3 => .array (.object "Treebark$Logged")
  | 4 => .int
  | 5 => .object "Treebark$Stream"
  | 6 => .object "Treebark$Stream"
  | 7 => .int
  | 8 => .int
  | 9 => .object "Treebark$Places"
  | 10 => .array .int
  | 11 => .object "Treebark$Weight"
  | _ => .object "Treebark$Weight"
theorem nmX9 : ∀ a, a < 13 → ∀ b, b < 13 → a ≠ b → (TX9 a).2.1 ≠ (TX9 b).2.1 := by decide +kernel
theorem tyX9_ok : ∀ k, k < 13 → parseFieldDescriptor (TX9 k).2.2.1 = some (tyX9 k) := by decide +kernel
def RX10 : String := "TreebarkModel"
def TX10 : u_T := fun k => match k with
  | 0 => ("TreebarkModel", "xc", "[I", true)
  | 1 => ("TreebarkModel", "xn", "[I", true)
  | 2 => ("TreebarkModel", "xd", "[I", true)
  | 3 => ("TreebarkModel", "xb", "[I", true)
  | 4 => ("TreebarkModel", "xm", "[I", true)
  | 5 => ("TreebarkModel", "made", "I", false)
  | 6 => ("TreebarkModel", "nf", "[I", true)
  | 7 => ("TreebarkModel", "np", "[I", true)
  | 8 => ("TreebarkModel", "files", "I", false)
  | 9 => ("TreebarkModel", "rn", "[I", true)
  | 10 => ("TreebarkModel", "tr", "[I", true)
  | 11 => ("TreebarkModel", "ts", "[I", true)
  | 12 => ("TreebarkModel", "ta", "[I", true)
  | 13 => ("TreebarkModel", "tb", "[I", true)
  | 14 => ("TreebarkModel", "lt", "[I", true)
  | 15 => ("TreebarkModel", "lf", "[I", true)
  | 16 => ("TreebarkModel", "ln", "[I", true)
  | 17 => ("TreebarkModel", "lp", "[I", true)
  | 18 => ("TreebarkModel", "logged", "I", false)
  | 19 => ("TreebarkModel", "isSent", "Z", false)
  | 20 => ("TreebarkModel", "sn", "[I", true)
  | 21 => ("TreebarkModel", "sl", "[I", true)
  | 22 => ("TreebarkModel", "sp", "[I", true)
  | 23 => ("TreebarkModel", "sent", "I", false)
  | 24 => ("TreebarkModel", "profile", "I", false)
  | 25 => ("TreebarkModel", "copies", "I", false)
  | 26 => ("TreebarkModel", "mends", "I", false)
  | 27 => ("TreebarkModel", "used", "[I", true)
  | 28 => ("TreebarkModel", "mark", "[I", true)
  | 29 => ("TreebarkModel", "line", "[I", true)
  | 30 => ("TreebarkModel", "thrown", "I", false)
  | 31 => ("TreebarkModel", "plan", "[I", true)
  | 32 => ("TreebarkModel", "others", "[I", true)
  | 33 => ("TreebarkModel", "values", "[I", true)
  | 34 => ("TreebarkModel", "fresh", "[I", true)
  | _ => ("TreebarkModel", "target", "[I", true)
def tyX10 : Nat → FieldType := fun k => match k with
  | 0 => .array .int
  | 1 => .array .int
  | 2 => .array .int
  | 3 => .array .int
  | 4 => .array .int
  | 5 => .int
  | 6 => .array .int
  | 7 => .array .int
  | 8 => .int
  | 9 => .array .int
  | 10 => .array .int
  | 11 => .array .int
  | 12 => .array .int
  | 13 => .array .int
  | 14 => .array .int
  | 15 => .array .int
  | 16 => .array .int
  | 17 => .array .int
  | 18 => .int
  | 19 => .boolean
  | 20 => .array .int
  | 21 => .array .int
  | 22 => .array .int
  | 23 => .int
  | 24 => .int
  | 25 => .int
  | 26 => .int
  | 27 => .array .int
  | 28 => .array .int
  | 29 => .array .int
  | 30 => .int
  | 31 => .array .int
  | 32 => .array .int
  | 33 => .array .int
  | 34 => .array .int
  | _ => .array .int
theorem nmX10 : ∀ a, a < 36 → ∀ b, b < 36 → a ≠ b → (TX10 a).2.1 ≠ (TX10 b).2.1 := by decide +kernel
theorem tyX10_ok : ∀ k, k < 36 → parseFieldDescriptor (TX10 k).2.2.1 = some (tyX10 k) := by decide +kernel
abbrev vwCl : List vw_C := [(RX0, TX0, 6), (RX1, TX1, 7), (RX2, TX2, 4), (RX3, TX3, 3), (RX4, TX4, 2), (RX5, TX5, 2), (RX6, TX6, 5), (RX7, TX7, 4), (RX8, TX8, 2), (RX9, TX9, 13), (RX10, TX10, 36)]
end
section
/-! THE EVALUATOR: the bytecode over an abstract heap; ints are linear forms over the script's ints -/
abbrev qT : Type := List (Nat × Nat)
abbrev qI : Type := Nat × qT
abbrev qV : Type := qI ⊕ (Option Nat ⊕ Nat)
abbrev qA : Type := Nat × (List qI ⊕ (List Nat ⊕ List (Option Nat)))
abbrev qC : Type := qA ⊕ (Nat × List qV)
abbrev qHp : Type := Bool × List qC
abbrev qRow : Type := Nat × Nat × Nat × Nat × Nat × Instr × Nat
abbrev qHd : Type := Nat × Nat × Nat × Nat
abbrev qM : Type := Nat × List qRow × List qHd
abbrev qRes : Type := (Option qV × qHp × Nat × Nat) ⊕ ((Nat × qHp × Nat × Nat) ⊕ Option (qT × Nat))
abbrev qEnv : Type := List (qT × Nat × Nat)
abbrev qL : Type := List (Option qV)
abbrev qKk : Type := List qRow → qL → List qV → qHp → qRes
abbrev qIh : Type := Nat → List qRow → List qHd → qKk
abbrev qOp : Type := List qM → qEnv → qIh → qKk → Nat → List qRow → List qHd → Nat → Nat → Nat → Nat → qKk
noncomputable def q_no : qRes := .inr (.inr none)
noncomputable def q_sp (t : qT) (u : Nat) : qRes := .inr (.inr (some (t, u)))
noncomputable def q_nth {α : Type} (l : List α) : Nat → Option α := List.rec (motive := fun _ => Nat → Option α) (fun _ => none) (fun x _ ih n => Nat.rec (motive := fun _ => Option α) (some x) (fun m _ => ih m) n) l
noncomputable def q_drop {α : Type} (l : List α) : Nat → List α := List.rec (motive := fun _ => Nat → List α) (fun _ => []) (fun x t ih n => Nat.rec (motive := fun _ => List α) (x :: t) (fun m _ => ih m) n) l
noncomputable def q_set {α : Type} (l : List α) : Nat → α → List α := List.rec (motive := fun _ => Nat → α → List α) (fun _ _ => []) (fun x t ih n v => Nat.rec (motive := fun _ => List α) (v :: t) (fun m _ => x :: ih m v) n) l
/-- a number, worked out before it is handed on -/
noncomputable def q_fz {α : Type} (x : Nat) (f : Nat → α) : α := Nat.rec (motive := fun _ => α) (f 0) (fun n _ => f (Nat.succ n)) x
/-- is there a place n -/
noncomputable def q_has {α : Type} (l : List α) (n : Nat) : Bool := match q_nth l n with
  | some _ => true
  | none => false
noncomputable def q_ln {α : Type} (l : List α) : Nat := List.rec (motive := fun _ => Nat → Nat) (fun a => a) (fun _ _ ih a => q_fz (Nat.succ a) ih) l 0
noncomputable def q_teq : qT → qT → Bool
  | [], [] => true
  | [], _ :: _ => false
  | _ :: _, [] => false
  | x :: a, y :: b => Nat.beq x.1 y.1 && (Nat.beq x.2 y.2 && q_teq a b)
noncomputable def q_neg (t : qT) : qT := t.map (fun x => (x.1, (4294967296 - x.2 % 4294967296) % 4294967296))
noncomputable def q_scale (k : Nat) (t : qT) : qT := t.map (fun x => (x.1, x.2 * k % 4294967296))
noncomputable def q_find (t : qT) (E : qEnv) : Option (Nat × Nat) := List.rec (motive := fun _ => Option (Nat × Nat)) none (fun x _ ih => match q_teq t x.1 with
  | true => some x.2
  | false => ih) E
noncomputable def q_er (t : qT) (E : qEnv) : qEnv := List.rec (motive := fun _ => qEnv) [] (fun x _ ih => match q_teq t x.1 with
  | true => ih
  | false => x :: ih) E
noncomputable def q_base (E : qEnv) (t : qT) : Nat × Nat := match q_find t E with
  | some r => r
  | none => match q_find (q_neg t) E with
    | some r => match Nat.ble 1 r.1 with
      | true => (4294967296 - r.2, 4294967296 - r.1)
      | false => (0, 4294967295)
    | none => (0, 4294967295)
noncomputable def q_sh (r : Nat × Nat) (c : Nat) : Nat × Nat := match Nat.beq ((r.1 + c) / 4294967296) ((r.2 + c) / 4294967296) with
  | true => ((r.1 + c) % 4294967296, (r.2 + c) % 4294967296)
  | false => (0, 4294967295)
/-- an int's interval, biased by 2 ^ 31 -/
noncomputable def q_iv (E : qEnv) (x : qI) : Nat × Nat := match x.2 with
  | [] => ((x.1 + 2147483648) % 4294967296, (x.1 + 2147483648) % 4294967296)
  | _ :: _ => q_sh (q_base E x.2) x.1
noncomputable def q_ask (E : qEnv) (x : qI) (u : Nat) : qRes := match x.2 with
  | [] => q_no
  | _ :: _ => match q_find x.2 E with
    | some _ => q_sp x.2 ((u + (4294967296 - x.1 % 4294967296)) % 4294967296)
    | none => match q_find (q_neg x.2) E with
      | some _ => q_sp (q_neg x.2) ((4294967296 - (u + (4294967296 - x.1 % 4294967296)) % 4294967296 + 1) % 4294967296)
      | none => q_sp x.2 ((u + (4294967296 - x.1 % 4294967296)) % 4294967296)
noncomputable def q_lt (p q : Nat × Nat) : Option Bool := match Nat.blt p.2 q.1 with
  | true => some true
  | false => match Nat.ble q.2 p.1 with
    | true => some false
    | false => none
noncomputable def q_eq (p q : Nat × Nat) : Option Bool := match Nat.beq p.1 p.2 && (Nat.beq q.1 q.2 && Nat.beq p.1 q.1) with
  | true => some true
  | false => match Nat.blt p.2 q.1 || Nat.blt q.2 p.1 with
    | true => some false
    | false => none
noncomputable def q_not : Option Bool → Option Bool
  | some true => some false
  | some false => some true
  | none => none
/-- 0 eq, 1 ne, 2 lt, 3 ge, 4 gt, 5 le -/
noncomputable def q_cc (cc : Nat) (p q : Nat × Nat) : Option Bool := match cc with
  | 0 => q_eq p q
  | 1 => q_not (q_eq p q)
  | 2 => q_lt p q
  | 3 => q_not (q_lt p q)
  | 4 => q_lt q p
  | 5 => q_not (q_lt q p)
  | _ => none
/-- which cut settles x < y -/
noncomputable def q_askl (E : qEnv) (x y : qI) : qRes := match Nat.beq (q_iv E y).1 (q_iv E y).2 with
  | true => q_ask E x (q_iv E y).1
  | false => match Nat.beq (q_iv E x).1 (q_iv E x).2 with
    | true => q_ask E y ((q_iv E x).1 + 1)
    | false => q_no
/-- which cut settles x = y -/
noncomputable def q_aske (E : qEnv) (x y : qI) : qRes := match Nat.beq (q_iv E y).1 (q_iv E y).2 with
  | true => match Nat.blt (q_iv E x).1 (q_iv E y).1 with
    | true => q_ask E x (q_iv E y).1
    | false => q_ask E x ((q_iv E y).1 + 1)
  | false => match Nat.beq (q_iv E x).1 (q_iv E x).2 with
    | true => match Nat.blt (q_iv E y).1 (q_iv E x).1 with
      | true => q_ask E y (q_iv E x).1
      | false => q_ask E y ((q_iv E x).1 + 1)
    | false => q_no
noncomputable def q_askc (E : qEnv) (cc : Nat) (x y : qI) : qRes := match cc with
  | 0 => q_aske E x y
  | 1 => q_aske E x y
  | 2 => q_askl E x y
  | 3 => q_askl E x y
  | _ => q_askl E y x
noncomputable def q_nar (E : qEnv) (x : qI) : Bool := match x.2 with
  | [] => false
  | _ :: _ => Nat.ble ((q_iv E x).2 - (q_iv E x).1) 16
noncomputable def q_add1 (dc ds : Nat) : qRes → qRes
  | .inl (v, h, mc, ms) => .inl (v, h, dc + mc, ds + ms)
  | .inr (.inl (X, h, mc, ms)) => .inr (.inl (X, h, dc + mc, ds + ms))
  | .inr (.inr x) => .inr (.inr x)
noncomputable def q_add (dc ds : Nat) (r : qRes) : qRes := match dc with
  | 0 => match ds with
    | 0 => r
    | _ + 1 => q_add1 dc ds r
  | _ + 1 => q_add1 dc ds r
noncomputable def q_lng : qV → Bool
  | .inl _ => false
  | .inr (.inl _) => false
  | .inr (.inr _) => true
noncomputable def q_cat : List qV → Nat
  | [] => 0
  | v :: S => (match q_lng v with | true => 2 | false => 1) + q_cat S
noncomputable def q_sv (E : qEnv) (i : Nat) : qI := match q_find [(i, 1)] E with
  | some r => match Nat.beq r.1 r.2 with
    | true => ((r.1 + 2147483648) % 4294967296, [])
    | false => (0, [(i, 1)])
  | none => (0, [(i, 1)])
noncomputable def q_svk {α : Type} (E : qEnv) (i : Nat) (f : qI → α) : α := match q_find [(i, 1)] E with
  | some r => match Nat.beq r.1 r.2 with
    | true => q_fz ((r.1 + 2147483648) % 4294967296) fun c => f (c, [])
    | false => f (0, [(i, 1)])
  | none => f (0, [(i, 1)])
noncomputable def q_ix (E : qEnv) (x : qI) : Option (Nat × Nat) := match Nat.ble 2147483648 (q_iv E x).1 with
  | true => some ((q_iv E x).1 - 2147483648, (q_iv E x).2 - 2147483648)
  | false => none
noncomputable def q_all {α : Type} (p : α → Bool) (n : Nat) (l : List α) : Bool := List.rec (motive := fun _ => Nat → Bool) (fun n => Nat.rec (motive := fun _ => Bool) true (fun _ _ => false) n) (fun x _ ih n => Nat.rec (motive := fun _ => Bool) true (fun m _ => p x && ih m) n) l n
noncomputable def q_ieq (x y : qI) : Bool := Nat.beq x.1 y.1 && q_teq x.2 y.2
noncomputable def q_oeq : Option Nat → Option Nat → Bool
  | none, none => true
  | some i, some j => Nat.beq i j
  | none, some _ => false
  | some _, none => false
/-- the one element at all places l to u; none none: not all alike -/
noncomputable def q_rd {α : Type} (eq : α → α → Bool) (xs : List α) (l u : Nat) : Option (Option α) := match q_drop xs l with
  | [] => none
  | v :: r => match Nat.beq l u with
    | true => some (some v)
    | false => match q_nth xs u with
      | none => none
      | some _ => match q_all (eq v) (u - l) r with
        | true => some (some v)
        | false => some none
-- ===== the ops =====
noncomputable def qo_const : qOp := fun _ _ _ kk _ _ _ _ a _ _ K L S h => kk K L (.inl (a, []) :: S) h
noncomputable def qo_iload : qOp := fun _ _ _ kk _ _ _ _ a _ _ K L S h => match q_nth L a with
  | some (some (.inl x)) => kk K L (.inl x :: S) h
  | _ => q_no
noncomputable def qo_aload : qOp := fun _ _ _ kk _ _ _ _ a _ _ K L S h => match q_nth L a with
  | some (some (.inr (.inl r))) => kk K L (.inr (.inl r) :: S) h
  | _ => q_no
noncomputable def qo_istore : qOp := fun _ _ _ kk _ _ _ _ a _ _ K L S h => match S with
  | .inl x :: S' => kk K (q_set L a (some (.inl x))) S' h
  | _ => q_no
noncomputable def qo_astore : qOp := fun _ _ _ kk _ _ _ _ a _ _ K L S h => match S with
  | .inr (.inl r) :: S' => kk K (q_set L a (some (.inr (.inl r)))) S' h
  | _ => q_no
noncomputable def qo_iinc : qOp := fun _ _ _ kk _ _ _ _ a b _ K L S h => match q_nth L a with
  | some (some (.inl x)) => q_fz ((x.1 + b) % 4294967296) fun z => kk K (q_set L a (some (.inl (z, x.2)))) S h
  | _ => q_no
noncomputable def q_isc : qT → Bool
  | [] => true
  | _ :: _ => false
noncomputable def qo_add : qOp := fun _ E _ kk _ _ _ _ _ _ _ K L S h => match S with
  | .inl y :: .inl x :: S' => match q_isc x.2 || q_isc y.2 with
    | true => q_fz ((x.1 + y.1) % 4294967296) fun z => kk K L (.inl (z, x.2 ++ y.2) :: S') h
    | false => match q_nar E y with
      | true => q_ask E y ((q_iv E y).1 + 1)
      | false => match q_nar E x with
        | true => q_ask E x ((q_iv E x).1 + 1)
        | false => kk K L (.inl ((x.1 + y.1) % 4294967296, x.2 ++ y.2) :: S') h
  | _ => q_no
noncomputable def qo_sub : qOp := fun _ _ _ kk _ _ _ _ _ _ _ K L S h => match S with
  | .inl y :: .inl x :: S' => q_fz ((x.1 + (4294967296 - y.1 % 4294967296)) % 4294967296) fun z => kk K L (.inl (z, x.2 ++ q_neg y.2) :: S') h
  | _ => q_no
noncomputable def qo_mul : qOp := fun _ E _ kk _ _ _ _ _ _ _ K L S h => match S with
  | .inl y :: .inl x :: S' => match q_isc y.2 with
    | true => kk K L (.inl (x.1 * y.1 % 4294967296, q_scale y.1 x.2) :: S') h
    | false => match q_isc x.2 with
      | true => kk K L (.inl (x.1 * y.1 % 4294967296, q_scale x.1 y.2) :: S') h
      | false => match q_nar E y with
        | true => q_ask E y ((q_iv E y).1 + 1)
        | false => match q_nar E x with
          | true => q_ask E x ((q_iv E x).1 + 1)
          | false => q_no
  | _ => q_no
noncomputable def qo_and : qOp := fun _ _ _ kk _ _ _ _ _ _ _ K L S h => match S with
  | .inl y :: .inl x :: S' => match q_isc x.2 && q_isc y.2 with
    | true => kk K L (.inl (Nat.land x.1 y.1, []) :: S') h
    | false => match q_ieq x (0, [(1, 1)]) && q_ieq y (31, []) with
      | true => kk K L (.inl (0, [(9, 1)]) :: S') h
      | false => q_no
  | _ => q_no
noncomputable def q_bin (f : Nat → Nat → Nat) : qOp := fun _ _ _ kk _ _ _ _ _ _ _ K L S h => match S with
  | .inl y :: .inl x :: S' => match q_isc x.2 && q_isc y.2 with
    | true => kk K L (.inl (f x.1 y.1, []) :: S') h
    | false => q_no
  | _ => q_no
noncomputable def qo_or : qOp := q_bin Nat.lor
noncomputable def qo_xor : qOp := q_bin Nat.xor
noncomputable def qo_shl : qOp := q_bin (fun x y => Nat.shiftLeft x (y % 32) % 4294967296)
noncomputable def qo_rem : qOp := fun _ _ _ kk _ _ _ _ _ _ _ K L S h => match S with
  | .inl y :: .inl x :: S' => match q_isc x.2 && (q_isc y.2 && (Nat.blt x.1 2147483648 && (Nat.blt y.1 2147483648 && Nat.blt 0 y.1))) with
    | true => kk K L (.inl (x.1 % y.1, []) :: S') h
    | false => q_no
  | _ => q_no
noncomputable def qo_null : qOp := fun _ _ _ kk _ _ _ _ _ _ _ K L S h => kk K L (.inr (.inl none) :: S) h
noncomputable def qo_dup : qOp := fun _ _ _ kk _ _ _ _ _ _ _ K L S h => match S with
  | [] => q_no
  | v :: S' => match q_lng v with
    | true => q_no
    | false => kk K L (v :: v :: S') h
noncomputable def qo_pop : qOp := fun _ _ _ kk _ _ _ _ _ _ _ K L S h => match S with
  | [] => q_no
  | v :: S' => match q_lng v with
    | true => q_no
    | false => kk K L S' h
noncomputable def q_br (E : qEnv) (kk : qKk) (R : List qRow) (cc t : Nat) (x y : qI) (K : List qRow) (L : qL) (S : List qV) (h : qHp) : qRes := match q_cc cc (q_iv E x) (q_iv E y) with
  | some true => kk (q_drop R t) L S h
  | some false => kk K L S h
  | none => q_askc E cc x y
noncomputable def qo_if : qOp := fun _ E _ kk _ R _ _ a b _ K L S h => match S with
  | .inl x :: S' => q_br E kk R a b x (0, []) K L S' h
  | _ => q_no
noncomputable def qo_icmp : qOp := fun _ E _ kk _ R _ _ a b _ K L S h => match S with
  | .inl y :: .inl x :: S' => q_br E kk R a b x y K L S' h
  | _ => q_no
noncomputable def qo_ifnull : qOp := fun _ _ _ kk _ R _ _ a _ _ K L S h => match S with
  | .inr (.inl none) :: S' => kk (q_drop R a) L S' h
  | .inr (.inl (some _)) :: S' => kk K L S' h
  | _ => q_no
noncomputable def qo_ifnonnull : qOp := fun _ _ _ kk _ R _ _ a _ _ K L S h => match S with
  | .inr (.inl none) :: S' => kk K L S' h
  | .inr (.inl (some _)) :: S' => kk (q_drop R a) L S' h
  | _ => q_no
noncomputable def qo_acmpeq : qOp := fun _ _ _ kk _ R _ _ a _ _ K L S h => match S with
  | .inr (.inl y) :: .inr (.inl x) :: S' => match q_oeq x y with
    | true => kk (q_drop R a) L S' h
    | false => kk K L S' h
  | _ => q_no
noncomputable def qo_acmpne : qOp := fun _ _ _ kk _ R _ _ a _ _ K L S h => match S with
  | .inr (.inl y) :: .inr (.inl x) :: S' => match q_oeq x y with
    | true => kk K L S' h
    | false => kk (q_drop R a) L S' h
  | _ => q_no
noncomputable def qo_goto : qOp := fun _ _ _ kk _ R _ _ a _ _ _ L S h => kk (q_drop R a) L S h
noncomputable def qo_getf : qOp := fun _ _ _ kk _ _ _ _ a b _ K L S h => match S with
  | .inr (.inl (some (r + 1))) :: S' => match q_nth h.2 r with
    | some (.inr o) => match Nat.beq o.1 a with
      | true => match q_nth o.2 b with
        | some v => kk K L (v :: S') h
        | none => q_no
      | false => q_no
    | _ => q_no
  | _ => q_no
/-- a value fits a field: 0 int, 1 boolean, 2 a reference -/
noncomputable def q_fit (tc : Nat) (v : qV) : Bool := match v with
  | .inl x => match tc with
    | 0 => true
    | 1 => q_isc x.2 && Nat.blt x.1 2
    | _ => false
  | .inr (.inl _) => Nat.beq tc 2
  | .inr (.inr _) => false
noncomputable def qo_putf : qOp := fun _ _ _ kk _ _ _ _ a b c K L S h => match S with
  | v :: .inr (.inl (some (r + 1))) :: S' => match q_nth h.2 r with
    | some (.inr o) => match Nat.beq o.1 a && (q_fit (c % 4) v && q_has o.2 b) with
      | true => kk K L S' (h.1, q_set h.2 r (.inr (o.1, q_set o.2 b v)))
      | false => q_no
    | _ => q_no
  | _ => q_no
noncomputable def q_len : List qI ⊕ (List Nat ⊕ List (Option Nat)) → Nat
  | .inl l => l.length
  | .inr (.inl l) => l.length
  | .inr (.inr l) => l.length
noncomputable def q_lenf : List qI ⊕ (List Nat ⊕ List (Option Nat)) → Nat
  | .inl l => q_ln l
  | .inr (.inl l) => q_ln l
  | .inr (.inr l) => q_ln l
noncomputable def qo_alen : qOp := fun _ E _ kk _ _ _ _ _ _ _ K L S h => match S with
  | .inr (.inl (some 0)) :: S' => q_svk E 0 fun z => kk K L (.inl z :: S') h
  | .inr (.inl (some (r + 1))) :: S' => match q_nth h.2 r with
    | some (.inl o) => match Nat.blt (q_lenf o.2) 2147483648 && Nat.blt o.1 7 with
      | true => q_fz (q_lenf o.2) fun z => kk K L (.inl (z, []) :: S') h
      | false => q_no
    | _ => q_no
  | _ => q_no
noncomputable def qo_iald : qOp := fun _ E _ kk _ _ _ _ _ _ _ K L S h => match S with
  | .inl x :: .inr (.inl (some 0)) :: S' => match q_ix E x with
    | some p => match Nat.beq p.1 p.2 && (Nat.blt p.1 8 && Nat.blt (p.1 + 2147483648) (q_iv E (0, [(0, 1)])).1) with
      | true => q_fz p.1 fun i => q_svk E (i + 1) fun z => kk K L (.inl z :: S') h
      | false => q_no
    | none => q_no
  | .inl x :: .inr (.inl (some (r + 1))) :: S' => match q_nth h.2 r with
    | some (.inl (0, .inl l)) => match q_ix E x with
      | some p => match q_rd q_ieq l p.1 p.2 with
        | some (some v) => kk K L (.inl v :: S') h
        | some none => q_ask E x ((q_iv E x).1 + 1)
        | none => q_no
      | none => q_no
    | _ => q_no
  | _ => q_no
noncomputable def qo_iast : qOp := fun _ E _ kk _ _ _ _ _ _ _ K L S h => match S with
  | .inl v :: .inl x :: .inr (.inl (some (r + 1))) :: S' => match q_nth h.2 r with
    | some (.inl (0, .inl l)) => match q_ix E x with
      | some p => match Nat.beq p.1 p.2 with
        | true => match q_has l p.1 with
          | true => q_fz p.1 fun i => kk K L S' (h.1, q_set h.2 r (.inl (0, .inl (q_set l i v))))
          | false => q_no
        | false => q_ask E x ((q_iv E x).1 + 1)
      | none => q_no
    | _ => q_no
  | _ => q_no
noncomputable def qo_lald : qOp := fun _ E _ kk _ _ _ _ _ _ _ K L S h => match S with
  | .inl x :: .inr (.inl (some (r + 1))) :: S' => match q_nth h.2 r with
    | some (.inl (1, .inr (.inl l))) => match q_ix E x with
      | some p => match Nat.beq p.1 p.2 with
        | true => match q_nth l p.1 with
          | some v => kk K L (.inr (.inr v) :: S') h
          | none => q_no
        | false => q_no
      | none => q_no
    | _ => q_no
  | _ => q_no
noncomputable def qo_last : qOp := fun _ E _ kk _ _ _ _ _ _ _ K L S h => match S with
  | .inr (.inr v) :: .inl x :: .inr (.inl (some (r + 1))) :: S' => match q_nth h.2 r with
    | some (.inl (1, .inr (.inl l))) => match q_ix E x with
      | some p => match Nat.beq p.1 p.2 && q_has l p.1 with
        | true => q_fz p.1 fun i => kk K L S' (h.1, q_set h.2 r (.inl (1, .inr (.inl (q_set l i v)))))
        | false => q_no
      | none => q_no
    | _ => q_no
  | _ => q_no
noncomputable def qo_aald : qOp := fun _ E _ kk _ _ _ _ _ _ _ K L S h => match S with
  | .inl x :: .inr (.inl (some (r + 1))) :: S' => match q_nth h.2 r with
    | some (.inl (t, .inr (.inr l))) => match q_ix E x with
      | some p => match Nat.blt 1 t && Nat.blt t 6 with
        | true => match q_rd q_oeq l p.1 p.2 with
          | some (some v) => kk K L (.inr (.inl v) :: S') h
          | some none => q_ask E x ((q_iv E x).1 + 1)
          | none => q_no
        | false => q_no
      | none => q_no
    | _ => q_no
  | _ => q_no
/-- the class of the elements of the reference arrays, by their type's place -/
noncomputable def q_elem (t : Nat) : Nat := match t with
  | 2 => 1
  | 3 => 7
  | 4 => 2
  | 5 => 3
  | _ => 99
noncomputable def q_isE (h : List qC) (t : Nat) (v : Option Nat) : Bool := match v with
  | some (r + 1) => match q_nth h r with
    | some (.inr o) => Nat.beq o.1 (q_elem t)
    | _ => false
  | some 0 => false
  | none => Nat.blt 1 t && Nat.blt t 6
noncomputable def qo_aast : qOp := fun _ E _ kk _ _ _ _ _ _ _ K L S h => match S with
  | .inr (.inl v) :: .inl x :: .inr (.inl (some (r + 1))) :: S' => match q_nth h.2 r with
    | some (.inl (t, .inr (.inr l))) => match q_ix E x with
      | some p => match q_isE h.2 t v && q_has l p.1 with
        | true => match Nat.beq p.1 p.2 with
          | true => q_fz p.1 fun i => kk K L S' (h.1, q_set h.2 r (.inl (t, .inr (.inr (q_set l i v)))))
          | false => q_ask E x ((q_iv E x).1 + 1)
        | false => q_no
      | none => q_no
    | _ => q_no
  | _ => q_no
noncomputable def qo_newa : qOp := fun _ _ _ kk _ _ _ _ a _ _ K L S h => match S with
  | .inl n :: S' => match q_isc n.2 && (h.1 && Nat.blt n.1 65536) with
    | true => match a with
      | 0 => q_add 1 n.1 (kk K L (.inr (.inl (some (h.2.length + 1))) :: S') (true, h.2 ++ [.inl (0, .inl (List.replicate n.1 (0, [])))]))
      | 1 => q_add 1 n.1 (kk K L (.inr (.inl (some (h.2.length + 1))) :: S') (true, h.2 ++ [.inl (1, .inr (.inl (List.replicate n.1 0)))]))
      | _ => q_no
    | false => q_no
  | _ => q_no
noncomputable def qo_anew : qOp := fun _ _ _ kk _ _ _ _ a _ _ K L S h => match S with
  | .inl n :: S' => match q_isc n.2 && (h.1 && Nat.blt n.1 65536) with
    | true => q_add 1 n.1 (kk K L (.inr (.inl (some (h.2.length + 1))) :: S') (true, h.2 ++ [.inl (a, .inr (.inr (List.replicate n.1 none)))]))
    | false => q_no
  | _ => q_no
noncomputable def qo_multi : qOp := fun _ _ _ kk _ _ _ _ _ _ _ K L S h => match S with
  | .inl k :: .inl n :: S' => match q_isc n.2 && (q_isc k.2 && (h.1 && (Nat.blt n.1 65536 && Nat.blt k.1 65536))) with
    | true => q_add (1 + n.1) (n.1 + n.1 * k.1) (kk K L (.inr (.inl (some (h.2.length + 1))) :: S') (true, (h.2 ++ [.inl (6, .inr (.inr ((List.range n.1).map (fun i => some (h.2.length + 2 + i)))))]) ++ List.replicate n.1 (.inl (0, .inl (List.replicate k.1 (0, []))))))
    | false => q_no
  | _ => q_no
/-- the default values of an object's fields, by type codes 0 int, 1 boolean, 2 a reference -/
noncomputable def q_dv (tc : Nat) : qV := match tc with
  | 2 => .inr (.inl none)
  | _ => .inl (0, [])
noncomputable def q_fty : List (List Nat) := [[2, 2, 0, 0, 0, 0], [2, 0, 0, 0, 0, 0, 0], [0, 0, 0, 2], [0, 2, 0], [2, 2], [2, 0], [2, 2, 2, 0, 1], [2, 1, 0, 0], [0, 0], [2, 2, 2, 2, 0, 2, 2, 0, 0, 2, 2, 2, 2], [2, 2, 2, 2, 2, 0, 2, 2, 0, 2, 2, 2, 2, 2, 2, 2, 2, 2, 0, 1, 2, 2, 2, 0, 0, 0, 0, 2, 2, 2, 0, 2, 2, 2, 2, 2]]
noncomputable def qo_new : qOp := fun _ _ _ kk _ _ _ _ a _ _ K L S h => match h.1 with
  | true => match q_nth q_fty a with
    | some l => q_add 1 l.length (kk K L (.inr (.inl (some (h.2.length + 1))) :: S) (true, h.2 ++ [.inr (a, l.map q_dv)]))
    | none => q_no
  | false => q_no
noncomputable def qo_objinit : qOp := fun _ _ _ kk d _ _ _ _ _ _ K L S h => match S with
  | .inr (.inl (some _)) :: S' => match Nat.ble (q_cat S') 8 && Nat.blt 0 d with
    | true => kk K L S' h
    | false => q_no
  | _ => q_no
noncomputable def q_pop : Nat → List qV → List qV → Option (List qV × List qV)
  | 0, S, acc => some (acc, S)
  | _ + 1, [], _ => none
  | n + 1, v :: S, acc => match q_lng v with
    | true => none
    | false => q_pop n S (v :: acc)
noncomputable def q_loc (nL : Nat) (args : List qV) : qL := args.map some ++ List.replicate (nL - args.length) none
noncomputable def q_hd : List qHd → Nat → Nat → Option Nat
  | [], _, _ => none
  | x :: l, pc, X => match Nat.ble x.1 pc && (Nat.blt pc x.2.1 && Nat.beq x.2.2.2 X) with
    | true => some x.2.2.1
    | false => q_hd l pc X
noncomputable def q_after (kk : qKk) (R : List qRow) (hs : List qHd) (pc : Nat) (K : List qRow) (L : qL) (S : List qV) (r : qRes) : qRes := match r with
  | .inl (some v, h', mc, ms) => q_add mc ms (kk K L (v :: S) h')
  | .inl (none, h', mc, ms) => q_add mc ms (kk K L S h')
  | .inr (.inl (X, h', mc, ms)) => match hs with
    | [] => .inr (.inl (X, h', mc, ms))
    | _ :: _ => match q_hd hs pc X with
      | none => q_no
      | some t => match q_drop R t with
        | (_, 50, a', _, _, _, _) :: K' => q_add mc ms (kk K' (q_set L a' none) [] h')
        | _ => q_no
  | .inr (.inr x) => .inr (.inr x)
noncomputable def qo_callr : qOp := fun P _ ih kk d R hs pc a b _ K L S h => match d with
  | 0 => q_no
  | d' + 1 => match q_nth P a with
    | none => q_no
    | some M => match q_pop (b % 32 + 1) S [] with
      | some (.inr (.inl (some (r + 1))) :: As, S') => match q_nth h.2 r with
        | some (.inr o) => match Nat.beq o.1 (b / 32) && (Nat.ble (q_cat S') 8 && Nat.blt As.length M.1) with
          | true => q_after kk R hs pc K L S' (ih d' M.2.1 M.2.2 M.2.1 (q_loc M.1 (.inr (.inl (some (r + 1))) :: As)) [] h)
          | false => q_no
        | _ => q_no
      | _ => q_no
noncomputable def qo_calls : qOp := fun P _ ih kk d R hs pc a b _ K L S h => match d with
  | 0 => q_no
  | d' + 1 => match q_nth P a with
    | none => q_no
    | some M => match q_pop b S [] with
      | some (As, S') => match Nat.ble (q_cat S') 8 && Nat.ble As.length M.1 with
        | true => q_after kk R hs pc K L S' (ih d' M.2.1 M.2.2 M.2.1 (q_loc M.1 As) [] h)
        | false => q_no
      | none => q_no
noncomputable def qo_iret : qOp := fun _ _ _ _ _ _ _ _ a _ _ _ _ S h => match S with
  | [.inl x] => match a with
    | 0 => .inl (some (.inl x), h, 0, 0)
    | 1 => match q_isc x.2 && Nat.blt x.1 2 with
      | true => .inl (some (.inl x), h, 0, 0)
      | false => q_no
    | _ => q_no
  | _ => q_no
noncomputable def qo_aret : qOp := fun _ _ _ _ _ _ _ _ _ _ _ _ _ S h => match S with
  | [.inr (.inl r)] => .inl (some (.inr (.inl r)), h, 0, 0)
  | _ => q_no
noncomputable def qo_vret : qOp := fun _ _ _ _ _ _ _ _ _ _ _ _ _ S h => match S with
  | [] => .inl (none, h, 0, 0)
  | _ => q_no
noncomputable def qo_throw : qOp := fun _ _ _ _ d _ hs _ a _ _ _ _ S h => match Nat.ble 6 d && Nat.ble (q_cat S) 8 with
  | true => match hs with
    | [] => .inr (.inl (a, (false, h.2), 1, 6))
    | _ :: _ => q_no
  | false => q_no
noncomputable def qo_switch (sw : List Nat) : qOp := fun _ E _ kk _ R _ _ _ b _ _ L S h => match S with
  | .inl x :: S' => match q_ix E x with
    | some p => match Nat.beq p.1 p.2 with
      | true => match q_nth sw p.1 with
        | some t => kk (q_drop R t) L S' h
        | none => kk (q_drop R b) L S' h
      | false => q_ask E x ((q_iv E x).1 + 1)
    | none => q_no
  | _ => q_no
noncomputable def qo_i2l : qOp := fun _ _ _ kk _ _ _ _ _ _ _ K L S h => match S with
  | .inl x :: S' => match q_isc x.2 with
    | true => kk K L (.inr (.inr x.1) :: S') h
    | false => q_no
  | _ => q_no
noncomputable def qo_lcmp : qOp := fun _ _ _ kk _ _ _ _ _ _ _ K L S h => match S with
  | .inr (.inr y) :: .inr (.inr x) :: S' => match Nat.beq x y with
    | true => kk K L (.inl (0, []) :: S') h
    | false => q_no
  | _ => q_no
noncomputable def qo_lconst : qOp := fun _ _ _ kk _ _ _ _ a _ _ K L S h => kk K L (.inr (.inr a) :: S) h
noncomputable def qo_bad : qOp := fun _ _ _ _ _ _ _ _ _ _ _ _ _ _ _ => q_no
end
section
/-! WHAT A ROW MUST BE: its bytes, the words of the tables that it needs -/
abbrev qInf : Type := MethodName × ByteArray × Option FieldType × List (Nat × Nat × Nat × Nat) × Nat × Nat × Nat × Nat
noncomputable def q_TBL : List Jvm.Cond := lw_tbl.filter goodWord
noncomputable def q_w (j : Nat) (w : Jvm.Cond) : Bool := decide (lw_tbl[j]? = some w) && goodWord w
noncomputable def q_ini : List Nat := [76, 77, 92, 89, 80, 82, 79, 78, 81, 75, 83, 87, 91, 88]
noncomputable def q_exc : List String := ["java/lang/IndexOutOfBoundsException", "java/lang/IllegalArgumentException", "java/lang/IllegalStateException"]
noncomputable def q_nests : List (String × Nat × MethodName) := [("Treebark", 39, ⟨"Treebark$Stream", "<init>", "()V"⟩), ("Treebark", 55, ⟨"Treebark$Places", "<init>", "()V"⟩), ("Treebark", 66, ⟨"Treebark$Weight", "<init>", "()V"⟩), ("Treebark", 76, ⟨"Treebark$Root", "<init>", "()V"⟩), ("Treebark$Disks", 34, ⟨"Treebark$Extent", "<init>", "()V"⟩), ("Treebark", 383, ⟨"Treebark$Tree", "<init>", "()V"⟩), ("Treebark$Node", 9, ⟨"Treebark$Places", "<init>", "()V"⟩)]
noncomputable def q_tys : List FieldType := [.int, .long, .object "Treebark$Extent", .object "Treebark$Tree", .object "Treebark$Logged", .object "Treebark$Node", .array .int]
noncomputable def q_tc (t : FieldType) : Nat := match t with
  | .int => 0
  | .boolean => 1
  | .object _ => 2
  | .array _ => 2
  | _ => 9
noncomputable def q_nx (pc len : Nat) (K : List qRow) : Bool := match K with
  | [] => true
  | x :: _ => Nat.beq x.1 (pc + len)
noncomputable def q_tg (R : List qRow) (t pc : Nat) (off : Int) : Bool := match q_drop R t with
  | [] => false
  | x :: _ => decide ((pc : Int) + off = (x.1 : Int))
noncomputable def q_ccI (c : ClassFile.Cond) : Nat := match c with
  | .eq => 0
  | .ne => 1
  | .lt => 2
  | .ge => 3
  | .gt => 4
  | .le => 5
noncomputable def q_np (y : MethodName) (n : Nat) : Bool := decide ((parseMethodDescriptor y.desc).map (fun d => d.parameters.length) = some n)
noncomputable def q_names : List String := ["java/lang/RuntimeException", "java/lang/Exception"]
noncomputable def q_decl : List MethodName := [⟨"java/lang/RuntimeException", "<init>", "()V"⟩, ⟨"java/lang/Exception", "<init>", "()V"⟩, ⟨"java/lang/Throwable", "<init>", "()V"⟩]
/-- the words of a throw, those of its own that aren't good apart -/
noncomputable def q_thr (own : String) (ic : Nat) (X : String) : Bool := ((vx_at0 own ic X q_names).filter goodWord).all (fun w => decide (w ∈ lw_tbl)) && ((vx_at0 own ic X q_names).filter (fun w => !goodWord w)).all (fun w => decide (w = .castable X X) || q_decl.any (fun y => decide (w = .declares y))) && (vx_at0 own ic X q_names).all vx_ot
noncomputable def q_opok (P : List qM) (I : List qInf) (sw : List Nat) (own nm : String) (cc : ByteArray) (nL : Nat) (ret : Option FieldType) (R : List qRow) (K : List qRow) (pc op a b c : Nat) (ins : Instr) (len : Nat) : Bool := match op with
  | 0 => q_nx pc len K && (match ins with
    | .iconst n => Nat.beq len 1 && decide (Int32.ofInt n = nI a)
    | .bipush n => Nat.beq len 2 && decide ((Int8.ofInt n).toInt32 = nI a)
    | .sipush n => Nat.beq len 3 && decide ((Int16.ofInt n).toInt32 = nI a)
    | _ => false)
  | 1 => q_nx pc len K && (match ins with
    | .iload_n k => Nat.beq len 1 && Nat.beq k.val a
    | .iload k => Nat.beq len 2 && Nat.beq k a
    | _ => false)
  | 2 => q_nx pc len K && (Nat.blt a nL && (match ins with
    | .istore_n k => Nat.beq len 1 && Nat.beq k.val a
    | .istore k => Nat.beq len 2 && Nat.beq k a
    | _ => false))
  | 3 => q_nx pc len K && (Nat.blt a nL && (match ins with
    | .iinc i n => Nat.beq len 3 && (Nat.beq i a && decide (Int32.ofInt n = nI b))
    | _ => false))
  | 4 => q_nx pc len K && (Nat.beq len 1 && decide (ins = .iadd))
  | 5 => q_nx pc len K && (Nat.beq len 1 && decide (ins = .isub))
  | 6 => q_nx pc len K && (Nat.beq len 1 && decide (ins = .imul))
  | 7 => q_nx pc len K && (Nat.beq len 1 && decide (ins = .iand))
  | 8 => q_nx pc len K && (Nat.beq len 1 && decide (ins = .ior))
  | 9 => q_nx pc len K && (Nat.beq len 1 && decide (ins = .ixor))
  | 10 => q_nx pc len K && (Nat.beq len 1 && decide (ins = .ishl))
  | 11 => q_nx pc len K && (Nat.beq len 1 && decide (ins = .aconst_null))
  | 12 => q_nx pc len K && (Nat.beq len 1 && decide (ins = .dup))
  | 13 => q_nx pc len K && (Nat.beq len 1 && decide (ins = .pop))
  | 14 => q_nx pc len K && (match ins with
    | .ifCond cd off => Nat.beq len 3 && (Nat.beq (q_ccI cd) a && q_tg R b pc off)
    | _ => false)
  | 15 => q_nx pc len K && (match ins with
    | .if_icmp cd off => Nat.beq len 3 && (Nat.beq (q_ccI cd) a && q_tg R b pc off)
    | _ => false)
  | 16 => q_nx pc len K && (match ins with
    | .ifnull off => Nat.beq len 3 && q_tg R a pc off
    | _ => false)
  | 17 => q_nx pc len K && (match ins with
    | .ifnonnull off => Nat.beq len 3 && q_tg R a pc off
    | _ => false)
  | 18 => q_nx pc len K && (match ins with
    | .if_acmp .eq off => Nat.beq len 3 && q_tg R a pc off
    | _ => false)
  | 19 => q_nx pc len K && (match ins with
    | .if_acmp .ne off => Nat.beq len 3 && q_tg R a pc off
    | _ => false)
  | 20 => match ins with
    | .goto off => Nat.beq len 3 && q_tg R a pc off
    | _ => false
  | 21 => q_nx pc len K && (match ins with
    | .getfield idx => Nat.beq len 3 && (match q_nth vwCl a with
      | some (C, T, N) => Nat.blt b N && q_w c (.fieldLink own idx (T b).1 (T b).2.1 (T b).2.2.1)
      | none => false)
    | _ => false)
  | 22 => q_nx pc len K && (match ins with
    | .putfield idx => Nat.beq len 3 && (match q_nth vwCl a with
      | some (C, T, N) => Nat.blt b N && (q_w (c / 4) (.fieldLink own idx (T b).1 (T b).2.1 (T b).2.2.1) && (match parseFieldDescriptor (T b).2.2.1 with
        | some ty => Nat.beq (q_tc ty) (c % 4) && (!(T b).2.2.2 || (decide ((T b).1 = own) && decide (nm = "<init>")))
        | none => false))
      | none => false)
    | _ => false)
  | 23 => q_nx pc len K && (Nat.beq len 1 && decide (ins = .arraylength))
  | 24 => q_nx pc len K && (Nat.beq len 1 && decide (ins = .iaload))
  | 25 => q_nx pc len K && (Nat.beq len 1 && decide (ins = .iastore))
  | 26 => q_nx pc len K && (Nat.beq len 1 && decide (ins = .laload))
  | 27 => q_nx pc len K && (Nat.beq len 1 && decide (ins = .lastore))
  | 28 => q_nx pc len K && (Nat.beq len 1 && decide (ins = .aaload))
  | 29 => q_nx pc len K && (Nat.beq len 1 && decide (ins = .aastore))
  | 30 => q_nx pc len K && (Nat.beq len 2 && (match a with
    | 0 => decide (ins = .newarray .int) && q_w b (.arrayClass .int)
    | 1 => decide (ins = .newarray .long) && q_w b (.arrayClass .long)
    | _ => false))
  | 31 => q_nx pc len K && (match ins with
    | .anewarray idx => Nat.beq len 3 && (Nat.blt 1 a && (Nat.blt a 6 && (match q_nth q_tys a with
      | some (.object C) => q_w b (.classLink own idx C)
      | _ => false)))
    | _ => false)
  | 32 => q_nx pc len K && (match ins with
    | .multianewarray idx dim => Nat.beq len 4 && (Nat.beq dim 2 && (q_w b (.classLink own idx "[[I") && q_w c (.arrayClass .int)))
    | _ => false)
  | 33 => q_nx pc len K && (match ins with
    | .new idx => Nat.beq len 3 && (match q_nth vwCl a with
      | some (C, T, N) => match q_nth q_fty a with
        | some fl => match q_nth q_ini a with
          | some ji => decide ((List.range N).map (fun k => (parseFieldDescriptor (T k).2.2.1).map q_tc) = fl.map some) && (q_w b (.classLink own idx C) && (q_w c (.instantiable C N) && q_w ji (.initialized C)))
          | none => false
        | none => false
      | none => false)
    | _ => false)
  | 34 => q_nx pc len K && (match ins with
    | .invokespecial idx => Nat.beq len 3 && (q_w c (.methodLink own idx objectInit) && (q_w a (.instanceMethod objectInit) && q_w b (.code objectInit ⟨#[0xb1]⟩ 1 none)))
    | _ => false)
  | 35 => q_nx pc len K && (match ins with
    | .invokevirtual idx => Nat.beq len 3 && (match q_nth I a with
      | some (y, cy, ry, hy, j1, j2, j3, j4) => hy.isEmpty && (match q_nth vwCl (b / 32) with
        | some (C, _, _) => decide (C = y.cls) && (q_np y (b % 32) && (q_w c (.methodLink own idx y) && (q_w j2 (.instanceMethod y) && (q_w j3 (.selects y.cls y y) && q_w j4 (.initialized y.cls)))))
        | none => false)
      | none => false)
    | _ => false)
  | 36 => q_nx pc len K && (match ins with
    | .invokestatic idx => Nat.beq len 3 && (match q_nth I a with
      | some (y, cy, ry, hy, j1, j2, j3, j4) => hy.isEmpty && (q_np y b && (q_w c (.methodLink own idx y) && (q_w j2 (.static y) && q_w j4 (.initialized y.cls))))
      | none => false)
    | _ => false)
  | 37 => q_nx pc len K && (match ins with
    | .invokespecial idx => Nat.beq len 3 && (match q_nth I a with
      | some (y, cy, ry, hy, j1, j2, j3, j4) => hy.isEmpty && (decide (y.name = "<init>") && (decide (ry = none) && (q_np y (b % 32) && (q_w c (.methodLink own idx y) && (q_w j2 (.instanceMethod y) && q_w j4 (.initialized y.cls))))))
      | none => false)
    | _ => false)
  | 38 => q_nx pc len K && (match ins with
    | .invokespecial idx => Nat.beq len 3 && (match q_nth I a with
      | some (y, cy, ry, hy, j1, j2, j3, j4) => hy.isEmpty && (decide (y.name = "<init>") && (decide (ry = none) && (q_np y (b % 32) && (decide (q_nth q_nests c = some (own, idx, y)) && (q_w j2 (.instanceMethod y) && q_w j4 (.initialized y.cls))))))
      | none => false)
    | _ => false)
  | 39 => q_nx pc len K && (match ins with
    | .invokestatic idx => Nat.beq len 3 && (match q_nth I a with
      | some (y, cy, ry, hy, j1, j2, j3, j4) => !hy.isEmpty && (q_np y b && (q_w c (.methodLink own idx y) && (q_w j2 (.static y) && q_w j4 (.initialized y.cls))))
      | none => false)
    | _ => false)
  | 40 => Nat.beq len 1 && (decide (ins = .ireturn) && (match a with
    | 0 => decide (ret = some .int)
    | 1 => decide (ret = some .boolean)
    | _ => false))
  | 41 => Nat.beq len 1 && (decide (ins = .areturn) && (match ret with
    | some (.object _) => true
    | some (.array _) => true
    | _ => false))
  | 42 => Nat.beq len 1 && (decide (ins = .return_) && decide (ret = none))
  | 43 => match ins with
    | .new ik => Nat.beq len 3 && (match q_nth q_exc a with
      | some X => match q_nth q_ini (11 + a) with
        | some ji => decide (decode cc (pc + 3) = .ok (.dup, 1)) && (decide (decode cc (pc + 4) = .ok (.invokespecial c, 3)) && (decide (decode cc (pc + 7) = .ok (.athrow, 1)) && (q_w b (.classLink own ik X) && (q_w ji (.initialized X) && q_thr own c X))))
        | none => false
      | none => false)
    | _ => false
  | 44 => match ins with
    | .tableswitch dflt lo hi offs => decide (lo = 0) && (decide (hi = 30) && (q_tg R b pc dflt && (decide (sw.length = 31) && (List.range 31).all (fun k => match q_nth sw k with
      | some t => match offs[k]? with
        | some off => q_tg R t pc off
        | none => false
      | none => false))))
    | _ => false
  | 45 => q_nx pc len K && (Nat.beq len 1 && decide (ins = .i2l))
  | 46 => q_nx pc len K && (Nat.beq len 1 && decide (ins = .lcmp))
  | 47 => q_nx pc len K && (Nat.beq len 1 && (match ins with
    | .lconst k => Nat.beq k.val a
    | _ => false))
  | 48 => q_nx pc len K && (Nat.beq len 1 && decide (ins = .irem))
  | 49 => q_nx pc len K && (match ins with
    | .aload_n k => Nat.beq len 1 && Nat.beq k.val a
    | .aload k => Nat.beq len 2 && Nat.beq k a
    | _ => false)
  | 50 => q_nx pc len K && (Nat.blt a nL && (match ins with
    | .astore_n k => Nat.beq len 1 && Nat.beq k.val a
    | .astore k => Nat.beq len 2 && Nat.beq k a
    | _ => false))
  | _ => true
noncomputable def q_rok (P : List qM) (I : List qInf) (sw : List Nat) (own nm : String) (cc : ByteArray) (nL : Nat) (ret : Option FieldType) (R : List qRow) (r : qRow) (K : List qRow) : Bool := match Nat.blt r.2.1 51 with
  | true => decide (decode cc r.1 = .ok (r.2.2.2.2.2.1, r.2.2.2.2.2.2)) && q_opok P I sw own nm cc nL ret R K r.1 r.2.1 r.2.2.1 r.2.2.2.1 r.2.2.2.2.1 r.2.2.2.2.2.1 r.2.2.2.2.2.2
  | false => true
noncomputable def q_roks (P : List qM) (I : List qInf) (sw : List Nat) (own nm : String) (cc : ByteArray) (nL : Nat) (ret : Option FieldType) (R : List qRow) : List qRow → Bool
  | [] => true
  | r :: K => q_rok P I sw own nm cc nL ret R r K && q_roks P I sw own nm cc nL ret R K
/-- the handlers: those of the evaluator beside those of the file -/
noncomputable def q_hok (own : String) (R : List qRow) : List qHd → List (Nat × Nat × Nat × Nat) → List Nat → Bool
  | [], [], _ => true
  | x :: l, y :: m, j :: js => Nat.beq x.1 y.1 && (Nat.beq x.2.1 y.2.1 && ((match q_drop R x.2.2.1 with
    | r :: _ => Nat.beq r.1 y.2.2.1
    | [] => false) && ((match q_nth q_exc x.2.2.2 with
    | some X => q_w j (.classLink own y.2.2.2 X)
    | none => false) && (!Nat.beq y.2.2.2 0 && q_hok own R l m js))))
  | _, _, _ => false
noncomputable def q_ops (sw : List Nat) : List qOp := [qo_const, qo_iload, qo_istore, qo_iinc, qo_add, qo_sub, qo_mul, qo_and, qo_or, qo_xor, qo_shl, qo_null, qo_dup, qo_pop, qo_if, qo_icmp, qo_ifnull, qo_ifnonnull, qo_acmpeq, qo_acmpne, qo_goto, qo_getf, qo_putf, qo_alen, qo_iald, qo_iast, qo_lald, qo_last, qo_aald, qo_aast, qo_newa, qo_anew, qo_multi, qo_new, qo_objinit, qo_callr, qo_calls, qo_callr, qo_callr, qo_calls, qo_iret, qo_aret, qo_vret, qo_throw, qo_switch sw, qo_i2l, qo_lcmp, qo_lconst, qo_rem, qo_aload, qo_astore]
noncomputable def q_step (sw : List Nat) (op : Nat) : qOp := match q_nth (q_ops sw) op with
  | some f => f
  | none => qo_bad
noncomputable def qRun (sw : List Nat) (P : List qM) (E : qEnv) (n : Nat) : qIh := Nat.rec (motive := fun _ => qIh) (fun _ _ _ _ _ _ _ => q_no) (fun _ ih d R hs K L S h => match K with
  | [] => q_no
  | r :: K' => q_step sw r.2.1 P E ih (ih d R hs) d R hs r.1 r.2.2.1 r.2.2.2.1 r.2.2.2.2.1 K' L S h) n
end
section
/-! NUMBERS AND LISTS OF THE EVALUATOR -/
theorem q_nth_eq {α : Type} : ∀ (l : List α) (n : Nat), q_nth l n = l[n]?
  | [], n => by rw [List.getElem?_nil]; rfl
  | x :: l, 0 => rfl
  | x :: l, n + 1 => by
    show q_nth l n = _
    rw [q_nth_eq l n, List.getElem?_cons_succ]
theorem q_drop_eq {α : Type} : ∀ (l : List α) (n : Nat), q_drop l n = l.drop n
  | [], n => by rw [List.drop_nil]; rfl
  | x :: l, 0 => rfl
  | x :: l, n + 1 => by
    show q_drop l n = _
    rw [q_drop_eq l n]; rfl
theorem q_set_eq {α : Type} : ∀ (l : List α) (n : Nat) (v : α), q_set l n v = l.set n v
  | [], n, v => by rw [List.set_nil]; rfl
  | x :: l, 0, v => rfl
  | x :: l, n + 1, v => by
    show x :: q_set l n v = _
    rw [q_set_eq l n v]; rfl
theorem q_fz_eq {α : Type} (x : Nat) (f : Nat → α) : q_fz x f = f x := by cases x <;> rfl
theorem q_has_eq {α : Type} (l : List α) (n : Nat) : q_has l n = Nat.blt n l.length := by
  unfold q_has
  rw [q_nth_eq]
  rcases Nat.lt_or_ge n l.length with h | h
  · rw [List.getElem?_eq_getElem h, Nat.blt_eq.mpr h]
  · rw [List.getElem?_eq_none h]
    cases hb : Nat.blt n l.length with
    | false => rfl
    | true => exact absurd (Nat.blt_eq.mp hb) (by omega)
theorem q_ln_eq {α : Type} (l : List α) : q_ln l = l.length := by
  have h : ∀ (l : List α) (a : Nat), (List.rec (motive := fun _ => Nat → Nat) (fun a => a) (fun _ _ ih a => q_fz (Nat.succ a) ih) l : Nat → Nat) a = a + l.length := by
    intro l
    induction l with
    | nil => exact fun a => rfl
    | cons x l ih =>
      intro a
      show q_fz (Nat.succ a) _ = _
      rw [q_fz_eq, ih (Nat.succ a), List.length_cons]
      omega
  have := h l 0
  rw [Nat.zero_add] at this
  exact this
theorem q_len_eq (o : List qI ⊕ (List Nat ⊕ List (Option Nat))) : q_lenf o = q_len o := by
  rcases o with l | l | l <;> exact q_ln_eq l
theorem q_svk_eq {α : Type} (E : qEnv) (i : Nat) (f : qI → α) : q_svk E i f = f (q_sv E i) := by
  unfold q_svk q_sv
  simp only [q_fz_eq]
  split
  · split <;> rfl
  · rfl
theorem q_teq_eq : ∀ {a b : qT}, q_teq a b = true → a = b
  | [], [], _ => rfl
  | [], _ :: _, h => by cases h
  | _ :: _, [], h => by cases h
  | x :: a, y :: b, h => by
    simp only [q_teq, Bool.and_eq_true] at h
    obtain ⟨h1, h2, h3⟩ := h
    have e1 := Nat.eq_of_beq_eq_true h1
    have e2 := Nat.eq_of_beq_eq_true h2
    have e3 := q_teq_eq h3
    obtain ⟨x1, x2⟩ := x
    obtain ⟨y1, y2⟩ := y
    dsimp only at e1 e2
    subst e1; subst e2; subst e3
    rfl
theorem q_isc_eq {t : qT} (h : q_isc t = true) : t = [] := by
  cases t with
  | nil => rfl
  | cons x l => cases h
theorem q_ieq_eq {x y : qI} (h : q_ieq x y = true) : x = y := by
  simp only [q_ieq, Bool.and_eq_true] at h
  obtain ⟨x1, x2⟩ := x
  obtain ⟨y1, y2⟩ := y
  have e1 := Nat.eq_of_beq_eq_true h.1
  have e2 := q_teq_eq h.2
  dsimp only at e1 e2
  subst e1; subst e2
  rfl
theorem q_oeq_iff {x y : Option Nat} : q_oeq x y = true ↔ x = y := by
  cases x <;> cases y <;> simp [q_oeq, Nat.beq_eq]
def q_bz (n : Nat) : Nat := (n + 2147483648) % 4294967296
def q_ev (rho : Nat → Nat) : qT → Nat
  | [] => 0
  | x :: t => rho x.1 * x.2 + q_ev rho t
def q_i (rho : Nat → Nat) (x : qI) : Int32 := nI (x.1 + q_ev rho x.2)
theorem q_tn (n : Nat) : (nI n).toBitVec.toNat = n % 4294967296 := by
  show (Int32.ofNat n).toBitVec.toNat = _
  simp
theorem q_nImod {a b : Nat} (h : a % 4294967296 = b % 4294967296) : nI a = nI b := by
  apply Int32.toBitVec_inj.mp
  apply BitVec.eq_of_toNat_eq
  rw [q_tn, q_tn, h]
theorem q_toInt (n : Nat) : (nI n).toInt = (q_bz n : Int) - 2147483648 := by
  have h := q_tn n
  rw [← Int32.toInt_toBitVec, BitVec.toInt_eq_toNat_cond, h]
  unfold q_bz
  split <;> omega
theorem q_lt_iff (a b : Nat) : nI a < nI b ↔ q_bz a < q_bz b := by
  rw [Int32.lt_iff_toInt_lt, q_toInt, q_toInt]
  omega
theorem q_eq_iff (a b : Nat) : nI a = nI b ↔ q_bz a = q_bz b := by
  rw [← Int32.toInt_inj, q_toInt, q_toInt]
  omega
theorem q_bz_lt (n : Nat) : q_bz n < 4294967296 := Nat.mod_lt _ (by omega)
theorem q_ev_app (rho : Nat → Nat) : ∀ (a b : qT), q_ev rho (a ++ b) = q_ev rho a + q_ev rho b
  | [], b => by simp [q_ev]
  | x :: a, b => by
    show rho x.1 * x.2 + q_ev rho (a ++ b) = _
    rw [q_ev_app rho a b]
    simp only [q_ev]
    omega
theorem q_ev_neg (rho : Nat → Nat) : ∀ (t : qT), (q_ev rho (q_neg t) + q_ev rho t) % 4294967296 = 0
  | [] => rfl
  | x :: t => by
    have ih := q_ev_neg rho t
    show (rho x.1 * ((4294967296 - x.2 % 4294967296) % 4294967296) + q_ev rho (q_neg t) + (rho x.1 * x.2 + q_ev rho t)) % 4294967296 = 0
    have h2 : (rho x.1 * ((4294967296 - x.2 % 4294967296) % 4294967296) + rho x.1 * x.2) % 4294967296 = 0 := by
      rw [← Nat.mul_add, Nat.mul_mod]
      have : ((4294967296 - x.2 % 4294967296) % 4294967296 + x.2) % 4294967296 = 0 := by omega
      rw [this, Nat.mul_zero, Nat.zero_mod]
    generalize rho x.1 * ((4294967296 - x.2 % 4294967296) % 4294967296) = u at h2 ⊢
    generalize rho x.1 * x.2 = v at h2 ⊢
    omega
theorem q_ev_scale (rho : Nat → Nat) (k : Nat) : ∀ (t : qT), q_ev rho (q_scale k t) % 4294967296 = (q_ev rho t * k) % 4294967296
  | [] => by simp [q_scale, q_ev]
  | x :: t => by
    have ih := q_ev_scale rho k t
    show (rho x.1 * (x.2 * k % 4294967296) + q_ev rho (q_scale k t)) % 4294967296 = ((rho x.1 * x.2 + q_ev rho t) * k) % 4294967296
    rw [Nat.add_mul, Nat.add_mod, ih, Nat.mul_mod, Nat.mod_mod, ← Nat.mul_mod, ← Nat.add_mod, Nat.mul_assoc]
theorem q_i_add (rho : Nat → Nat) (x y : qI) : q_i rho x + q_i rho y = q_i rho ((x.1 + y.1) % 4294967296, x.2 ++ y.2) := by
  unfold q_i
  rw [nI_add]
  apply q_nImod
  dsimp only
  rw [q_ev_app]
  omega
theorem q_i_sub (rho : Nat → Nat) (x y : qI) : q_i rho x - q_i rho y = q_i rho ((x.1 + (4294967296 - y.1 % 4294967296)) % 4294967296, x.2 ++ q_neg y.2) := by
  have h : q_i rho x = q_i rho ((x.1 + (4294967296 - y.1 % 4294967296)) % 4294967296, x.2 ++ q_neg y.2) + q_i rho y := by
    unfold q_i
    rw [nI_add]
    apply q_nImod
    dsimp only
    rw [q_ev_app]
    have := q_ev_neg rho y.2
    omega
  rw [h, Int32.add_sub_cancel]
theorem q_i_mul1 (rho : Nat → Nat) (x y : qI) (h : y.2 = []) : q_i rho x * q_i rho y = q_i rho (x.1 * y.1 % 4294967296, q_scale y.1 x.2) := by
  unfold q_i
  rw [pk_mul, h]
  apply q_nImod
  have h2 := q_ev_scale rho y.1 x.2
  show (x.1 + q_ev rho x.2) * (y.1 + 0) % 4294967296 = (x.1 * y.1 % 4294967296 + q_ev rho (q_scale y.1 x.2)) % 4294967296
  rw [Nat.add_zero, Nat.add_mul, Nat.add_mod, ← h2, ← Nat.add_mod, Nat.add_mod (x.1 * y.1 % 4294967296), Nat.mod_mod, ← Nat.add_mod]
theorem q_i_mul2 (rho : Nat → Nat) (x y : qI) (h : x.2 = []) : q_i rho x * q_i rho y = q_i rho (x.1 * y.1 % 4294967296, q_scale x.1 y.2) := by
  rw [Int32.mul_comm, q_i_mul1 rho y x h, Nat.mul_comm]
theorem q_i_c (rho : Nat → Nat) (c : Nat) : q_i rho (c, []) = nI c := rfl
/-- what an environment says -/
def qEok (E : qEnv) (rho : Nat → Nat) : Prop := ∀ x ∈ E, x.2.1 ≤ q_bz (q_ev rho x.1) ∧ q_bz (q_ev rho x.1) ≤ x.2.2
theorem q_find_ok {E : qEnv} {rho : Nat → Nat} (hE : qEok E rho) {t : qT} {r : Nat × Nat} (h : q_find t E = some r) : r.1 ≤ q_bz (q_ev rho t) ∧ q_bz (q_ev rho t) ≤ r.2 := by
  induction E with
  | nil => cases h
  | cons x E ih =>
    have h : (match q_teq t x.1 with
      | true => some x.2
      | false => q_find t E) = some r := h
    split at h
    · next hq =>
      have e := q_teq_eq hq
      cases h
      rw [e]
      exact hE x List.mem_cons_self
    · exact ih (fun y hy => hE y (List.mem_cons_of_mem _ hy)) h
theorem q_er_sub {t : qT} {x : qT × Nat × Nat} : ∀ {E : qEnv}, x ∈ q_er t E → x ∈ E
  | [], h => h
  | y :: E, h => by
    have h : x ∈ (match q_teq t y.1 with
      | true => q_er t E
      | false => y :: q_er t E) := h
    split at h
    · exact List.mem_cons_of_mem _ (q_er_sub h)
    · rcases List.mem_cons.mp h with rfl | h
      · exact List.mem_cons_self
      · exact List.mem_cons_of_mem _ (q_er_sub h)
theorem q_base_ok {E : qEnv} {rho : Nat → Nat} (hE : qEok E rho) (t : qT) : (q_base E t).1 ≤ q_bz (q_ev rho t) ∧ q_bz (q_ev rho t) ≤ (q_base E t).2 := by
  have hb := q_bz_lt (q_ev rho t)
  unfold q_base
  split
  · next r h => exact q_find_ok hE h
  · split
    · next r h =>
      have h1 := q_find_ok hE h
      have h2 := q_ev_neg rho t
      split
      · next h3 =>
        have h4 : 1 ≤ r.1 := Nat.le_of_ble_eq_true h3
        unfold q_bz at h1 hb ⊢
        dsimp only
        omega
      · dsimp only; omega
    · dsimp only; omega
theorem q_sh_ok {r : Nat × Nat} {c n : Nat} (h : r.1 ≤ q_bz n ∧ q_bz n ≤ r.2) : (q_sh r c).1 ≤ q_bz (c + n) ∧ q_bz (c + n) ≤ (q_sh r c).2 := by
  have hb := q_bz_lt (c + n)
  unfold q_sh
  split
  · next h1 =>
    have h2 := Nat.eq_of_beq_eq_true h1
    unfold q_bz at h ⊢
    dsimp only
    omega
  · dsimp only; omega
theorem q_iv_ok {E : qEnv} {rho : Nat → Nat} (hE : qEok E rho) (x : qI) : (q_iv E x).1 ≤ q_bz (x.1 + q_ev rho x.2) ∧ q_bz (x.1 + q_ev rho x.2) ≤ (q_iv E x).2 := by
  obtain ⟨c, t⟩ := x
  cases t with
  | nil =>
    simp only [q_iv, q_ev, q_bz, Nat.add_zero]
    exact ⟨Nat.le_refl _, Nat.le_refl _⟩
  | cons y t =>
    have h := q_sh_ok (c := c) (q_base_ok hE (y :: t))
    simp only [q_iv]
    exact h
theorem q_lt_ok {p q : Nat × Nat} {a b : Nat} (ha : p.1 ≤ q_bz a ∧ q_bz a ≤ p.2) (hb : q.1 ≤ q_bz b ∧ q_bz b ≤ q.2) {r : Bool} (h : q_lt p q = some r) : r = true ↔ nI a < nI b := by
  rw [q_lt_iff]
  unfold q_lt at h
  split at h
  · next h1 =>
    cases h
    have := Nat.blt_eq.mp h1
    simp; omega
  · split at h
    · next h2 =>
      cases h
      have := Nat.le_of_ble_eq_true h2
      simp; omega
    · cases h
theorem q_eq_ok {p q : Nat × Nat} {a b : Nat} (ha : p.1 ≤ q_bz a ∧ q_bz a ≤ p.2) (hb : q.1 ≤ q_bz b ∧ q_bz b ≤ q.2) {r : Bool} (h : q_eq p q = some r) : r = true ↔ nI a = nI b := by
  rw [q_eq_iff]
  unfold q_eq at h
  split at h
  · next h1 =>
    cases h
    simp only [Bool.and_eq_true, Nat.beq_eq] at h1
    simp; omega
  · split at h
    · next h2 =>
      cases h
      simp only [Bool.or_eq_true, Nat.blt_eq] at h2
      simp; omega
    · cases h
def q_ccP (cc : Nat) (x y : Int32) : Prop := match cc with
  | 0 => x = y
  | 1 => ¬ x = y
  | 2 => x < y
  | 3 => ¬ x < y
  | 4 => y < x
  | 5 => ¬ y < x
  | _ => False
theorem q_not_ok {o : Option Bool} {P : Prop} {r : Bool} (h0 : ∀ r, o = some r → (r = true ↔ P)) (h : q_not o = some r) : r = true ↔ ¬ P := by
  match o, h, h0 with
  | some true, h, h0 => cases h; simpa using (h0 true rfl)
  | some false, h, h0 => cases h; simpa using (h0 false rfl)
theorem q_cc_ok {E : qEnv} {rho : Nat → Nat} (hE : qEok E rho) (cc : Nat) (x y : qI) {r : Bool} (h : q_cc cc (q_iv E x) (q_iv E y) = some r) : r = true ↔ q_ccP cc (q_i rho x) (q_i rho y) := by
  have hx := q_iv_ok hE x
  have hy := q_iv_ok hE y
  unfold q_cc at h
  unfold q_ccP q_i
  split at h
  · exact q_eq_ok hx hy h
  · exact q_not_ok (fun r hr => q_eq_ok hx hy hr) h
  · exact q_lt_ok hx hy h
  · exact q_not_ok (fun r hr => q_lt_ok hx hy hr) h
  · exact q_lt_ok hy hx h
  · exact q_not_ok (fun r hr => q_lt_ok hy hx hr) h
  · cases h
/-- an index in its interval -/
theorem q_ix_ok {E : qEnv} {rho : Nat → Nat} (hE : qEok E rho) (x : qI) {q : Nat × Nat} (h : q_ix E x = some q) : ∃ j : Nat, q_i rho x = nI j ∧ q.1 ≤ j ∧ j ≤ q.2 ∧ j < 2147483648 := by
  have hx := q_iv_ok hE x
  unfold q_ix at h
  split at h
  · next h1 =>
    have h := Option.some.inj h
    subst h
    have h2 := Nat.le_of_ble_eq_true h1
    have hb := q_bz_lt (x.1 + q_ev rho x.2)
    refine ⟨q_bz (x.1 + q_ev rho x.2) - 2147483648, ?_, ?_, ?_, ?_⟩
    · unfold q_i
      apply q_nImod
      unfold q_bz at hx hb ⊢
      omega
    · dsimp only; omega
    · dsimp only; omega
    · omega
  · cases h
theorem q_all_ok {α : Type} {p : α → Bool} : ∀ {n : Nat} {l : List α}, q_all p n l = true → ∀ i, i < n → ∃ x, l[i]? = some x ∧ p x = true
  | 0, _, _, i, hi => absurd hi (Nat.not_lt_zero i)
  | n + 1, [], h, _, _ => absurd (show false = true from h) (by decide)
  | n + 1, x :: l, h, i, hi => by
    have h : (p x && q_all p n l) = true := h
    simp only [Bool.and_eq_true] at h
    cases i with
    | zero => exact ⟨x, rfl, h.1⟩
    | succ i =>
      obtain ⟨y, h1, h2⟩ := q_all_ok h.2 i (by omega)
      exact ⟨y, by rw [List.getElem?_cons_succ]; exact h1, h2⟩
theorem q_rd_ok {α : Type} {eq : α → α → Bool} (heq : ∀ {x y}, eq x y = true → x = y) {xs : List α} {l u j : Nat} {v : α} (h : q_rd eq xs l u = some (some v)) (h1 : l ≤ j) (h2 : j ≤ u) : xs[j]? = some v := by
  unfold q_rd at h
  split at h
  · cases h
  · next w r hd =>
    rw [q_drop_eq] at hd
    have hw : ∀ i, xs[l + i]? = (w :: r)[i]? := fun i => by rw [← hd, List.getElem?_drop]
    split at h
    · next hb =>
      cases h
      have hlu := Nat.eq_of_beq_eq_true hb
      have : j = l := by omega
      subst this
      have := hw 0
      simpa using this
    · split at h
      · cases h
      · split at h
        · next ha =>
          cases h
          have hj := hw (j - l)
          rw [show l + (j - l) = j by omega] at hj
          rw [hj]
          rcases Nat.eq_zero_or_pos (j - l) with z | z
          · rw [z]; rfl
          · obtain ⟨x, g1, g2⟩ := q_all_ok ha (j - l - 1) (by omega)
            rw [show j - l = (j - l - 1) + 1 by omega, List.getElem?_cons_succ, g1, heq g2]
        · cases h
theorem q_pop_ok : ∀ {n : Nat} {S acc As S' : List qV}, q_pop n S acc = some (As, S') → ∃ B, As = B.reverse ++ acc ∧ S = B ++ S' ∧ B.length = n ∧ ∀ v ∈ B, q_lng v = false
  | 0, S, acc, As, S', h => by
    simp only [q_pop, Option.some.injEq, Prod.mk.injEq] at h
    obtain ⟨rfl, rfl⟩ := h
    exact ⟨[], rfl, rfl, rfl, fun _ h => by cases h⟩
  | n + 1, [], acc, As, S', h => by cases h
  | n + 1, v :: S, acc, As, S', h => by
    simp only [q_pop] at h
    split at h
    · cases h
    · next hv =>
      obtain ⟨B, h1, h2, h3, h4⟩ := q_pop_ok h
      refine ⟨v :: B, by rw [h1]; simp, by rw [h2]; rfl, by rw [List.length_cons, h3], fun w hw => ?_⟩
      rcases List.mem_cons.mp hw with rfl | hw
      · exact hv
      · exact h4 w hw
theorem q_add_eq (dc ds : Nat) (r : qRes) : q_add dc ds r = q_add1 dc ds r := by
  have h0 : ∀ r : qRes, q_add1 0 0 r = r := fun r => by
    rcases r with ⟨v, h, a, b⟩ | ⟨X, h, a, b⟩ | x <;> simp [q_add1]
  unfold q_add
  split
  · split
    · exact (h0 r).symm
    · rfl
  · rfl
end
section
/-! WHAT THE EVALUATOR'S WORDS MEAN: values, cells, heaps, locals -/
def q_ad (N0 b : Nat) (k : Nat) : Nat := match k with
  | 0 => b
  | k + 1 => N0 + k
def q_l (n : Nat) : Int64 := (nI n).toInt64
def q_r (N0 b : Nat) (r : Option Nat) : Option Nat := r.map (q_ad N0 b)
def q_v (N0 b : Nat) (rho : Nat → Nat) (v : qV) : Value := match v with
  | .inl x => .int (q_i rho x)
  | .inr (.inl r) => va_rf (q_r N0 b r)
  | .inr (.inr n) => .long (q_l n)
def q_cA (tys : List (ClassId × FieldType)) (t : Nat) : ClassId := (tys.getD t (0, .int)).1
def q_c (N0 b : Nat) (rho : Nat → Nat) (tys : List (ClassId × FieldType)) (x : qC) : va_E := match x with
  | .inl (t, .inl l) => .inl (q_cA tys t, l.length, .inl (fun j => q_i rho (l.getD j (0, []))))
  | .inl (t, .inr (.inl l)) => .inl (q_cA tys t, l.length, .inr (.inl (fun j => q_l (l.getD j 0))))
  | .inl (t, .inr (.inr l)) => .inl (q_cA tys t, l.length, .inr (.inr (.inr (.inr (fun j => q_r N0 b (l.getD j none))))))
  | .inr (ci, fs) => .inr (ci, fs.map (q_v N0 b rho))
def qJ (N0 b : Nat) (H0 : Heap) (rho : Nat → Nat) (tys : List (ClassId × FieldType)) (D : va_G) (h : qHp) (H : Heap) : Prop :=
  (∀ q : Nat, q < N0 → H[q]? = H0[q]?) ∧ N0 + h.2.length ≤ H.size ∧ (h.1 = true → H.size = N0 + h.2.length) ∧ ∀ (k : Nat) (x : qC), h.2[k]? = some x → va_at D vwCl (N0 + k, q_c N0 b rho tys x) H
theorem q_lngc {N0 b : Nat} {rho : Nat → Nat} {v : qV} (h : q_lng v = false) : (q_v N0 b rho v).category = 1 := by
  rcases v with x | r | n
  · rfl
  · cases r <;> rfl
  · cases h
theorem q_catc {N0 b : Nat} {rho : Nat → Nat} (v : qV) : (q_v N0 b rho v).category = (match q_lng v with | true => 2 | false => 1) := by
  rcases v with x | r | n
  · rfl
  · cases r <;> rfl
  · rfl
theorem q_cats {N0 b : Nat} {rho : Nat → Nat} : ∀ (S : List qV), ((S.map (q_v N0 b rho)).map fun v => v.category).sum = q_cat S
  | [] => rfl
  | v :: S => by
    show (q_v N0 b rho v).category + ((S.map (q_v N0 b rho)).map fun v => v.category).sum = _
    rw [q_cats S, q_catc v]
    rfl
section QJ
variable {N0 b : Nat} {H0 : Heap} {rho : Nat → Nat} {tys : List (ClassId × FieldType)} {D : va_G} {h : qHp} {H H1 : Heap}
theorem qJ.one (hJ : qJ N0 b H0 rho tys D h H) {k : Nat} {x : qC} (hk : h.2[k]? = some x) : va_P D vwCl [(N0 + k, q_c N0 b rho tys x)] H := by
  intro i q hq
  cases i with
  | zero => cases hq; exact hJ.2.2.2 k x hk
  | succ i => simp at hq
theorem qJ.set (hJ : qJ N0 b H0 rho tys D h H) {k : Nat} {x0 x1 : qC} (hk : h.2[k]? = some x0) (z : H1.size = H.size) (oq : ∀ q : Nat, q ≠ N0 + k → H1[q]? = H[q]?) (hat : va_at D vwCl (N0 + k, q_c N0 b rho tys x1) H1) : qJ N0 b H0 rho tys D (h.1, h.2.set k x1) H1 := by
  obtain ⟨h1, h2, h3, h4⟩ := hJ
  have hl := (List.getElem?_eq_some_iff.mp hk).1
  refine ⟨fun q hq => by rw [oq q (by omega)]; exact h1 q hq, by rw [z, List.length_set]; exact h2, fun ht => by rw [z, List.length_set]; exact h3 ht, fun i x hi => ?_⟩
  by_cases e : i = k
  · subst e
    rw [List.getElem?_set_self hl] at hi
    cases hi
    exact hat
  · rw [List.getElem?_set_ne (Ne.symm e)] at hi
    exact (h4 i x hi).kept (oq _ (by show N0 + i ≠ N0 + k; omega))
theorem qJ.push (hJ : qJ N0 b H0 rho tys D h H) (hf : h.1 = true) {x : qC} (z : H1.size = H.size + 1) (o : ∀ q : Nat, q < H.size → H1[q]? = H[q]?) (hat : va_at D vwCl (H.size, q_c N0 b rho tys x) H1) : qJ N0 b H0 rho tys D (true, h.2 ++ [x]) H1 := by
  obtain ⟨h1, h2, h3, h4⟩ := hJ
  have e := h3 hf
  refine ⟨fun q hq => by rw [o q (by omega)]; exact h1 q hq, by rw [z, List.length_append]; simp; omega, fun _ => by rw [z, List.length_append]; simp; omega, fun i y hi => ?_⟩
  by_cases hl : i < h.2.length
  · rw [List.getElem?_append_left hl] at hi
    exact (h4 i y hi).kept (o _ (by show N0 + i < H.size; omega))
  · rw [List.getElem?_append_right (by omega)] at hi
    have hz : i - h.2.length < 1 := (List.getElem?_eq_some_iff.mp hi).1
    rw [show i - h.2.length = 0 by omega] at hi
    cases hi
    rw [show N0 + i = H.size by omega]
    exact hat
/-- what was thrown lies behind -/
theorem qJ.grow (hJ : qJ N0 b H0 rho tys D h H) (z : H.size ≤ H1.size) (o : ∀ q : Nat, q < H.size → H1[q]? = H[q]?) : qJ N0 b H0 rho tys D (false, h.2) H1 := by
  obtain ⟨h1, h2, h3, h4⟩ := hJ
  exact ⟨fun q hq => by rw [o q (by omega)]; exact h1 q hq, Nat.le_trans h2 z, fun ht => (by cases ht), fun i x hi => (h4 i x hi).kept (o _ (by have h9 : i < h.2.length := (List.getElem?_eq_some_iff.mp hi).1; show N0 + i < H.size; omega))⟩
end QJ
def qLoc (N0 b : Nat) (rho : Nat → Nat) (ls : Array Slot) (nL : Nat) (L : qL) : Prop := ls.size = nL ∧ lv_wf ls ∧ ∀ (i : Nat) (v : qV), L[i]? = some (some v) → ls[i]? = some (.val (q_v N0 b rho v)) ∧ q_lng v = false
def q_lv (N0 b : Nat) (rho : Nat → Nat) (nL : Nat) (L : qL) : List (Nat × Value) := (List.range nL).filterMap fun i => match L[i]? with
  | some (some v) => some (i, q_v N0 b rho v)
  | _ => none
section QL
variable {N0 b : Nat} {rho : Nat → Nat} {ls ls' : Array Slot} {nL : Nat} {L : qL}
theorem q_lv_mem {q : Nat × Value} (hq : q ∈ q_lv N0 b rho nL L) : ∃ v, L[q.1]? = some (some v) ∧ q.2 = q_v N0 b rho v := by
  obtain ⟨i, -, hi⟩ := List.mem_filterMap.mp hq
  split at hi
  · next v hv =>
    cases hi
    exact ⟨v, hv, rfl⟩
  · cases hi
theorem qLoc.lv (h : qLoc N0 b rho ls nL L) : lv_has ls nL (q_lv N0 b rho nL L) := by
  refine ⟨h.1, h.2.1, fun q hq => ?_⟩
  obtain ⟨v, h1, h2⟩ := q_lv_mem hq
  rw [h2]
  exact (h.2.2 q.1 v h1).1
theorem qLoc.st (h : qLoc N0 b rho ls nL L) {i : Nat} {val : Value} (h' : lv_has ls' nL ((i, val) :: (q_lv N0 b rho nL L).filter (fun q => !(q.1 == i) && !(q.1 + 1 == i && q.2.category == 2)))) (o : Option qV) (ho : ∀ v, o = some v → val = q_v N0 b rho v ∧ q_lng v = false) : qLoc N0 b rho ls' nL (L.set i o) := by
  refine ⟨h'.1, h'.2.1, fun j v hj => ?_⟩
  by_cases e : j = i
  · subst e
    have hl : j < L.length := by
      have := (List.getElem?_eq_some_iff.mp hj).1
      rwa [List.length_set] at this
    rw [List.getElem?_set_self hl] at hj
    have hj := Option.some.inj hj
    obtain ⟨h1, h2⟩ := ho v hj
    exact ⟨by rw [← h1]; exact h'.2.2 (j, val) List.mem_cons_self, h2⟩
  · rw [List.getElem?_set_ne (Ne.symm e)] at hj
    obtain ⟨h1, h2⟩ := h.2.2 j v hj
    have hjn : j < nL := by rw [← h.1]; exact (Array.getElem?_eq_some_iff.mp h1).1
    refine ⟨h'.2.2 (j, q_v N0 b rho v) (List.mem_cons_of_mem _ (List.mem_filter.mpr ⟨List.mem_filterMap.mpr ⟨j, List.mem_range.mpr hjn, by rw [hj]⟩, ?_⟩)), h2⟩
    have hc := q_lngc (N0 := N0) (b := b) (rho := rho) h2
    simp [e, hc]
end QL
def q_nestP (q : String × Nat × MethodName) : Jvm.Cond := .methodLinkNest q.1 q.2.1 q.2.2 "Treebark"
/-- what holds of the machine's tables and of the old heap, at every method's start -/
def qWd (N0 b : Nat) (H0 : Heap) (tys : List (ClassId × FieldType)) (D : va_G) (Lx : Nat) (xs : Nat → Int32) (s : State) : Prop :=
  va_K D vwCl tys s ∧ tys.map (fun q => q.2) = q_tys ∧ va_X b Lx xs s H0 ∧ b < N0 ∧ H0.size = N0 ∧
  vx_Zq Bundle.tN "UNASSIGNED_STACK" Bundle.steD (fun q => N0 ≤ q) s H0 ∧ vx_Zq Bundle.tN "SUPPRESSED_SENTINEL" Bundle.listD (fun q => N0 ≤ q) s H0 ∧
  (∀ q ∈ q_nests, va_Nw (q_nestP q) s) ∧ ((∀ X ∈ q_exc, va_Nw (.castable X X) s) ∧ ∀ y ∈ q_decl, va_Nw (.declares y) s) ∧ (∀ X ∈ q_exc, ∀ Y ∈ q_exc, X ≠ Y → va_Nc X Y s) ∧
  (∀ (t : Nat) (C : String), 1 < t → q_tys[t]? = some (.object C) → va_AO C s) ∧ va_Nw (.arrayOver (.array .int)) s
theorem q_ao6_moved {s U : State} (hW : s.WarmedH U.vm) (h : va_Nw (.arrayOver (.array .int)) s) : va_Nw (.arrayOver (.array .int)) U := Jvm.Stand.arrayOver_alikeB hW.alike h
theorem qWd.moved {N0 b : Nat} {H0 : Heap} {tys : List (ClassId × FieldType)} {D : va_G} {Lx : Nat} {xs : Nat → Int32} {s U : State} (hW : s.WarmedH U.vm) (h : qWd N0 b H0 tys D Lx xs s) : qWd N0 b H0 tys D Lx xs U := by
  obtain ⟨h1, h2, h3, h4, h5, h6, h7, h8, h9, h10, h11, h12⟩ := h
  exact ⟨va_K.moved hW.alike h1, h2, va_X.moved hW.alike h3, h4, h5, vx_Zq.moved hW.alike h6, vx_Zq.moved hW.alike h7, fun q hq => va_Nw.warmM hW (h8 q hq), ⟨fun X hX => va_Nw.warmC hW (h9.1 X hX), fun y hy => va_Nw.warmD hW (h9.2 y hy)⟩, fun X hX Y hY hn => va_Nc.moved hW.alike (h10 X hX Y hY hn), fun t C ht hC => va_AO.moved hW.alike (h11 t C ht hC), q_ao6_moved hW h12⟩
/-- a method at work: the machine, its code, the tables' words, its room -/
def qCtx (p : Program) (l : Launch) (R : Room) (s : State) (m : MethodId) (args : Array Value) (meth : Method) (c : Code) (own nm : String) (cc : ByteArray) (nL : Nat) (ret : Option FieldType) (hh : List (Nat × Nat × Nat × Nat)) (d : Nat) : Prop :=
  p.tables.exec = Jvm.exec ∧ c.code = cc ∧ c.maxLocals = nL ∧ s.vm.findClass own = some m.cls ∧ (∀ w ∈ q_TBL, w.before args s = true) ∧ meth.sig.returnType = ret ∧ meth.locks = false ∧ (meth.name = nm ∨ nm = "") ∧ (hh ≠ [] → c.exceptionTable.toList = tableOf hh) ∧ d ≤ R.frames ∧ 32 * d ≤ R.locals ∧ l.stackTraces = false
theorem q_w_in {j : Nat} {w : Jvm.Cond} (h : q_w j w = true) : w ∈ q_TBL ∧ goodWord w = true := by
  simp only [q_w, Bool.and_eq_true, decide_eq_true_eq] at h
  exact ⟨List.mem_filter.mpr ⟨List.mem_of_getElem? h.1, h.2⟩, h.2⟩
theorem q_TBL_good {w : Jvm.Cond} (h : w ∈ q_TBL) : goodWord w = true := (List.mem_filter.mp h).2
/-- the continuation's state: the row where it stands, the walk from there -/
def qSt (p : Program) (l : Launch) (e : Env) (R : Room) (s : State) (m : MethodId) (args : Array Value) (below : List Frame) (meth : Method) (c : Code) (N0 b : Nat) (H0 : Heap) (rho : Nat → Nat) (tys : List (ClassId × FieldType)) (D : va_G) (nL : Nat) (Rw : List qRow) (Qf : State → Prop) (j : Nat) (L : qL) (S : List qV) (h : qHp) (nc ns : Nat) : Prop :=
  ∃ (r : qRow) (K : List qRow), q_drop Rw j = r :: K ∧ ∀ (H : Heap) (locs : List Loc) (ls : Array Slot), qJ N0 b H0 rho tys D h H → (∀ z ∈ locs, N0 ≤ z.base) → qLoc N0 b rho ls nL L → W p l e R s m args below meth c H locs nc ns Qf (F0 m r.1 ls (S.map (q_v N0 b rho)))
end
section
/-! EACH OP IS SOUND -/
def qScr (rho : Nat → Nat) (Lx : Nat) (xs : Nat → Int32) : Prop := rho 0 = Lx ∧ Lx ≤ 8 ∧ (∀ i, i < 8 → nI (rho (i + 1)) = xs i) ∧ nI (rho 9) = xs 0 &&& 31
def qKok (p : Program) (l : Launch) (e : Env) (R : Room) (s : State) (m : MethodId) (args : Array Value) (below : List Frame) (meth : Method) (c : Code) (N0 b : Nat) (H0 : Heap) (rho : Nat → Nat) (tys : List (ClassId × FieldType)) (D : va_G) (nL : Nat) (Rw : List qRow) (Qf : State → Prop) (Rel : qRes → Nat → Nat → Prop) (kk : qKk) : Prop :=
  ∀ (j : Nat) (L : qL) (S : List qV) (h : qHp) (nc ns : Nat), Rel (kk (q_drop Rw j) L S h) nc ns → qSt p l e R s m args below meth c N0 b H0 rho tys D nL Rw Qf j L S h nc ns
def qAddR (R : Room) (Rel : qRes → Nat → Nat → Prop) : Prop := ∀ (dc ds : Nat) (r : qRes) (nc ns : Nat), Rel (q_add1 dc ds r) nc ns → Rel r (nc + dc) (ns + ds) ∧ nc + dc ≤ R.cells ∧ ns + ds ≤ R.slots

/-! rows of the ops -/
theorem q_nI_and (x y : Nat) : nI x &&& nI y = nI (Nat.land x y) := by
  apply Int32.toBitVec_inj.mp
  apply BitVec.eq_of_toNat_eq
  rw [Int32.toBitVec_and, BitVec.toNat_and, q_tn, q_tn, q_tn]
  show x % 2 ^ 32 &&& y % 2 ^ 32 = (x &&& y) % 2 ^ 32
  rw [Nat.and_mod_two_pow]
theorem q_nI_or (x y : Nat) : nI x ||| nI y = nI (Nat.lor x y) := by
  apply Int32.toBitVec_inj.mp
  apply BitVec.eq_of_toNat_eq
  rw [Int32.toBitVec_or, BitVec.toNat_or, q_tn, q_tn, q_tn]
  show x % 2 ^ 32 ||| y % 2 ^ 32 = (x ||| y) % 2 ^ 32
  rw [Nat.or_mod_two_pow]
theorem q_nI_xor (x y : Nat) : nI x ^^^ nI y = nI (Nat.xor x y) := by
  apply Int32.toBitVec_inj.mp
  apply BitVec.eq_of_toNat_eq
  rw [Int32.toBitVec_xor, BitVec.toNat_xor, q_tn, q_tn, q_tn]
  show x % 2 ^ 32 ^^^ y % 2 ^ 32 = (x ^^^ y) % 2 ^ 32
  rw [Nat.xor_mod_two_pow]
theorem q_cnt : ∀ k, k < 32 → ((nI k).toBitVec.smod 32).toNat = k := by decide +kernel
theorem q_nI_shl (x y : Nat) : nI x <<< (nI y &&& 31) = nI (Nat.shiftLeft x (y % 32) % 4294967296) := by
  have e : nI y &&& 31 = nI (y % 32) := by
    have h := q_nI_and y 31
    have h2 : Nat.land y 31 = y % 32 := Nat.and_two_pow_sub_one_eq_mod y 5
    rw [h2] at h
    exact h
  rw [e]
  apply Int32.toBitVec_inj.mp
  apply BitVec.eq_of_toNat_eq
  rw [pk_shl (nI x) (nI (y % 32)) (y % 32) (q_cnt _ (Nat.mod_lt _ (by omega))), q_tn, q_tn]
  show _ = (x <<< (y % 32)) % 4294967296 % 4294967296
  rw [Nat.shiftLeft_eq, Nat.mod_mod, Nat.mod_mul_mod]
theorem q_lcmp0 (x : Int64) (rho : Nat → Nat) : lg_cmp x x = q_i rho (0, []) := by
  have h : ¬ x < x := Int64.lt_irrefl
  unfold lg_cmp
  rw [if_neg h, if_pos rfl]
  rfl
theorem q_l01 : ∀ k : Fin 2, Int64.ofNat k.val = q_l k.val := by decide +kernel
theorem q_tgE {R : List qRow} {t pc : Nat} {off : Int} (h : q_tg R t pc off = true) : ∃ tgt : Nat, (pc : Int) + off = (tgt : Int) := by
  unfold q_tg at h
  split at h
  · cases h
  · next x _ _ => exact ⟨x.1, of_decide_eq_true h⟩
theorem q_ad_inj {b N0 : Nat} (h : b < N0) {i j : Nat} (hij : q_ad N0 b i = q_ad N0 b j) : i = j := by
  cases i <;> cases j <;> simp only [q_ad] at hij <;> omega
theorem q_r_inj {b N0 : Nat} (h : b < N0) {x y : Option Nat} (hxy : q_r N0 b x = q_r N0 b y) : x = y := by
  cases x with
  | none => cases y with
    | none => rfl
    | some j => cases hxy
  | some i => cases y with
    | none => cases hxy
    | some j => rw [q_ad_inj h (Option.some.inj hxy)]
section QB
variable {p : Program} {l : Launch} {e : Env} {R : Room} {s : State} {m : MethodId} {args : Array Value} {below : List Frame} {meth : Method} {c : Code} {H : Heap} {locs : List Loc} {cells slots : Nat} {Q : State → Prop}
variable {cc : ByteArray} {pc tgt : Nat} {ls : Array Slot} {rest : List Value} {a0 : Nat} {cd : ClassFile.Cond} {off : Int} {x y : Int32}
theorem q_if_t (hx : p.tables.exec = Jvm.exec) (hb : c.code = cc) (hd : decode cc pc = .ok (.ifCond cd off, 3)) (oc : Nat.beq (q_ccI cd) a0 = true) (ht : (pc : Int) + off = (tgt : Int)) (hP : q_ccP a0 x 0) (hn : W p l e R s m args below meth c H locs cells slots Q (F0 m tgt ls rest)) : W p l e R s m args below meth c H locs cells slots Q (F0 m pc ls (.int x :: rest)) := by
  have oc := Nat.eq_of_beq_eq_true oc
  subst oc
  cases cd
  · exact lv_if_eq hx hb hd ht (fun _ => hn) (fun z => absurd hP z)
  · exact lv_if_ne hx hb hd ht (fun _ => hn) (fun z => absurd (by first | exact z | exact Classical.not_not.mp z) hP)
  · exact lv_if_lt hx hb hd ht (fun _ => hn) (fun z => absurd hP z)
  · exact lv_if_ge hx hb hd ht (fun _ => hn) (fun z => absurd (Int32.not_lt.mp hP) z)
  · exact lv_if_gt hx hb hd ht (fun _ => hn) (fun z => absurd hP z)
  · exact lv_if_le hx hb hd ht (fun _ => hn) (fun z => absurd (Int32.not_lt.mp hP) z)
theorem q_if_f (hx : p.tables.exec = Jvm.exec) (hb : c.code = cc) (hd : decode cc pc = .ok (.ifCond cd off, 3)) (oc : Nat.beq (q_ccI cd) a0 = true) (ht : (pc : Int) + off = (tgt : Int)) (hP : ¬ q_ccP a0 x 0) (hn : W p l e R s m args below meth c H locs cells slots Q (F0 m (pc + 3) ls rest)) : W p l e R s m args below meth c H locs cells slots Q (F0 m pc ls (.int x :: rest)) := by
  have oc := Nat.eq_of_beq_eq_true oc
  subst oc
  cases cd
  · exact lv_if_eq hx hb hd ht (fun z => absurd z hP) (fun _ => hn)
  · exact lv_if_ne hx hb hd ht (fun z => absurd z hP) (fun _ => hn)
  · exact lv_if_lt hx hb hd ht (fun z => absurd z hP) (fun _ => hn)
  · exact lv_if_ge hx hb hd ht (fun z => absurd (Int32.not_lt.mpr z) hP) (fun _ => hn)
  · exact lv_if_gt hx hb hd ht (fun z => absurd z hP) (fun _ => hn)
  · exact lv_if_le hx hb hd ht (fun z => absurd (Int32.not_lt.mpr z) hP) (fun _ => hn)
theorem q_icmp_t (hx : p.tables.exec = Jvm.exec) (hb : c.code = cc) (hd : decode cc pc = .ok (.if_icmp cd off, 3)) (oc : Nat.beq (q_ccI cd) a0 = true) (ht : (pc : Int) + off = (tgt : Int)) (hP : q_ccP a0 x y) (hn : W p l e R s m args below meth c H locs cells slots Q (F0 m tgt ls rest)) : W p l e R s m args below meth c H locs cells slots Q (F0 m pc ls (.int y :: .int x :: rest)) := by
  have oc := Nat.eq_of_beq_eq_true oc
  subst oc
  cases cd
  · exact lv_icmp_eq hx hb hd ht (fun _ => hn) (fun z => absurd hP z)
  · exact lv_icmp_ne hx hb hd ht (fun _ => hn) (fun z => absurd (by first | exact z | exact Classical.not_not.mp z) hP)
  · exact lv_icmp_lt hx hb hd ht (fun _ => hn) (fun z => absurd hP z)
  · exact lv_icmp_ge hx hb hd ht (fun _ => hn) (fun z => absurd (Int32.not_lt.mp hP) z)
  · exact lv_icmp_gt hx hb hd ht (fun _ => hn) (fun z => absurd hP z)
  · exact lv_icmp_le hx hb hd ht (fun _ => hn) (fun z => absurd (Int32.not_lt.mp hP) z)
theorem q_icmp_f (hx : p.tables.exec = Jvm.exec) (hb : c.code = cc) (hd : decode cc pc = .ok (.if_icmp cd off, 3)) (oc : Nat.beq (q_ccI cd) a0 = true) (ht : (pc : Int) + off = (tgt : Int)) (hP : ¬ q_ccP a0 x y) (hn : W p l e R s m args below meth c H locs cells slots Q (F0 m (pc + 3) ls rest)) : W p l e R s m args below meth c H locs cells slots Q (F0 m pc ls (.int y :: .int x :: rest)) := by
  have oc := Nat.eq_of_beq_eq_true oc
  subst oc
  cases cd
  · exact lv_icmp_eq hx hb hd ht (fun z => absurd z hP) (fun _ => hn)
  · exact lv_icmp_ne hx hb hd ht (fun z => absurd z hP) (fun _ => hn)
  · exact lv_icmp_lt hx hb hd ht (fun z => absurd z hP) (fun _ => hn)
  · exact lv_icmp_ge hx hb hd ht (fun z => absurd (Int32.not_lt.mpr z) hP) (fun _ => hn)
  · exact lv_icmp_gt hx hb hd ht (fun z => absurd z hP) (fun _ => hn)
  · exact lv_icmp_le hx hb hd ht (fun z => absurd (Int32.not_lt.mpr z) hP) (fun _ => hn)
end QB
section QO
variable {p : Program} {l : Launch} {e : Env} {R : Room} {s : State} {m : MethodId} {args : Array Value} {below : List Frame} {meth : Method} {c : Code}
variable {N0 b : Nat} {H0 : Heap} {rho : Nat → Nat} {tys : List (ClassId × FieldType)} {D : va_G} {Lx : Nat} {xs : Nat → Int32}
variable {own nm : String} {cc : ByteArray} {nL : Nat} {ret : Option FieldType} {hh : List (Nat × Nat × Nat × Nat)} {d : Nat}
variable {Rw : List qRow} {hs : List qHd} {P : List qM} {I : List qInf} {sw : List Nat} {E : qEnv} {ih : qIh} {kk : qKk}
variable {Qf : State → Prop} {Rel : qRes → Nat → Nat → Prop}
variable {j pc op a0 b0 c0 len : Nat} {ins : Instr} {K : List qRow} {L : qL} {S : List qV} {h : qHp} {nc ns : Nat} {H : Heap} {locs : List Loc} {ls : Array Slot}

theorem q_next (hk : qKok p l e R s m args below meth c N0 b H0 rho tys D nL Rw Qf Rel kk) {x : qRow} (hj : q_drop Rw j = x :: K) {len : Nat} (hx : q_nx x.1 len K = true) (hr : Rel (kk K L S h) nc ns) (hJ : qJ N0 b H0 rho tys D h H) (hl : ∀ z ∈ locs, N0 ≤ z.base) (hL : qLoc N0 b rho ls nL L) : W p l e R s m args below meth c H locs nc ns Qf (F0 m (x.1 + len) ls (S.map (q_v N0 b rho))) := by
  have hK : q_drop Rw (j + 1) = K := by
    rw [q_drop_eq] at hj ⊢
    rw [← List.drop_drop, hj]
    rfl
  rw [← hK] at hr
  obtain ⟨r, K', e1, hW⟩ := hk (j + 1) _ _ _ _ _ hr
  rw [hK] at e1
  subst e1
  have e2 : r.1 = x.1 + len := Nat.eq_of_beq_eq_true hx
  rw [← e2]
  exact hW H locs ls hJ hl hL
theorem q_jump (hk : qKok p l e R s m args below meth c N0 b H0 rho tys D nL Rw Qf Rel kk) {t pc : Nat} {off : Int} (ht : q_tg Rw t pc off = true) (hr : Rel (kk (q_drop Rw t) L S h) nc ns) (hJ : qJ N0 b H0 rho tys D h H) (hl : ∀ z ∈ locs, N0 ≤ z.base) (hL : qLoc N0 b rho ls nL L) : ∃ tgt : Nat, (pc : Int) + off = (tgt : Int) ∧ W p l e R s m args below meth c H locs nc ns Qf (F0 m tgt ls (S.map (q_v N0 b rho))) := by
  obtain ⟨r, K', e1, hW⟩ := hk t _ _ _ _ _ hr
  refine ⟨r.1, ?_, hW H locs ls hJ hl hL⟩
  unfold q_tg at ht
  rw [e1] at ht
  exact of_decide_eq_true ht
theorem q_ask_no (hno : ∀ x nc ns, ¬ Rel (.inr (.inr x)) nc ns) {x : qI} {u : Nat} : ¬ Rel (q_ask E x u) nc ns := by
  unfold q_ask q_no q_sp
  repeat' split
  all_goals exact hno _ _ _
theorem q_askl_no (hno : ∀ x nc ns, ¬ Rel (.inr (.inr x)) nc ns) {x y : qI} : ¬ Rel (q_askl E x y) nc ns := by
  unfold q_askl
  repeat' split
  all_goals first | exact q_ask_no hno | exact hno _ _ _
theorem q_aske_no (hno : ∀ x nc ns, ¬ Rel (.inr (.inr x)) nc ns) {x y : qI} : ¬ Rel (q_aske E x y) nc ns := by
  unfold q_aske
  repeat' split
  all_goals first | exact q_ask_no hno | exact hno _ _ _
theorem q_askc_no (hno : ∀ x nc ns, ¬ Rel (.inr (.inr x)) nc ns) {cc : Nat} {x y : qI} : ¬ Rel (q_askc E cc x y) nc ns := by
  unfold q_askc
  split
  · exact q_aske_no hno
  · exact q_aske_no hno
  · exact q_askl_no hno
  · exact q_askl_no hno
  · exact q_askl_no hno

theorem qs_const (C : qCtx p l R s m args meth c own nm cc nL ret hh d) (Wd : qWd N0 b H0 tys D Lx xs s) (hE : qEok E rho) (hX : qScr rho Lx xs) (hk : qKok p l e R s m args below meth c N0 b H0 rho tys D nL Rw Qf Rel kk) (hno : ∀ x nc ns, ¬ Rel (.inr (.inr x)) nc ns) (hadd : qAddR R Rel) (hj : q_drop Rw j = (pc, op, a0, b0, c0, ins, len) :: K) (hd : decode cc pc = .ok (ins, len))
    (ok : q_opok P I sw own nm cc nL ret Rw K pc 0 a0 b0 c0 ins len = true) (hr : Rel (qo_const P E ih kk d Rw hs pc a0 b0 c0 K L S h) nc ns) (hJ : qJ N0 b H0 rho tys D h H) (hl : ∀ z ∈ locs, N0 ≤ z.base) (hL : qLoc N0 b rho ls nL L) : W p l e R s m args below meth c H locs nc ns Qf (F0 m pc ls (S.map (q_v N0 b rho))) := by
  obtain ⟨hx, hb, hml, hown, hts, hret, hlocks, hnm, htab, hfr, hlo, htr⟩ := id C
  replace hr : Rel (kk K L (.inl (a0, []) :: S) h) nc ns := hr
  simp only [q_opok, Bool.and_eq_true] at ok
  obtain ⟨ox, ok⟩ := ok
  have hn := q_next hk hj ox hr hJ hl hL
  split at ok
  all_goals first | (cases ok; done) | skip
  all_goals simp only [Bool.and_eq_true, decide_eq_true_eq] at ok
  all_goals obtain ⟨o1, o2⟩ := ok
  all_goals have o1 := Nat.eq_of_beq_eq_true o1
  all_goals subst o1
  · exact lv_iconst hx hb hd o2 hn
  · exact lv_bipush hx hb hd o2 hn
  · exact lv_sipush hx hb hd o2 hn

theorem qs_iload (C : qCtx p l R s m args meth c own nm cc nL ret hh d) (Wd : qWd N0 b H0 tys D Lx xs s) (hE : qEok E rho) (hX : qScr rho Lx xs) (hk : qKok p l e R s m args below meth c N0 b H0 rho tys D nL Rw Qf Rel kk) (hno : ∀ x nc ns, ¬ Rel (.inr (.inr x)) nc ns) (hadd : qAddR R Rel) (hj : q_drop Rw j = (pc, op, a0, b0, c0, ins, len) :: K) (hd : decode cc pc = .ok (ins, len))
    (ok : q_opok P I sw own nm cc nL ret Rw K pc 1 a0 b0 c0 ins len = true) (hr : Rel (qo_iload P E ih kk d Rw hs pc a0 b0 c0 K L S h) nc ns) (hJ : qJ N0 b H0 rho tys D h H) (hl : ∀ z ∈ locs, N0 ≤ z.base) (hL : qLoc N0 b rho ls nL L) : W p l e R s m args below meth c H locs nc ns Qf (F0 m pc ls (S.map (q_v N0 b rho))) := by
  obtain ⟨hx, hb, hml, hown, hts, hret, hlocks, hnm, htab, hfr, hlo, htr⟩ := id C
  unfold qo_iload at hr
  simp only [q_nth_eq, q_set_eq, q_fz_eq] at hr
  split at hr
  · next x hv =>
    simp only [q_opok, Bool.and_eq_true] at ok
    obtain ⟨ox, ok⟩ := ok
    have hn := q_next hk hj ox hr hJ hl hL
    obtain ⟨hv1, hv2⟩ := hL.2.2 a0 _ hv
    split at ok
    all_goals first | (cases ok; done) | skip
    all_goals simp only [Bool.and_eq_true] at ok
    all_goals obtain ⟨o1, o2⟩ := ok
    all_goals have o1 := Nat.eq_of_beq_eq_true o1
    all_goals have o2 := Nat.eq_of_beq_eq_true o2
    all_goals subst o1
    · exact lv_iload_n hx hb hd o2 hv1 hn
    · subst o2; exact lv_iload hx hb hd hv1 hn
  · exact absurd hr (hno _ _ _)

theorem qs_aload (C : qCtx p l R s m args meth c own nm cc nL ret hh d) (Wd : qWd N0 b H0 tys D Lx xs s) (hE : qEok E rho) (hX : qScr rho Lx xs) (hk : qKok p l e R s m args below meth c N0 b H0 rho tys D nL Rw Qf Rel kk) (hno : ∀ x nc ns, ¬ Rel (.inr (.inr x)) nc ns) (hadd : qAddR R Rel) (hj : q_drop Rw j = (pc, op, a0, b0, c0, ins, len) :: K) (hd : decode cc pc = .ok (ins, len))
    (ok : q_opok P I sw own nm cc nL ret Rw K pc 49 a0 b0 c0 ins len = true) (hr : Rel (qo_aload P E ih kk d Rw hs pc a0 b0 c0 K L S h) nc ns) (hJ : qJ N0 b H0 rho tys D h H) (hl : ∀ z ∈ locs, N0 ≤ z.base) (hL : qLoc N0 b rho ls nL L) : W p l e R s m args below meth c H locs nc ns Qf (F0 m pc ls (S.map (q_v N0 b rho))) := by
  obtain ⟨hx, hb, hml, hown, hts, hret, hlocks, hnm, htab, hfr, hlo, htr⟩ := id C
  unfold qo_aload at hr
  simp only [q_nth_eq, q_set_eq, q_fz_eq] at hr
  split at hr
  · next r hv =>
    simp only [q_opok, Bool.and_eq_true] at ok
    obtain ⟨ox, ok⟩ := ok
    have hn := q_next hk hj ox hr hJ hl hL
    obtain ⟨hv1, hv2⟩ := hL.2.2 a0 _ hv
    split at ok
    all_goals first | (cases ok; done) | skip
    all_goals simp only [Bool.and_eq_true] at ok
    all_goals obtain ⟨o1, o2⟩ := ok
    all_goals have o1 := Nat.eq_of_beq_eq_true o1
    all_goals have o2 := Nat.eq_of_beq_eq_true o2
    all_goals subst o1
    · cases r with
      | none => exact lv_aload_nN hx hb hd o2 hv1 hn
      | some r => exact lv_aload_n hx hb hd o2 hv1 hn
    · subst o2
      cases r with
      | none => exact lv_aloadN hx hb hd hv1 hn
      | some r => exact lv_aload hx hb hd hv1 hn
  · exact absurd hr (hno _ _ _)

theorem qs_istore (C : qCtx p l R s m args meth c own nm cc nL ret hh d) (Wd : qWd N0 b H0 tys D Lx xs s) (hE : qEok E rho) (hX : qScr rho Lx xs) (hk : qKok p l e R s m args below meth c N0 b H0 rho tys D nL Rw Qf Rel kk) (hno : ∀ x nc ns, ¬ Rel (.inr (.inr x)) nc ns) (hadd : qAddR R Rel) (hj : q_drop Rw j = (pc, op, a0, b0, c0, ins, len) :: K) (hd : decode cc pc = .ok (ins, len))
    (ok : q_opok P I sw own nm cc nL ret Rw K pc 2 a0 b0 c0 ins len = true) (hr : Rel (qo_istore P E ih kk d Rw hs pc a0 b0 c0 K L S h) nc ns) (hJ : qJ N0 b H0 rho tys D h H) (hl : ∀ z ∈ locs, N0 ≤ z.base) (hL : qLoc N0 b rho ls nL L) : W p l e R s m args below meth c H locs nc ns Qf (F0 m pc ls (S.map (q_v N0 b rho))) := by
  obtain ⟨hx, hb, hml, hown, hts, hret, hlocks, hnm, htab, hfr, hlo, htr⟩ := id C
  unfold qo_istore at hr
  simp only [q_set_eq] at hr
  split at hr
  · next x S' =>
    simp only [q_opok, Bool.and_eq_true] at ok
    obtain ⟨ox, on, ok⟩ := ok
    have on := Nat.blt_eq.mp on
    have hst : ∀ ls' : Array Slot, lv_has ls' nL ((a0, q_v N0 b rho (.inl x)) :: (q_lv N0 b rho nL L).filter (fun q => !(q.1 == a0) && !(q.1 + 1 == a0 && q.2.category == 2))) → W p l e R s m args below meth c H locs nc ns Qf (F0 m (pc + len) ls' (S'.map (q_v N0 b rho))) := fun ls' h' => q_next hk hj ox hr hJ hl (hL.st h' _ (fun v hv => by cases hv; exact ⟨rfl, rfl⟩))
    split at ok
    all_goals first | (cases ok; done) | skip
    all_goals simp only [Bool.and_eq_true] at ok
    all_goals obtain ⟨o1, o2⟩ := ok
    all_goals have o1 := Nat.eq_of_beq_eq_true o1
    all_goals have o2 := Nat.eq_of_beq_eq_true o2
    all_goals subst o1
    · exact lv_istore_n hx hb hd o2 hL.lv on rfl hst
    · subst o2; exact lv_istore hx hb hd hL.lv on rfl hst
  · exact absurd hr (hno _ _ _)

theorem qs_astore (C : qCtx p l R s m args meth c own nm cc nL ret hh d) (Wd : qWd N0 b H0 tys D Lx xs s) (hE : qEok E rho) (hX : qScr rho Lx xs) (hk : qKok p l e R s m args below meth c N0 b H0 rho tys D nL Rw Qf Rel kk) (hno : ∀ x nc ns, ¬ Rel (.inr (.inr x)) nc ns) (hadd : qAddR R Rel) (hj : q_drop Rw j = (pc, op, a0, b0, c0, ins, len) :: K) (hd : decode cc pc = .ok (ins, len))
    (ok : q_opok P I sw own nm cc nL ret Rw K pc 50 a0 b0 c0 ins len = true) (hr : Rel (qo_astore P E ih kk d Rw hs pc a0 b0 c0 K L S h) nc ns) (hJ : qJ N0 b H0 rho tys D h H) (hl : ∀ z ∈ locs, N0 ≤ z.base) (hL : qLoc N0 b rho ls nL L) : W p l e R s m args below meth c H locs nc ns Qf (F0 m pc ls (S.map (q_v N0 b rho))) := by
  obtain ⟨hx, hb, hml, hown, hts, hret, hlocks, hnm, htab, hfr, hlo, htr⟩ := id C
  unfold qo_astore at hr
  simp only [q_set_eq] at hr
  split at hr
  · next r S' =>
    simp only [q_opok, Bool.and_eq_true] at ok
    obtain ⟨ox, on, ok⟩ := ok
    have on := Nat.blt_eq.mp on
    have hst : ∀ ls' : Array Slot, lv_has ls' nL ((a0, q_v N0 b rho (.inr (.inl r))) :: (q_lv N0 b rho nL L).filter (fun q => !(q.1 == a0) && !(q.1 + 1 == a0 && q.2.category == 2))) → W p l e R s m args below meth c H locs nc ns Qf (F0 m (pc + len) ls' (S'.map (q_v N0 b rho))) := fun ls' h' => q_next hk hj ox hr hJ hl (hL.st h' _ (fun v hv => by cases hv; exact ⟨rfl, rfl⟩))
    split at ok
    all_goals first | (cases ok; done) | skip
    all_goals simp only [Bool.and_eq_true] at ok
    all_goals obtain ⟨o1, o2⟩ := ok
    all_goals have o1 := Nat.eq_of_beq_eq_true o1
    all_goals have o2 := Nat.eq_of_beq_eq_true o2
    all_goals subst o1
    · cases r with
      | none => exact lv_astore_nN hx hb hd o2 hL.lv on rfl hst
      | some r => exact lv_astore_n hx hb hd o2 hL.lv on rfl hst
    · subst o2
      cases r with
      | none => exact lv_astoreN hx hb hd hL.lv on rfl hst
      | some r => exact lv_astore hx hb hd hL.lv on rfl hst
  · exact absurd hr (hno _ _ _)

theorem qs_iinc (C : qCtx p l R s m args meth c own nm cc nL ret hh d) (Wd : qWd N0 b H0 tys D Lx xs s) (hE : qEok E rho) (hX : qScr rho Lx xs) (hk : qKok p l e R s m args below meth c N0 b H0 rho tys D nL Rw Qf Rel kk) (hno : ∀ x nc ns, ¬ Rel (.inr (.inr x)) nc ns) (hadd : qAddR R Rel) (hj : q_drop Rw j = (pc, op, a0, b0, c0, ins, len) :: K) (hd : decode cc pc = .ok (ins, len))
    (ok : q_opok P I sw own nm cc nL ret Rw K pc 3 a0 b0 c0 ins len = true) (hr : Rel (qo_iinc P E ih kk d Rw hs pc a0 b0 c0 K L S h) nc ns) (hJ : qJ N0 b H0 rho tys D h H) (hl : ∀ z ∈ locs, N0 ≤ z.base) (hL : qLoc N0 b rho ls nL L) : W p l e R s m args below meth c H locs nc ns Qf (F0 m pc ls (S.map (q_v N0 b rho))) := by
  obtain ⟨hx, hb, hml, hown, hts, hret, hlocks, hnm, htab, hfr, hlo, htr⟩ := id C
  unfold qo_iinc at hr
  simp only [q_nth_eq, q_set_eq, q_fz_eq] at hr
  split at hr
  · next x hv =>
    simp only [q_opok, Bool.and_eq_true] at ok
    obtain ⟨ox, on, ok⟩ := ok
    have on := Nat.blt_eq.mp on
    split at ok
    all_goals first | (cases ok; done) | skip
    next i n =>
    simp only [Bool.and_eq_true, decide_eq_true_eq] at ok
    obtain ⟨o1, o2, o3⟩ := ok
    have o1 := Nat.eq_of_beq_eq_true o1
    have o2 := Nat.eq_of_beq_eq_true o2
    subst o1; subst o2
    obtain ⟨hv1, hv2⟩ := hL.2.2 i _ hv
    have hm : (i, Value.int (q_i rho x)) ∈ q_lv N0 b rho nL L := List.mem_filterMap.mpr ⟨i, List.mem_range.mpr on, by rw [hv]; rfl⟩
    obtain ⟨k, hk1⟩ := List.getElem?_of_mem hm
    have hv3 : q_i rho x + Int32.ofInt n = q_i rho ((x.1 + b0) % 4294967296, x.2) := by
      rw [o3]
      have := q_i_add rho x (b0, [])
      rw [List.append_nil] at this
      exact this
    refine lv_iinc hx hb hd hL.lv hk1 hv3 on rfl (fun ls' h' => ?_)
    exact q_next hk hj ox hr hJ hl (hL.st h' _ (fun v hv => by cases hv; exact ⟨rfl, rfl⟩))
  · exact absurd hr (hno _ _ _)

theorem qs_add (C : qCtx p l R s m args meth c own nm cc nL ret hh d) (Wd : qWd N0 b H0 tys D Lx xs s) (hE : qEok E rho) (hX : qScr rho Lx xs) (hk : qKok p l e R s m args below meth c N0 b H0 rho tys D nL Rw Qf Rel kk) (hno : ∀ x nc ns, ¬ Rel (.inr (.inr x)) nc ns) (hadd : qAddR R Rel) (hj : q_drop Rw j = (pc, op, a0, b0, c0, ins, len) :: K) (hd : decode cc pc = .ok (ins, len))
    (ok : q_opok P I sw own nm cc nL ret Rw K pc 4 a0 b0 c0 ins len = true) (hr : Rel (qo_add P E ih kk d Rw hs pc a0 b0 c0 K L S h) nc ns) (hJ : qJ N0 b H0 rho tys D h H) (hl : ∀ z ∈ locs, N0 ≤ z.base) (hL : qLoc N0 b rho ls nL L) : W p l e R s m args below meth c H locs nc ns Qf (F0 m pc ls (S.map (q_v N0 b rho))) := by
  obtain ⟨hx, hb, hml, hown, hts, hret, hlocks, hnm, htab, hfr, hlo, htr⟩ := id C
  unfold qo_add at hr
  simp only [q_fz_eq] at hr
  split at hr
  · next y x S' =>
    have hr2 : Rel (kk K L (.inl ((x.1 + y.1) % 4294967296, x.2 ++ y.2) :: S') h) nc ns := by
      split at hr
      · exact hr
      · split at hr
        · exact absurd hr (q_ask_no hno)
        · split at hr
          · exact absurd hr (q_ask_no hno)
          · exact hr
    simp only [q_opok, Bool.and_eq_true, decide_eq_true_eq] at ok
    obtain ⟨ox, o1, o2⟩ := ok
    have o1 := Nat.eq_of_beq_eq_true o1
    subst o1; subst o2
    refine lv_iadd hx hb hd ?_
    rw [show q_i rho x + q_i rho y = _ from q_i_add rho x y]
    exact q_next hk hj ox hr2 hJ hl hL
  · exact absurd hr (hno _ _ _)

theorem qs_sub (C : qCtx p l R s m args meth c own nm cc nL ret hh d) (Wd : qWd N0 b H0 tys D Lx xs s) (hE : qEok E rho) (hX : qScr rho Lx xs) (hk : qKok p l e R s m args below meth c N0 b H0 rho tys D nL Rw Qf Rel kk) (hno : ∀ x nc ns, ¬ Rel (.inr (.inr x)) nc ns) (hadd : qAddR R Rel) (hj : q_drop Rw j = (pc, op, a0, b0, c0, ins, len) :: K) (hd : decode cc pc = .ok (ins, len))
    (ok : q_opok P I sw own nm cc nL ret Rw K pc 5 a0 b0 c0 ins len = true) (hr : Rel (qo_sub P E ih kk d Rw hs pc a0 b0 c0 K L S h) nc ns) (hJ : qJ N0 b H0 rho tys D h H) (hl : ∀ z ∈ locs, N0 ≤ z.base) (hL : qLoc N0 b rho ls nL L) : W p l e R s m args below meth c H locs nc ns Qf (F0 m pc ls (S.map (q_v N0 b rho))) := by
  obtain ⟨hx, hb, hml, hown, hts, hret, hlocks, hnm, htab, hfr, hlo, htr⟩ := id C
  unfold qo_sub at hr
  simp only [q_fz_eq] at hr
  split at hr
  · next y x S' =>
    simp only [q_opok, Bool.and_eq_true, decide_eq_true_eq] at ok
    obtain ⟨ox, o1, o2⟩ := ok
    have o1 := Nat.eq_of_beq_eq_true o1
    subst o1; subst o2
    refine lv_isub hx hb hd ?_
    rw [show q_i rho x - q_i rho y = _ from q_i_sub rho x y]
    exact q_next hk hj ox hr hJ hl hL
  · exact absurd hr (hno _ _ _)

theorem qs_mul (C : qCtx p l R s m args meth c own nm cc nL ret hh d) (Wd : qWd N0 b H0 tys D Lx xs s) (hE : qEok E rho) (hX : qScr rho Lx xs) (hk : qKok p l e R s m args below meth c N0 b H0 rho tys D nL Rw Qf Rel kk) (hno : ∀ x nc ns, ¬ Rel (.inr (.inr x)) nc ns) (hadd : qAddR R Rel) (hj : q_drop Rw j = (pc, op, a0, b0, c0, ins, len) :: K) (hd : decode cc pc = .ok (ins, len))
    (ok : q_opok P I sw own nm cc nL ret Rw K pc 6 a0 b0 c0 ins len = true) (hr : Rel (qo_mul P E ih kk d Rw hs pc a0 b0 c0 K L S h) nc ns) (hJ : qJ N0 b H0 rho tys D h H) (hl : ∀ z ∈ locs, N0 ≤ z.base) (hL : qLoc N0 b rho ls nL L) : W p l e R s m args below meth c H locs nc ns Qf (F0 m pc ls (S.map (q_v N0 b rho))) := by
  obtain ⟨hx, hb, hml, hown, hts, hret, hlocks, hnm, htab, hfr, hlo, htr⟩ := id C
  unfold qo_mul at hr
  split at hr
  · next y x S' =>
    simp only [q_opok, Bool.and_eq_true, decide_eq_true_eq] at ok
    obtain ⟨ox, o1, o2⟩ := ok
    have o1 := Nat.eq_of_beq_eq_true o1
    subst o1; subst o2
    refine lv_imul hx hb hd ?_
    split at hr
    · next hc =>
      rw [show q_i rho x * q_i rho y = _ from q_i_mul1 rho x y (q_isc_eq hc)]
      exact q_next hk hj ox hr hJ hl hL
    · split at hr
      · next hc =>
        rw [show q_i rho x * q_i rho y = _ from q_i_mul2 rho x y (q_isc_eq hc)]
        exact q_next hk hj ox hr hJ hl hL
      · split at hr
        · exact absurd hr (q_ask_no hno)
        · split at hr
          · exact absurd hr (q_ask_no hno)
          · exact absurd hr (hno _ _ _)
  · exact absurd hr (hno _ _ _)

theorem qs_and (C : qCtx p l R s m args meth c own nm cc nL ret hh d) (Wd : qWd N0 b H0 tys D Lx xs s) (hE : qEok E rho) (hX : qScr rho Lx xs) (hk : qKok p l e R s m args below meth c N0 b H0 rho tys D nL Rw Qf Rel kk) (hno : ∀ x nc ns, ¬ Rel (.inr (.inr x)) nc ns) (hadd : qAddR R Rel) (hj : q_drop Rw j = (pc, op, a0, b0, c0, ins, len) :: K) (hd : decode cc pc = .ok (ins, len))
    (ok : q_opok P I sw own nm cc nL ret Rw K pc 7 a0 b0 c0 ins len = true) (hr : Rel (qo_and P E ih kk d Rw hs pc a0 b0 c0 K L S h) nc ns) (hJ : qJ N0 b H0 rho tys D h H) (hl : ∀ z ∈ locs, N0 ≤ z.base) (hL : qLoc N0 b rho ls nL L) : W p l e R s m args below meth c H locs nc ns Qf (F0 m pc ls (S.map (q_v N0 b rho))) := by
  obtain ⟨hx, hb, hml, hown, hts, hret, hlocks, hnm, htab, hfr, hlo, htr⟩ := id C
  unfold qo_and at hr
  split at hr
  · next y x S' =>
    simp only [q_opok, Bool.and_eq_true, decide_eq_true_eq] at ok
    obtain ⟨ox, o1, o2⟩ := ok
    have o1 := Nat.eq_of_beq_eq_true o1
    subst o1; subst o2
    refine lv_iand hx hb hd ?_
    split at hr
    · next hc =>
      simp only [Bool.and_eq_true] at hc
      have e1 := q_isc_eq hc.1
      have e2 := q_isc_eq hc.2
      have e : q_i rho x &&& q_i rho y = q_i rho (Nat.land x.1 y.1, []) := by
        unfold q_i
        rw [e1, e2]
        exact q_nI_and x.1 y.1
      rw [e]
      exact q_next hk hj ox hr hJ hl hL
    · split at hr
      · next hc =>
        simp only [Bool.and_eq_true] at hc
        have e1 := q_ieq_eq hc.1
        have e2 := q_ieq_eq hc.2
        subst e1; subst e2
        have e : q_i rho (0, [(1, 1)]) &&& q_i rho (31, []) = q_i rho (0, [(9, 1)]) := by
          have e3 : q_i rho (0, [(1, 1)]) = nI (rho 1) := by
            show nI (0 + (rho 1 * 1 + 0)) = _
            congr 1; omega
          have e4 : q_i rho (0, [(9, 1)]) = nI (rho 9) := by
            show nI (0 + (rho 9 * 1 + 0)) = _
            congr 1; omega
          rw [e3, e4, hX.2.2.1 0 (by omega), hX.2.2.2]
          rfl
        rw [e]
        exact q_next hk hj ox hr hJ hl hL
      · exact absurd hr (hno _ _ _)
  · exact absurd hr (hno _ _ _)

theorem qs_or (C : qCtx p l R s m args meth c own nm cc nL ret hh d) (Wd : qWd N0 b H0 tys D Lx xs s) (hE : qEok E rho) (hX : qScr rho Lx xs) (hk : qKok p l e R s m args below meth c N0 b H0 rho tys D nL Rw Qf Rel kk) (hno : ∀ x nc ns, ¬ Rel (.inr (.inr x)) nc ns) (hadd : qAddR R Rel) (hj : q_drop Rw j = (pc, op, a0, b0, c0, ins, len) :: K) (hd : decode cc pc = .ok (ins, len))
    (ok : q_opok P I sw own nm cc nL ret Rw K pc 8 a0 b0 c0 ins len = true) (hr : Rel (qo_or P E ih kk d Rw hs pc a0 b0 c0 K L S h) nc ns) (hJ : qJ N0 b H0 rho tys D h H) (hl : ∀ z ∈ locs, N0 ≤ z.base) (hL : qLoc N0 b rho ls nL L) : W p l e R s m args below meth c H locs nc ns Qf (F0 m pc ls (S.map (q_v N0 b rho))) := by
  obtain ⟨hx, hb, hml, hown, hts, hret, hlocks, hnm, htab, hfr, hlo, htr⟩ := id C
  unfold qo_or q_bin at hr
  split at hr
  · next y x S' =>
    simp only [q_opok, Bool.and_eq_true, decide_eq_true_eq] at ok
    obtain ⟨ox, o1, o2⟩ := ok
    have o1 := Nat.eq_of_beq_eq_true o1
    subst o1; subst o2
    refine lv_ior hx hb hd ?_
    split at hr
    · next hc =>
      simp only [Bool.and_eq_true] at hc
      have e1 := q_isc_eq hc.1
      have e2 := q_isc_eq hc.2
      obtain ⟨x1, x2⟩ := x
      obtain ⟨y1, y2⟩ := y
      dsimp only at e1 e2
      subst e1; subst e2
      have e : q_i rho (x1, []) ||| q_i rho (y1, []) = q_i rho (Nat.lor x1 y1, []) := q_nI_or x1 y1
      rw [show q_i rho (x1, []) ||| q_i rho (y1, []) = _ from e]
      exact q_next hk hj ox hr hJ hl hL
    · exact absurd hr (hno _ _ _)
  · exact absurd hr (hno _ _ _)

theorem qs_xor (C : qCtx p l R s m args meth c own nm cc nL ret hh d) (Wd : qWd N0 b H0 tys D Lx xs s) (hE : qEok E rho) (hX : qScr rho Lx xs) (hk : qKok p l e R s m args below meth c N0 b H0 rho tys D nL Rw Qf Rel kk) (hno : ∀ x nc ns, ¬ Rel (.inr (.inr x)) nc ns) (hadd : qAddR R Rel) (hj : q_drop Rw j = (pc, op, a0, b0, c0, ins, len) :: K) (hd : decode cc pc = .ok (ins, len))
    (ok : q_opok P I sw own nm cc nL ret Rw K pc 9 a0 b0 c0 ins len = true) (hr : Rel (qo_xor P E ih kk d Rw hs pc a0 b0 c0 K L S h) nc ns) (hJ : qJ N0 b H0 rho tys D h H) (hl : ∀ z ∈ locs, N0 ≤ z.base) (hL : qLoc N0 b rho ls nL L) : W p l e R s m args below meth c H locs nc ns Qf (F0 m pc ls (S.map (q_v N0 b rho))) := by
  obtain ⟨hx, hb, hml, hown, hts, hret, hlocks, hnm, htab, hfr, hlo, htr⟩ := id C
  unfold qo_xor q_bin at hr
  split at hr
  · next y x S' =>
    simp only [q_opok, Bool.and_eq_true, decide_eq_true_eq] at ok
    obtain ⟨ox, o1, o2⟩ := ok
    have o1 := Nat.eq_of_beq_eq_true o1
    subst o1; subst o2
    refine lv_ixor hx hb hd ?_
    split at hr
    · next hc =>
      simp only [Bool.and_eq_true] at hc
      have e1 := q_isc_eq hc.1
      have e2 := q_isc_eq hc.2
      obtain ⟨x1, x2⟩ := x
      obtain ⟨y1, y2⟩ := y
      dsimp only at e1 e2
      subst e1; subst e2
      have e : q_i rho (x1, []) ^^^ q_i rho (y1, []) = q_i rho (Nat.xor x1 y1, []) := q_nI_xor x1 y1
      rw [show q_i rho (x1, []) ^^^ q_i rho (y1, []) = _ from e]
      exact q_next hk hj ox hr hJ hl hL
    · exact absurd hr (hno _ _ _)
  · exact absurd hr (hno _ _ _)

theorem qs_shl (C : qCtx p l R s m args meth c own nm cc nL ret hh d) (Wd : qWd N0 b H0 tys D Lx xs s) (hE : qEok E rho) (hX : qScr rho Lx xs) (hk : qKok p l e R s m args below meth c N0 b H0 rho tys D nL Rw Qf Rel kk) (hno : ∀ x nc ns, ¬ Rel (.inr (.inr x)) nc ns) (hadd : qAddR R Rel) (hj : q_drop Rw j = (pc, op, a0, b0, c0, ins, len) :: K) (hd : decode cc pc = .ok (ins, len))
    (ok : q_opok P I sw own nm cc nL ret Rw K pc 10 a0 b0 c0 ins len = true) (hr : Rel (qo_shl P E ih kk d Rw hs pc a0 b0 c0 K L S h) nc ns) (hJ : qJ N0 b H0 rho tys D h H) (hl : ∀ z ∈ locs, N0 ≤ z.base) (hL : qLoc N0 b rho ls nL L) : W p l e R s m args below meth c H locs nc ns Qf (F0 m pc ls (S.map (q_v N0 b rho))) := by
  obtain ⟨hx, hb, hml, hown, hts, hret, hlocks, hnm, htab, hfr, hlo, htr⟩ := id C
  unfold qo_shl q_bin at hr
  split at hr
  · next y x S' =>
    simp only [q_opok, Bool.and_eq_true, decide_eq_true_eq] at ok
    obtain ⟨ox, o1, o2⟩ := ok
    have o1 := Nat.eq_of_beq_eq_true o1
    subst o1; subst o2
    refine lv_ishl hx hb hd ?_
    split at hr
    · next hc =>
      simp only [Bool.and_eq_true] at hc
      have e1 := q_isc_eq hc.1
      have e2 := q_isc_eq hc.2
      obtain ⟨x1, x2⟩ := x
      obtain ⟨y1, y2⟩ := y
      dsimp only at e1 e2
      subst e1; subst e2
      have e : q_i rho (x1, []) <<< (q_i rho (y1, []) &&& 31) = q_i rho (Nat.shiftLeft x1 (y1 % 32) % 4294967296, []) := q_nI_shl x1 y1
      rw [show q_i rho (x1, []) <<< (q_i rho (y1, []) &&& 31) = _ from e]
      exact q_next hk hj ox hr hJ hl hL
    · exact absurd hr (hno _ _ _)
  · exact absurd hr (hno _ _ _)

theorem qs_rem (C : qCtx p l R s m args meth c own nm cc nL ret hh d) (Wd : qWd N0 b H0 tys D Lx xs s) (hE : qEok E rho) (hX : qScr rho Lx xs) (hk : qKok p l e R s m args below meth c N0 b H0 rho tys D nL Rw Qf Rel kk) (hno : ∀ x nc ns, ¬ Rel (.inr (.inr x)) nc ns) (hadd : qAddR R Rel) (hj : q_drop Rw j = (pc, op, a0, b0, c0, ins, len) :: K) (hd : decode cc pc = .ok (ins, len))
    (ok : q_opok P I sw own nm cc nL ret Rw K pc 48 a0 b0 c0 ins len = true) (hr : Rel (qo_rem P E ih kk d Rw hs pc a0 b0 c0 K L S h) nc ns) (hJ : qJ N0 b H0 rho tys D h H) (hl : ∀ z ∈ locs, N0 ≤ z.base) (hL : qLoc N0 b rho ls nL L) : W p l e R s m args below meth c H locs nc ns Qf (F0 m pc ls (S.map (q_v N0 b rho))) := by
  obtain ⟨hx, hb, hml, hown, hts, hret, hlocks, hnm, htab, hfr, hlo, htr⟩ := id C
  unfold qo_rem at hr
  split at hr
  · next y x S' =>
    simp only [q_opok, Bool.and_eq_true, decide_eq_true_eq] at ok
    obtain ⟨ox, o1, o2⟩ := ok
    have o1 := Nat.eq_of_beq_eq_true o1
    subst o1; subst o2
    split at hr
    · next hc =>
      simp only [Bool.and_eq_true] at hc
      obtain ⟨c1, c2, c3, c4, c5⟩ := hc
      have e1 := q_isc_eq c1
      have e2 := q_isc_eq c2
      clear c1 c2
      replace c3 := Nat.blt_eq.mp c3
      replace c4 := Nat.blt_eq.mp c4
      replace c5 := Nat.blt_eq.mp c5
      obtain ⟨x1, x2⟩ := x
      obtain ⟨y1, y2⟩ := y
      dsimp only at e1 e2 c3 c4 c5
      subst e1; subst e2
      refine lv_irem (x := nI x1) (y := nI y1) hx hb hd (nI_ne0 c5 c4) ?_
      rw [pk_rem c3 c5 c4]
      exact q_next hk hj ox hr hJ hl hL
    · exact absurd hr (hno _ _ _)
  · exact absurd hr (hno _ _ _)

theorem qs_null (C : qCtx p l R s m args meth c own nm cc nL ret hh d) (Wd : qWd N0 b H0 tys D Lx xs s) (hE : qEok E rho) (hX : qScr rho Lx xs) (hk : qKok p l e R s m args below meth c N0 b H0 rho tys D nL Rw Qf Rel kk) (hno : ∀ x nc ns, ¬ Rel (.inr (.inr x)) nc ns) (hadd : qAddR R Rel) (hj : q_drop Rw j = (pc, op, a0, b0, c0, ins, len) :: K) (hd : decode cc pc = .ok (ins, len))
    (ok : q_opok P I sw own nm cc nL ret Rw K pc 11 a0 b0 c0 ins len = true) (hr : Rel (qo_null P E ih kk d Rw hs pc a0 b0 c0 K L S h) nc ns) (hJ : qJ N0 b H0 rho tys D h H) (hl : ∀ z ∈ locs, N0 ≤ z.base) (hL : qLoc N0 b rho ls nL L) : W p l e R s m args below meth c H locs nc ns Qf (F0 m pc ls (S.map (q_v N0 b rho))) := by
  obtain ⟨hx, hb, hml, hown, hts, hret, hlocks, hnm, htab, hfr, hlo, htr⟩ := id C
  replace hr : Rel (kk K L (.inr (.inl none) :: S) h) nc ns := hr
  simp only [q_opok, Bool.and_eq_true, decide_eq_true_eq] at ok
  obtain ⟨ox, o1, o2⟩ := ok
  have o1 := Nat.eq_of_beq_eq_true o1
  subst o1; subst o2
  exact lv_null hx hb hd (q_next hk hj ox hr hJ hl hL)

theorem qs_dup (C : qCtx p l R s m args meth c own nm cc nL ret hh d) (Wd : qWd N0 b H0 tys D Lx xs s) (hE : qEok E rho) (hX : qScr rho Lx xs) (hk : qKok p l e R s m args below meth c N0 b H0 rho tys D nL Rw Qf Rel kk) (hno : ∀ x nc ns, ¬ Rel (.inr (.inr x)) nc ns) (hadd : qAddR R Rel) (hj : q_drop Rw j = (pc, op, a0, b0, c0, ins, len) :: K) (hd : decode cc pc = .ok (ins, len))
    (ok : q_opok P I sw own nm cc nL ret Rw K pc 12 a0 b0 c0 ins len = true) (hr : Rel (qo_dup P E ih kk d Rw hs pc a0 b0 c0 K L S h) nc ns) (hJ : qJ N0 b H0 rho tys D h H) (hl : ∀ z ∈ locs, N0 ≤ z.base) (hL : qLoc N0 b rho ls nL L) : W p l e R s m args below meth c H locs nc ns Qf (F0 m pc ls (S.map (q_v N0 b rho))) := by
  obtain ⟨hx, hb, hml, hown, hts, hret, hlocks, hnm, htab, hfr, hlo, htr⟩ := id C
  unfold qo_dup at hr
  split at hr
  · exact absurd hr (hno _ _ _)
  · next v S' =>
    split at hr
    · exact absurd hr (hno _ _ _)
    · next hv =>
      simp only [q_opok, Bool.and_eq_true, decide_eq_true_eq] at ok
      obtain ⟨ox, o1, o2⟩ := ok
      have o1 := Nat.eq_of_beq_eq_true o1
      subst o1; subst o2
      exact lv_dup hx hb hd (q_lngc hv) (q_next hk hj ox hr hJ hl hL)

theorem qs_pop (C : qCtx p l R s m args meth c own nm cc nL ret hh d) (Wd : qWd N0 b H0 tys D Lx xs s) (hE : qEok E rho) (hX : qScr rho Lx xs) (hk : qKok p l e R s m args below meth c N0 b H0 rho tys D nL Rw Qf Rel kk) (hno : ∀ x nc ns, ¬ Rel (.inr (.inr x)) nc ns) (hadd : qAddR R Rel) (hj : q_drop Rw j = (pc, op, a0, b0, c0, ins, len) :: K) (hd : decode cc pc = .ok (ins, len))
    (ok : q_opok P I sw own nm cc nL ret Rw K pc 13 a0 b0 c0 ins len = true) (hr : Rel (qo_pop P E ih kk d Rw hs pc a0 b0 c0 K L S h) nc ns) (hJ : qJ N0 b H0 rho tys D h H) (hl : ∀ z ∈ locs, N0 ≤ z.base) (hL : qLoc N0 b rho ls nL L) : W p l e R s m args below meth c H locs nc ns Qf (F0 m pc ls (S.map (q_v N0 b rho))) := by
  obtain ⟨hx, hb, hml, hown, hts, hret, hlocks, hnm, htab, hfr, hlo, htr⟩ := id C
  unfold qo_pop at hr
  split at hr
  · exact absurd hr (hno _ _ _)
  · next v S' =>
    split at hr
    · exact absurd hr (hno _ _ _)
    · next hv =>
      simp only [q_opok, Bool.and_eq_true, decide_eq_true_eq] at ok
      obtain ⟨ox, o1, o2⟩ := ok
      have o1 := Nat.eq_of_beq_eq_true o1
      subst o1; subst o2
      exact lv_pop hx hb hd (q_lngc hv) (q_next hk hj ox hr hJ hl hL)

theorem qs_if (C : qCtx p l R s m args meth c own nm cc nL ret hh d) (Wd : qWd N0 b H0 tys D Lx xs s) (hE : qEok E rho) (hX : qScr rho Lx xs) (hk : qKok p l e R s m args below meth c N0 b H0 rho tys D nL Rw Qf Rel kk) (hno : ∀ x nc ns, ¬ Rel (.inr (.inr x)) nc ns) (hadd : qAddR R Rel) (hj : q_drop Rw j = (pc, op, a0, b0, c0, ins, len) :: K) (hd : decode cc pc = .ok (ins, len))
    (ok : q_opok P I sw own nm cc nL ret Rw K pc 14 a0 b0 c0 ins len = true) (hr : Rel (qo_if P E ih kk d Rw hs pc a0 b0 c0 K L S h) nc ns) (hJ : qJ N0 b H0 rho tys D h H) (hl : ∀ z ∈ locs, N0 ≤ z.base) (hL : qLoc N0 b rho ls nL L) : W p l e R s m args below meth c H locs nc ns Qf (F0 m pc ls (S.map (q_v N0 b rho))) := by
  obtain ⟨hx, hb, hml, hown, hts, hret, hlocks, hnm, htab, hfr, hlo, htr⟩ := id C
  unfold qo_if at hr
  split at hr
  · next x S' =>
    simp only [q_opok, Bool.and_eq_true] at ok
    obtain ⟨ox, ok⟩ := ok
    split at ok
    all_goals first | (cases ok; done) | skip
    next cd off =>
    simp only [Bool.and_eq_true] at ok
    obtain ⟨o1, oc, ot⟩ := ok
    have o1 := Nat.eq_of_beq_eq_true o1
    subst o1
    unfold q_br at hr
    split at hr
    · next hc =>
      have hP := (q_cc_ok hE a0 x (0, []) hc).mp rfl
      obtain ⟨tgt, ht, hn⟩ := q_jump hk ot hr hJ hl hL
      exact q_if_t hx hb hd oc ht hP hn
    · next hc =>
      have hP : ¬ q_ccP a0 (q_i rho x) (q_i rho (0, [])) := fun z => absurd ((q_cc_ok hE a0 x (0, []) hc).mpr z) (by decide)
      have hn := q_next hk hj ox hr hJ hl hL
      obtain ⟨tgt, ht⟩ := q_tgE ot
      exact q_if_f hx hb hd oc ht hP hn
    · exact absurd hr (q_askc_no hno)
  · exact absurd hr (hno _ _ _)

theorem qs_icmp (C : qCtx p l R s m args meth c own nm cc nL ret hh d) (Wd : qWd N0 b H0 tys D Lx xs s) (hE : qEok E rho) (hX : qScr rho Lx xs) (hk : qKok p l e R s m args below meth c N0 b H0 rho tys D nL Rw Qf Rel kk) (hno : ∀ x nc ns, ¬ Rel (.inr (.inr x)) nc ns) (hadd : qAddR R Rel) (hj : q_drop Rw j = (pc, op, a0, b0, c0, ins, len) :: K) (hd : decode cc pc = .ok (ins, len))
    (ok : q_opok P I sw own nm cc nL ret Rw K pc 15 a0 b0 c0 ins len = true) (hr : Rel (qo_icmp P E ih kk d Rw hs pc a0 b0 c0 K L S h) nc ns) (hJ : qJ N0 b H0 rho tys D h H) (hl : ∀ z ∈ locs, N0 ≤ z.base) (hL : qLoc N0 b rho ls nL L) : W p l e R s m args below meth c H locs nc ns Qf (F0 m pc ls (S.map (q_v N0 b rho))) := by
  obtain ⟨hx, hb, hml, hown, hts, hret, hlocks, hnm, htab, hfr, hlo, htr⟩ := id C
  unfold qo_icmp at hr
  split at hr
  · next y x S' =>
    simp only [q_opok, Bool.and_eq_true] at ok
    obtain ⟨ox, ok⟩ := ok
    split at ok
    all_goals first | (cases ok; done) | skip
    next cd off =>
    simp only [Bool.and_eq_true] at ok
    obtain ⟨o1, oc, ot⟩ := ok
    have o1 := Nat.eq_of_beq_eq_true o1
    subst o1
    unfold q_br at hr
    split at hr
    · next hc =>
      have hP := (q_cc_ok hE a0 x y hc).mp rfl
      obtain ⟨tgt, ht, hn⟩ := q_jump hk ot hr hJ hl hL
      exact q_icmp_t hx hb hd oc ht hP hn
    · next hc =>
      have hP : ¬ q_ccP a0 (q_i rho x) (q_i rho y) := fun z => absurd ((q_cc_ok hE a0 x y hc).mpr z) (by decide)
      have hn := q_next hk hj ox hr hJ hl hL
      obtain ⟨tgt, ht⟩ := q_tgE ot
      exact q_icmp_f hx hb hd oc ht hP hn
    · exact absurd hr (q_askc_no hno)
  · exact absurd hr (hno _ _ _)

theorem qs_ifnull (C : qCtx p l R s m args meth c own nm cc nL ret hh d) (Wd : qWd N0 b H0 tys D Lx xs s) (hE : qEok E rho) (hX : qScr rho Lx xs) (hk : qKok p l e R s m args below meth c N0 b H0 rho tys D nL Rw Qf Rel kk) (hno : ∀ x nc ns, ¬ Rel (.inr (.inr x)) nc ns) (hadd : qAddR R Rel) (hj : q_drop Rw j = (pc, op, a0, b0, c0, ins, len) :: K) (hd : decode cc pc = .ok (ins, len))
    (ok : q_opok P I sw own nm cc nL ret Rw K pc 16 a0 b0 c0 ins len = true) (hr : Rel (qo_ifnull P E ih kk d Rw hs pc a0 b0 c0 K L S h) nc ns) (hJ : qJ N0 b H0 rho tys D h H) (hl : ∀ z ∈ locs, N0 ≤ z.base) (hL : qLoc N0 b rho ls nL L) : W p l e R s m args below meth c H locs nc ns Qf (F0 m pc ls (S.map (q_v N0 b rho))) := by
  obtain ⟨hx, hb, hml, hown, hts, hret, hlocks, hnm, htab, hfr, hlo, htr⟩ := id C
  simp only [q_opok, Bool.and_eq_true] at ok
  obtain ⟨ox, ok⟩ := ok
  split at ok
  all_goals first | (cases ok; done) | skip
  next off =>
  simp only [Bool.and_eq_true] at ok
  obtain ⟨o1, o2⟩ := ok
  have o1 := Nat.eq_of_beq_eq_true o1
  subst o1
  unfold qo_ifnull at hr
  split at hr
  · obtain ⟨tgt, ht, hn⟩ := q_jump hk o2 hr hJ hl hL
    exact lv_ifnullN hx hb hd ht hn
  · exact lv_ifnull hx hb hd (q_next hk hj ox hr hJ hl hL)
  · exact absurd hr (hno _ _ _)

theorem qs_ifnonnull (C : qCtx p l R s m args meth c own nm cc nL ret hh d) (Wd : qWd N0 b H0 tys D Lx xs s) (hE : qEok E rho) (hX : qScr rho Lx xs) (hk : qKok p l e R s m args below meth c N0 b H0 rho tys D nL Rw Qf Rel kk) (hno : ∀ x nc ns, ¬ Rel (.inr (.inr x)) nc ns) (hadd : qAddR R Rel) (hj : q_drop Rw j = (pc, op, a0, b0, c0, ins, len) :: K) (hd : decode cc pc = .ok (ins, len))
    (ok : q_opok P I sw own nm cc nL ret Rw K pc 17 a0 b0 c0 ins len = true) (hr : Rel (qo_ifnonnull P E ih kk d Rw hs pc a0 b0 c0 K L S h) nc ns) (hJ : qJ N0 b H0 rho tys D h H) (hl : ∀ z ∈ locs, N0 ≤ z.base) (hL : qLoc N0 b rho ls nL L) : W p l e R s m args below meth c H locs nc ns Qf (F0 m pc ls (S.map (q_v N0 b rho))) := by
  obtain ⟨hx, hb, hml, hown, hts, hret, hlocks, hnm, htab, hfr, hlo, htr⟩ := id C
  simp only [q_opok, Bool.and_eq_true] at ok
  obtain ⟨ox, ok⟩ := ok
  split at ok
  all_goals first | (cases ok; done) | skip
  next off =>
  simp only [Bool.and_eq_true] at ok
  obtain ⟨o1, o2⟩ := ok
  have o1 := Nat.eq_of_beq_eq_true o1
  subst o1
  unfold qo_ifnonnull at hr
  split at hr
  · exact lv_ifnonnullN hx hb hd (q_next hk hj ox hr hJ hl hL)
  · obtain ⟨tgt, ht, hn⟩ := q_jump hk o2 hr hJ hl hL
    exact lv_ifnonnull hx hb hd ht hn
  · exact absurd hr (hno _ _ _)

theorem qs_acmpeq (C : qCtx p l R s m args meth c own nm cc nL ret hh d) (Wd : qWd N0 b H0 tys D Lx xs s) (hE : qEok E rho) (hX : qScr rho Lx xs) (hk : qKok p l e R s m args below meth c N0 b H0 rho tys D nL Rw Qf Rel kk) (hno : ∀ x nc ns, ¬ Rel (.inr (.inr x)) nc ns) (hadd : qAddR R Rel) (hj : q_drop Rw j = (pc, op, a0, b0, c0, ins, len) :: K) (hd : decode cc pc = .ok (ins, len))
    (ok : q_opok P I sw own nm cc nL ret Rw K pc 18 a0 b0 c0 ins len = true) (hr : Rel (qo_acmpeq P E ih kk d Rw hs pc a0 b0 c0 K L S h) nc ns) (hJ : qJ N0 b H0 rho tys D h H) (hl : ∀ z ∈ locs, N0 ≤ z.base) (hL : qLoc N0 b rho ls nL L) : W p l e R s m args below meth c H locs nc ns Qf (F0 m pc ls (S.map (q_v N0 b rho))) := by
  obtain ⟨hx, hb, hml, hown, hts, hret, hlocks, hnm, htab, hfr, hlo, htr⟩ := id C
  simp only [q_opok, Bool.and_eq_true] at ok
  obtain ⟨ox, ok⟩ := ok
  split at ok
  all_goals first | (cases ok; done) | skip
  next off =>
  simp only [Bool.and_eq_true] at ok
  obtain ⟨o1, o2⟩ := ok
  have o1 := Nat.eq_of_beq_eq_true o1
  subst o1
  have hinj : ∀ {x y : Option Nat}, q_r N0 b x = q_r N0 b y → x = y := fun z => q_r_inj Wd.2.2.2.1 z
  unfold qo_acmpeq at hr
  split at hr
  · next y x S' =>
    split at hr
    · next hc =>
      have hxy := q_oeq_iff.mp hc
      obtain ⟨tgt, ht, hn⟩ := q_jump hk o2 hr hJ hl hL
      exact lv_acmp_eq (rx := q_r N0 b x) (ry := q_r N0 b y) hx hb hd ht (fun _ => hn) (fun z => absurd (by rw [hxy]) z)
    · next hc =>
      have hxy : ¬ x = y := fun z => absurd (q_oeq_iff.mpr z) (by rw [hc]; decide)
      obtain ⟨tgt, ht⟩ := q_tgE o2
      exact lv_acmp_eq (rx := q_r N0 b x) (ry := q_r N0 b y) hx hb hd ht (fun z => absurd (hinj z) hxy) (fun _ => q_next hk hj ox hr hJ hl hL)
  · exact absurd hr (hno _ _ _)

theorem qs_acmpne (C : qCtx p l R s m args meth c own nm cc nL ret hh d) (Wd : qWd N0 b H0 tys D Lx xs s) (hE : qEok E rho) (hX : qScr rho Lx xs) (hk : qKok p l e R s m args below meth c N0 b H0 rho tys D nL Rw Qf Rel kk) (hno : ∀ x nc ns, ¬ Rel (.inr (.inr x)) nc ns) (hadd : qAddR R Rel) (hj : q_drop Rw j = (pc, op, a0, b0, c0, ins, len) :: K) (hd : decode cc pc = .ok (ins, len))
    (ok : q_opok P I sw own nm cc nL ret Rw K pc 19 a0 b0 c0 ins len = true) (hr : Rel (qo_acmpne P E ih kk d Rw hs pc a0 b0 c0 K L S h) nc ns) (hJ : qJ N0 b H0 rho tys D h H) (hl : ∀ z ∈ locs, N0 ≤ z.base) (hL : qLoc N0 b rho ls nL L) : W p l e R s m args below meth c H locs nc ns Qf (F0 m pc ls (S.map (q_v N0 b rho))) := by
  obtain ⟨hx, hb, hml, hown, hts, hret, hlocks, hnm, htab, hfr, hlo, htr⟩ := id C
  simp only [q_opok, Bool.and_eq_true] at ok
  obtain ⟨ox, ok⟩ := ok
  split at ok
  all_goals first | (cases ok; done) | skip
  next off =>
  simp only [Bool.and_eq_true] at ok
  obtain ⟨o1, o2⟩ := ok
  have o1 := Nat.eq_of_beq_eq_true o1
  subst o1
  have hinj : ∀ {x y : Option Nat}, q_r N0 b x = q_r N0 b y → x = y := fun z => q_r_inj Wd.2.2.2.1 z
  unfold qo_acmpne at hr
  split at hr
  · next y x S' =>
    split at hr
    · next hc =>
      have hxy := q_oeq_iff.mp hc
      obtain ⟨tgt, ht⟩ := q_tgE o2
      exact lv_acmp_ne (rx := q_r N0 b x) (ry := q_r N0 b y) hx hb hd ht (fun z => absurd (by rw [hxy]) z) (fun _ => q_next hk hj ox hr hJ hl hL)
    · next hc =>
      have hxy : ¬ x = y := fun z => absurd (q_oeq_iff.mpr z) (by rw [hc]; decide)
      obtain ⟨tgt, ht, hn⟩ := q_jump hk o2 hr hJ hl hL
      exact lv_acmp_ne (rx := q_r N0 b x) (ry := q_r N0 b y) hx hb hd ht (fun _ => hn) (fun z => absurd (hinj z) hxy)
  · exact absurd hr (hno _ _ _)

theorem qs_goto (C : qCtx p l R s m args meth c own nm cc nL ret hh d) (Wd : qWd N0 b H0 tys D Lx xs s) (hE : qEok E rho) (hX : qScr rho Lx xs) (hk : qKok p l e R s m args below meth c N0 b H0 rho tys D nL Rw Qf Rel kk) (hno : ∀ x nc ns, ¬ Rel (.inr (.inr x)) nc ns) (hadd : qAddR R Rel) (hj : q_drop Rw j = (pc, op, a0, b0, c0, ins, len) :: K) (hd : decode cc pc = .ok (ins, len))
    (ok : q_opok P I sw own nm cc nL ret Rw K pc 20 a0 b0 c0 ins len = true) (hr : Rel (qo_goto P E ih kk d Rw hs pc a0 b0 c0 K L S h) nc ns) (hJ : qJ N0 b H0 rho tys D h H) (hl : ∀ z ∈ locs, N0 ≤ z.base) (hL : qLoc N0 b rho ls nL L) : W p l e R s m args below meth c H locs nc ns Qf (F0 m pc ls (S.map (q_v N0 b rho))) := by
  obtain ⟨hx, hb, hml, hown, hts, hret, hlocks, hnm, htab, hfr, hlo, htr⟩ := id C
  replace hr : Rel (kk (q_drop Rw a0) L S h) nc ns := hr
  simp only [q_opok] at ok
  split at ok
  all_goals first | (cases ok; done) | skip
  simp only [Bool.and_eq_true] at ok
  obtain ⟨o1, o2⟩ := ok
  have o1 := Nat.eq_of_beq_eq_true o1
  subst o1
  obtain ⟨tgt, ht, hn⟩ := q_jump hk o2 hr hJ hl hL
  exact lv_goto hx hb hd ht hn

theorem qs_i2l (C : qCtx p l R s m args meth c own nm cc nL ret hh d) (Wd : qWd N0 b H0 tys D Lx xs s) (hE : qEok E rho) (hX : qScr rho Lx xs) (hk : qKok p l e R s m args below meth c N0 b H0 rho tys D nL Rw Qf Rel kk) (hno : ∀ x nc ns, ¬ Rel (.inr (.inr x)) nc ns) (hadd : qAddR R Rel) (hj : q_drop Rw j = (pc, op, a0, b0, c0, ins, len) :: K) (hd : decode cc pc = .ok (ins, len))
    (ok : q_opok P I sw own nm cc nL ret Rw K pc 45 a0 b0 c0 ins len = true) (hr : Rel (qo_i2l P E ih kk d Rw hs pc a0 b0 c0 K L S h) nc ns) (hJ : qJ N0 b H0 rho tys D h H) (hl : ∀ z ∈ locs, N0 ≤ z.base) (hL : qLoc N0 b rho ls nL L) : W p l e R s m args below meth c H locs nc ns Qf (F0 m pc ls (S.map (q_v N0 b rho))) := by
  obtain ⟨hx, hb, hml, hown, hts, hret, hlocks, hnm, htab, hfr, hlo, htr⟩ := id C
  unfold qo_i2l at hr
  split at hr
  · next x S' =>
    simp only [q_opok, Bool.and_eq_true, decide_eq_true_eq] at ok
    obtain ⟨ox, o1, o2⟩ := ok
    have o1 := Nat.eq_of_beq_eq_true o1
    subst o1; subst o2
    obtain ⟨x1, x2⟩ := x
    split at hr
    · next hc =>
      have e1 : x2 = [] := q_isc_eq hc
      subst e1
      exact lv_i2l (x := nI x1) (v := q_l x1) hx hb hd rfl (q_next hk hj ox hr hJ hl hL)
    · exact absurd hr (hno _ _ _)
  · exact absurd hr (hno _ _ _)

theorem qs_lcmp (C : qCtx p l R s m args meth c own nm cc nL ret hh d) (Wd : qWd N0 b H0 tys D Lx xs s) (hE : qEok E rho) (hX : qScr rho Lx xs) (hk : qKok p l e R s m args below meth c N0 b H0 rho tys D nL Rw Qf Rel kk) (hno : ∀ x nc ns, ¬ Rel (.inr (.inr x)) nc ns) (hadd : qAddR R Rel) (hj : q_drop Rw j = (pc, op, a0, b0, c0, ins, len) :: K) (hd : decode cc pc = .ok (ins, len))
    (ok : q_opok P I sw own nm cc nL ret Rw K pc 46 a0 b0 c0 ins len = true) (hr : Rel (qo_lcmp P E ih kk d Rw hs pc a0 b0 c0 K L S h) nc ns) (hJ : qJ N0 b H0 rho tys D h H) (hl : ∀ z ∈ locs, N0 ≤ z.base) (hL : qLoc N0 b rho ls nL L) : W p l e R s m args below meth c H locs nc ns Qf (F0 m pc ls (S.map (q_v N0 b rho))) := by
  obtain ⟨hx, hb, hml, hown, hts, hret, hlocks, hnm, htab, hfr, hlo, htr⟩ := id C
  unfold qo_lcmp at hr
  split at hr
  · next y x S' =>
    simp only [q_opok, Bool.and_eq_true, decide_eq_true_eq] at ok
    obtain ⟨ox, o1, o2⟩ := ok
    have o1 := Nat.eq_of_beq_eq_true o1
    subst o1; subst o2
    split at hr
    · next hc =>
      have e1 := Nat.eq_of_beq_eq_true hc
      subst e1
      refine W.lcmp (x := q_l x) (y := q_l x) hx hb hd ?_
      rw [q_lcmp0 (q_l x) rho]
      exact q_next hk hj ox hr hJ hl hL
    · exact absurd hr (hno _ _ _)
  · exact absurd hr (hno _ _ _)

theorem qs_lconst (C : qCtx p l R s m args meth c own nm cc nL ret hh d) (Wd : qWd N0 b H0 tys D Lx xs s) (hE : qEok E rho) (hX : qScr rho Lx xs) (hk : qKok p l e R s m args below meth c N0 b H0 rho tys D nL Rw Qf Rel kk) (hno : ∀ x nc ns, ¬ Rel (.inr (.inr x)) nc ns) (hadd : qAddR R Rel) (hj : q_drop Rw j = (pc, op, a0, b0, c0, ins, len) :: K) (hd : decode cc pc = .ok (ins, len))
    (ok : q_opok P I sw own nm cc nL ret Rw K pc 47 a0 b0 c0 ins len = true) (hr : Rel (qo_lconst P E ih kk d Rw hs pc a0 b0 c0 K L S h) nc ns) (hJ : qJ N0 b H0 rho tys D h H) (hl : ∀ z ∈ locs, N0 ≤ z.base) (hL : qLoc N0 b rho ls nL L) : W p l e R s m args below meth c H locs nc ns Qf (F0 m pc ls (S.map (q_v N0 b rho))) := by
  obtain ⟨hx, hb, hml, hown, hts, hret, hlocks, hnm, htab, hfr, hlo, htr⟩ := id C
  replace hr : Rel (kk K L (.inr (.inr a0) :: S) h) nc ns := hr
  simp only [q_opok, Bool.and_eq_true] at ok
  obtain ⟨ox, o1, ok⟩ := ok
  have o1 := Nat.eq_of_beq_eq_true o1
  subst o1
  split at ok
  all_goals first | (cases ok; done) | skip
  next k =>
  have o2 := Nat.eq_of_beq_eq_true ok
  exact lv_lconst (v := q_l a0) hx hb hd (by rw [← o2]; exact q_l01 k) (q_next hk hj ox hr hJ hl hL)

end QO
end
section
/-! THE OPS ON THE HEAP -/
theorem q_cl0 : GoodIn lw_tbl (u_ws RX0 TX0 6) := goodIn_r _ [156, 158, 160, 162, 164, 166] (by decide +kernel) (by decide +kernel)
theorem q_cl1 : GoodIn lw_tbl (u_ws RX1 TX1 7) := goodIn_r _ [131, 133, 135, 137, 139, 141, 143] (by decide +kernel) (by decide +kernel)
theorem q_cl2 : GoodIn lw_tbl (u_ws RX2 TX2 4) := goodIn_r _ [903, 905, 907, 909] (by decide +kernel) (by decide +kernel)
theorem q_cl3 : GoodIn lw_tbl (u_ws RX3 TX3 3) := goodIn_r _ [412, 414, 416] (by decide +kernel) (by decide +kernel)
theorem q_cl4 : GoodIn lw_tbl (u_ws RX4 TX4 2) := goodIn_r _ [237, 239] (by decide +kernel) (by decide +kernel)
theorem q_cl5 : GoodIn lw_tbl (u_ws RX5 TX5 2) := goodIn_r _ [269, 271] (by decide +kernel) (by decide +kernel)
theorem q_cl6 : GoodIn lw_tbl (u_ws RX6 TX6 5) := goodIn_r _ [216, 218, 220, 222, 224] (by decide +kernel) (by decide +kernel)
theorem q_cl7 : GoodIn lw_tbl (u_ws RX7 TX7 4) := goodIn_r _ [187, 189, 191, 193] (by decide +kernel) (by decide +kernel)
theorem q_cl8 : GoodIn lw_tbl (u_ws RX8 TX8 2) := goodIn_r _ [252, 254] (by decide +kernel) (by decide +kernel)
theorem q_cl9 : GoodIn lw_tbl (u_ws RX9 TX9 13) := goodIn_r _ [320, 322, 324, 326, 328, 330, 332, 334, 336, 338, 340, 342, 344] (by decide +kernel) (by decide +kernel)
theorem q_cl10 : GoodIn lw_tbl (u_ws RX10 TX10 36) := goodIn_r _ [1069, 1071, 1073, 1075, 1077, 1079, 1081, 1083, 1085, 1087, 1089, 1091, 1093, 1095, 1097, 1099, 1101, 1103, 1105, 1107, 1109, 1111, 1113, 1115, 1117, 1119, 1121, 1123, 1125, 1127, 1129, 1131, 1133, 1135, 1137, 1139] (by decide +kernel) (by decide +kernel)
theorem q_cl : ∀ (a : Nat) (q : vw_C), vwCl[a]? = some q → GoodIn lw_tbl (u_ws q.1 q.2.1 q.2.2) ∧ (∀ a, a < q.2.2 → ∀ b, b < q.2.2 → a ≠ b → (q.2.1 a).2.1 ≠ (q.2.1 b).2.1) ∧ ∃ ty0 : Nat → FieldType, ∀ k, k < q.2.2 → parseFieldDescriptor (q.2.1 k).2.2.1 = some (ty0 k) := by
  intro a q h
  match a, h with
  | 0, h => cases h; exact ⟨q_cl0, nmX0, tyX0, tyX0_ok⟩
  | 1, h => cases h; exact ⟨q_cl1, nmX1, tyX1, tyX1_ok⟩
  | 2, h => cases h; exact ⟨q_cl2, nmX2, tyX2, tyX2_ok⟩
  | 3, h => cases h; exact ⟨q_cl3, nmX3, tyX3, tyX3_ok⟩
  | 4, h => cases h; exact ⟨q_cl4, nmX4, tyX4, tyX4_ok⟩
  | 5, h => cases h; exact ⟨q_cl5, nmX5, tyX5, tyX5_ok⟩
  | 6, h => cases h; exact ⟨q_cl6, nmX6, tyX6, tyX6_ok⟩
  | 7, h => cases h; exact ⟨q_cl7, nmX7, tyX7, tyX7_ok⟩
  | 8, h => cases h; exact ⟨q_cl8, nmX8, tyX8, tyX8_ok⟩
  | 9, h => cases h; exact ⟨q_cl9, nmX9, tyX9, tyX9_ok⟩
  | 10, h => cases h; exact ⟨q_cl10, nmX10, tyX10, tyX10_ok⟩
  | n + 11, h => simp [vwCl] at h


theorem q_goodB {w : Jvm.Cond} (h : (w.onTables && w.keeps) = true ∨ ∃ ty, w = .arrayClass ty) : goodWord w = true := by
  rcases h with h | ⟨ty, rfl⟩
  · cases w <;> first | rfl | exact h
  · rfl
theorem q_sv_ok {E : qEnv} {rho : Nat → Nat} (hE : qEok E rho) (i : Nat) : q_i rho (q_sv E i) = nI (rho i) := by
  have h0 : q_ev rho [(i, 1)] = rho i := by
    show rho i * 1 + 0 = rho i
    omega
  have h1 : q_i rho (0, [(i, 1)]) = nI (rho i) := by
    show nI (0 + q_ev rho [(i, 1)]) = _
    rw [h0, Nat.zero_add]
  unfold q_sv
  split
  · next r hr =>
    split
    · next hc =>
      have hc := Nat.eq_of_beq_eq_true hc
      have h2 := q_find_ok hE hr
      rw [h0] at h2
      apply q_nImod
      unfold q_bz at h2
      show ((r.1 + 2147483648) % 4294967296 + 0) % 4294967296 = _
      omega
    · exact h1
  · exact h1
theorem q_tys_obj {t : Nat} (h1 : 1 < t) (h2 : t < 6) : ∃ C, q_tys[t]? = some (.object C) := by
  match t, h1, h2 with
  | 2, _, _ => exact ⟨_, rfl⟩
  | 3, _, _ => exact ⟨_, rfl⟩
  | 4, _, _ => exact ⟨_, rfl⟩
  | 5, _, _ => exact ⟨_, rfl⟩
theorem q_isE_ok {h : List qC} {t : Nat} {v : Option Nat} (hv : q_isE h t v = true) : (v = none ∧ 1 < t ∧ t < 6) ∨ ∃ (r ci : Nat) (vs : List qV), v = some (r + 1) ∧ h[r]? = some (.inr (ci, vs)) ∧ ci = q_elem t := by
  unfold q_isE at hv
  split at hv
  · next r =>
    simp only [q_nth_eq] at hv
    split at hv
    · next o ho =>
      obtain ⟨ci, vs⟩ := o
      exact Or.inr ⟨r, ci, vs, rfl, ho, Nat.eq_of_beq_eq_true hv⟩
    · cases hv
  · cases hv
  · simp only [Bool.and_eq_true] at hv
    exact Or.inl ⟨rfl, Nat.blt_eq.mp hv.1, Nat.blt_eq.mp hv.2⟩
theorem q_tyO {t : Nat} (h1 : 1 < t) (h2 : t < 6) : ∃ C, q_tys[t]? = some (.object C) := by
  match t, h1, h2 with
  | 0, h, _ => exact absurd h (by decide)
  | 1, h, _ => exact absurd h (by decide)
  | 2, _, _ => exact ⟨_, rfl⟩
  | 3, _, _ => exact ⟨_, rfl⟩
  | 4, _, _ => exact ⟨_, rfl⟩
  | 5, _, _ => exact ⟨_, rfl⟩
  | n + 6, _, h => exact absurd h (by omega)
theorem q_elem_ok {t ci : Nat} (h : ci = q_elem t) (hc : ∃ r : vw_C, vwCl[ci]? = some r) : ∃ r : vw_C, vwCl[ci]? = some r ∧ q_tys[t]? = some (.object r.1) := by
  subst h
  unfold q_elem at hc ⊢
  split
  · exact ⟨_, rfl, rfl⟩
  · exact ⟨_, rfl, rfl⟩
  · exact ⟨_, rfl, rfl⟩
  · exact ⟨_, rfl, rfl⟩
  · obtain ⟨r, hr⟩ := hc
    exfalso
    split at hr <;> first | contradiction | (simp [vwCl] at hr)
theorem q_dv_ok {N0 b : Nat} {rho : Nat → Nat} (ty : FieldType) (h : q_tc ty < 3) : defaultValue ty = q_v N0 b rho (q_dv (q_tc ty)) := by
  cases ty <;> first | rfl | (exact absurd h (by decide))
theorem q_fty_ok {a : Nat} {fl : List Nat} (h : q_nth q_fty a = some fl) {k : Nat} (hk : k < fl.length) : fl[k] < 3 := by
  rw [q_nth_eq] at h
  have hall : q_fty.all (fun l => l.all (fun x => Nat.blt x 3)) = true := by decide +kernel
  have h1 := List.all_eq_true.mp hall fl (List.mem_of_getElem? h)
  exact Nat.blt_eq.mp (List.all_eq_true.mp h1 _ (List.getElem_mem hk))
theorem q_bool01 : ∀ k : Fin 2, narrow .boolean (.int (nI k.val)) = .int (nI k.val) ∧ fits .boolean (.int (nI k.val)) = true := by decide +kernel
theorem q_fit_ok {N0 b : Nat} {rho : Nat → Nat} {ty : FieldType} {tc : Nat} {v : qV} (ht : q_tc ty = tc) (hv : q_fit tc v = true) : narrow ty (q_v N0 b rho v) = q_v N0 b rho v ∧ fits ty (q_v N0 b rho v) = true := by
  subst ht
  rcases v with x | r | n
  · simp only [q_fit] at hv
    cases ty
    all_goals first | (exact absurd (show false = true from hv) (by decide)) | skip
    all_goals simp only [q_tc] at hv
    all_goals first | exact ⟨rfl, rfl⟩ | skip
    all_goals
      simp only [Bool.and_eq_true] at hv
      have e1 := q_isc_eq hv.1
      have e2 := Nat.blt_eq.mp hv.2
      obtain ⟨x1, x2⟩ := x
      dsimp only at e1 e2
      subst e1
      rcases (by omega : x1 = 0 ∨ x1 = 1) with rfl | rfl
      · exact q_bool01 0
      · exact q_bool01 1
  · have h2 : q_tc ty = 2 := Nat.eq_of_beq_eq_true hv
    cases ty
    all_goals first | (exact absurd h2 (by decide)) | skip
    all_goals cases r <;> exact ⟨rfl, rfl⟩
  · cases hv
section QH0
variable {p : Program} {l : Launch} {e : Env} {R : Room} {s : State} {m : MethodId} {args : Array Value} {below : List Frame} {meth : Method} {c : Code} {H : Heap} {locs : List Loc} {cells slots : Nat} {Q : State → Prop}
variable {cc : ByteArray} {pc : Nat} {ls : Array Slot} {rest : List Value} {D : va_G} {tys : List (ClassId × FieldType)} {ws : va_W} {a : Nat}
variable {N0 b : Nat} {H0 : Heap} {rho : Nat → Nat} {Lx : Nat} {xs : Nat → Int32}
theorem q_TBLin {own C : String} {T : u_T} {N : Nat} (h : GoodIn lw_tbl (u_ws C T N)) : ∀ w ∈ u_ws C T N, w ∈ q_TBL := fun w hw => List.mem_filter.mpr ⟨(h w hw).1, q_goodB (h w hw).2⟩
theorem q_inN {n j : Nat} (h : j < n) (hj : j < 2147483648) : vp_in (nI j) n := by
  intro z
  rcases z with z | z
  · exact nI_pos hj z
  · rw [nI_clamp hj] at z; omega
theorem q_ty (Wd : qWd N0 b H0 tys D Lx xs s) {t : Nat} {ty : FieldType} (ht : q_tys[t]? = some ty) : tys[t]? = some (q_cA tys t, ty) := by
  have h1 : (tys.map (fun q => q.2))[t]? = some ty := by rw [Wd.2.1]; exact ht
  rw [List.getElem?_map] at h1
  cases hq : tys[t]? with
  | none => rw [hq] at h1; cases h1
  | some q =>
    rw [hq] at h1
    have h2 : q.2 = ty := Option.some.inj h1
    have h3 : q_cA tys t = q.1 := by
      unfold q_cA
      rw [List.getD_eq_getElem?_getD, hq]
      rfl
    rw [h3, ← h2]
/-- putfield, with what stays of the heap's size -/
theorem q_put (hexec : p.tables.exec = Jvm.exec) (hb : c.code = cc) {own C : String} {T : u_T} {N ci index : Nat} {Ts : List Jvm.Cond} (hts : ∀ w ∈ Ts, w.before args s = true) (hin : ∀ w ∈ u_ws C T N, w ∈ Ts) (ty0 : Nat → FieldType) (hty : ∀ k, k < N → parseFieldDescriptor (T k).2.2.1 = some (ty0 k)) (hnm : ∀ a, a < N → ∀ b, b < N → a ≠ b → (T a).2.1 ≠ (T b).2.1) (hown : s.vm.findClass own = some m.cls) (hK : va_K D vwCl tys s) {fs : List Value} (hP : va_at D vwCl (a, .inr (ci, fs)) H) (hc : vwCl[ci]? = some (C, T, N)) (k : Nat) (hk : k < N) (hlink : (Jvm.Cond.fieldLink own index (T k).1 (T k).2.1 (T k).2.2.1).before args s = true)
    (hfin : (T k).2.2.2 = false ∨ ((T k).1 = own ∧ meth.name = "<init>")) {ty : FieldType} {v : Value} (hd : parseFieldDescriptor (T k).2.2.1 = some ty) (hn : narrow ty v = v) (hfit : fits ty v = true) (hl : k < fs.length) (hdg : decode cc pc = .ok (.putfield index, 3))
    (kk : ∀ (H1 : Heap) (locs1 : List Loc), va_at D vwCl (a, .inr (ci, fs.set k v)) H1 → H1.size = H.size → (∀ q : Nat, q ≠ a → H1[q]? = H[q]?) → (∀ z ∈ locs1, z ∈ locs ∨ z.base = a) → W p l e R s m args below meth c H1 locs1 cells slots Q (F0 m (pc + 3) ls rest)) : W p l e R s m args below meth c H locs cells slots Q (F0 m pc ls (v :: .ref a :: rest)) := by
  have hap := va_apart (own := own) hts hin ty0 hty hnm hK hc
  obtain ⟨r, h1, cell, q1, q2, q3, q4⟩ := hP
  have hr : r = (C, T, N) := Option.some.inj (h1.symm.trans hc)
  subst hr
  obtain ⟨hS, hfc, kC, hkC, hkind⟩ := hK.1 ci _ hc
  obtain ⟨cf, kf, fi, f, hi, hsl⟩ := hS k hk
  have hst := (u_facts hfc hkC (u_lays hts hin hk) hi).1
  have hlay := hts _ (hin _ (u_in_lay hk))
  have hlm : ∀ z ∈ locs ++ [(⟨a, f.slot⟩ : Loc)], z ∈ locs ∨ z.base = a := fun z hz => by
    rcases List.mem_append.mp hz with h | h
    · exact Or.inl h
    · rw [List.mem_singleton.mp h]; exact Or.inr rfl
  unfold u_lay at hlay
  by_cases hf0 : (T k).2.2.2 = true
  · obtain ⟨hdecl, hin2⟩ := hfin.resolve_left (by rw [hf0]; decide)
    rw [if_pos hf0] at hlay
    have hcf : m.cls = cf := by
      obtain ⟨_, _, c', _, _, _, -, -, hf', -, -, -, hown2, -⟩ := Cond.laysFinal_spec hlay
      have e1 : c' = cf := by have := hi.symm.trans hf'; simp at this; exact this.1.symm
      rw [hdecl] at hown2
      rw [← e1]; exact Option.some.inj (hown.symm.trans hown2)
    have h6 := u_fits hfc hkC hkind (Or.inr hlay) hi hd hn hfit
    refine W.putFinK hexec hb hown hlink hi hst hcf hin2 (by rw [q2]; exact h6) q1 q3 (by rw [hsl]; exact k2_hasslot (q4 k hk)) rfl rfl hdg fun H' e1 e2 e3 => ?_
    refine kk H' _ ?_ e2 e3 hlm
    rw [hsl] at e1
    exact ⟨_, hc, t_OB.to (V := updV (vp_V fs) k v) ⟨_, e1, q2, q3, t_set q4 hap hk v⟩ (fun j _ => vp_updV_set hl v j)⟩
  · rw [if_neg hf0] at hlay
    have h6 := u_store hfc hkC hkind hlay hi hd hn hfit
    refine W.putK hexec hb (f := f) ⟨hown, hlink, ⟨_, _, _, hi⟩, hst⟩ (by rw [q2]; exact h6) q1 q3 (by rw [hsl]; exact k2_hasslot (q4 k hk)) rfl rfl hdg fun H' e1 e2 e3 => ?_
    refine kk H' _ ?_ e2 e3 hlm
    rw [hsl] at e1
    exact ⟨_, hc, t_OB.to (V := updV (vp_V fs) k v) ⟨_, e1, q2, q3, t_set q4 hap hk v⟩ (fun j _ => vp_updV_set hl v j)⟩
theorem q_bases {locs : List Loc} {k : Nat} {x : Loc} (hl : ∀ z ∈ locs, N0 ≤ z.base) (hx : x.base = N0 + k) : ∀ z ∈ locs ++ [x], N0 ≤ z.base := fun z hz => by
  rcases List.mem_append.mp hz with h | h
  · exact hl z h
  · rw [List.mem_singleton.mp h, hx]; omega
theorem q_getD_set {α : Type} {l : List α} {i : Nat} {v d : α} (hi : i < l.length) (j : Nat) : (l.set i v).getD j d = if j = i then v else l.getD j d := by
  rw [List.getD_eq_getElem?_getD, List.getD_eq_getElem?_getD, List.getElem?_set]
  by_cases h : j = i
  · subst h; simp [hi]
  · simp [h, Ne.symm h]
theorem q_getD_rep {α : Type} (n : Nat) (d : α) (j : Nat) : (List.replicate n d).getD j d = d := by
  rw [List.getD_eq_getElem?_getD, List.getElem?_replicate]
  split <;> rfl
theorem q_getD_some {α : Type} {l : List α} {j : Nat} {v d : α} (h : l[j]? = some v) : l.getD j d = v := by
  rw [List.getD_eq_getElem?_getD, h]; rfl
end QH0
section QH
variable {p : Program} {l : Launch} {e : Env} {R : Room} {s : State} {m : MethodId} {args : Array Value} {below : List Frame} {meth : Method} {c : Code}
variable {N0 b : Nat} {H0 : Heap} {rho : Nat → Nat} {tys : List (ClassId × FieldType)} {D : va_G} {Lx : Nat} {xs : Nat → Int32}
variable {own nm : String} {cc : ByteArray} {nL : Nat} {ret : Option FieldType} {hh : List (Nat × Nat × Nat × Nat)} {d : Nat}
variable {Rw : List qRow} {hs : List qHd} {P : List qM} {I : List qInf} {sw : List Nat} {E : qEnv} {ih : qIh} {kk : qKk}
variable {Qf : State → Prop} {Rel : qRes → Nat → Nat → Prop}
variable {j pc op a0 b0 c0 len : Nat} {ins : Instr} {K : List qRow} {L : qL} {S : List qV} {h : qHp} {nc ns : Nat} {H : Heap} {locs : List Loc} {ls : Array Slot}
theorem qs_getf (C : qCtx p l R s m args meth c own nm cc nL ret hh d) (Wd : qWd N0 b H0 tys D Lx xs s) (hE : qEok E rho) (hX : qScr rho Lx xs) (hk : qKok p l e R s m args below meth c N0 b H0 rho tys D nL Rw Qf Rel kk) (hno : ∀ x nc ns, ¬ Rel (.inr (.inr x)) nc ns) (hadd : qAddR R Rel) (hj : q_drop Rw j = (pc, op, a0, b0, c0, ins, len) :: K) (hd : decode cc pc = .ok (ins, len))
    (ok : q_opok P I sw own nm cc nL ret Rw K pc 21 a0 b0 c0 ins len = true) (hr : Rel (qo_getf P E ih kk d Rw hs pc a0 b0 c0 K L S h) nc ns) (hJ : qJ N0 b H0 rho tys D h H) (hl : ∀ z ∈ locs, N0 ≤ z.base) (hL : qLoc N0 b rho ls nL L) : W p l e R s m args below meth c H locs nc ns Qf (F0 m pc ls (S.map (q_v N0 b rho))) := by
  obtain ⟨hx, hb, hml, hown, hts, hret, hlocks, hnm, htab, hfr, hlo, htr⟩ := id C
  unfold qo_getf at hr
  simp only [q_nth_eq, q_set_eq, q_has_eq, q_ln_eq, q_len_eq, q_fz_eq, q_svk_eq] at hr
  split at hr
  · next r S' =>
    split at hr
    · next o ho =>
      split at hr
      · next hc =>
        have hc := Nat.eq_of_beq_eq_true hc
        split at hr
        · next v hv =>
          simp only [q_opok, Bool.and_eq_true] at ok
          obtain ⟨ox, ok⟩ := ok
          split at ok
          all_goals first | (cases ok; done) | skip
          next idx =>
          simp only [Bool.and_eq_true] at ok
          obtain ⟨o1, ok⟩ := ok
          have o1 := Nat.eq_of_beq_eq_true o1
          subst o1
          split at ok
          · next C T N hcl =>
            simp only [Bool.and_eq_true] at ok
            obtain ⟨ob, ow⟩ := ok
            have ob := Nat.blt_eq.mp ob
            rw [q_nth_eq] at hcl
            obtain ⟨g1, g2, ty0, g3⟩ := q_cl a0 _ hcl
            obtain ⟨ci, fs⟩ := o
            dsimp only at hc hv
            subst hc
            have hP := hJ.one ho
            exact va_get hx hb hts (q_TBLin (own := own) g1) hown Wd.1 hP 0 rfl hcl b0 ob (hts _ (q_w_in ow).1) (fun _ z => z) (by rw [List.getElem?_map, hv]; rfl) hd (q_next hk hj ox hr hJ hl hL)
          · cases ok
        · exact absurd hr (hno _ _ _)
      · exact absurd hr (hno _ _ _)
    · exact absurd hr (hno _ _ _)
  · exact absurd hr (hno _ _ _)

theorem qs_putf (C : qCtx p l R s m args meth c own nm cc nL ret hh d) (Wd : qWd N0 b H0 tys D Lx xs s) (hE : qEok E rho) (hX : qScr rho Lx xs) (hk : qKok p l e R s m args below meth c N0 b H0 rho tys D nL Rw Qf Rel kk) (hno : ∀ x nc ns, ¬ Rel (.inr (.inr x)) nc ns) (hadd : qAddR R Rel) (hj : q_drop Rw j = (pc, op, a0, b0, c0, ins, len) :: K) (hd : decode cc pc = .ok (ins, len))
    (ok : q_opok P I sw own nm cc nL ret Rw K pc 22 a0 b0 c0 ins len = true) (hr : Rel (qo_putf P E ih kk d Rw hs pc a0 b0 c0 K L S h) nc ns) (hJ : qJ N0 b H0 rho tys D h H) (hl : ∀ z ∈ locs, N0 ≤ z.base) (hL : qLoc N0 b rho ls nL L) : W p l e R s m args below meth c H locs nc ns Qf (F0 m pc ls (S.map (q_v N0 b rho))) := by
  obtain ⟨hx, hb, hml, hown, hts, hret, hlocks, hnm, htab, hfr, hlo, htr⟩ := id C
  unfold qo_putf at hr
  simp only [q_nth_eq, q_set_eq, q_has_eq, q_ln_eq, q_len_eq, q_fz_eq, q_svk_eq] at hr
  split at hr
  · next v r S' =>
    split at hr
    · next o ho =>
      split at hr
      · next hc =>
        simp only [Bool.and_eq_true] at hc
        obtain ⟨hc, hv, hlen⟩ := hc
        have hc := Nat.eq_of_beq_eq_true hc
        have hlen := Nat.blt_eq.mp hlen
        simp only [q_opok, Bool.and_eq_true] at ok
        obtain ⟨ox, ok⟩ := ok
        split at ok
        all_goals first | (cases ok; done) | skip
        next idx =>
        simp only [Bool.and_eq_true] at ok
        obtain ⟨o1, ok⟩ := ok
        have o1 := Nat.eq_of_beq_eq_true o1
        subst o1
        split at ok
        · next C T N hcl =>
          simp only [Bool.and_eq_true] at ok
          obtain ⟨ob, ow, ok⟩ := ok
          have ob := Nat.blt_eq.mp ob
          rw [q_nth_eq] at hcl
          obtain ⟨g1, g2, ty0, g3⟩ := q_cl a0 _ hcl
          split at ok
          · next ty hty =>
            simp only [Bool.and_eq_true, Bool.or_eq_true, Bool.not_eq_true', decide_eq_true_eq] at ok
            obtain ⟨otc, ofin⟩ := ok
            have otc := Nat.eq_of_beq_eq_true otc
            obtain ⟨ci, fs⟩ := o
            dsimp only at hc hv hlen hr
            subst hc
            have hfit := q_fit_ok (N0 := N0) (b := b) (rho := rho) otc hv
            refine q_put (C := C) hx hb hts (q_TBLin (own := own) g1) ty0 g3 g2 hown Wd.1 (hJ.2.2.2 r _ ho) hcl b0 ob (hts _ (q_w_in ow).1) (ofin.imp id (fun z => ⟨z.1, (hnm.resolve_right (by rw [z.2]; decide)).trans z.2⟩)) hty hfit.1 hfit.2 (by rw [List.length_map]; exact hlen) hd (fun H1 locs1 e1 e2 e3 e4 => ?_)
            refine q_next hk hj ox hr (hJ.set ho e2 e3 ?_) (fun z hz => (e4 z hz).elim (hl z) (fun y => by rw [y]; omega)) hL
            rw [← List.map_set] at e1
            exact e1
          · cases ok
        · cases ok
      · exact absurd hr (hno _ _ _)
    · exact absurd hr (hno _ _ _)
  · exact absurd hr (hno _ _ _)

theorem qs_alen (C : qCtx p l R s m args meth c own nm cc nL ret hh d) (Wd : qWd N0 b H0 tys D Lx xs s) (hE : qEok E rho) (hX : qScr rho Lx xs) (hk : qKok p l e R s m args below meth c N0 b H0 rho tys D nL Rw Qf Rel kk) (hno : ∀ x nc ns, ¬ Rel (.inr (.inr x)) nc ns) (hadd : qAddR R Rel) (hj : q_drop Rw j = (pc, op, a0, b0, c0, ins, len) :: K) (hd : decode cc pc = .ok (ins, len))
    (ok : q_opok P I sw own nm cc nL ret Rw K pc 23 a0 b0 c0 ins len = true) (hr : Rel (qo_alen P E ih kk d Rw hs pc a0 b0 c0 K L S h) nc ns) (hJ : qJ N0 b H0 rho tys D h H) (hl : ∀ z ∈ locs, N0 ≤ z.base) (hL : qLoc N0 b rho ls nL L) : W p l e R s m args below meth c H locs nc ns Qf (F0 m pc ls (S.map (q_v N0 b rho))) := by
  obtain ⟨hx, hb, hml, hown, hts, hret, hlocks, hnm, htab, hfr, hlo, htr⟩ := id C
  have hS : va_S (fun q => N0 ≤ q) H0 H locs := ⟨by have := hJ.2.1; have := Wd.2.2.2.2.1; omega, fun q h1 h2 => hJ.1 q (Nat.not_le.mp h2), hl⟩
  unfold qo_alen at hr
  simp only [q_nth_eq, q_set_eq, q_has_eq, q_ln_eq, q_len_eq, q_fz_eq, q_svk_eq] at hr
  split at hr
  · next S' =>
    simp only [q_opok, Bool.and_eq_true, decide_eq_true_eq] at ok
    obtain ⟨ox, o1, o2⟩ := ok
    have o1 := Nat.eq_of_beq_eq_true o1
    subst o1; subst o2
    refine va_slen (A := fun q => N0 ≤ q) hx hb Wd.2.2.1 (by rw [Wd.2.2.2.2.1]; exact Wd.2.2.2.1) (Nat.not_le.mpr Wd.2.2.2.1) hS hd ?_
    have e1 : Int32.ofNat Lx = q_i rho (q_sv E 0) := by
      rw [q_sv_ok hE 0, hX.1]; rfl
    rw [e1]
    exact q_next hk hj ox hr hJ hl hL
  · next r S' =>
    split at hr
    · next o ho =>
      split at hr
      · next hc =>
        simp only [Bool.and_eq_true] at hc
        have hc := Nat.blt_eq.mp hc.2
        simp only [q_opok, Bool.and_eq_true, decide_eq_true_eq] at ok
        obtain ⟨ox, o1, o2⟩ := ok
        have o1 := Nat.eq_of_beq_eq_true o1
        subst o1; subst o2
        obtain ⟨t, o⟩ := o
        dsimp only at hc hr
        obtain ⟨ty, hty⟩ : ∃ ty, q_tys[t]? = some ty := ⟨_, List.getElem?_eq_getElem (show t < q_tys.length from hc)⟩
        have hP := hJ.one ho
        rcases o with f | f | f
        · exact va_alen hx hb Wd.1 hP 0 t rfl (q_ty Wd hty) rfl hd (q_next hk hj ox hr hJ hl hL)
        · exact va_alen hx hb Wd.1 hP 0 t rfl (q_ty Wd hty) rfl hd (q_next hk hj ox hr hJ hl hL)
        · exact va_alen hx hb Wd.1 hP 0 t rfl (q_ty Wd hty) rfl hd (q_next hk hj ox hr hJ hl hL)
      · exact absurd hr (hno _ _ _)
    · exact absurd hr (hno _ _ _)
  · exact absurd hr (hno _ _ _)

theorem qs_iald (C : qCtx p l R s m args meth c own nm cc nL ret hh d) (Wd : qWd N0 b H0 tys D Lx xs s) (hE : qEok E rho) (hX : qScr rho Lx xs) (hk : qKok p l e R s m args below meth c N0 b H0 rho tys D nL Rw Qf Rel kk) (hno : ∀ x nc ns, ¬ Rel (.inr (.inr x)) nc ns) (hadd : qAddR R Rel) (hj : q_drop Rw j = (pc, op, a0, b0, c0, ins, len) :: K) (hd : decode cc pc = .ok (ins, len))
    (ok : q_opok P I sw own nm cc nL ret Rw K pc 24 a0 b0 c0 ins len = true) (hr : Rel (qo_iald P E ih kk d Rw hs pc a0 b0 c0 K L S h) nc ns) (hJ : qJ N0 b H0 rho tys D h H) (hl : ∀ z ∈ locs, N0 ≤ z.base) (hL : qLoc N0 b rho ls nL L) : W p l e R s m args below meth c H locs nc ns Qf (F0 m pc ls (S.map (q_v N0 b rho))) := by
  obtain ⟨hx, hb, hml, hown, hts, hret, hlocks, hnm, htab, hfr, hlo, htr⟩ := id C
  have hS : va_S (fun q => N0 ≤ q) H0 H locs := ⟨by have := hJ.2.1; have := Wd.2.2.2.2.1; omega, fun q h1 h2 => hJ.1 q (Nat.not_le.mp h2), hl⟩
  unfold qo_iald at hr
  simp only [q_nth_eq, q_set_eq, q_has_eq, q_ln_eq, q_len_eq, q_fz_eq, q_svk_eq] at hr
  split at hr
  · next x S' =>
    split at hr
    · next q hq =>
      obtain ⟨j0, g1, g2, g3, g4⟩ := q_ix_ok hE x hq
      split at hr
      · next hc =>
        simp only [Bool.and_eq_true] at hc
        obtain ⟨c1, c2, c3⟩ := hc
        have c1 := Nat.eq_of_beq_eq_true c1
        have c2 := Nat.blt_eq.mp c2
        have c3 := Nat.blt_eq.mp c3
        have hLx : j0 < Lx := by
          have h1 := (q_iv_ok hE (0, [(0, 1)])).1
          have h2 : q_ev rho [(0, 1)] = Lx := by
            show rho 0 * 1 + 0 = Lx
            rw [hX.1]; omega
          rw [h2] at h1
          have h3 := hX.2.1
          unfold q_bz at h1
          omega
        simp only [q_opok, Bool.and_eq_true, decide_eq_true_eq] at ok
        obtain ⟨ox, o1, o2⟩ := ok
        have o1 := Nat.eq_of_beq_eq_true o1
        subst o1; subst o2
        rw [List.map_cons, List.map_cons]
        show W p l e R s m args below meth c H locs nc ns Qf (F0 m pc ls (.int (q_i rho x) :: .ref b :: S'.map (q_v N0 b rho)))
        rw [g1]
        refine va_sld (A := fun q => N0 ≤ q) hx hb Wd.2.2.1 (by rw [Wd.2.2.2.2.1]; exact Wd.2.2.2.1) (Nat.not_le.mpr Wd.2.2.2.1) hS (q_inN hLx g4) hd ?_
        have e1 : xs (nI j0).toNatClampNeg = q_i rho (q_sv E (q.1 + 1)) := by
          rw [nI_clamp g4, q_sv_ok hE (q.1 + 1), ← hX.2.2.1 j0 (by omega)]
          congr 2; omega
        rw [e1]
        exact q_next hk hj ox hr hJ hl hL
      · exact absurd hr (hno _ _ _)
    · exact absurd hr (hno _ _ _)
  · next x r S' =>
    split at hr
    · next v0 ho =>
      split at hr
      · next q hq =>
        obtain ⟨j0, g1, g2, g3, g4⟩ := q_ix_ok hE x hq
        split at hr
        · next v hv =>
          have hv := q_rd_ok (fun z => q_ieq_eq z) hv g2 g3
          simp only [q_opok, Bool.and_eq_true, decide_eq_true_eq] at ok
          obtain ⟨ox, o1, o2⟩ := ok
          have o1 := Nat.eq_of_beq_eq_true o1
          subst o1; subst o2
          show W p l e R s m args below meth c H locs nc ns Qf (F0 m pc ls (.int (q_i rho x) :: .ref (N0 + r) :: S'.map (q_v N0 b rho)))
          rw [g1]
          refine va_iald hx hb Wd.1 (hJ.one ho) 0 0 rfl (q_ty Wd (t := 0) rfl) (q_inN (List.getElem?_eq_some_iff.mp hv).1 g4) hd ?_
          rw [nI_clamp g4, q_getD_some hv]
          exact q_next hk hj ox hr hJ hl hL
        · exact absurd hr (q_ask_no hno)
        · exact absurd hr (hno _ _ _)
      · exact absurd hr (hno _ _ _)
    · exact absurd hr (hno _ _ _)
  · exact absurd hr (hno _ _ _)

theorem qs_aald (C : qCtx p l R s m args meth c own nm cc nL ret hh d) (Wd : qWd N0 b H0 tys D Lx xs s) (hE : qEok E rho) (hX : qScr rho Lx xs) (hk : qKok p l e R s m args below meth c N0 b H0 rho tys D nL Rw Qf Rel kk) (hno : ∀ x nc ns, ¬ Rel (.inr (.inr x)) nc ns) (hadd : qAddR R Rel) (hj : q_drop Rw j = (pc, op, a0, b0, c0, ins, len) :: K) (hd : decode cc pc = .ok (ins, len))
    (ok : q_opok P I sw own nm cc nL ret Rw K pc 28 a0 b0 c0 ins len = true) (hr : Rel (qo_aald P E ih kk d Rw hs pc a0 b0 c0 K L S h) nc ns) (hJ : qJ N0 b H0 rho tys D h H) (hl : ∀ z ∈ locs, N0 ≤ z.base) (hL : qLoc N0 b rho ls nL L) : W p l e R s m args below meth c H locs nc ns Qf (F0 m pc ls (S.map (q_v N0 b rho))) := by
  obtain ⟨hx, hb, hml, hown, hts, hret, hlocks, hnm, htab, hfr, hlo, htr⟩ := id C
  unfold qo_aald at hr
  simp only [q_nth_eq, q_set_eq, q_has_eq, q_ln_eq, q_len_eq, q_fz_eq, q_svk_eq] at hr
  split at hr
  · next x r S' =>
    split at hr
    · next t l0 ho =>
      split at hr
      · next q hq =>
        obtain ⟨j0, g1, g2, g3, g4⟩ := q_ix_ok hE x hq
        split at hr
        · next hc =>
          simp only [Bool.and_eq_true] at hc
          obtain ⟨C, hC⟩ := q_tys_obj (Nat.blt_eq.mp hc.1) (Nat.blt_eq.mp hc.2)
          split at hr
          · next v hv =>
            have hv := q_rd_ok (fun z => q_oeq_iff.mp z) hv g2 g3
            simp only [q_opok, Bool.and_eq_true, decide_eq_true_eq] at ok
            obtain ⟨ox, o1, o2⟩ := ok
            have o1 := Nat.eq_of_beq_eq_true o1
            subst o1; subst o2
            show W p l e R s m args below meth c H locs nc ns Qf (F0 m pc ls (.int (q_i rho x) :: .ref (N0 + r) :: S'.map (q_v N0 b rho)))
            rw [g1]
            refine va_aldq hx hb Wd.1 (hJ.one ho) 0 t rfl (q_ty Wd hC) (q_inN (List.getElem?_eq_some_iff.mp hv).1 g4) hd ?_
            rw [nI_clamp g4, q_getD_some hv]
            exact q_next hk hj ox hr hJ hl hL
          · exact absurd hr (q_ask_no hno)
          · exact absurd hr (hno _ _ _)
        · exact absurd hr (hno _ _ _)
      · exact absurd hr (hno _ _ _)
    · exact absurd hr (hno _ _ _)
  · exact absurd hr (hno _ _ _)

theorem qs_lald (C : qCtx p l R s m args meth c own nm cc nL ret hh d) (Wd : qWd N0 b H0 tys D Lx xs s) (hE : qEok E rho) (hX : qScr rho Lx xs) (hk : qKok p l e R s m args below meth c N0 b H0 rho tys D nL Rw Qf Rel kk) (hno : ∀ x nc ns, ¬ Rel (.inr (.inr x)) nc ns) (hadd : qAddR R Rel) (hj : q_drop Rw j = (pc, op, a0, b0, c0, ins, len) :: K) (hd : decode cc pc = .ok (ins, len))
    (ok : q_opok P I sw own nm cc nL ret Rw K pc 26 a0 b0 c0 ins len = true) (hr : Rel (qo_lald P E ih kk d Rw hs pc a0 b0 c0 K L S h) nc ns) (hJ : qJ N0 b H0 rho tys D h H) (hl : ∀ z ∈ locs, N0 ≤ z.base) (hL : qLoc N0 b rho ls nL L) : W p l e R s m args below meth c H locs nc ns Qf (F0 m pc ls (S.map (q_v N0 b rho))) := by
  obtain ⟨hx, hb, hml, hown, hts, hret, hlocks, hnm, htab, hfr, hlo, htr⟩ := id C
  unfold qo_lald at hr
  simp only [q_nth_eq, q_set_eq, q_has_eq, q_ln_eq, q_len_eq, q_fz_eq, q_svk_eq] at hr
  split at hr
  · next x r S' =>
    split at hr
    · next l0 ho =>
      split at hr
      · next q hq =>
        obtain ⟨j0, g1, g2, g3, g4⟩ := q_ix_ok hE x hq
        split at hr
        · next hc =>
          have hc := Nat.eq_of_beq_eq_true hc
          split at hr
          · next v hv =>
            have hj0 : j0 = q.1 := by omega
            subst hj0
            simp only [q_opok, Bool.and_eq_true, decide_eq_true_eq] at ok
            obtain ⟨ox, o1, o2⟩ := ok
            have o1 := Nat.eq_of_beq_eq_true o1
            subst o1; subst o2
            show W p l e R s m args below meth c H locs nc ns Qf (F0 m pc ls (.int (q_i rho x) :: .ref (N0 + r) :: S'.map (q_v N0 b rho)))
            rw [g1]
            refine va_lald hx hb Wd.1 (hJ.one ho) 0 1 rfl (q_ty Wd (t := 1) rfl) (q_inN (List.getElem?_eq_some_iff.mp hv).1 g4) hd ?_
            rw [nI_clamp g4, q_getD_some hv]
            exact q_next hk hj ox hr hJ hl hL
          · exact absurd hr (hno _ _ _)
        · exact absurd hr (hno _ _ _)
      · exact absurd hr (hno _ _ _)
    · exact absurd hr (hno _ _ _)
  · exact absurd hr (hno _ _ _)

theorem qs_iast (C : qCtx p l R s m args meth c own nm cc nL ret hh d) (Wd : qWd N0 b H0 tys D Lx xs s) (hE : qEok E rho) (hX : qScr rho Lx xs) (hk : qKok p l e R s m args below meth c N0 b H0 rho tys D nL Rw Qf Rel kk) (hno : ∀ x nc ns, ¬ Rel (.inr (.inr x)) nc ns) (hadd : qAddR R Rel) (hj : q_drop Rw j = (pc, op, a0, b0, c0, ins, len) :: K) (hd : decode cc pc = .ok (ins, len))
    (ok : q_opok P I sw own nm cc nL ret Rw K pc 25 a0 b0 c0 ins len = true) (hr : Rel (qo_iast P E ih kk d Rw hs pc a0 b0 c0 K L S h) nc ns) (hJ : qJ N0 b H0 rho tys D h H) (hl : ∀ z ∈ locs, N0 ≤ z.base) (hL : qLoc N0 b rho ls nL L) : W p l e R s m args below meth c H locs nc ns Qf (F0 m pc ls (S.map (q_v N0 b rho))) := by
  obtain ⟨hx, hb, hml, hown, hts, hret, hlocks, hnm, htab, hfr, hlo, htr⟩ := id C
  unfold qo_iast at hr
  simp only [q_nth_eq, q_set_eq, q_has_eq, q_ln_eq, q_len_eq, q_fz_eq, q_svk_eq] at hr
  split at hr
  · next v x r S' =>
    split at hr
    · next l0 ho =>
      split at hr
      · next q hq =>
        obtain ⟨j0, g1, g2, g3, g4⟩ := q_ix_ok hE x hq
        split at hr
        · next hc =>
          have hc := Nat.eq_of_beq_eq_true hc
          split at hr
          · next hlen =>
            have hlen := Nat.blt_eq.mp hlen
            have hj0 : j0 = q.1 := by omega
            subst hj0
            simp only [q_opok, Bool.and_eq_true, decide_eq_true_eq] at ok
            obtain ⟨ox, o1, o2⟩ := ok
            have o1 := Nat.eq_of_beq_eq_true o1
            subst o1; subst o2
            show W p l e R s m args below meth c H locs nc ns Qf (F0 m pc ls (.int (q_i rho v) :: .int (q_i rho x) :: .ref (N0 + r) :: S'.map (q_v N0 b rho)))
            rw [g1]
            have hcell := hJ.2.2.2 r _ ho
            have hty := q_ty Wd (t := 0) rfl
            refine W.iast hx hb hcell ((Wd.1.2 0 _ hty).1 l0.length (fun j => .int (q_i rho (l0.getD j (0, []))))) (fun q => by cases q) (by show ¬ (_ ∨ (arrV _ _ _).slots.size ≤ _); rw [arrV_size]; exact q_inN hlen g4) rfl rfl hd fun H1 e1 z oq => ?_
            refine q_next hk hj ox hr (hJ.set ho z oq ?_) (q_bases hl rfl) hL
            rw [nI_clamp g4] at e1
            refine Eq.trans e1 (congrArg some ?_)
            show (vp_cell _ _).setSlot _ _ = vp_cell _ _
            rw [vp_cell_i, vp_cell_i, arrV_store, List.length_set]
            congr 1
            funext j1
            rw [q_getD_set hlen]
            by_cases hq : j1 = q.1
            · subst hq; simp [updV]
            · simp [updV, hq]
          · exact absurd hr (hno _ _ _)
        · exact absurd hr (q_ask_no hno)
      · exact absurd hr (hno _ _ _)
    · exact absurd hr (hno _ _ _)
  · exact absurd hr (hno _ _ _)

theorem qs_last (C : qCtx p l R s m args meth c own nm cc nL ret hh d) (Wd : qWd N0 b H0 tys D Lx xs s) (hE : qEok E rho) (hX : qScr rho Lx xs) (hk : qKok p l e R s m args below meth c N0 b H0 rho tys D nL Rw Qf Rel kk) (hno : ∀ x nc ns, ¬ Rel (.inr (.inr x)) nc ns) (hadd : qAddR R Rel) (hj : q_drop Rw j = (pc, op, a0, b0, c0, ins, len) :: K) (hd : decode cc pc = .ok (ins, len))
    (ok : q_opok P I sw own nm cc nL ret Rw K pc 27 a0 b0 c0 ins len = true) (hr : Rel (qo_last P E ih kk d Rw hs pc a0 b0 c0 K L S h) nc ns) (hJ : qJ N0 b H0 rho tys D h H) (hl : ∀ z ∈ locs, N0 ≤ z.base) (hL : qLoc N0 b rho ls nL L) : W p l e R s m args below meth c H locs nc ns Qf (F0 m pc ls (S.map (q_v N0 b rho))) := by
  obtain ⟨hx, hb, hml, hown, hts, hret, hlocks, hnm, htab, hfr, hlo, htr⟩ := id C
  unfold qo_last at hr
  simp only [q_nth_eq, q_set_eq, q_has_eq, q_ln_eq, q_len_eq, q_fz_eq, q_svk_eq] at hr
  split at hr
  · next v x r S' =>
    split at hr
    · next l0 ho =>
      split at hr
      · next q hq =>
        obtain ⟨j0, g1, g2, g3, g4⟩ := q_ix_ok hE x hq
        split at hr
        · next hc =>
          simp only [Bool.and_eq_true] at hc
          have hlen := Nat.blt_eq.mp hc.2
          have hc := Nat.eq_of_beq_eq_true hc.1
          have hj0 : j0 = q.1 := by omega
          subst hj0
          simp only [q_opok, Bool.and_eq_true, decide_eq_true_eq] at ok
          obtain ⟨ox, o1, o2⟩ := ok
          have o1 := Nat.eq_of_beq_eq_true o1
          subst o1; subst o2
          show W p l e R s m args below meth c H locs nc ns Qf (F0 m pc ls (.long (q_l v) :: .int (q_i rho x) :: .ref (N0 + r) :: S'.map (q_v N0 b rho)))
          rw [g1]
          have hcell := hJ.2.2.2 r _ ho
          have hty := q_ty Wd (t := 1) rfl
          refine W.last hx hb hcell ((Wd.1.2 1 _ hty).1 l0.length (fun j => .long (q_l (l0.getD j 0)))) (fun q => by cases q) (by show ¬ (_ ∨ (arrV _ _ _).slots.size ≤ _); rw [arrV_size]; exact q_inN hlen g4) rfl rfl hd fun H1 e1 z oq => ?_
          refine q_next hk hj ox hr (hJ.set ho z oq ?_) (q_bases hl rfl) hL
          rw [nI_clamp g4] at e1
          refine Eq.trans e1 (congrArg some ?_)
          show (vp_cell _ _).setSlot _ _ = vp_cell _ _
          rw [vp_cell_l, vp_cell_l, arrV_store, List.length_set]
          congr 1
          funext j1
          rw [q_getD_set hlen]
          by_cases hq : j1 = q.1
          · subst hq; simp [updV]
          · simp [updV, hq]
        · exact absurd hr (hno _ _ _)
      · exact absurd hr (hno _ _ _)
    · exact absurd hr (hno _ _ _)
  · exact absurd hr (hno _ _ _)

theorem qs_aast (C : qCtx p l R s m args meth c own nm cc nL ret hh d) (Wd : qWd N0 b H0 tys D Lx xs s) (hE : qEok E rho) (hX : qScr rho Lx xs) (hk : qKok p l e R s m args below meth c N0 b H0 rho tys D nL Rw Qf Rel kk) (hno : ∀ x nc ns, ¬ Rel (.inr (.inr x)) nc ns) (hadd : qAddR R Rel) (hj : q_drop Rw j = (pc, op, a0, b0, c0, ins, len) :: K) (hd : decode cc pc = .ok (ins, len))
    (ok : q_opok P I sw own nm cc nL ret Rw K pc 29 a0 b0 c0 ins len = true) (hr : Rel (qo_aast P E ih kk d Rw hs pc a0 b0 c0 K L S h) nc ns) (hJ : qJ N0 b H0 rho tys D h H) (hl : ∀ z ∈ locs, N0 ≤ z.base) (hL : qLoc N0 b rho ls nL L) : W p l e R s m args below meth c H locs nc ns Qf (F0 m pc ls (S.map (q_v N0 b rho))) := by
  obtain ⟨hx, hb, hml, hown, hts, hret, hlocks, hnm, htab, hfr, hlo, htr⟩ := id C
  unfold qo_aast at hr
  simp only [q_nth_eq, q_set_eq, q_has_eq, q_ln_eq, q_len_eq, q_fz_eq, q_svk_eq] at hr
  split at hr
  · next v x r S' =>
    split at hr
    · next t l0 ho =>
      split at hr
      · next q hq =>
        obtain ⟨j0, g1, g2, g3, g4⟩ := q_ix_ok hE x hq
        split at hr
        · next hc =>
          simp only [Bool.and_eq_true] at hc
          have hlen := Nat.blt_eq.mp hc.2
          have hE9 := q_isE_ok hc.1
          split at hr
          · next hc =>
            have hc := Nat.eq_of_beq_eq_true hc
            have hj0 : j0 = q.1 := by omega
            subst hj0
            simp only [q_opok, Bool.and_eq_true, decide_eq_true_eq] at ok
            obtain ⟨ox, o1, o2⟩ := ok
            have o1 := Nat.eq_of_beq_eq_true o1
            subst o1; subst o2
            rcases hE9 with ⟨hvn, ht1, ht2⟩ | ⟨rv, ci, vs, hv1, hv2, hv3⟩
            · subst hvn
              show W p l e R s m args below meth c H locs nc ns Qf (F0 m pc ls (.null :: .int (q_i rho x) :: .ref (N0 + r) :: S'.map (q_v N0 b rho)))
              rw [g1]
              have hcell := hJ.2.2.2 r _ ho
              obtain ⟨C9, hC9⟩ := q_tyO ht1 ht2
              have hty := q_ty Wd hC9
              refine va_WaastN hx hb hcell ((Wd.1.2 t _ hty).1 l0.length (fun j => va_rf (q_r N0 b (l0.getD j none)))) (fun q => by cases q) (by show ¬ (_ ∨ (arrV _ _ _).slots.size ≤ _); rw [arrV_size]; exact q_inN hlen g4) rfl rfl hd fun H1 e1 z oq => ?_
              refine q_next hk hj ox hr (hJ.set ho z oq ?_) (q_bases hl rfl) hL
              rw [nI_clamp g4] at e1
              refine Eq.trans e1 (congrArg some ?_)
              show (vp_cell _ _).setSlot _ _ = vp_cell _ _
              rw [vp_cell_q, vp_cell_q, arrV_store, List.length_set]
              congr 1
              funext j1
              rw [q_getD_set hlen]
              by_cases hq : j1 = q.1
              · subst hq; simp [updV, q_r, q_ad, va_rf]
              · simp [updV, hq]
            · subst hv1
              show W p l e R s m args below meth c H locs nc ns Qf (F0 m pc ls (.ref (N0 + rv) :: .int (q_i rho x) :: .ref (N0 + r) :: S'.map (q_v N0 b rho)))
              rw [g1]
              have hcell := hJ.2.2.2 r _ ho
              obtain ⟨r', hr', cellV, k1, k2, k3, -⟩ := hJ.2.2.2 rv _ hv2
              obtain ⟨rc, hrc, hty0⟩ := q_elem_ok hv3 ⟨r', hr'⟩
              have hty := q_ty Wd hty0
              have hcls := (Wd.1.1 ci rc hrc).2
              obtain ⟨kA, comp, m1, m2, m3, -⟩ := (Wd.1.2 t _ hty).2
              have hcomp : comp = D.1 ci := Option.some.inj (m3.symm.trans hcls.1)
              subst hcomp
              obtain ⟨kC, hkC, -⟩ := hcls.2
              refine W.aast hx hb hcell (fun q h => by cases h) (fun h => by cases h) m1 m2 rfl hkC ⟨nI_pos g4, by show _ < (arrV _ _ _).slots.size; rw [arrV_size, nI_clamp g4]; exact hlen⟩ k1 (fun q h => by rw [k3] at h; cases h) (by rw [k2]; exact hkC) (by rw [k2]; exact va_assign hcls) rfl rfl hd fun H1 e1 z oq => ?_
              refine q_next hk hj ox hr (hJ.set ho z oq ?_) (q_bases hl rfl) hL
              rw [nI_clamp g4] at e1
              refine Eq.trans e1 (congrArg some ?_)
              show (vp_cell _ _).setSlot _ _ = vp_cell _ _
              rw [vp_cell_q, vp_cell_q, arrV_store, List.length_set]
              congr 1
              funext j1
              rw [q_getD_set hlen]
              by_cases hq : j1 = q.1
              · subst hq; simp [updV, q_r, q_ad, va_rf]
              · simp [updV, hq]
          · exact absurd hr (q_ask_no hno)
        · exact absurd hr (hno _ _ _)
      · exact absurd hr (hno _ _ _)
    · exact absurd hr (hno _ _ _)
  · exact absurd hr (hno _ _ _)

theorem qs_newa (C : qCtx p l R s m args meth c own nm cc nL ret hh d) (Wd : qWd N0 b H0 tys D Lx xs s) (hE : qEok E rho) (hX : qScr rho Lx xs) (hk : qKok p l e R s m args below meth c N0 b H0 rho tys D nL Rw Qf Rel kk) (hno : ∀ x nc ns, ¬ Rel (.inr (.inr x)) nc ns) (hadd : qAddR R Rel) (hj : q_drop Rw j = (pc, op, a0, b0, c0, ins, len) :: K) (hd : decode cc pc = .ok (ins, len))
    (ok : q_opok P I sw own nm cc nL ret Rw K pc 30 a0 b0 c0 ins len = true) (hr : Rel (qo_newa P E ih kk d Rw hs pc a0 b0 c0 K L S h) nc ns) (hJ : qJ N0 b H0 rho tys D h H) (hl : ∀ z ∈ locs, N0 ≤ z.base) (hL : qLoc N0 b rho ls nL L) : W p l e R s m args below meth c H locs nc ns Qf (F0 m pc ls (S.map (q_v N0 b rho))) := by
  obtain ⟨hx, hb, hml, hown, hts, hret, hlocks, hnm, htab, hfr, hlo, htr⟩ := id C
  simp only [q_opok, Bool.and_eq_true] at ok
  obtain ⟨ox, o1, ok⟩ := ok
  have o1 := Nat.eq_of_beq_eq_true o1
  subst o1
  unfold qo_newa at hr
  split at hr
  · next n S' =>
    split at hr
    · next hc =>
      simp only [Bool.and_eq_true] at hc
      obtain ⟨hc0, hc1, hc2⟩ := hc
      have hc0 := q_isc_eq hc0
      have hc2 := Nat.blt_eq.mp hc2
      show W p l e R s m args below meth c H locs nc ns Qf (F0 m pc ls (.int (q_i rho n) :: S'.map (q_v N0 b rho)))
      have hni : q_i rho n = nI n.1 := by unfold q_i; rw [hc0]; rfl
      rw [hni]
      split at hr
      · rw [q_add_eq] at hr
        obtain ⟨hr, h1, h2⟩ := hadd _ _ _ _ _ hr
        simp only [Bool.and_eq_true, decide_eq_true_eq] at ok
        obtain ⟨ok1, ok2⟩ := ok
        subst ok1
        have hcb : componentBytes (newarray.typeOf .int) ≤ 8 := by decide
        refine va_newaK (atype := .int) (N := n.1) hx hb (hts _ (q_w_in ok2).1) rfl hd rfl (nI_pos (by omega)) (nI_clamp (by omega)) (Nat.le_trans (Nat.mul_le_mul_left _ hcb) (by omega)) h1 h2 rfl fun H1 cA e1 z o _ hfc => ?_
        have hcA : cA = q_cA tys 0 := by
          have h3 := (Wd.1.2 0 _ (q_ty Wd (t := 0) rfl)).2
          exact Option.some.inj (hfc.symm.trans h3)
        have hn := q_next (locs := locs) (ls := ls) hk hj ox hr (hJ.push (x := .inl (0, .inl (List.replicate n.1 (0, [])))) hc1 z o ?_) hl hL
        · have hsz := hJ.2.2.1 hc1
          rw [hsz]
          exact hn
        · rw [hcA] at e1
          refine e1.trans (congrArg some ?_)
          show _ = vp_cell _ _
          rw [vp_cell_i, List.length_replicate]
          congr 1
          funext j1
          rw [q_getD_rep]
          rfl
      · rw [q_add_eq] at hr
        obtain ⟨hr, h1, h2⟩ := hadd _ _ _ _ _ hr
        simp only [Bool.and_eq_true, decide_eq_true_eq] at ok
        obtain ⟨ok1, ok2⟩ := ok
        subst ok1
        have hcb : componentBytes (newarray.typeOf .long) ≤ 8 := by decide
        refine va_newaK (atype := .long) (N := n.1) hx hb (hts _ (q_w_in ok2).1) rfl hd rfl (nI_pos (by omega)) (nI_clamp (by omega)) (Nat.le_trans (Nat.mul_le_mul_left _ hcb) (by omega)) h1 h2 rfl fun H1 cA e1 z o _ hfc => ?_
        have hcA : cA = q_cA tys 1 := by
          have h3 := (Wd.1.2 1 _ (q_ty Wd (t := 1) rfl)).2
          exact Option.some.inj (hfc.symm.trans h3)
        have hn := q_next (locs := locs) (ls := ls) hk hj ox hr (hJ.push (x := .inl (1, .inr (.inl (List.replicate n.1 0)))) hc1 z o ?_) hl hL
        · have hsz := hJ.2.2.1 hc1
          rw [hsz]
          exact hn
        · rw [hcA] at e1
          refine e1.trans (congrArg some ?_)
          show _ = vp_cell _ _
          rw [vp_cell_l, List.length_replicate]
          congr 1
          funext j1
          rw [q_getD_rep]
          rfl
      · exact absurd hr (hno _ _ _)
    · exact absurd hr (hno _ _ _)
  · exact absurd hr (hno _ _ _)

theorem qs_anew (C : qCtx p l R s m args meth c own nm cc nL ret hh d) (Wd : qWd N0 b H0 tys D Lx xs s) (hE : qEok E rho) (hX : qScr rho Lx xs) (hk : qKok p l e R s m args below meth c N0 b H0 rho tys D nL Rw Qf Rel kk) (hno : ∀ x nc ns, ¬ Rel (.inr (.inr x)) nc ns) (hadd : qAddR R Rel) (hj : q_drop Rw j = (pc, op, a0, b0, c0, ins, len) :: K) (hd : decode cc pc = .ok (ins, len))
    (ok : q_opok P I sw own nm cc nL ret Rw K pc 31 a0 b0 c0 ins len = true) (hr : Rel (qo_anew P E ih kk d Rw hs pc a0 b0 c0 K L S h) nc ns) (hJ : qJ N0 b H0 rho tys D h H) (hl : ∀ z ∈ locs, N0 ≤ z.base) (hL : qLoc N0 b rho ls nL L) : W p l e R s m args below meth c H locs nc ns Qf (F0 m pc ls (S.map (q_v N0 b rho))) := by
  obtain ⟨hx, hb, hml, hown, hts, hret, hlocks, hnm, htab, hfr, hlo, htr⟩ := id C
  simp only [q_opok, Bool.and_eq_true] at ok
  obtain ⟨ox, ok⟩ := ok
  split at ok
  all_goals first | (cases ok; done) | skip
  next idx =>
  simp only [Bool.and_eq_true] at ok
  obtain ⟨o1, oa, oa2, ok⟩ := ok
  have o1 := Nat.eq_of_beq_eq_true o1
  subst o1
  have oa := Nat.blt_eq.mp oa
  split at ok
  all_goals first | (cases ok; done) | skip
  next C hC =>
  rw [q_nth_eq] at hC
  unfold qo_anew at hr
  split at hr
  · next n S' =>
    split at hr
    · next hc =>
      simp only [Bool.and_eq_true] at hc
      obtain ⟨hc0, hc1, hc2⟩ := hc
      have hc0 := q_isc_eq hc0
      have hc2 := Nat.blt_eq.mp hc2
      show W p l e R s m args below meth c H locs nc ns Qf (F0 m pc ls (.int (q_i rho n) :: S'.map (q_v N0 b rho)))
      have hni : q_i rho n = nI n.1 := by unfold q_i; rw [hc0]; rfl
      rw [hni]
      rw [q_add_eq] at hr
      obtain ⟨hr, h1, h2⟩ := hadd _ _ _ _ _ hr
      have hcl : (nI n.1).toNatClampNeg = n.1 := nI_clamp (by omega)
      refine W.anew (n := nI n.1) hx hb hown (hts _ (q_w_in ok).1) ((Wd.2.2.2.2.2.2.2.2.2.2.1 a0 C oa hC).use) rfl hd rfl (nI_pos (by omega)) (by rw [hcl]; omega) h1 (by rw [hcl]; exact h2) fun cA kA comp f1 f2 f3 f4 => ?_
      rw [hcl]
      have hcA : cA = q_cA tys a0 := by
        obtain ⟨kA', comp', _, _, _, h3⟩ := (Wd.1.2 a0 _ (q_ty Wd hC)).2
        exact Option.some.inj (f1.symm.trans h3)
      have hn := q_next (locs := locs) (ls := ls) hk hj ox hr (hJ.push (H1 := H.push { cls := cA, slots := Array.replicate n.1 .null, vm := .none }) (x := .inl (a0, .inr (.inr (List.replicate n.1 none)))) hc1 (Array.size_push ..) (fun q hq => by rw [Array.getElem?_push, if_neg (Nat.ne_of_lt hq)]) ?_) hl hL
      · have hsz := hJ.2.2.1 hc1
        rw [hsz]
        exact hn
      · show (H.push _)[H.size]? = _
        rw [Array.getElem?_push_size, hcA]
        refine congrArg some ?_
        show _ = vp_cell _ _
        rw [vp_cell_q, List.length_replicate, arrV_new]
        congr 1
        funext j1
        rw [q_getD_rep]
        rfl
    · exact absurd hr (hno _ _ _)
  · exact absurd hr (hno _ _ _)

theorem qs_new (C : qCtx p l R s m args meth c own nm cc nL ret hh d) (Wd : qWd N0 b H0 tys D Lx xs s) (hE : qEok E rho) (hX : qScr rho Lx xs) (hk : qKok p l e R s m args below meth c N0 b H0 rho tys D nL Rw Qf Rel kk) (hno : ∀ x nc ns, ¬ Rel (.inr (.inr x)) nc ns) (hadd : qAddR R Rel) (hj : q_drop Rw j = (pc, op, a0, b0, c0, ins, len) :: K) (hd : decode cc pc = .ok (ins, len))
    (ok : q_opok P I sw own nm cc nL ret Rw K pc 33 a0 b0 c0 ins len = true) (hr : Rel (qo_new P E ih kk d Rw hs pc a0 b0 c0 K L S h) nc ns) (hJ : qJ N0 b H0 rho tys D h H) (hl : ∀ z ∈ locs, N0 ≤ z.base) (hL : qLoc N0 b rho ls nL L) : W p l e R s m args below meth c H locs nc ns Qf (F0 m pc ls (S.map (q_v N0 b rho))) := by
  obtain ⟨hx, hb, hml, hown, hts, hret, hlocks, hnm, htab, hfr, hlo, htr⟩ := id C
  simp only [q_opok, Bool.and_eq_true] at ok
  obtain ⟨ox, ok⟩ := ok
  split at ok
  all_goals first | (cases ok; done) | skip
  next idx =>
  simp only [Bool.and_eq_true] at ok
  obtain ⟨o1, ok⟩ := ok
  have o1 := Nat.eq_of_beq_eq_true o1
  subst o1
  split at ok
  all_goals first | (cases ok; done) | skip
  next C T N hcl =>
  split at ok
  all_goals first | (cases ok; done) | skip
  next fl hfl =>
  split at ok
  all_goals first | (cases ok; done) | skip
  next ji hji =>
  simp only [Bool.and_eq_true, decide_eq_true_eq] at ok
  obtain ⟨oty, ow1, ow2, ow3⟩ := ok
  rw [q_nth_eq] at hcl
  obtain ⟨g1, g2, ty0, g3⟩ := q_cl a0 _ hcl
  have hlen : fl.length = N := by
    have := congrArg List.length oty
    simpa using this.symm
  unfold qo_new at hr
  rw [hfl] at hr
  split at hr
  · next hc1 =>
    dsimp only at hr
    rw [q_add_eq] at hr
    obtain ⟨hr, h1, h2⟩ := hadd _ _ _ _ _ hr
    have hKn := Wd.1.1 a0 _ hcl
    rw [hlen] at hr h2
    refine W.newcK hx hb hown (hts _ (q_w_in ow1).1) (hts _ (q_w_in ow2).1) (hts _ (q_w_in ow3).1) rfl hd h1 h2 hKn.2.1 rfl fun H1 kC hkC e1 z o => ?_
    have hn := q_next (locs := locs) (ls := ls) hk hj ox hr (hJ.push (x := .inr (a0, fl.map q_dv)) hc1 z o ?_) hl hL
    · have hsz := hJ.2.2.1 hc1
      rw [hsz]
      exact hn
    · refine ⟨_, hcl, (u_born ty0 hts (q_TBLin (own := own) g1) hKn hkC e1 g3).to (fun k hk => ?_)⟩
      have h5 := congrArg (fun z : List (Option Nat) => z[k]?) oty
      simp only [List.getElem?_map, List.getElem?_range hk, Option.map_some] at h5
      have h6 : k < fl.length := by rw [hlen]; exact hk
      rw [List.getElem?_eq_getElem h6, Option.map_some, g3 k hk, Option.map_some] at h5
      have h7 : q_tc (ty0 k) = fl[k] := Option.some.inj (Option.some.inj h5)
      have h8 : vp_V ((fl.map q_dv).map (q_v N0 b rho)) k = q_v N0 b rho (q_dv fl[k]) := by
        unfold vp_V
        rw [List.getD_eq_getElem?_getD, List.getElem?_map, List.getElem?_map, List.getElem?_eq_getElem h6]
        rfl
      show defaultValue (ty0 k) = _
      rw [h8, ← h7]
      exact q_dv_ok _ (by rw [h7]; exact q_fty_ok hfl h6)
  · exact absurd hr (hno _ _ _)

theorem qs_objinit (C : qCtx p l R s m args meth c own nm cc nL ret hh d) (Wd : qWd N0 b H0 tys D Lx xs s) (hE : qEok E rho) (hX : qScr rho Lx xs) (hk : qKok p l e R s m args below meth c N0 b H0 rho tys D nL Rw Qf Rel kk) (hno : ∀ x nc ns, ¬ Rel (.inr (.inr x)) nc ns) (hadd : qAddR R Rel) (hj : q_drop Rw j = (pc, op, a0, b0, c0, ins, len) :: K) (hd : decode cc pc = .ok (ins, len))
    (ok : q_opok P I sw own nm cc nL ret Rw K pc 34 a0 b0 c0 ins len = true) (hr : Rel (qo_objinit P E ih kk d Rw hs pc a0 b0 c0 K L S h) nc ns) (hJ : qJ N0 b H0 rho tys D h H) (hl : ∀ z ∈ locs, N0 ≤ z.base) (hL : qLoc N0 b rho ls nL L) : W p l e R s m args below meth c H locs nc ns Qf (F0 m pc ls (S.map (q_v N0 b rho))) := by
  obtain ⟨hx, hb, hml, hown, hts, hret, hlocks, hnm, htab, hfr, hlo, htr⟩ := id C
  simp only [q_opok, Bool.and_eq_true] at ok
  obtain ⟨ox, ok⟩ := ok
  split at ok
  all_goals first | (cases ok; done) | skip
  next idx =>
  simp only [Bool.and_eq_true] at ok
  obtain ⟨o1, ow1, ow2, ow3⟩ := ok
  have o1 := Nat.eq_of_beq_eq_true o1
  subst o1
  unfold qo_objinit at hr
  split at hr
  · next r S' =>
    split at hr
    · next hc =>
      simp only [Bool.and_eq_true] at hc
      have h1 := Nat.le_of_ble_eq_true hc.1
      have h2 := Nat.blt_eq.mp hc.2
      refine W.objInit hx hb hown (hts _ (q_w_in ow1).1) (hts _ (q_w_in ow2).1) (hts _ (q_w_in ow3).1) rfl (by rw [hml]; exact hL.1) rfl hd (by omega) ?_ ?_
      · show 0 + ((S'.map (q_v N0 b rho)).map fun v => v.category).sum + 12 ≤ R.locals
        rw [q_cats]
        omega
      · exact q_next hk hj ox hr hJ hl hL
    · exact absurd hr (hno _ _ _)
  · exact absurd hr (hno _ _ _)
end QH
end
section
/-! ARRAYS OF ARRAYS -/
theorem q_outer (cA N h0 : Nat) : ∀ i, Jvm.Free.Multi.outerC cA N h0 i = arrV cA N (fun j => if j < i then .ref (h0 + 1 + j) else .null)
  | 0 => by
    show ({ cls := cA, slots := Array.replicate N .null, vm := .none } : Cell) = _
    rw [arrV_new]
    rfl
  | i + 1 => by
    show (Jvm.Free.Multi.outerC cA N h0 i).setSlot i (.ref (h0 + 1 + i)) = _
    rw [q_outer cA N h0 i, arrV_store]
    congr 1
    funext j
    unfold updV
    by_cases h1 : j = i
    · subst h1
      rw [if_pos rfl, if_pos (Nat.lt_succ_self j)]
    · rw [if_neg h1]
      dsimp only
      by_cases h2 : j < i
      · rw [if_pos h2, if_pos (Nat.lt_succ_of_lt h2)]
      · rw [if_neg h2, if_neg (by omega)]
section QM
variable {p : Program} {l : Launch} {e : Env} {R : Room} {s : State} {m : MethodId} {args : Array Value} {below : List Frame} {meth : Method} {c : Code}
variable {N0 b : Nat} {H0 : Heap} {rho : Nat → Nat} {tys : List (ClassId × FieldType)} {D : va_G} {Lx : Nat} {xs : Nat → Int32}
variable {own nm : String} {cc : ByteArray} {nL : Nat} {ret : Option FieldType} {hh : List (Nat × Nat × Nat × Nat)} {d : Nat}
variable {Rw : List qRow} {hs : List qHd} {P : List qM} {I : List qInf} {sw : List Nat} {E : qEnv} {ih : qIh} {kk : qKk}
variable {Qf : State → Prop} {Rel : qRes → Nat → Nat → Prop}
variable {j pc op a0 b0 c0 len : Nat} {ins : Instr} {K : List qRow} {L : qL} {S : List qV} {h : qHp} {nc ns : Nat} {H : Heap} {locs : List Loc} {ls : Array Slot}

theorem qs_multi (C : qCtx p l R s m args meth c own nm cc nL ret hh d) (Wd : qWd N0 b H0 tys D Lx xs s) (hE : qEok E rho) (hX : qScr rho Lx xs) (hk : qKok p l e R s m args below meth c N0 b H0 rho tys D nL Rw Qf Rel kk) (hno : ∀ x nc ns, ¬ Rel (.inr (.inr x)) nc ns) (hadd : qAddR R Rel) (hj : q_drop Rw j = (pc, op, a0, b0, c0, ins, len) :: K) (hd : decode cc pc = .ok (ins, len))
    (ok : q_opok P I sw own nm cc nL ret Rw K pc 32 a0 b0 c0 ins len = true) (hr : Rel (qo_multi P E ih kk d Rw hs pc a0 b0 c0 K L S h) nc ns) (hJ : qJ N0 b H0 rho tys D h H) (hl : ∀ z ∈ locs, N0 ≤ z.base) (hL : qLoc N0 b rho ls nL L) : W p l e R s m args below meth c H locs nc ns Qf (F0 m pc ls (S.map (q_v N0 b rho))) := by
  obtain ⟨hx, hb, hml, hown, hts, hret, hlocks, hnm, htab, hfr, hlo, htr⟩ := id C
  simp only [q_opok, Bool.and_eq_true] at ok
  obtain ⟨ox, ok⟩ := ok
  split at ok
  all_goals first | (cases ok; done) | skip
  next idx dim =>
  simp only [Bool.and_eq_true] at ok
  obtain ⟨o1, o2, ow1, ow2⟩ := ok
  have o1 := Nat.eq_of_beq_eq_true o1
  have o2 := Nat.eq_of_beq_eq_true o2
  subst o1; subst o2
  unfold qo_multi at hr
  split at hr
  · next k n S' =>
    split at hr
    · next hc =>
      simp only [Bool.and_eq_true] at hc
      obtain ⟨c1, c2, c3, c4, c5⟩ := hc
      have c1 := q_isc_eq c1
      have c2 := q_isc_eq c2
      have c4 := Nat.blt_eq.mp c4
      have c5 := Nat.blt_eq.mp c5
      obtain ⟨k1, k2⟩ := k
      obtain ⟨n1, n2⟩ := n
      dsimp only at c1 c2 c4 c5 hr
      subst c1; subst c2
      rw [q_add_eq] at hr
      obtain ⟨hr, h1, h2⟩ := hadd _ _ _ _ _ hr
      show W p l e R s m args below meth c H locs nc ns Qf (F0 m pc ls (.int (nI k1) :: .int (nI n1) :: S'.map (q_v N0 b rho)))
      have hcn : (nI n1).toNatClampNeg = n1 := nI_clamp (by omega)
      have hck : (nI k1).toNatClampNeg = k1 := nI_clamp (by omega)
      intro T hT Xs
      obtain ⟨vm₁, cA, comp, -, fA, fC, hO, -, X', step⟩ := Xs.multianewarray2F (ty := .int) hx hown (hts _ (q_w_in ow1).1) (Jvm.Stand.arrayOver_alikeB (Vm.Alike.refl _) Wd.2.2.2.2.2.2.2.2.2.2.2) (hts _ (q_w_in ow2).1) (g := F0 m pc ls (.int (nI k1) :: .int (nI n1) :: S'.map (q_v N0 b rho))) rfl (by rw [hb]; exact hd) rfl (nI_pos (by omega)) (nI_pos (by omega)) (by rw [hcn]; omega) (by rw [hck]; show k1 * 4 ≤ _; omega) (by rw [hck]; omega) rfl rfl (by rw [hcn]; exact h1) (by rw [hcn, hck]; exact h2)
      rw [hcn, hck] at X' step
      generalize hF : Jvm.Free.Multi.fill (T.setVm vm₁) cA comp n1 k1 (defaultValue .int) n1 = F at X' step
      have hTh : (T.setVm vm₁).heap = H := hT
      obtain ⟨f1, f2, -, -⟩ := Jvm.Free.Multi.fill_facts (T.setVm vm₁) cA comp n1 k1 (defaultValue .int) n1
      rw [hF, hTh] at f1 f2
      have hold : ∀ x : Nat, x < H.size → F.heap[x]? = H[x]? := fun x hx => by
        have := Jvm.Free.Multi.fill_old (T.setVm vm₁) cA comp n1 k1 (defaultValue .int) (a := x) (by rw [hTh]; exact hx) n1
        rw [hF, hTh] at this
        exact this
      have hrow : ∀ j : Nat, j < n1 → F.heap[H.size + 1 + j]? = some (Jvm.Free.Multi.innerC comp k1 (defaultValue .int)) := fun j hj => by
        have := Jvm.Free.Multi.fill_inner (T.setVm vm₁) cA comp n1 k1 (defaultValue .int) n1 j hj
        rw [hF, hTh] at this
        exact this
      have hsz := hJ.2.2.1 c3
      have hcA : cA = q_cA tys 6 := Option.some.inj (fA.symm.trans (Wd.1.2 6 _ (q_ty Wd (t := 6) rfl)).2)
      have hcI : comp = q_cA tys 0 := Option.some.inj (fC.symm.trans (Wd.1.2 0 _ (q_ty Wd (t := 0) rfl)).2)
      have hJ2 : qJ N0 b H0 rho tys D (true, (h.2 ++ [.inl (6, .inr (.inr ((List.range n1).map (fun i => some (h.2.length + 2 + i)))))]) ++ List.replicate n1 (.inl (0, .inl (List.replicate k1 (0, []))))) F.heap := by
        refine ⟨fun q hq => by rw [hold q (by omega)]; exact hJ.1 q hq, by simp; omega, fun _ => by simp; omega, fun i x hi => ?_⟩
        dsimp only at hi
        by_cases hl1 : i < h.2.length
        · rw [List.append_assoc, List.getElem?_append_left hl1] at hi
          exact (hJ.2.2.2 i x hi).kept (hold _ (by show N0 + i < H.size; omega))
        · rw [List.append_assoc, List.getElem?_append_right (by omega)] at hi
          by_cases hi0 : i = h.2.length
          · subst hi0
            rw [Nat.sub_self] at hi
            cases hi
            show F.heap[N0 + h.2.length]? = some (vp_cell _ _)
            rw [show N0 + h.2.length = H.size by omega, f2, q_outer, vp_cell_q, hcA]
            refine congrArg some ?_
            rw [List.length_map, List.length_range]
            congr 1
            funext j1
            rw [List.getD_eq_getElem?_getD, List.getElem?_map]
            by_cases hj1 : j1 < n1
            · rw [List.getElem?_range hj1]
              have e9 : q_ad N0 b (h.2.length + 2 + j1) = H.size + 1 + j1 := by
                rw [show h.2.length + 2 + j1 = (h.2.length + 1 + j1) + 1 by omega]
                show N0 + _ = _
                omega
              simp only [hj1, if_true, Option.map_some, Option.getD_some, q_r, va_rf, e9]
            · rw [List.getElem?_eq_none (by simpa using hj1)]
              simp [hj1, q_r, va_rf]
          · obtain ⟨i2, hi2⟩ : ∃ i2, i - h.2.length = i2 + 1 := ⟨i - h.2.length - 1, by omega⟩
            rw [hi2] at hi
            rw [List.singleton_append, List.getElem?_cons_succ, List.getElem?_replicate] at hi
            split at hi
            · next hlt =>
              cases hi
              show F.heap[N0 + i]? = some (vp_cell _ _)
              rw [show N0 + i = H.size + 1 + i2 by omega, hrow i2 hlt, vp_cell_i, hcI]
              refine congrArg some ?_
              show ({ cls := _, slots := Array.replicate k1 _, vm := .none } : Cell) = _
              rw [arrV_new, List.length_replicate]
              congr 1
              funext j1
              rw [q_getD_rep]
              rfl
            · cases hi
      have hn := q_next (locs := locs) (ls := ls) hk hj ox hr hJ2 hl hL
      obtain ⟨t, a1, b1⟩ := hn F rfl (by
        have e1 : nc + 1 + n1 = nc + (1 + n1) := by omega
        have e2 : ns + n1 + n1 * k1 = ns + (n1 + n1 * k1) := by omega
        rw [e1, e2] at X'
        exact X')
      refine ⟨t, step t ?_, b1⟩
      have hT9 : T.heap.size = N0 + h.2.length := by rw [hT]; exact hsz
      rw [hT9]
      exact a1
    · exact absurd hr (hno _ _ _)
  · exact absurd hr (hno _ _ _)
end QM
end
section
/-! CALLS, RETURNS, THROWS -/
def q_core : qRes → Option ((Option qV × qHp) ⊕ (Nat × qHp))
  | .inl (v, h, _, _) => some (.inl (v, h))
  | .inr (.inl (X, h, _, _)) => some (.inr (X, h))
  | .inr (.inr _) => none
def q_mc : qRes → Nat
  | .inl (_, _, a, _) => a
  | .inr (.inl (_, _, a, _)) => a
  | .inr (.inr _) => 0
def q_ms : qRes → Nat
  | .inl (_, _, _, a) => a
  | .inr (.inl (_, _, _, a)) => a
  | .inr (.inr _) => 0
def q_Qc (N0 b : Nat) (H0 : Heap) (rho : Nat → Nat) (tys : List (ClassId × FieldType)) (D : va_G) (r : qRes) : Array Value → State → Outcome → State → Prop := fun _ _ o t =>
  ∃ (v : Option qV) (h : qHp), q_core r = some (.inl (v, h)) ∧ o = .returned (v.map (q_v N0 b rho)) ∧ qJ N0 b H0 rho tys D h t.heap
def q_XC (N0 b : Nat) (H0 : Heap) (rho : Nat → Nat) (tys : List (ClassId × FieldType)) (D : va_G) (r : qRes) : String → State → State → Prop := fun E _ t =>
  ∃ (X : Nat) (h : qHp), q_core r = some (.inr (X, h)) ∧ q_exc[X]? = some E ∧ qJ N0 b H0 rho tys D h t.heap
def q_Pc (N0 b : Nat) (H0 : Heap) (rho : Nat → Nat) (tys : List (ClassId × FieldType)) (D : va_G) (Lx : Nat) (xs : Nat → Int32) (As : List qV) (h : qHp) : Array Value → State → Prop := fun v U =>
  v = (As.map (q_v N0 b rho)).toArray ∧ qWd N0 b H0 tys D Lx xs U ∧ qJ N0 b H0 rho tys D h U.heap
def q_code (y : MethodName) (cy : ByteArray) (nY : Nat) (ry : Option FieldType) (hy : List (Nat × Nat × Nat × Nat)) : Jvm.Cond := match hy with
  | [] => .code y cy nY ry
  | _ :: _ => .codeWith y cy nY ry hy
def q_rm (d : Nat) (r : qRes) : Room := { frames := d, cells := q_mc r, slots := q_ms r, locals := 32 * d }
/-- the contract of a callee, out of a run of the evaluator -/
def qMet (l : Launch) (N0 b : Nat) (H0 : Heap) (rho : Nat → Nat) (tys : List (ClassId × FieldType)) (D : va_G) (Lx : Nat) (xs : Nat → Int32) (d : Nat) (nY : Nat) (i : qInf) (As : List qV) (h : qHp) (r : qRes) : Prop :=
  vx_Met l i.1 (q_code i.1 i.2.1 nY i.2.2.1 i.2.2.2.1 :: q_TBL) (q_rm d r) (q_Pc N0 b H0 rho tys D Lx xs As h) (q_Qc N0 b H0 rho tys D r) (q_XC N0 b H0 rho tys D r) (q_mc r) (q_ms r) (fun q => N0 ≤ q)
/-- what the list of methods says of one: its code is a word of the tables -/
def qMok (nY : Nat) (i : qInf) : Prop := q_code i.1 i.2.1 nY i.2.2.1 i.2.2.2.1 ∈ q_TBL ∧ nY ≤ 13 ∧ i.1.cls ≠ "java/lang/invoke/MethodHandle" ∧ i.1.cls ≠ "java/lang/invoke/VarHandle"
def qCalls (l : Launch) (N0 b : Nat) (H0 : Heap) (rho : Nat → Nat) (tys : List (ClassId × FieldType)) (D : va_G) (Lx : Nat) (xs : Nat → Int32) (P : List qM) (I : List qInf) (ih : qIh) : Prop :=
  ∀ (k : Nat) (M : qM) (i : qInf), P[k]? = some M → I[k]? = some i → qMok M.1 i ∧ ∀ (d : Nat) (As : List qV) (h : qHp) (r : qRes), As.length ≤ M.1 → (∀ v ∈ As, q_lng v = false) → ih d M.2.1 M.2.2 M.2.1 (q_loc M.1 As) [] h = r → (∃ z, q_core r = some z) → qMet l N0 b H0 rho tys D Lx xs d M.1 i As h r
def q_RR (N0 b : Nat) (H0 : Heap) (rho : Nat → Nat) (tys : List (ClassId × FieldType)) (D : va_G) (R : Room) (s : State) (args : Array Value) (Rel : qRes → Nat → Nat → Prop) (Qc : Array Value → State → Outcome → State → Prop) : Prop :=
  ∀ (v : Option qV) (h : qHp) (nc ns : Nat), Rel (.inl (v, h, 0, 0)) nc ns → nc ≤ R.cells ∧ ns ≤ R.slots ∧ ∀ t : State, qJ N0 b H0 rho tys D h t.heap → Qc args s (.returned (v.map (q_v N0 b rho))) t
def q_RT (N0 b : Nat) (H0 : Heap) (rho : Nat → Nat) (tys : List (ClassId × FieldType)) (D : va_G) (R : Room) (s : State) (c : Code) (hh : List (Nat × Nat × Nat × Nat)) (Rel : qRes → Nat → Nat → Prop) (XC : String → State → State → Prop) : Prop :=
  ∀ (X : Nat) (h : qHp) (mc ms nc ns : Nat), Rel (.inr (.inl (X, h, mc, ms))) nc ns → nc + mc ≤ R.cells ∧ ns + ms ≤ R.slots ∧ (hh = [] → c.exceptionTable.toList = []) ∧ ∀ (t : State) (E : String), q_exc[X]? = some E → qJ N0 b H0 rho tys D h t.heap → XC E s t
theorem q_hd_ok {own : String} {Rw : List qRow} : ∀ {hs : List qHd} {hh : List (Nat × Nat × Nat × Nat)} {js : List Nat} {pc X t : Nat}, q_hok own Rw hs hh js = true → q_hd hs pc X = some t →
    ∃ (pre : List (Nat × Nat × Nat × Nat)) (x : Nat × Nat × Nat × Nat) (suf : List (Nat × Nat × Nat × Nat)) (j : Nat) (E : String), hh = pre ++ x :: suf ∧ q_exc[X]? = some E ∧ x.1 ≤ pc ∧ pc < x.2.1 ∧ x.2.2.2 ≠ 0 ∧ q_w j (.classLink own x.2.2.2 E) = true ∧ (∃ r K, q_drop Rw t = r :: K ∧ r.1 = x.2.2.1) ∧
      ∀ z ∈ pre, ¬ (z.1 ≤ pc ∧ pc < z.2.1) ∨ (z.2.2.2 ≠ 0 ∧ ∃ (j : Nat) (E2 : String), q_w j (.classLink own z.2.2.2 E2) = true ∧ E2 ∈ q_exc ∧ E2 ≠ E)
  | [], _, _, _, _, _, _, h => by cases h
  | x :: l, [], _, _, _, _, h, _ => by cases h
  | x :: l, y :: m, [], _, _, _, h, _ => by cases h
  | x :: l, y :: m, j :: js, pc, X, t, h, h2 => by
    simp only [q_hok, Bool.and_eq_true] at h
    obtain ⟨a1, a2, a3, a4, a5, a6⟩ := h
    have a1 := Nat.eq_of_beq_eq_true a1
    have a2 := Nat.eq_of_beq_eq_true a2
    simp only [q_nth_eq] at a4
    have a5 : y.2.2.2 ≠ 0 := fun z => by rw [z] at a5; cases a5
    simp only [q_hd] at h2
    split at h2
    · next hc =>
      cases h2
      simp only [Bool.and_eq_true] at hc
      obtain ⟨c1, c2, c3⟩ := hc
      have c1 := Nat.le_of_ble_eq_true c1
      have c2 := Nat.blt_eq.mp c2
      have c3 := Nat.eq_of_beq_eq_true c3
      split at a4
      · next E hE =>
        split at a3
        · next r K hrK =>
          exact ⟨[], y, m, j, E, rfl, by rw [← c3]; exact hE, by rw [← a1]; exact c1, by rw [← a2]; exact c2, a5, a4, ⟨r, K, hrK, Nat.eq_of_beq_eq_true a3⟩, fun z hz => by cases hz⟩
        · cases a3
      · cases a4
    · next hc =>
      obtain ⟨pre, x2, suf, j2, E, g1, g2, g3, g4, g5, g6, g7, g8⟩ := q_hd_ok a6 h2
      refine ⟨y :: pre, x2, suf, j2, E, by rw [g1]; rfl, g2, g3, g4, g5, g6, g7, fun z hz => ?_⟩
      rcases List.mem_cons.mp hz with rfl | hz
      · split at a4
        · next E2 hE2 =>
          by_cases hcov : z.1 ≤ pc ∧ pc < z.2.1
          · refine Or.inr ⟨a5, j, E2, a4, List.mem_of_getElem? hE2, fun e => ?_⟩
            subst e
            have : x.2.2.2 = X := by
              have i1 := (List.getElem?_eq_some_iff.mp hE2)
              have i2 := (List.getElem?_eq_some_iff.mp g2)
              obtain ⟨i1, i3⟩ := i1
              obtain ⟨i2, i4⟩ := i2
              have hl : q_exc.length = 3 := rfl
              rw [hl] at i1 i2
              have hinj : ∀ a b : Fin 3, q_exc[a.val]? = q_exc[b.val]? → a = b := by decide
              exact congrArg Fin.val (hinj ⟨_, i1⟩ ⟨_, i2⟩ (by show q_exc[_]? = q_exc[_]?; rw [hE2, g2]))
            rw [Bool.eq_false_iff] at hc
            refine hc ?_
            simp only [Bool.and_eq_true]
            exact ⟨Nat.ble_eq.mpr (by rw [a1]; exact hcov.1), Nat.blt_eq.mpr (by rw [a2]; exact hcov.2), Nat.beq_eq.mpr this⟩
          · exact Or.inl hcov
        · cases a4
      · exact g8 z hz
section QC0
variable {p : Program} {l : Launch} {e : Env} {R : Room} {s : State} {m : MethodId} {args : Array Value} {below : List Frame} {meth : Method} {c : Code} {H : Heap} {locs : List Loc} {nc ns mc ms : Nat} {Qf : State → Prop}
variable {N0 b pc : Nat} {ls : Array Slot} {st0 rest : List Value} {Qa : State → Outcome → State → Prop} {XC : String → State → State → Prop}
theorem q_call (hr : vx_Run p l e R s m args below meth c H locs nc ns mc ms (F0 m pc ls st0) rest Qa XC (fun q => N0 ≤ q)) (hl : ∀ z ∈ locs, N0 ≤ z.base)
    (kv : ∀ (v : Option Value) (st t : State) (H1 : Heap) (locs1 : List Loc), Qa st (.returned v) t → t.heap = H1 → (∀ z ∈ locs1, N0 ≤ z.base) → W p l e R s m args below meth c H1 locs1 (nc + mc) (ns + ms) Qf (F0 m (pc + 3) ls (v.toList ++ rest)))
    (kx : ∀ (q : Addr) (E : String) (ce : Cell) (st t : State) (H1 : Heap) (locs1 : List Loc), XC E st t → t.heap = H1 → (∀ z ∈ locs1, N0 ≤ z.base) → H1[q]? = some ce → ce.vm = .none → s.vm.findClass E = some ce.cls → vx_W p l e R s m args below meth c H1 locs1 (nc + mc) (ns + ms) Qf (F0 m pc ls rest) q) : W p l e R s m args below meth c H locs nc ns Qf (F0 m pc ls st0) := by
  intro T hT X
  rcases hr T hT X with ⟨v, st₀, t, T', L, h0, X', hL, e1, e2, hq, st⟩ | ⟨q, st₀, t, T', L, E, ce, h0, X', hL, e1, e2, hq, hce, hcv, hcl, st⟩
  · obtain ⟨t2, a1, b1⟩ := kv v st₀ t T'.heap (locs ++ L) hq e1.symm (fun z hz => (List.mem_append.mp hz).elim (hl z) (hL z)) T' rfl X'
    exact ⟨t2, st t2 a1, b1⟩
  · obtain ⟨t2, a1, b1⟩ := kx q E ce st₀ t T'.heap (locs ++ L) hq e1.symm (fun z hz => (List.mem_append.mp hz).elim (hl z) (hL z)) (by rw [e1]; exact hce) hcv hcl T' rfl X'
    exact ⟨t2, st.trans a1, b1⟩
end QC0
theorem q_blind {N0 b : Nat} {H0 : Heap} {rho : Nat → Nat} {tys : List (ClassId × FieldType)} {D : va_G} {Lx : Nat} {xs : Nat → Int32} {As : List qV} {h : qHp} : FrameBlind (q_Pc N0 b H0 rho tys D Lx xs As h) := fun a U g mk q => ⟨q.1, qWd.moved (s := U) (U := U.calling g mk a) (State.WarmedH.refl U) q.2.1, q.2.2⟩
theorem q_goodTBL {y : MethodName} {cy : ByteArray} {nY : Nat} {ry : Option FieldType} {hy : List (Nat × Nat × Nat × Nat)} (h : q_code y cy nY ry hy ∈ q_TBL) : GoodIn q_TBL (q_code y cy nY ry hy :: q_TBL) := fun w hw => by
  rcases List.mem_cons.mp hw with rfl | hw
  · exact ⟨h, good_of_word (q_TBL_good h)⟩
  · exact ⟨hw, good_of_word (q_TBL_good hw)⟩
section QC
variable {p : Program} {l : Launch} {e : Env} {R : Room} {s : State} {m : MethodId} {args : Array Value} {below : List Frame} {meth : Method} {c : Code}
variable {N0 b : Nat} {H0 : Heap} {rho : Nat → Nat} {tys : List (ClassId × FieldType)} {D : va_G} {Lx : Nat} {xs : Nat → Int32}
variable {own nm : String} {cc : ByteArray} {nL : Nat} {ret : Option FieldType} {hh : List (Nat × Nat × Nat × Nat)} {d : Nat}
variable {Rw : List qRow} {hs : List qHd} {P : List qM} {I : List qInf} {sw : List Nat} {E : qEnv} {ih : qIh} {kk : qKk}
variable {Qf : State → Prop} {Rel : qRes → Nat → Nat → Prop}
variable {j pc op a0 b0 c0 len : Nat} {ins : Instr} {K : List qRow} {L : qL} {S : List qV} {h : qHp} {nc ns : Nat} {H : Heap} {locs : List Loc} {ls : Array Slot}
variable {Qc : Array Value → State → Outcome → State → Prop} {XC : String → State → State → Prop} {js : List Nat}

/-- behind a call: the answer goes on, what was thrown is caught or goes out -/
theorem q_after_ok (C : qCtx p l R s m args meth c own nm cc nL ret hh d) (Wd : qWd N0 b H0 tys D Lx xs s) (hk : qKok p l e R s m args below meth c N0 b H0 rho tys D nL Rw Qf Rel kk) (hno : ∀ x nc ns, ¬ Rel (.inr (.inr x)) nc ns) (hadd : qAddR R Rel) (hQf : Qf = vx_MQ below Qc XC args s R.cells R.slots (fun q => N0 ≤ q)) (hRthr : q_RT N0 b H0 rho tys D R s c hh Rel XC) (hhs : q_hok own Rw hs hh js = true) (hj : q_drop Rw j = (pc, op, a0, b0, c0, ins, len) :: K) (ox : q_nx pc 3 K = true)
    (okr : ∀ t r K', q_hd hs pc t = some r → q_drop Rw r = K' → True) (hrw : ∀ (k : Nat) (x : qRow) (K' : List qRow), q_drop Rw k = x :: K' → x.2.1 = 50 → decode cc x.1 = .ok (x.2.2.2.2.2.1, x.2.2.2.2.2.2) ∧ q_opok P I sw own nm cc nL ret Rw K' x.1 50 x.2.2.1 x.2.2.2.1 x.2.2.2.2.1 x.2.2.2.2.2.1 x.2.2.2.2.2.2 = true)
    {r : qRes} (hr : Rel (q_after kk Rw hs pc K L S r) nc ns) (hl : ∀ z ∈ locs, N0 ≤ z.base) (hL : qLoc N0 b rho ls nL L) {st0 : List Value} {ar : Array Value}
    (hrun : nc + q_mc r ≤ R.cells → ns + q_ms r ≤ R.slots → (∃ z, q_core r = some z) → vx_Run p l e R s m args below meth c H locs nc ns (q_mc r) (q_ms r) (F0 m pc ls st0) (S.map (q_v N0 b rho)) (q_Qc N0 b H0 rho tys D r ar) (q_XC N0 b H0 rho tys D r) (fun q => N0 ≤ q)) : W p l e R s m args below meth c H locs nc ns Qf (F0 m pc ls st0) := by
  obtain ⟨hx, hb, hml, hown, hts, hret, hlocks, hnm, htab, hfr, hlo, htr⟩ := id C
  rcases r with ⟨v, h', mc, ms⟩ | ⟨X, h', mc, ms⟩ | x
  · have hr2 : Rel (q_add1 mc ms (kk K L (v.toList ++ S) h')) nc ns := by
      cases v with
      | none => simp only [q_after, q_add_eq] at hr; exact hr
      | some v => simp only [q_after, q_add_eq] at hr; exact hr
    obtain ⟨hr3, g1, g2⟩ := hadd _ _ _ _ _ hr2
    refine q_call (hrun g1 g2 ⟨_, rfl⟩) hl (fun v1 st t H1 locs1 hq ht hl1 => ?_) (fun q E ce st t H1 locs1 hq ht hl1 _ _ _ => ?_)
    · obtain ⟨v2, h2, e1, e2, e3⟩ := hq
      simp only [q_core, Option.some.injEq, Sum.inl.injEq, Prod.mk.injEq] at e1
      obtain ⟨rfl, rfl⟩ := e1
      have e2 : v1 = v.map (q_v N0 b rho) := by injection e2
      subst e2
      rw [ht] at e3
      have hn := q_next (locs := locs1) (ls := ls) hk hj ox hr3 e3 hl1 hL
      cases v <;> exact hn
    · obtain ⟨X, h2, e1, -⟩ := hq
      simp [q_core] at e1
  · cases hs with
    | nil =>
      have hr2 : Rel (.inr (.inl (X, h', mc, ms))) nc ns := hr
      obtain ⟨g1, g2, gT, g3⟩ := hRthr X h' mc ms nc ns hr2
      refine q_call (hrun g1 g2 ⟨_, rfl⟩) hl (fun v1 st t H1 locs1 hq ht hl1 => ?_) (fun q E ce st t H1 locs1 hq ht hl1 y1 y2 y3 => ?_)
      · obtain ⟨v2, h2, e1, -⟩ := hq
        simp [q_core] at e1
      · obtain ⟨X2, h2, e1, e2, e3⟩ := hq
        simp only [q_core, Option.some.injEq, Sum.inr.injEq, Prod.mk.injEq] at e1
        obtain ⟨rfl, rfl⟩ := e1
        rw [ht] at e3
        subst hQf
        have hh0 : hh = [] := by cases hh with
          | nil => rfl
          | cons y z => cases hhs
        refine vx_out (E := E) (ce := ce) (fun x hx => ?_) hlocks y1 y2 y3 (fun t ht2 _ => g3 t E e2 (by rw [ht2]; exact e3)) hl1 g1 g2
        rw [gT hh0] at hx
        cases hx
    | cons hd0 hs0 =>
      simp only [q_after, q_set_eq] at hr
      split at hr
      · exact absurd hr (hno _ _ _)
      · next t ht0 =>
        split at hr
        · next pch ah bh chh inh lenh K' hdr =>
          rw [q_add_eq] at hr
          obtain ⟨hr3, g1, g2⟩ := hadd _ _ _ _ _ hr
          refine q_call (hrun g1 g2 ⟨_, rfl⟩) hl (fun v1 st t H1 locs1 hq ht hl1 => ?_) (fun q E ce st t1 H1 locs1 hq ht hl1 y1 y2 y3 => ?_)
          · obtain ⟨v2, h2, e1, -⟩ := hq
            simp [q_core] at e1
          · obtain ⟨X2, h2, e1, e2, e3⟩ := hq
            simp only [q_core, Option.some.injEq, Sum.inr.injEq, Prod.mk.injEq] at e1
            obtain ⟨rfl, rfl⟩ := e1
            rw [ht] at e3
            obtain ⟨pre, x, suf, j2, E3, k1, k2, k3, k4, k5, k6, ⟨rr, KK, k7, k8⟩, k9⟩ := q_hd_ok hhs ht0
            cases Option.some.inj (k2.symm.trans e2)
            rw [hdr] at k7
            cases k7
            have hE : E ∈ q_exc := List.mem_of_getElem? e2
            refine vx_catch (name := E) hown (tableOf pre) ⟨x.1, x.2.1, x.2.2.1, x.2.2.2⟩ (tableOf suf) (by rw [htab (by rw [k1]; simp), k1]; simp [tableOf]) (fun z hz => ?_) (by simp only [covers]; simp; exact ⟨k3, k4⟩) k5 (hts _ (q_w_in k6).1) (va_Nw.use rfl (Wd.2.2.2.2.2.2.2.2.1.1 E hE)) y1 y2 y3 ?_
            · obtain ⟨z0, hz0, rfl⟩ := List.mem_map.mp hz
              rcases k9 z0 hz0 with h9 | ⟨h9, j3, E2, w1, w2, w3⟩
              · left
                simp only [covers]
                simp
                intro h10
                exact Nat.not_lt.mp (fun h11 => h9 ⟨h10, h11⟩)
              · exact Or.inr ⟨h9, E2, hts _ (q_w_in w1).1, Wd.2.2.2.2.2.2.2.2.2.1 E hE E2 w2 (Ne.symm w3)⟩
            · obtain ⟨od, ok⟩ := hrw t _ _ hdr rfl
              simp only [q_opok, Bool.and_eq_true] at ok
              obtain ⟨oy, on, ok⟩ := ok
              have on := Nat.blt_eq.mp on
              have hst : ∀ ls' : Array Slot, lv_has ls' nL ((ah, Value.ref q) :: (q_lv N0 b rho nL L).filter (fun q => !(q.1 == ah) && !(q.1 + 1 == ah && q.2.category == 2))) → W p l e R s m args below meth c H1 locs1 (nc + mc) (ns + ms) Qf (F0 m (pch + lenh) ls' []) := fun ls' h' => q_next (S := []) hk hdr oy hr3 e3 hl1 (hL.st h' none (fun v hv => by cases hv))
              show W p l e R s m args below meth c H1 locs1 (nc + mc) (ns + ms) Qf (F0 m x.2.2.1 ls [.ref q])
              rw [← k8]
              split at ok
              all_goals first | (cases ok; done) | skip
              all_goals simp only [Bool.and_eq_true] at ok
              all_goals obtain ⟨o1, o2⟩ := ok
              all_goals have o1 := Nat.eq_of_beq_eq_true o1
              all_goals have o2 := Nat.eq_of_beq_eq_true o2
              all_goals subst o1
              · exact lv_astore_n hx hb od o2 hL.lv on rfl hst
              · subst o2; exact lv_astore hx hb od hL.lv on rfl hst
        · exact absurd hr (hno _ _ _)
  · exact absurd hr (hno _ _ _)

theorem qs_callv (C : qCtx p l R s m args meth c own nm cc nL ret hh d) (Wd : qWd N0 b H0 tys D Lx xs s) (hE : qEok E rho) (hX : qScr rho Lx xs) (hk : qKok p l e R s m args below meth c N0 b H0 rho tys D nL Rw Qf Rel kk) (hno : ∀ x nc ns, ¬ Rel (.inr (.inr x)) nc ns) (hadd : qAddR R Rel) (hQf : Qf = vx_MQ below Qc XC args s R.cells R.slots (fun q => N0 ≤ q)) (hRret : q_RR N0 b H0 rho tys D R s args Rel Qc) (hRthr : q_RT N0 b H0 rho tys D R s c hh Rel XC) (hB : ∀ q, q < N0 → s.heap[q]? = H0[q]?) (hhs : q_hok own Rw hs hh js = true) (hcs : qCalls l N0 b H0 rho tys D Lx xs P I ih) (hrw : ∀ (k : Nat) (x : qRow) (K' : List qRow), q_drop Rw k = x :: K' → x.2.1 = 50 → decode cc x.1 = .ok (x.2.2.2.2.2.1, x.2.2.2.2.2.2) ∧ q_opok P I sw own nm cc nL ret Rw K' x.1 50 x.2.2.1 x.2.2.2.1 x.2.2.2.2.1 x.2.2.2.2.2.1 x.2.2.2.2.2.2 = true) (hj : q_drop Rw j = (pc, op, a0, b0, c0, ins, len) :: K) (hd : decode cc pc = .ok (ins, len))
    (ok : q_opok P I sw own nm cc nL ret Rw K pc 35 a0 b0 c0 ins len = true) (hr : Rel (qo_callr P E ih kk d Rw hs pc a0 b0 c0 K L S h) nc ns) (hJ : qJ N0 b H0 rho tys D h H) (hl : ∀ z ∈ locs, N0 ≤ z.base) (hL : qLoc N0 b rho ls nL L) : W p l e R s m args below meth c H locs nc ns Qf (F0 m pc ls (S.map (q_v N0 b rho))) := by
  obtain ⟨hx, hb, hml, hown, hts, hret, hlocks, hnm, htab, hfr, hlo, htr⟩ := id C
  unfold qo_callr at hr
  simp only [q_nth_eq] at hr
  split at hr
  · exact absurd hr (hno _ _ _)
  · next d' =>
    split at hr
    · exact absurd hr (hno _ _ _)
    · next M hM =>
      split at hr
      · next r As S' hpop =>
        split at hr
        · next o ho =>
          split at hr
          · next hc =>
            simp only [Bool.and_eq_true] at hc
            obtain ⟨c1, c2, c3⟩ := hc
            have c1 := Nat.eq_of_beq_eq_true c1
            have c2 := Nat.le_of_ble_eq_true c2
            have c3 := Nat.blt_eq.mp c3
            simp only [q_opok, Bool.and_eq_true] at ok
            obtain ⟨ox, ok⟩ := ok
            split at ok
            all_goals first | (cases ok; done) | skip
            next idx =>
            simp only [Bool.and_eq_true] at ok
            obtain ⟨o1, ok⟩ := ok
            have o1 := Nat.eq_of_beq_eq_true o1
            subst o1
            split at ok
            all_goals first | (cases ok; done) | skip
            next y cy ry hy j1 j2 j3 j4 hi =>
            rw [q_nth_eq] at hi
            obtain ⟨hmok, hmet⟩ := hcs a0 M _ hM hi
            obtain ⟨m1, m2, m3, m4⟩ := hmok
            obtain ⟨B, b1, b2, b3, b4⟩ := q_pop_ok hpop
            rw [List.append_nil] at b1
            have hBr : B = As.reverse ++ [.inr (.inl (some (r + 1)))] := by
              have := congrArg List.reverse b1
              simpa using this.symm
            have hlen : As.length = b0 % 32 := by
              rw [hBr] at b3
              simp at b3
              exact b3
            have hstk : S.map (q_v N0 b rho) = (As.map (q_v N0 b rho)).reverse ++ Value.ref (N0 + r) :: S'.map (q_v N0 b rho) := by
              rw [b2, hBr]
              simp [q_v, q_r, q_ad, va_rf]
            have hln : ∀ v ∈ (.inr (.inl (some (r + 1))) :: As : List qV), q_lng v = false := fun v hv => b4 v (by
              rw [hBr]
              rcases List.mem_cons.mp hv with rfl | hv
              · simp
              · simp [hv])
            refine q_after_ok (S := S') C Wd hk hno hadd hQf hRthr hhs hj ox (fun _ _ _ _ _ => trivial) hrw hr hl hL (ar := (Value.ref (N0 + r) :: As.map (q_v N0 b rho)).toArray) (fun g1 g2 g3 => ?_)
            have hm := hmet d' (.inr (.inl (some (r + 1))) :: As) h _ (by simp; omega) hln rfl g3
            have hpre : ∀ U : State, U.heap = H → s.WarmedH U.vm → q_Pc N0 b H0 rho tys D Lx xs (.inr (.inl (some (r + 1))) :: As) h (Value.ref (N0 + r) :: As.map (q_v N0 b rho)).toArray U := fun U hU hW => ⟨rfl, qWd.moved hW Wd, by rw [hU]; exact hJ⟩
            have hcf : CallFix p m c cc nL s args q_TBL own := ⟨hx, hb, hml, hown, hts⟩
            have hroom : (q_rm d' (ih d' M.2.1 M.2.2 M.2.1 (q_loc M.1 (.inr (.inl (some (r + 1))) :: As)) [] h)).frames + 1 ≤ R.frames ∧ 8 + (M.1 + 11) + (q_rm d' (ih d' M.2.1 M.2.2 M.2.1 (q_loc M.1 (.inr (.inl (some (r + 1))) :: As)) [] h)).locals ≤ R.locals := ⟨by show d' + 1 ≤ R.frames; omega, by show 8 + (M.1 + 11) + 32 * d' ≤ R.locals; omega⟩
            have hst8 : 2 * (F0 m pc ls (S.map (q_v N0 b rho))).monitorRoom + ((S'.map (q_v N0 b rho)).map fun v => v.category).sum ≤ 8 := by
              show 0 + _ ≤ 8
              rw [q_cats]; omega
            simp only [Bool.and_eq_true] at ok
            obtain ⟨oh, ok⟩ := ok
            split at ok
            · next C0 T0 N9 hcl =>
              simp only [Bool.and_eq_true, decide_eq_true_eq] at ok
              obtain ⟨oC, onp, ow1, ow2, ow3, ow4⟩ := ok
              rw [q_nth_eq] at hcl
              have onp := of_decide_eq_true onp
              have hcells : ∃ cellB : Cell, H[N0 + r]? = some cellB ∧ cellB.vm.isStatics = false ∧ s.vm.findClass y.cls = some cellB.cls := by
                obtain ⟨ci, fs⟩ := o
                dsimp only at c1
                subst c1
                obtain ⟨cell, e1, e2, e3⟩ := va_recv (q0 := 0) Wd.1 (hJ.one ho) hcl (show [(N0 + r, q_c N0 b rho tys (Sum.inr (b0 / 32, fs)))][0]? = some (N0 + r, Sum.inr (b0 / 32, fs.map (q_v N0 b rho))) from rfl)
                exact ⟨cell, e1, e2, by rw [← oC]; exact e3⟩
              match hy, m1, hm, oh with
              | [], m1, hm, _ =>
                exact vx_runV (C := y.cls) hcf hm ⟨callB_of (b0 % 32) hts (q_goodTBL m1) rfl rfl rfl (hts _ (q_w_in ow4).1) (hts _ (q_w_in ow1).1) ⟨m3, m4, onp⟩ hroom, hts _ (q_w_in ow2).1, hts _ (q_w_in ow3).1⟩ ⟨q_blind, hcells, hpre⟩ rfl (by rw [List.length_map]; exact hlen) hL.1 hstk hst8 hd ⟨g1, g2⟩
              | z :: w, m1, hm, oh => cases oh
            · cases ok
          · exact absurd hr (hno _ _ _)
        · exact absurd hr (hno _ _ _)
      · exact absurd hr (hno _ _ _)

theorem qs_calli (C : qCtx p l R s m args meth c own nm cc nL ret hh d) (Wd : qWd N0 b H0 tys D Lx xs s) (hE : qEok E rho) (hX : qScr rho Lx xs) (hk : qKok p l e R s m args below meth c N0 b H0 rho tys D nL Rw Qf Rel kk) (hno : ∀ x nc ns, ¬ Rel (.inr (.inr x)) nc ns) (hadd : qAddR R Rel) (hQf : Qf = vx_MQ below Qc XC args s R.cells R.slots (fun q => N0 ≤ q)) (hRret : q_RR N0 b H0 rho tys D R s args Rel Qc) (hRthr : q_RT N0 b H0 rho tys D R s c hh Rel XC) (hB : ∀ q, q < N0 → s.heap[q]? = H0[q]?) (hhs : q_hok own Rw hs hh js = true) (hcs : qCalls l N0 b H0 rho tys D Lx xs P I ih) (hrw : ∀ (k : Nat) (x : qRow) (K' : List qRow), q_drop Rw k = x :: K' → x.2.1 = 50 → decode cc x.1 = .ok (x.2.2.2.2.2.1, x.2.2.2.2.2.2) ∧ q_opok P I sw own nm cc nL ret Rw K' x.1 50 x.2.2.1 x.2.2.2.1 x.2.2.2.2.1 x.2.2.2.2.2.1 x.2.2.2.2.2.2 = true) (hj : q_drop Rw j = (pc, op, a0, b0, c0, ins, len) :: K) (hd : decode cc pc = .ok (ins, len))
    (ok : q_opok P I sw own nm cc nL ret Rw K pc 37 a0 b0 c0 ins len = true) (hr : Rel (qo_callr P E ih kk d Rw hs pc a0 b0 c0 K L S h) nc ns) (hJ : qJ N0 b H0 rho tys D h H) (hl : ∀ z ∈ locs, N0 ≤ z.base) (hL : qLoc N0 b rho ls nL L) : W p l e R s m args below meth c H locs nc ns Qf (F0 m pc ls (S.map (q_v N0 b rho))) := by
  obtain ⟨hx, hb, hml, hown, hts, hret, hlocks, hnm, htab, hfr, hlo, htr⟩ := id C
  unfold qo_callr at hr
  simp only [q_nth_eq] at hr
  split at hr
  · exact absurd hr (hno _ _ _)
  · next d' =>
    split at hr
    · exact absurd hr (hno _ _ _)
    · next M hM =>
      split at hr
      · next r As S' hpop =>
        split at hr
        · next o ho =>
          split at hr
          · next hc =>
            simp only [Bool.and_eq_true] at hc
            obtain ⟨c1, c2, c3⟩ := hc
            have c1 := Nat.eq_of_beq_eq_true c1
            have c2 := Nat.le_of_ble_eq_true c2
            have c3 := Nat.blt_eq.mp c3
            simp only [q_opok, Bool.and_eq_true] at ok
            obtain ⟨ox, ok⟩ := ok
            split at ok
            all_goals first | (cases ok; done) | skip
            next idx =>
            simp only [Bool.and_eq_true] at ok
            obtain ⟨o1, ok⟩ := ok
            have o1 := Nat.eq_of_beq_eq_true o1
            subst o1
            split at ok
            all_goals first | (cases ok; done) | skip
            next y cy ry hy j1 j2 j3 j4 hi =>
            rw [q_nth_eq] at hi
            obtain ⟨hmok, hmet⟩ := hcs a0 M _ hM hi
            obtain ⟨m1, m2, m3, m4⟩ := hmok
            obtain ⟨B, b1, b2, b3, b4⟩ := q_pop_ok hpop
            rw [List.append_nil] at b1
            have hBr : B = As.reverse ++ [.inr (.inl (some (r + 1)))] := by
              have := congrArg List.reverse b1
              simpa using this.symm
            have hlen : As.length = b0 % 32 := by
              rw [hBr] at b3
              simp at b3
              exact b3
            have hstk : S.map (q_v N0 b rho) = (As.map (q_v N0 b rho)).reverse ++ Value.ref (N0 + r) :: S'.map (q_v N0 b rho) := by
              rw [b2, hBr]
              simp [q_v, q_r, q_ad, va_rf]
            have hln : ∀ v ∈ (.inr (.inl (some (r + 1))) :: As : List qV), q_lng v = false := fun v hv => b4 v (by
              rw [hBr]
              rcases List.mem_cons.mp hv with rfl | hv
              · simp
              · simp [hv])
            refine q_after_ok (S := S') C Wd hk hno hadd hQf hRthr hhs hj ox (fun _ _ _ _ _ => trivial) hrw hr hl hL (ar := (Value.ref (N0 + r) :: As.map (q_v N0 b rho)).toArray) (fun g1 g2 g3 => ?_)
            have hm := hmet d' (.inr (.inl (some (r + 1))) :: As) h _ (by simp; omega) hln rfl g3
            have hpre : ∀ U : State, U.heap = H → s.WarmedH U.vm → q_Pc N0 b H0 rho tys D Lx xs (.inr (.inl (some (r + 1))) :: As) h (Value.ref (N0 + r) :: As.map (q_v N0 b rho)).toArray U := fun U hU hW => ⟨rfl, qWd.moved hW Wd, by rw [hU]; exact hJ⟩
            have hcf : CallFix p m c cc nL s args q_TBL own := ⟨hx, hb, hml, hown, hts⟩
            have hroom : (q_rm d' (ih d' M.2.1 M.2.2 M.2.1 (q_loc M.1 (.inr (.inl (some (r + 1))) :: As)) [] h)).frames + 1 ≤ R.frames ∧ 8 + (M.1 + 11) + (q_rm d' (ih d' M.2.1 M.2.2 M.2.1 (q_loc M.1 (.inr (.inl (some (r + 1))) :: As)) [] h)).locals ≤ R.locals := ⟨by show d' + 1 ≤ R.frames; omega, by show 8 + (M.1 + 11) + 32 * d' ≤ R.locals; omega⟩
            have hst8 : 2 * (F0 m pc ls (S.map (q_v N0 b rho))).monitorRoom + ((S'.map (q_v N0 b rho)).map fun v => v.category).sum ≤ 8 := by
              show 0 + _ ≤ 8
              rw [q_cats]; omega
            simp only [Bool.and_eq_true, decide_eq_true_eq] at ok
            obtain ⟨oh, on, or, onp, ow1, ow2, ow3⟩ := ok
            have onp := of_decide_eq_true onp
            subst or
            match hy, m1, hm, oh with
            | [], m1, hm, _ =>
              exact vx_runI hcf hm ⟨callB_of (b0 % 32) hts (q_goodTBL m1) rfl rfl rfl (hts _ (q_w_in ow3).1) (hts _ (q_w_in ow1).1) ⟨m3, m4, onp⟩ hroom, on, hts _ (q_w_in ow2).1⟩ ⟨q_blind, hpre⟩ rfl (by rw [List.length_map]; exact hlen) hL.1 hstk hst8 hd ⟨g1, g2⟩
            | z :: w, m1, hm, oh => cases oh
          · exact absurd hr (hno _ _ _)
        · exact absurd hr (hno _ _ _)
      · exact absurd hr (hno _ _ _)

theorem qs_callin (C : qCtx p l R s m args meth c own nm cc nL ret hh d) (Wd : qWd N0 b H0 tys D Lx xs s) (hE : qEok E rho) (hX : qScr rho Lx xs) (hk : qKok p l e R s m args below meth c N0 b H0 rho tys D nL Rw Qf Rel kk) (hno : ∀ x nc ns, ¬ Rel (.inr (.inr x)) nc ns) (hadd : qAddR R Rel) (hQf : Qf = vx_MQ below Qc XC args s R.cells R.slots (fun q => N0 ≤ q)) (hRret : q_RR N0 b H0 rho tys D R s args Rel Qc) (hRthr : q_RT N0 b H0 rho tys D R s c hh Rel XC) (hB : ∀ q, q < N0 → s.heap[q]? = H0[q]?) (hhs : q_hok own Rw hs hh js = true) (hcs : qCalls l N0 b H0 rho tys D Lx xs P I ih) (hrw : ∀ (k : Nat) (x : qRow) (K' : List qRow), q_drop Rw k = x :: K' → x.2.1 = 50 → decode cc x.1 = .ok (x.2.2.2.2.2.1, x.2.2.2.2.2.2) ∧ q_opok P I sw own nm cc nL ret Rw K' x.1 50 x.2.2.1 x.2.2.2.1 x.2.2.2.2.1 x.2.2.2.2.2.1 x.2.2.2.2.2.2 = true) (hj : q_drop Rw j = (pc, op, a0, b0, c0, ins, len) :: K) (hd : decode cc pc = .ok (ins, len))
    (ok : q_opok P I sw own nm cc nL ret Rw K pc 38 a0 b0 c0 ins len = true) (hr : Rel (qo_callr P E ih kk d Rw hs pc a0 b0 c0 K L S h) nc ns) (hJ : qJ N0 b H0 rho tys D h H) (hl : ∀ z ∈ locs, N0 ≤ z.base) (hL : qLoc N0 b rho ls nL L) : W p l e R s m args below meth c H locs nc ns Qf (F0 m pc ls (S.map (q_v N0 b rho))) := by
  obtain ⟨hx, hb, hml, hown, hts, hret, hlocks, hnm, htab, hfr, hlo, htr⟩ := id C
  unfold qo_callr at hr
  simp only [q_nth_eq] at hr
  split at hr
  · exact absurd hr (hno _ _ _)
  · next d' =>
    split at hr
    · exact absurd hr (hno _ _ _)
    · next M hM =>
      split at hr
      · next r As S' hpop =>
        split at hr
        · next o ho =>
          split at hr
          · next hc =>
            simp only [Bool.and_eq_true] at hc
            obtain ⟨c1, c2, c3⟩ := hc
            have c1 := Nat.eq_of_beq_eq_true c1
            have c2 := Nat.le_of_ble_eq_true c2
            have c3 := Nat.blt_eq.mp c3
            simp only [q_opok, Bool.and_eq_true] at ok
            obtain ⟨ox, ok⟩ := ok
            split at ok
            all_goals first | (cases ok; done) | skip
            next idx =>
            simp only [Bool.and_eq_true] at ok
            obtain ⟨o1, ok⟩ := ok
            have o1 := Nat.eq_of_beq_eq_true o1
            subst o1
            split at ok
            all_goals first | (cases ok; done) | skip
            next y cy ry hy j1 j2 j3 j4 hi =>
            rw [q_nth_eq] at hi
            obtain ⟨hmok, hmet⟩ := hcs a0 M _ hM hi
            obtain ⟨m1, m2, m3, m4⟩ := hmok
            obtain ⟨B, b1, b2, b3, b4⟩ := q_pop_ok hpop
            rw [List.append_nil] at b1
            have hBr : B = As.reverse ++ [.inr (.inl (some (r + 1)))] := by
              have := congrArg List.reverse b1
              simpa using this.symm
            have hlen : As.length = b0 % 32 := by
              rw [hBr] at b3
              simp at b3
              exact b3
            have hstk : S.map (q_v N0 b rho) = (As.map (q_v N0 b rho)).reverse ++ Value.ref (N0 + r) :: S'.map (q_v N0 b rho) := by
              rw [b2, hBr]
              simp [q_v, q_r, q_ad, va_rf]
            have hln : ∀ v ∈ (.inr (.inl (some (r + 1))) :: As : List qV), q_lng v = false := fun v hv => b4 v (by
              rw [hBr]
              rcases List.mem_cons.mp hv with rfl | hv
              · simp
              · simp [hv])
            refine q_after_ok (S := S') C Wd hk hno hadd hQf hRthr hhs hj ox (fun _ _ _ _ _ => trivial) hrw hr hl hL (ar := (Value.ref (N0 + r) :: As.map (q_v N0 b rho)).toArray) (fun g1 g2 g3 => ?_)
            have hm := hmet d' (.inr (.inl (some (r + 1))) :: As) h _ (by simp; omega) hln rfl g3
            have hpre : ∀ U : State, U.heap = H → s.WarmedH U.vm → q_Pc N0 b H0 rho tys D Lx xs (.inr (.inl (some (r + 1))) :: As) h (Value.ref (N0 + r) :: As.map (q_v N0 b rho)).toArray U := fun U hU hW => ⟨rfl, qWd.moved hW Wd, by rw [hU]; exact hJ⟩
            have hcf : CallFix p m c cc nL s args q_TBL own := ⟨hx, hb, hml, hown, hts⟩
            have hroom : (q_rm d' (ih d' M.2.1 M.2.2 M.2.1 (q_loc M.1 (.inr (.inl (some (r + 1))) :: As)) [] h)).frames + 1 ≤ R.frames ∧ 8 + (M.1 + 11) + (q_rm d' (ih d' M.2.1 M.2.2 M.2.1 (q_loc M.1 (.inr (.inl (some (r + 1))) :: As)) [] h)).locals ≤ R.locals := ⟨by show d' + 1 ≤ R.frames; omega, by show 8 + (M.1 + 11) + 32 * d' ≤ R.locals; omega⟩
            have hst8 : 2 * (F0 m pc ls (S.map (q_v N0 b rho))).monitorRoom + ((S'.map (q_v N0 b rho)).map fun v => v.category).sum ≤ 8 := by
              show 0 + _ ≤ 8
              rw [q_cats]; omega
            simp only [Bool.and_eq_true, decide_eq_true_eq] at ok
            obtain ⟨oh, on, or, onp, ow1, ow2, ow3⟩ := ok
            have onp := of_decide_eq_true onp
            subst or
            match hy, m1, hm, oh with
            | [], m1, hm, _ =>
              exact vx_runIN (host := "Treebark") hcf hm ⟨va_cnB (b0 % 32) hts (q_goodTBL m1) rfl rfl rfl (Wd.2.2.2.2.2.2.2.1 (own, idx, y) (List.mem_of_getElem? (by rw [← q_nth_eq]; exact ow1))) (hts _ (q_w_in ow3).1) ⟨m3, m4, onp⟩ hroom, on, hts _ (q_w_in ow2).1⟩ ⟨q_blind, hpre⟩ rfl (by rw [List.length_map]; exact hlen) hL.1 hstk hst8 hd ⟨g1, g2⟩
            | z :: w, m1, hm, oh => cases oh
          · exact absurd hr (hno _ _ _)
        · exact absurd hr (hno _ _ _)
      · exact absurd hr (hno _ _ _)

theorem qs_calls (C : qCtx p l R s m args meth c own nm cc nL ret hh d) (Wd : qWd N0 b H0 tys D Lx xs s) (hE : qEok E rho) (hX : qScr rho Lx xs) (hk : qKok p l e R s m args below meth c N0 b H0 rho tys D nL Rw Qf Rel kk) (hno : ∀ x nc ns, ¬ Rel (.inr (.inr x)) nc ns) (hadd : qAddR R Rel) (hQf : Qf = vx_MQ below Qc XC args s R.cells R.slots (fun q => N0 ≤ q)) (hRret : q_RR N0 b H0 rho tys D R s args Rel Qc) (hRthr : q_RT N0 b H0 rho tys D R s c hh Rel XC) (hB : ∀ q, q < N0 → s.heap[q]? = H0[q]?) (hhs : q_hok own Rw hs hh js = true) (hcs : qCalls l N0 b H0 rho tys D Lx xs P I ih) (hrw : ∀ (k : Nat) (x : qRow) (K' : List qRow), q_drop Rw k = x :: K' → x.2.1 = 50 → decode cc x.1 = .ok (x.2.2.2.2.2.1, x.2.2.2.2.2.2) ∧ q_opok P I sw own nm cc nL ret Rw K' x.1 50 x.2.2.1 x.2.2.2.1 x.2.2.2.2.1 x.2.2.2.2.2.1 x.2.2.2.2.2.2 = true) (hj : q_drop Rw j = (pc, op, a0, b0, c0, ins, len) :: K) (hd : decode cc pc = .ok (ins, len))
    (ok : q_opok P I sw own nm cc nL ret Rw K pc 36 a0 b0 c0 ins len = true) (hr : Rel (qo_calls P E ih kk d Rw hs pc a0 b0 c0 K L S h) nc ns) (hJ : qJ N0 b H0 rho tys D h H) (hl : ∀ z ∈ locs, N0 ≤ z.base) (hL : qLoc N0 b rho ls nL L) : W p l e R s m args below meth c H locs nc ns Qf (F0 m pc ls (S.map (q_v N0 b rho))) := by
  obtain ⟨hx, hb, hml, hown, hts, hret, hlocks, hnm, htab, hfr, hlo, htr⟩ := id C
  unfold qo_calls at hr
  simp only [q_nth_eq] at hr
  split at hr
  · exact absurd hr (hno _ _ _)
  · next d' =>
    split at hr
    · exact absurd hr (hno _ _ _)
    · next M hM =>
      split at hr
      · next As S' hpop =>
        split at hr
        · next hc =>
          simp only [Bool.and_eq_true] at hc
          obtain ⟨c2, c3⟩ := hc
          have c2 := Nat.le_of_ble_eq_true c2
          have c3 := Nat.le_of_ble_eq_true c3
          simp only [q_opok, Bool.and_eq_true] at ok
          obtain ⟨ox, ok⟩ := ok
          split at ok
          all_goals first | (cases ok; done) | skip
          next idx =>
          simp only [Bool.and_eq_true] at ok
          obtain ⟨o1, ok⟩ := ok
          have o1 := Nat.eq_of_beq_eq_true o1
          subst o1
          split at ok
          all_goals first | (cases ok; done) | skip
          next y cy ry hy j1 j2 j3 j4 hi =>
          rw [q_nth_eq] at hi
          obtain ⟨hmok, hmet⟩ := hcs a0 M _ hM hi
          obtain ⟨m1, m2, m3, m4⟩ := hmok
          obtain ⟨B, b1, b2, b3, b4⟩ := q_pop_ok hpop
          rw [List.append_nil] at b1
          have hlen : As.length = b0 := by rw [b1, List.length_reverse]; exact b3
          have hstk : S.map (q_v N0 b rho) = (As.map (q_v N0 b rho)).reverse ++ S'.map (q_v N0 b rho) := by
            rw [b2, b1]
            simp
          have hln : ∀ v ∈ As, q_lng v = false := fun v hv => b4 v (by rw [b1] at hv; exact List.mem_reverse.mp hv)
          refine q_after_ok (S := S') C Wd hk hno hadd hQf hRthr hhs hj ox (fun _ _ _ _ _ => trivial) hrw hr hl hL (ar := (As.map (q_v N0 b rho)).toArray) (fun g1 g2 g3 => ?_)
          have hm := hmet d' As h _ c3 hln rfl g3
          have hpre : ∀ U : State, U.heap = H → s.WarmedH U.vm → q_Pc N0 b H0 rho tys D Lx xs As h (As.map (q_v N0 b rho)).toArray U := fun U hU hW => ⟨rfl, qWd.moved hW Wd, by rw [hU]; exact hJ⟩
          have hcf : CallFix p m c cc nL s args q_TBL own := ⟨hx, hb, hml, hown, hts⟩
          have hroom : (q_rm d' (ih d' M.2.1 M.2.2 M.2.1 (q_loc M.1 As) [] h)).frames + 1 ≤ R.frames ∧ 8 + (M.1 + 11) + (q_rm d' (ih d' M.2.1 M.2.2 M.2.1 (q_loc M.1 As) [] h)).locals ≤ R.locals := ⟨by show d' + 1 ≤ R.frames; omega, by show 8 + (M.1 + 11) + 32 * d' ≤ R.locals; omega⟩
          have hst8 : 2 * (F0 m pc ls (S.map (q_v N0 b rho))).monitorRoom + ((S'.map (q_v N0 b rho)).map fun v => v.category).sum ≤ 8 := by
            show 0 + _ ≤ 8
            rw [q_cats]; omega
          simp only [Bool.and_eq_true, decide_eq_true_eq] at ok
          obtain ⟨oh, onp, ow1, ow2, ow3⟩ := ok
          have onp := of_decide_eq_true onp
          match hy, m1, hm, oh with
          | [], m1, hm, _ =>
            exact vx_runS hcf hm ⟨callB_of b0 hts (q_goodTBL m1) rfl rfl rfl (hts _ (q_w_in ow3).1) (hts _ (q_w_in ow1).1) ⟨m3, m4, onp⟩ hroom, hts _ (q_w_in ow2).1⟩ ⟨q_blind, hpre⟩ rfl (by rw [List.length_map]; exact hlen) hL.1 hstk hst8 hd ⟨g1, g2⟩
          | z :: w, m1, hm, oh => cases oh
        · exact absurd hr (hno _ _ _)
      · exact absurd hr (hno _ _ _)

theorem qs_callsw (C : qCtx p l R s m args meth c own nm cc nL ret hh d) (Wd : qWd N0 b H0 tys D Lx xs s) (hE : qEok E rho) (hX : qScr rho Lx xs) (hk : qKok p l e R s m args below meth c N0 b H0 rho tys D nL Rw Qf Rel kk) (hno : ∀ x nc ns, ¬ Rel (.inr (.inr x)) nc ns) (hadd : qAddR R Rel) (hQf : Qf = vx_MQ below Qc XC args s R.cells R.slots (fun q => N0 ≤ q)) (hRret : q_RR N0 b H0 rho tys D R s args Rel Qc) (hRthr : q_RT N0 b H0 rho tys D R s c hh Rel XC) (hB : ∀ q, q < N0 → s.heap[q]? = H0[q]?) (hhs : q_hok own Rw hs hh js = true) (hcs : qCalls l N0 b H0 rho tys D Lx xs P I ih) (hrw : ∀ (k : Nat) (x : qRow) (K' : List qRow), q_drop Rw k = x :: K' → x.2.1 = 50 → decode cc x.1 = .ok (x.2.2.2.2.2.1, x.2.2.2.2.2.2) ∧ q_opok P I sw own nm cc nL ret Rw K' x.1 50 x.2.2.1 x.2.2.2.1 x.2.2.2.2.1 x.2.2.2.2.2.1 x.2.2.2.2.2.2 = true) (hj : q_drop Rw j = (pc, op, a0, b0, c0, ins, len) :: K) (hd : decode cc pc = .ok (ins, len))
    (ok : q_opok P I sw own nm cc nL ret Rw K pc 39 a0 b0 c0 ins len = true) (hr : Rel (qo_calls P E ih kk d Rw hs pc a0 b0 c0 K L S h) nc ns) (hJ : qJ N0 b H0 rho tys D h H) (hl : ∀ z ∈ locs, N0 ≤ z.base) (hL : qLoc N0 b rho ls nL L) : W p l e R s m args below meth c H locs nc ns Qf (F0 m pc ls (S.map (q_v N0 b rho))) := by
  obtain ⟨hx, hb, hml, hown, hts, hret, hlocks, hnm, htab, hfr, hlo, htr⟩ := id C
  unfold qo_calls at hr
  simp only [q_nth_eq] at hr
  split at hr
  · exact absurd hr (hno _ _ _)
  · next d' =>
    split at hr
    · exact absurd hr (hno _ _ _)
    · next M hM =>
      split at hr
      · next As S' hpop =>
        split at hr
        · next hc =>
          simp only [Bool.and_eq_true] at hc
          obtain ⟨c2, c3⟩ := hc
          have c2 := Nat.le_of_ble_eq_true c2
          have c3 := Nat.le_of_ble_eq_true c3
          simp only [q_opok, Bool.and_eq_true] at ok
          obtain ⟨ox, ok⟩ := ok
          split at ok
          all_goals first | (cases ok; done) | skip
          next idx =>
          simp only [Bool.and_eq_true] at ok
          obtain ⟨o1, ok⟩ := ok
          have o1 := Nat.eq_of_beq_eq_true o1
          subst o1
          split at ok
          all_goals first | (cases ok; done) | skip
          next y cy ry hy j1 j2 j3 j4 hi =>
          rw [q_nth_eq] at hi
          obtain ⟨hmok, hmet⟩ := hcs a0 M _ hM hi
          obtain ⟨m1, m2, m3, m4⟩ := hmok
          obtain ⟨B, b1, b2, b3, b4⟩ := q_pop_ok hpop
          rw [List.append_nil] at b1
          have hlen : As.length = b0 := by rw [b1, List.length_reverse]; exact b3
          have hstk : S.map (q_v N0 b rho) = (As.map (q_v N0 b rho)).reverse ++ S'.map (q_v N0 b rho) := by
            rw [b2, b1]
            simp
          have hln : ∀ v ∈ As, q_lng v = false := fun v hv => b4 v (by rw [b1] at hv; exact List.mem_reverse.mp hv)
          refine q_after_ok (S := S') C Wd hk hno hadd hQf hRthr hhs hj ox (fun _ _ _ _ _ => trivial) hrw hr hl hL (ar := (As.map (q_v N0 b rho)).toArray) (fun g1 g2 g3 => ?_)
          have hm := hmet d' As h _ c3 hln rfl g3
          have hpre : ∀ U : State, U.heap = H → s.WarmedH U.vm → q_Pc N0 b H0 rho tys D Lx xs As h (As.map (q_v N0 b rho)).toArray U := fun U hU hW => ⟨rfl, qWd.moved hW Wd, by rw [hU]; exact hJ⟩
          have hcf : CallFix p m c cc nL s args q_TBL own := ⟨hx, hb, hml, hown, hts⟩
          have hroom : (q_rm d' (ih d' M.2.1 M.2.2 M.2.1 (q_loc M.1 As) [] h)).frames + 1 ≤ R.frames ∧ 8 + (M.1 + 11) + (q_rm d' (ih d' M.2.1 M.2.2 M.2.1 (q_loc M.1 As) [] h)).locals ≤ R.locals := ⟨by show d' + 1 ≤ R.frames; omega, by show 8 + (M.1 + 11) + 32 * d' ≤ R.locals; omega⟩
          have hst8 : 2 * (F0 m pc ls (S.map (q_v N0 b rho))).monitorRoom + ((S'.map (q_v N0 b rho)).map fun v => v.category).sum ≤ 8 := by
            show 0 + _ ≤ 8
            rw [q_cats]; omega
          simp only [Bool.and_eq_true, decide_eq_true_eq] at ok
          obtain ⟨oh, onp, ow1, ow2, ow3⟩ := ok
          have onp := of_decide_eq_true onp
          match hy, m1, hm, oh with
          | [], m1, hm, oh => cases oh
          | z :: w, m1, hm, _ =>
            refine vx_runSX (hh := z :: w) hcf hm ⟨⟨rfl, rfl, hroom.1, hroom.2, pay_in hts (q_goodTBL m1), List.mem_cons_self⟩, hts _ m1, hts _ (q_w_in ow3).1, ⟨m3, m4⟩, fun sig h => ?_, hts _ (q_w_in ow1).1, hts _ (q_w_in ow2).1⟩ ⟨q_blind, hpre⟩ rfl (by rw [List.length_map]) hL.1 hstk hst8 hd ⟨g1, g2⟩
            rw [h] at onp
            exact hlen.trans (Option.some.inj onp).symm
        · exact absurd hr (hno _ _ _)
      · exact absurd hr (hno _ _ _)

theorem qs_iret (C : qCtx p l R s m args meth c own nm cc nL ret hh d) (Wd : qWd N0 b H0 tys D Lx xs s) (hE : qEok E rho) (hX : qScr rho Lx xs) (hk : qKok p l e R s m args below meth c N0 b H0 rho tys D nL Rw Qf Rel kk) (hno : ∀ x nc ns, ¬ Rel (.inr (.inr x)) nc ns) (hadd : qAddR R Rel) (hQf : Qf = vx_MQ below Qc XC args s R.cells R.slots (fun q => N0 ≤ q)) (hRret : q_RR N0 b H0 rho tys D R s args Rel Qc) (hRthr : q_RT N0 b H0 rho tys D R s c hh Rel XC) (hB : ∀ q, q < N0 → s.heap[q]? = H0[q]?) (hhs : q_hok own Rw hs hh js = true) (hcs : qCalls l N0 b H0 rho tys D Lx xs P I ih) (hj : q_drop Rw j = (pc, op, a0, b0, c0, ins, len) :: K) (hd : decode cc pc = .ok (ins, len))
    (ok : q_opok P I sw own nm cc nL ret Rw K pc 40 a0 b0 c0 ins len = true) (hr : Rel (qo_iret P E ih kk d Rw hs pc a0 b0 c0 K L S h) nc ns) (hJ : qJ N0 b H0 rho tys D h H) (hl : ∀ z ∈ locs, N0 ≤ z.base) (hL : qLoc N0 b rho ls nL L) : W p l e R s m args below meth c H locs nc ns Qf (F0 m pc ls (S.map (q_v N0 b rho))) := by
  obtain ⟨hx, hb, hml, hown, hts, hret, hlocks, hnm, htab, hfr, hlo, htr⟩ := id C
  simp only [q_opok, Bool.and_eq_true, decide_eq_true_eq] at ok
  obtain ⟨o1, o2, ok⟩ := ok
  have o1 := Nat.eq_of_beq_eq_true o1
  subst o1; subst o2
  unfold qo_iret at hr
  subst hQf
  split at hr
  · next x =>
    split at hr
    · obtain ⟨g1, g2, g3⟩ := hRret _ _ _ _ hr
      have hrt : meth.sig.returnType = some .int := hret.trans (of_decide_eq_true ok)
      refine W.widen (k := R.cells) (n := R.slots) g1 g2 ?_
      exact vx_ret (W.iret hx hb hrt (fun t ht _ => g3 t (by rw [ht]; exact hJ)) hl hd hlocks)
    · split at hr
      · next hc =>
        obtain ⟨g1, g2, g3⟩ := hRret _ _ _ _ hr
        have hrt : meth.sig.returnType = some .boolean := hret.trans (of_decide_eq_true ok)
        refine W.widen (k := R.cells) (n := R.slots) g1 g2 ?_
        refine vx_ret (W.zret hx hb hrt ?_ (fun t ht _ => g3 t (by rw [ht]; exact hJ)) hl hd hlocks)
        exact (q_fit_ok (N0 := N0) (b := b) (rho := rho) (ty := .boolean) (tc := 1) (v := .inl x) rfl hc).1
      · exact absurd hr (hno _ _ _)
    · exact absurd hr (hno _ _ _)
  · exact absurd hr (hno _ _ _)

theorem qs_aret (C : qCtx p l R s m args meth c own nm cc nL ret hh d) (Wd : qWd N0 b H0 tys D Lx xs s) (hE : qEok E rho) (hX : qScr rho Lx xs) (hk : qKok p l e R s m args below meth c N0 b H0 rho tys D nL Rw Qf Rel kk) (hno : ∀ x nc ns, ¬ Rel (.inr (.inr x)) nc ns) (hadd : qAddR R Rel) (hQf : Qf = vx_MQ below Qc XC args s R.cells R.slots (fun q => N0 ≤ q)) (hRret : q_RR N0 b H0 rho tys D R s args Rel Qc) (hRthr : q_RT N0 b H0 rho tys D R s c hh Rel XC) (hB : ∀ q, q < N0 → s.heap[q]? = H0[q]?) (hhs : q_hok own Rw hs hh js = true) (hcs : qCalls l N0 b H0 rho tys D Lx xs P I ih) (hj : q_drop Rw j = (pc, op, a0, b0, c0, ins, len) :: K) (hd : decode cc pc = .ok (ins, len))
    (ok : q_opok P I sw own nm cc nL ret Rw K pc 41 a0 b0 c0 ins len = true) (hr : Rel (qo_aret P E ih kk d Rw hs pc a0 b0 c0 K L S h) nc ns) (hJ : qJ N0 b H0 rho tys D h H) (hl : ∀ z ∈ locs, N0 ≤ z.base) (hL : qLoc N0 b rho ls nL L) : W p l e R s m args below meth c H locs nc ns Qf (F0 m pc ls (S.map (q_v N0 b rho))) := by
  obtain ⟨hx, hb, hml, hown, hts, hret, hlocks, hnm, htab, hfr, hlo, htr⟩ := id C
  simp only [q_opok, Bool.and_eq_true, decide_eq_true_eq] at ok
  obtain ⟨o1, o2, ok⟩ := ok
  have o1 := Nat.eq_of_beq_eq_true o1
  subst o1; subst o2
  unfold qo_aret at hr
  subst hQf
  split at hr
  · next r =>
    obtain ⟨g1, g2, g3⟩ := hRret _ _ _ _ hr
    refine W.widen (k := R.cells) (n := R.slots) g1 g2 ?_
    have hv : va_rf (q_r N0 b r) = .null ∨ ∃ a, va_rf (q_r N0 b r) = .ref a := by cases r <;> simp [q_r, va_rf]
    split at ok
    · exact vx_ret (W.aret hx hb hret (Or.inl ⟨_, rfl⟩) hv (fun t ht _ => g3 t (by rw [ht]; exact hJ)) hl hd hlocks)
    · exact vx_ret (W.aret hx hb hret (Or.inr ⟨_, rfl⟩) hv (fun t ht _ => g3 t (by rw [ht]; exact hJ)) hl hd hlocks)
    · cases ok
  · exact absurd hr (hno _ _ _)

theorem qs_vret (C : qCtx p l R s m args meth c own nm cc nL ret hh d) (Wd : qWd N0 b H0 tys D Lx xs s) (hE : qEok E rho) (hX : qScr rho Lx xs) (hk : qKok p l e R s m args below meth c N0 b H0 rho tys D nL Rw Qf Rel kk) (hno : ∀ x nc ns, ¬ Rel (.inr (.inr x)) nc ns) (hadd : qAddR R Rel) (hQf : Qf = vx_MQ below Qc XC args s R.cells R.slots (fun q => N0 ≤ q)) (hRret : q_RR N0 b H0 rho tys D R s args Rel Qc) (hRthr : q_RT N0 b H0 rho tys D R s c hh Rel XC) (hB : ∀ q, q < N0 → s.heap[q]? = H0[q]?) (hhs : q_hok own Rw hs hh js = true) (hcs : qCalls l N0 b H0 rho tys D Lx xs P I ih) (hj : q_drop Rw j = (pc, op, a0, b0, c0, ins, len) :: K) (hd : decode cc pc = .ok (ins, len))
    (ok : q_opok P I sw own nm cc nL ret Rw K pc 42 a0 b0 c0 ins len = true) (hr : Rel (qo_vret P E ih kk d Rw hs pc a0 b0 c0 K L S h) nc ns) (hJ : qJ N0 b H0 rho tys D h H) (hl : ∀ z ∈ locs, N0 ≤ z.base) (hL : qLoc N0 b rho ls nL L) : W p l e R s m args below meth c H locs nc ns Qf (F0 m pc ls (S.map (q_v N0 b rho))) := by
  obtain ⟨hx, hb, hml, hown, hts, hret, hlocks, hnm, htab, hfr, hlo, htr⟩ := id C
  simp only [q_opok, Bool.and_eq_true, decide_eq_true_eq] at ok
  obtain ⟨o1, o2, ok⟩ := ok
  have o1 := Nat.eq_of_beq_eq_true o1
  subst o1; subst o2
  unfold qo_vret at hr
  subst hQf
  split at hr
  · obtain ⟨g1, g2, g3⟩ := hRret _ _ _ _ hr
    refine W.widen (k := R.cells) (n := R.slots) g1 g2 ?_
    exact vx_ret (W.vret hx hb (hret.trans ok) (fun t ht _ => g3 t (by rw [ht]; exact hJ)) hl hd hlocks)
  · exact absurd hr (hno _ _ _)

theorem qs_throw (C : qCtx p l R s m args meth c own nm cc nL ret hh d) (Wd : qWd N0 b H0 tys D Lx xs s) (hE : qEok E rho) (hX : qScr rho Lx xs) (hk : qKok p l e R s m args below meth c N0 b H0 rho tys D nL Rw Qf Rel kk) (hno : ∀ x nc ns, ¬ Rel (.inr (.inr x)) nc ns) (hadd : qAddR R Rel) (hQf : Qf = vx_MQ below Qc XC args s R.cells R.slots (fun q => N0 ≤ q)) (hRret : q_RR N0 b H0 rho tys D R s args Rel Qc) (hRthr : q_RT N0 b H0 rho tys D R s c hh Rel XC) (hB : ∀ q, q < N0 → s.heap[q]? = H0[q]?) (hhs : q_hok own Rw hs hh js = true) (hcs : qCalls l N0 b H0 rho tys D Lx xs P I ih) (hj : q_drop Rw j = (pc, op, a0, b0, c0, ins, len) :: K) (hd : decode cc pc = .ok (ins, len))
    (ok : q_opok P I sw own nm cc nL ret Rw K pc 43 a0 b0 c0 ins len = true) (hr : Rel (qo_throw P E ih kk d Rw hs pc a0 b0 c0 K L S h) nc ns) (hJ : qJ N0 b H0 rho tys D h H) (hl : ∀ z ∈ locs, N0 ≤ z.base) (hL : qLoc N0 b rho ls nL L) : W p l e R s m args below meth c H locs nc ns Qf (F0 m pc ls (S.map (q_v N0 b rho))) := by
  obtain ⟨hx, hb, hml, hown, hts, hret, hlocks, hnm, htab, hfr, hlo, htr⟩ := id C
  simp only [q_opok] at ok
  split at ok
  all_goals first | (cases ok; done) | skip
  next ik =>
  simp only [Bool.and_eq_true] at ok
  obtain ⟨o1, ok⟩ := ok
  have o1 := Nat.eq_of_beq_eq_true o1
  subst o1
  split at ok
  all_goals first | (cases ok; done) | skip
  next X0 hX0 =>
  split at ok
  all_goals first | (cases ok; done) | skip
  next ji hji =>
  simp only [Bool.and_eq_true, decide_eq_true_eq] at ok
  obtain ⟨od3, od4, od7, ow1, ow2, ow3⟩ := ok
  rw [q_nth_eq] at hX0
  have hXm : X0 ∈ q_exc := List.mem_of_getElem? hX0
  unfold qo_throw at hr
  split at hr
  · next hc =>
    simp only [Bool.and_eq_true] at hc
    have c1 := Nat.le_of_ble_eq_true hc.1
    have c2 := Nat.le_of_ble_eq_true hc.2
    split at hr
    · obtain ⟨g1, g2, gT, g3⟩ := hRthr _ _ _ _ _ _ hr
      have hh0 : hh = [] := by cases hh with
        | nil => rfl
        | cons y z => cases hhs
      subst hQf
      intro T hT XS
      have hsz : s.heap.size ≤ H.size := by rw [← hT]; exact XS.same.2.1
      have hZ : ∀ {n dd : String}, vx_Zq Bundle.tN n dd (fun q => N0 ≤ q) s H0 → vx_Zq Bundle.tN n dd (fun q => N0 ≤ q) s s.heap := fun hz => hz.kept (fun a ha hna => hB a (by have := Wd.2.2.2.2.1; omega))
      unfold q_thr at ow3
      simp only [Bool.and_eq_true] at ow3
      obtain ⟨⟨t1, t2⟩, t3⟩ := ow3
      have hat : ∀ w ∈ vx_at0 own c0 X0 q_names, w.before args s = true := fun w hw => by
        by_cases hg : goodWord w = true
        · have h1 := List.all_eq_true.mp t1 w (List.mem_filter.mpr ⟨hw, hg⟩)
          exact hts w (List.mem_filter.mpr ⟨of_decide_eq_true h1, hg⟩)
        · have h1 := List.all_eq_true.mp t2 w (List.mem_filter.mpr ⟨hw, by simpa using hg⟩)
          rcases Bool.or_eq_true_iff.mp h1 with h1 | h1
          · rw [of_decide_eq_true h1]
            exact va_Nw.use rfl (Wd.2.2.2.2.2.2.2.2.1.1 X0 hXm)
          · obtain ⟨y, hy, h2⟩ := List.any_eq_true.mp h1
            rw [of_decide_eq_true h2]
            exact va_Nw.use rfl (Wd.2.2.2.2.2.2.2.2.1.2 y hy)
      have hgd : ∀ w ∈ Jvm.Cond.classLink own ik X0 :: Jvm.Cond.initialized X0 :: vx_at0 own c0 X0 q_names, vx_ot w = true := fun w hw => by
        rcases List.mem_cons.mp hw with rfl | hw
        · rfl
        · rcases List.mem_cons.mp hw with rfl | hw
          · rfl
          · exact List.all_eq_true.mp t3 w hw
      have hfit : Bundle.fit X0 = true := by
        have : q_exc.all Bundle.fit = true := by decide +kernel
        exact List.all_eq_true.mp this X0 hXm
      refine vx_throw0 (cls := X0) (names := q_names) (A := fun q => N0 ≤ q) hx hb htr hown hfit (by decide +kernel) (hts _ (q_w_in ow1).1) (hts _ (q_w_in ow2).1) hat hgd (hZ Wd.2.2.2.2.2.1) (hZ Wd.2.2.2.2.2.2.1) ⟨hsz, fun q h1 h2 => (hJ.1 q (Nat.not_le.mp h2)).trans (hB q (Nat.not_le.mp h2)).symm, hl⟩ (by rw [hml]; exact hL.1) hd od3 od4 od7 (fun x hx => by rw [gT hh0] at hx; cases hx) (by show 2 + 3 < R.frames; omega) ?_ g1 g2 hlocks (fun t _ k1 k2 => g3 t X0 hX0 (hJ.grow k1 k2)) hl g1 g2 T hT XS
      rw [q_cats]
      show _ + (13 * (2 + 1) + 42) ≤ R.locals
      omega
    · exact absurd hr (hno _ _ _)
  · exact absurd hr (hno _ _ _)

theorem qs_switch (C : qCtx p l R s m args meth c own nm cc nL ret hh d) (Wd : qWd N0 b H0 tys D Lx xs s) (hE : qEok E rho) (hX : qScr rho Lx xs) (hk : qKok p l e R s m args below meth c N0 b H0 rho tys D nL Rw Qf Rel kk) (hno : ∀ x nc ns, ¬ Rel (.inr (.inr x)) nc ns) (hadd : qAddR R Rel) (hQf : Qf = vx_MQ below Qc XC args s R.cells R.slots (fun q => N0 ≤ q)) (hRret : q_RR N0 b H0 rho tys D R s args Rel Qc) (hRthr : q_RT N0 b H0 rho tys D R s c hh Rel XC) (hB : ∀ q, q < N0 → s.heap[q]? = H0[q]?) (hhs : q_hok own Rw hs hh js = true) (hcs : qCalls l N0 b H0 rho tys D Lx xs P I ih) (hj : q_drop Rw j = (pc, op, a0, b0, c0, ins, len) :: K) (hd : decode cc pc = .ok (ins, len))
    (ok : q_opok P I sw own nm cc nL ret Rw K pc 44 a0 b0 c0 ins len = true) (hr : Rel (qo_switch sw P E ih kk d Rw hs pc a0 b0 c0 K L S h) nc ns) (hJ : qJ N0 b H0 rho tys D h H) (hl : ∀ z ∈ locs, N0 ≤ z.base) (hL : qLoc N0 b rho ls nL L) : W p l e R s m args below meth c H locs nc ns Qf (F0 m pc ls (S.map (q_v N0 b rho))) := by
  obtain ⟨hx, hb, hml, hown, hts, hret, hlocks, hnm, htab, hfr, hlo, htr⟩ := id C
  simp only [q_opok] at ok
  split at ok
  all_goals first | (cases ok; done) | skip
  next dflt lo hi offs =>
  simp only [Bool.and_eq_true, decide_eq_true_eq] at ok
  obtain ⟨o1, o2, o3, o4, o5⟩ := ok
  subst o1; subst o2
  unfold qo_switch at hr
  simp only [q_nth_eq] at hr
  split at hr
  · next x S' =>
    split at hr
    · next q hq =>
      obtain ⟨j0, g1, g2, g3, g4⟩ := q_ix_ok hE x hq
      show W p l e R s m args below meth c H locs nc ns Qf (F0 m pc ls (.int (q_i rho x) :: S'.map (q_v N0 b rho)))
      rw [g1]
      split at hr
      · next hc =>
        have hc := Nat.eq_of_beq_eq_true hc
        have hj0 : j0 = q.1 := by omega
        subst hj0
        have hti : (nI q.1).toInt = (q.1 : Int) := nI_toInt g4
        split at hr
        · next t ht =>
          have hlt : q.1 < 31 := by rw [← o4]; exact (List.getElem?_eq_some_iff.mp ht).1
          have h5 := List.all_eq_true.mp o5 q.1 (List.mem_range.mpr hlt)
          rw [q_nth_eq, ht] at h5
          dsimp only at h5
          split at h5
          · next off hoff =>
            obtain ⟨tgt, ht2, hn⟩ := q_jump hk h5 hr hJ hl hL
            exact lv_tableIn hx hb hd (by rw [hti]; omega) (by rw [hti]; omega) (off := off) (by rw [hti]; simpa using hoff) ht2 hn
          · cases h5
        · next ht =>
          have hge : 31 ≤ q.1 := by rw [← o4]; exact List.getElem?_eq_none_iff.mp ht
          obtain ⟨tgt, ht2, hn⟩ := q_jump hk o3 hr hJ hl hL
          exact lv_tableOut hx hb hd (by rw [hti]; omega) ht2 hn
      · exact absurd hr (q_ask_no hno)
    · exact absurd hr (hno _ _ _)
  · exact absurd hr (hno _ _ _)
end QC
end
section
/-! THE EVALUATOR IS SOUND -/
theorem q_roks_at {P : List qM} {I : List qInf} {sw : List Nat} {own nm : String} {cc : ByteArray} {nL : Nat} {ret : Option FieldType} {R : List qRow} : ∀ {Rw : List qRow}, q_roks P I sw own nm cc nL ret R Rw = true → ∀ {j : Nat} {r : qRow} {K : List qRow}, q_drop Rw j = r :: K → q_rok P I sw own nm cc nL ret R r K = true
  | [], _, j, r, K, hj => by cases j <;> cases hj
  | x :: Rw, h, j, r, K, hj => by
    simp only [q_roks, Bool.and_eq_true] at h
    cases j with
    | zero =>
      cases hj
      exact h.1
    | succ j => exact q_roks_at h.2 hj
def qFacts (P : List qM) (I : List qInf) (sw : List Nat) : Prop := ∀ (k : Nat) (M : qM) (i : qInf), P[k]? = some M → I[k]? = some i →
  qMok M.1 i ∧ q_roks P I sw i.1.cls i.1.name i.2.1 M.1 i.2.2.1 M.2.1 M.2.1 = true ∧ (∃ js, q_hok i.1.cls M.2.1 M.2.2 i.2.2.2.1 js = true) ∧ plainName i.1.cls = true ∧ ∃ r K, M.2.1 = r :: K ∧ r.1 = 0
def qFrame (l : Launch) (N0 b : Nat) (H0 : Heap) (rho : Nat → Nat) (tys : List (ClassId × FieldType)) (D : va_G) (Lx : Nat) (xs : Nat → Int32) (P : List qM) (I : List qInf) (sw : List Nat) (E : qEnv) (n : Nat) : Prop :=
  ∀ (p : Program) (e : Env) (R : Room) (s : State) (m : MethodId) (args : Array Value) (below : List Frame) (meth : Method) (c : Code) (own nm : String) (cc : ByteArray) (nL : Nat) (ret : Option FieldType) (hh : List (Nat × Nat × Nat × Nat)) (d : Nat) (Rw : List qRow) (hs : List qHd) (js : List Nat) (Qf : State → Prop) (Qc : Array Value → State → Outcome → State → Prop) (XC : String → State → State → Prop) (Rel : qRes → Nat → Nat → Prop),
    qCtx p l R s m args meth c own nm cc nL ret hh d → qWd N0 b H0 tys D Lx xs s → (∀ q, q < N0 → s.heap[q]? = H0[q]?) → q_roks P I sw own nm cc nL ret Rw Rw = true → q_hok own Rw hs hh js = true → (∀ x nc ns, ¬ Rel (.inr (.inr x)) nc ns) → qAddR R Rel → Qf = vx_MQ below Qc XC args s R.cells R.slots (fun q => N0 ≤ q) → q_RR N0 b H0 rho tys D R s args Rel Qc → q_RT N0 b H0 rho tys D R s c hh Rel XC →
    qKok p l e R s m args below meth c N0 b H0 rho tys D nL Rw Qf Rel (qRun sw P E n d Rw hs)
def q_RelT (R : Room) (r0 : qRes) (r : qRes) (nc ns : Nat) : Prop := (∃ z, q_core r = some z) ∧ q_core r = q_core r0 ∧ nc + q_mc r ≤ R.cells ∧ ns + q_ms r ≤ R.slots
theorem q_core_add (dc ds : Nat) (r : qRes) : q_core (q_add1 dc ds r) = q_core r := by
  rcases r with ⟨v, h, a, b⟩ | ⟨X, h, a, b⟩ | x <;> rfl
theorem q_mc_add (dc ds : Nat) (r : qRes) (h : ∃ z, q_core r = some z) : q_mc (q_add1 dc ds r) = dc + q_mc r ∧ q_ms (q_add1 dc ds r) = ds + q_ms r := by
  rcases r with ⟨v, h, a, b⟩ | ⟨X, h, a, b⟩ | x
  · exact ⟨rfl, rfl⟩
  · exact ⟨rfl, rfl⟩
  · obtain ⟨z, hz⟩ := h; cases hz
theorem lv_args_at : ∀ (vs : List Value) (k : Nat), (∀ v ∈ vs, v.category = 1) → ∀ (i : Nat) (w : Value), vs[i]? = some w → (k + i, w) ∈ lv_args k vs
  | [], _, _, i, w, h => by simp at h
  | v :: vs, k, hc, i, w, h => by
    have h1 : ¬ v.category = 2 := by rw [hc v List.mem_cons_self]; decide
    simp only [lv_args, h1, if_false]
    cases i with
    | zero => cases h; exact List.mem_cons_self
    | succ i =>
      rw [List.getElem?_cons_succ] at h
      have := lv_args_at vs (k + 1) (fun v hv => hc v (List.mem_cons_of_mem _ hv)) i w h
      rw [show k + 1 + i = k + (i + 1) by omega] at this
      exact List.mem_cons_of_mem _ this
theorem lg_sl_len : ∀ (vs : List Value), (∀ v ∈ vs, v.category = 1) → (lg_sl vs).length = vs.length
  | [], _ => rfl
  | v :: vs, hc => by
    have h1 : ¬ v.category = 2 := by rw [hc v List.mem_cons_self]; decide
    have := lg_sl_len vs (fun v hv => hc v (List.mem_cons_of_mem _ hv))
    unfold lg_sl at this ⊢
    simp only [List.flatMap_cons, h1, if_false, List.length_append, this, List.length_cons]
    simp; omega
theorem q_loc_ok {N0 b : Nat} {rho : Nat → Nat} {nL : Nat} {As : List qV} (hn : As.length ≤ nL) (hc : ∀ v ∈ As, q_lng v = false) : qLoc N0 b rho ((lg_sl (As.map (q_v N0 b rho)) ++ List.replicate (nL - (lg_sl (As.map (q_v N0 b rho))).length) Slot.unset).toArray) nL (q_loc nL As) := by
  have hc1 : ∀ v ∈ As.map (q_v N0 b rho), v.category = 1 := fun v hv => by
    obtain ⟨w, hw, rfl⟩ := List.mem_map.mp hv
    exact q_lngc (hc w hw)
  have hlen := lg_sl_len _ hc1
  rw [List.length_map] at hlen
  have hl := lv_entry (As.map (q_v N0 b rho)) (n := nL) (by rw [hlen]; exact hn)
  refine ⟨hl.1, hl.2.1, fun i v hi => ?_⟩
  have h1 : As[i]? = some v := by
    unfold q_loc at hi
    by_cases hlt : i < As.length
    · rw [List.getElem?_append_left (by rw [List.length_map]; exact hlt), List.getElem?_map] at hi
      cases hA : As[i]? with
      | none => rw [hA] at hi; cases hi
      | some w => rw [hA] at hi; exact Option.some.inj hi
    · rw [List.getElem?_append_right (by rw [List.length_map]; omega), List.getElem?_replicate] at hi
      split at hi <;> cases hi
  have h2 : (As.map (q_v N0 b rho))[i]? = some (q_v N0 b rho v) := by rw [List.getElem?_map, h1]; rfl
  have h3 := lv_args_at _ 0 hc1 i _ h2
  rw [Nat.zero_add] at h3
  exact ⟨hl.2.2 (i, q_v N0 b rho v) h3, hc v (List.mem_of_getElem? h1)⟩
section QONE
variable {p : Program} {l : Launch} {e : Env} {R : Room} {s : State} {m : MethodId} {args : Array Value} {below : List Frame} {meth : Method} {c : Code}
variable {N0 b : Nat} {H0 : Heap} {rho : Nat → Nat} {tys : List (ClassId × FieldType)} {D : va_G} {Lx : Nat} {xs : Nat → Int32}
variable {own nm : String} {cc : ByteArray} {nL : Nat} {ret : Option FieldType} {hh : List (Nat × Nat × Nat × Nat)} {d : Nat}
variable {Rw : List qRow} {hs : List qHd} {P : List qM} {I : List qInf} {sw : List Nat} {E : qEnv} {ih : qIh} {kk : qKk}
variable {Qf : State → Prop} {Rel : qRes → Nat → Nat → Prop}
variable {j pc op a0 b0 c0 len : Nat} {ins : Instr} {K : List qRow} {L : qL} {S : List qV} {h : qHp} {nc ns : Nat} {H : Heap} {locs : List Loc} {ls : Array Slot}
variable {Qc : Array Value → State → Outcome → State → Prop} {XC : String → State → State → Prop} {js : List Nat}
set_option maxHeartbeats 4000000 in
theorem q_one (C : qCtx p l R s m args meth c own nm cc nL ret hh d) (Wd : qWd N0 b H0 tys D Lx xs s) (hE : qEok E rho) (hX : qScr rho Lx xs) (hkk : qKok p l e R s m args below meth c N0 b H0 rho tys D nL Rw Qf Rel kk) (hno : ∀ x nc ns, ¬ Rel (.inr (.inr x)) nc ns) (hadd : qAddR R Rel) (hQf : Qf = vx_MQ below Qc XC args s R.cells R.slots (fun q => N0 ≤ q)) (hRret : q_RR N0 b H0 rho tys D R s args Rel Qc) (hRthr : q_RT N0 b H0 rho tys D R s c hh Rel XC) (hB : ∀ q, q < N0 → s.heap[q]? = H0[q]?) (hhs : q_hok own Rw hs hh js = true) (hcs : qCalls l N0 b H0 rho tys D Lx xs P I ih) (hroks : q_roks P I sw own nm cc nL ret Rw Rw = true) {r : qRow} (hK : q_drop Rw j = r :: K) (hr : Rel (q_step sw r.2.1 P E ih kk d Rw hs r.1 r.2.2.1 r.2.2.2.1 r.2.2.2.2.1 K L S h) nc ns) (hJ : qJ N0 b H0 rho tys D h H) (hl : ∀ z ∈ locs, N0 ≤ z.base) (hL : qLoc N0 b rho ls nL L) : W p l e R s m args below meth c H locs nc ns Qf (F0 m r.1 ls (S.map (q_v N0 b rho))) := by
  have hrw : ∀ (k : Nat) (x : qRow) (K' : List qRow), q_drop Rw k = x :: K' → x.2.1 = 50 → decode cc x.1 = .ok (x.2.2.2.2.2.1, x.2.2.2.2.2.2) ∧ q_opok P I sw own nm cc nL ret Rw K' x.1 50 x.2.2.1 x.2.2.2.1 x.2.2.2.2.1 x.2.2.2.2.2.1 x.2.2.2.2.2.2 = true := by
    intro k x K' hk h50
    have h1 := q_roks_at hroks hk
    unfold q_rok at h1
    rw [h50] at h1
    simp only [show Nat.blt 50 51 = true from rfl, Bool.and_eq_true, decide_eq_true_eq] at h1
    exact h1
  obtain ⟨pc, op, a0, b0, c0, ins, len⟩ := r
  have hrow := q_roks_at hroks hK
  have hr : Rel (q_step sw op P E ih kk d Rw hs pc a0 b0 c0 K L S h) nc ns := hr
  show W p l e R s m args below meth c H locs nc ns Qf (F0 m pc ls (S.map (q_v N0 b rho)))
  rcases Nat.lt_or_ge op 51 with hop | hop
  · unfold q_rok at hrow
    dsimp only at hrow
    rw [Nat.blt_eq.mpr hop] at hrow
    simp only [Bool.and_eq_true, decide_eq_true_eq] at hrow
    obtain ⟨hd, ok⟩ := hrow
    match op, hop, ok, hr, hK with
    | 0, _, ok, hr, hK => exact qs_const (ih := ih) (hs := hs) C Wd hE hX hkk hno hadd hK hd ok hr hJ hl hL
    | 1, _, ok, hr, hK => exact qs_iload (ih := ih) (hs := hs) C Wd hE hX hkk hno hadd hK hd ok hr hJ hl hL
    | 2, _, ok, hr, hK => exact qs_istore (ih := ih) (hs := hs) C Wd hE hX hkk hno hadd hK hd ok hr hJ hl hL
    | 3, _, ok, hr, hK => exact qs_iinc (ih := ih) (hs := hs) C Wd hE hX hkk hno hadd hK hd ok hr hJ hl hL
    | 4, _, ok, hr, hK => exact qs_add (ih := ih) (hs := hs) C Wd hE hX hkk hno hadd hK hd ok hr hJ hl hL
    | 5, _, ok, hr, hK => exact qs_sub (ih := ih) (hs := hs) C Wd hE hX hkk hno hadd hK hd ok hr hJ hl hL
    | 6, _, ok, hr, hK => exact qs_mul (ih := ih) (hs := hs) C Wd hE hX hkk hno hadd hK hd ok hr hJ hl hL
    | 7, _, ok, hr, hK => exact qs_and (ih := ih) (hs := hs) C Wd hE hX hkk hno hadd hK hd ok hr hJ hl hL
    | 8, _, ok, hr, hK => exact qs_or (ih := ih) (hs := hs) C Wd hE hX hkk hno hadd hK hd ok hr hJ hl hL
    | 9, _, ok, hr, hK => exact qs_xor (ih := ih) (hs := hs) C Wd hE hX hkk hno hadd hK hd ok hr hJ hl hL
    | 10, _, ok, hr, hK => exact qs_shl (ih := ih) (hs := hs) C Wd hE hX hkk hno hadd hK hd ok hr hJ hl hL
    | 11, _, ok, hr, hK => exact qs_null (ih := ih) (hs := hs) C Wd hE hX hkk hno hadd hK hd ok hr hJ hl hL
    | 12, _, ok, hr, hK => exact qs_dup (ih := ih) (hs := hs) C Wd hE hX hkk hno hadd hK hd ok hr hJ hl hL
    | 13, _, ok, hr, hK => exact qs_pop (ih := ih) (hs := hs) C Wd hE hX hkk hno hadd hK hd ok hr hJ hl hL
    | 14, _, ok, hr, hK => exact qs_if (ih := ih) (hs := hs) C Wd hE hX hkk hno hadd hK hd ok hr hJ hl hL
    | 15, _, ok, hr, hK => exact qs_icmp (ih := ih) (hs := hs) C Wd hE hX hkk hno hadd hK hd ok hr hJ hl hL
    | 16, _, ok, hr, hK => exact qs_ifnull (ih := ih) (hs := hs) C Wd hE hX hkk hno hadd hK hd ok hr hJ hl hL
    | 17, _, ok, hr, hK => exact qs_ifnonnull (ih := ih) (hs := hs) C Wd hE hX hkk hno hadd hK hd ok hr hJ hl hL
    | 18, _, ok, hr, hK => exact qs_acmpeq (ih := ih) (hs := hs) C Wd hE hX hkk hno hadd hK hd ok hr hJ hl hL
    | 19, _, ok, hr, hK => exact qs_acmpne (ih := ih) (hs := hs) C Wd hE hX hkk hno hadd hK hd ok hr hJ hl hL
    | 20, _, ok, hr, hK => exact qs_goto (ih := ih) (hs := hs) C Wd hE hX hkk hno hadd hK hd ok hr hJ hl hL
    | 21, _, ok, hr, hK => exact qs_getf (ih := ih) (hs := hs) C Wd hE hX hkk hno hadd hK hd ok hr hJ hl hL
    | 22, _, ok, hr, hK => exact qs_putf (ih := ih) (hs := hs) C Wd hE hX hkk hno hadd hK hd ok hr hJ hl hL
    | 23, _, ok, hr, hK => exact qs_alen (ih := ih) (hs := hs) C Wd hE hX hkk hno hadd hK hd ok hr hJ hl hL
    | 24, _, ok, hr, hK => exact qs_iald (ih := ih) (hs := hs) C Wd hE hX hkk hno hadd hK hd ok hr hJ hl hL
    | 25, _, ok, hr, hK => exact qs_iast (ih := ih) (hs := hs) C Wd hE hX hkk hno hadd hK hd ok hr hJ hl hL
    | 26, _, ok, hr, hK => exact qs_lald (ih := ih) (hs := hs) C Wd hE hX hkk hno hadd hK hd ok hr hJ hl hL
    | 27, _, ok, hr, hK => exact qs_last (ih := ih) (hs := hs) C Wd hE hX hkk hno hadd hK hd ok hr hJ hl hL
    | 28, _, ok, hr, hK => exact qs_aald (ih := ih) (hs := hs) C Wd hE hX hkk hno hadd hK hd ok hr hJ hl hL
    | 29, _, ok, hr, hK => exact qs_aast (ih := ih) (hs := hs) C Wd hE hX hkk hno hadd hK hd ok hr hJ hl hL
    | 30, _, ok, hr, hK => exact qs_newa (ih := ih) (hs := hs) C Wd hE hX hkk hno hadd hK hd ok hr hJ hl hL
    | 31, _, ok, hr, hK => exact qs_anew (ih := ih) (hs := hs) C Wd hE hX hkk hno hadd hK hd ok hr hJ hl hL
    | 32, _, ok, hr, hK => exact qs_multi (ih := ih) (hs := hs) C Wd hE hX hkk hno hadd hK hd ok hr hJ hl hL
    | 33, _, ok, hr, hK => exact qs_new (ih := ih) (hs := hs) C Wd hE hX hkk hno hadd hK hd ok hr hJ hl hL
    | 34, _, ok, hr, hK => exact qs_objinit (ih := ih) (hs := hs) C Wd hE hX hkk hno hadd hK hd ok hr hJ hl hL
    | 35, _, ok, hr, hK => exact qs_callv (ih := ih) (hs := hs) C Wd hE hX hkk hno hadd hQf hRret hRthr hB hhs hcs hrw hK hd ok hr hJ hl hL
    | 36, _, ok, hr, hK => exact qs_calls (ih := ih) (hs := hs) C Wd hE hX hkk hno hadd hQf hRret hRthr hB hhs hcs hrw hK hd ok hr hJ hl hL
    | 37, _, ok, hr, hK => exact qs_calli (ih := ih) (hs := hs) C Wd hE hX hkk hno hadd hQf hRret hRthr hB hhs hcs hrw hK hd ok hr hJ hl hL
    | 38, _, ok, hr, hK => exact qs_callin (ih := ih) (hs := hs) C Wd hE hX hkk hno hadd hQf hRret hRthr hB hhs hcs hrw hK hd ok hr hJ hl hL
    | 39, _, ok, hr, hK => exact qs_callsw (ih := ih) (hs := hs) C Wd hE hX hkk hno hadd hQf hRret hRthr hB hhs hcs hrw hK hd ok hr hJ hl hL
    | 40, _, ok, hr, hK => exact qs_iret (ih := ih) (hs := hs) C Wd hE hX hkk hno hadd hQf hRret hRthr hB hhs hcs hK hd ok hr hJ hl hL
    | 41, _, ok, hr, hK => exact qs_aret (ih := ih) (hs := hs) C Wd hE hX hkk hno hadd hQf hRret hRthr hB hhs hcs hK hd ok hr hJ hl hL
    | 42, _, ok, hr, hK => exact qs_vret (ih := ih) (hs := hs) C Wd hE hX hkk hno hadd hQf hRret hRthr hB hhs hcs hK hd ok hr hJ hl hL
    | 43, _, ok, hr, hK => exact qs_throw (ih := ih) (hs := hs) C Wd hE hX hkk hno hadd hQf hRret hRthr hB hhs hcs hK hd ok hr hJ hl hL
    | 44, _, ok, hr, hK => exact qs_switch (ih := ih) (hs := hs) C Wd hE hX hkk hno hadd hQf hRret hRthr hB hhs hcs hK hd ok hr hJ hl hL
    | 45, _, ok, hr, hK => exact qs_i2l (ih := ih) (hs := hs) C Wd hE hX hkk hno hadd hK hd ok hr hJ hl hL
    | 46, _, ok, hr, hK => exact qs_lcmp (ih := ih) (hs := hs) C Wd hE hX hkk hno hadd hK hd ok hr hJ hl hL
    | 47, _, ok, hr, hK => exact qs_lconst (ih := ih) (hs := hs) C Wd hE hX hkk hno hadd hK hd ok hr hJ hl hL
    | 48, _, ok, hr, hK => exact qs_rem (ih := ih) (hs := hs) C Wd hE hX hkk hno hadd hK hd ok hr hJ hl hL
    | 49, _, ok, hr, hK => exact qs_aload (ih := ih) (hs := hs) C Wd hE hX hkk hno hadd hK hd ok hr hJ hl hL
    | 50, _, ok, hr, hK => exact qs_astore (ih := ih) (hs := hs) C Wd hE hX hkk hno hadd hK hd ok hr hJ hl hL
    | n + 51, hop, _, _, _ => exact absurd hop (by omega)
  · have : q_step sw op = qo_bad := by
      obtain ⟨k, rfl⟩ : ∃ k, op = k + 51 := ⟨op - 51, by omega⟩
      rfl
    rw [this] at hr
    exact absurd hr (hno _ _ _)
end QONE
section QMN
variable {l : Launch} {N0 b : Nat} {H0 : Heap} {rho : Nat → Nat} {tys : List (ClassId × FieldType)} {D : va_G} {Lx : Nat} {xs : Nat → Int32} {P : List qM} {I : List qInf} {sw : List Nat} {E : qEnv} {n : Nat}
theorem q_calls_of (htr : l.stackTraces = false) (hPI : qFacts P I sw) (IH : qFrame l N0 b H0 rho tys D Lx xs P I sw E n) : qCalls l N0 b H0 rho tys D Lx xs P I (qRun sw P E n) := by
  intro k M i hM hi
  obtain ⟨hok, hroks, ⟨js, hhok⟩, hpl, r0, K0, hR0, hr0⟩ := hPI k M i hM hi
  refine ⟨hok, fun d As h r hAs hAc hrun hgood => ?_⟩
  obtain ⟨y, cy, ry, hy, j1, j2, j3, j4⟩ := i
  obtain ⟨nL, Rw, hs⟩ := M
  dsimp only at hok hroks hhok hpl hR0 hrun hAs
  have main : ∀ (p : Program) (e : Env) (s : State) (m : MethodId) (args : Array Value) (below : List Frame) (meth : Method) (c : Code) (s₁ : State), BodyLoose p l y (headSpec (q_code y cy nL ry hy :: q_TBL) (q_rm d r)) cy nL ry e s m args below meth c s₁ → c.maxLocals = nL → (hy ≠ [] → c.exceptionTable.toList = tableOf hy) → (hy = [] → c.exceptionTable.toList = []) → q_Pc N0 b H0 rho tys D Lx xs As h args s →
      W p l e (headSpec (q_code y cy nL ry hy :: q_TBL) (q_rm d r)).room s m args below meth c s.heap [] 0 0 (vx_MQ below (q_Qc N0 b H0 rho tys D r) (q_XC N0 b H0 rho tys D r) args s (q_mc r) (q_ms r) (fun q => N0 ≤ q)) (entryFrame m args nL) := by
    intro p e s m args below meth c s₁ B hml ht1 ht2 hPc
    obtain ⟨rfl, hWd, hJ⟩ := hPc
    have hpre := atoms_spec (ws := q_code y cy nL ry hy :: q_TBL) B.pre
    have C : qCtx p l (q_rm d r) s m (As.map (q_v N0 b rho)).toArray meth c y.cls y.name cy nL ry hy d := ⟨B.exec, B.bytes, hml, findClass_of_methodNamed B.named, fun w hw => hpre w (List.mem_cons_of_mem _ hw), B.returns, B.notSynchronized, Or.inl (name_of_methodNamed B.named B.method).1, ht1, Nat.le_refl _, Nat.le_refl _, htr⟩
    have hkk := IH p e (q_rm d r) s m (As.map (q_v N0 b rho)).toArray below meth c y.cls y.name cy nL ry hy d Rw hs js _ (q_Qc N0 b H0 rho tys D r) (q_XC N0 b H0 rho tys D r) (q_RelT (q_rm d r) r) C hWd hJ.1 hroks hhok
      (fun x nc ns hx => by obtain ⟨⟨z, hz⟩, -⟩ := hx; cases hz)
      (fun dc ds r1 nc ns hx => by
        obtain ⟨hg, hc, h1, h2⟩ := hx
        rw [q_core_add] at hg hc
        obtain ⟨e1, e2⟩ := q_mc_add dc ds r1 hg
        rw [e1] at h1
        rw [e2] at h2
        exact ⟨⟨hg, hc, by omega, by omega⟩, by omega, by omega⟩)
      rfl
      (fun v h1 nc ns hx => by
        obtain ⟨-, hc, h2, h3⟩ := hx
        exact ⟨by have : q_mc (.inl (v, h1, 0, 0)) = 0 := rfl; omega, by have : q_ms (.inl (v, h1, 0, 0)) = 0 := rfl; omega, fun t ht => ⟨v, h1, hc.symm.trans rfl, rfl, ht⟩⟩)
      (fun X h1 mc ms nc ns hx => by
        obtain ⟨-, hc, h2, h3⟩ := hx
        exact ⟨h2, h3, ht2, fun t E2 hE2 ht => ⟨X, h1, hc.symm.trans rfl, hE2, ht⟩⟩)
    have hst := hkk 0 (q_loc nL As) [] h 0 0 (by
      show q_RelT (q_rm d r) r (qRun sw P E n d Rw hs (q_drop Rw 0) (q_loc nL As) [] h) 0 0
      have e0 : q_drop Rw 0 = Rw := by cases Rw <;> rfl
      rw [e0, hrun]
      exact ⟨hgood, rfl, by show 0 + q_mc r ≤ q_mc r; omega, by show 0 + q_ms r ≤ q_ms r; omega⟩)
    obtain ⟨r1, K1, hd1, hW⟩ := hst
    have e0 : q_drop Rw 0 = Rw := by cases Rw <;> rfl
    rw [e0, hR0] at hd1
    cases hd1
    rw [lg_entry_eq]
    have := hW s.heap [] _ hJ (fun z hz => by cases hz) (q_loc_ok (N0 := N0) (b := b) (rho := rho) hAs hAc)
    rw [hr0] at this
    exact this
  show vx_Met l y (q_code y cy nL ry hy :: q_TBL) (q_rm d r) _ _ _ _ _ _
  match hy, main with
  | [], main =>
    refine vx_ofW (cc := cy) (maxL := nL) (ret := ry) hpl rfl (fun p e s m args below meth c s₁ B hml ht hPc => main p e s m args below meth c s₁ B hml (fun z => absurd rfl z) (fun _ => ?_) hPc)
    cases hx : c.exceptionTable.toList with
    | nil => rfl
    | cons a t => exact (ht a (by rw [hx]; exact List.mem_cons_self)).elim
  | z :: w, main =>
    refine vx_ofWH (cc := cy) (maxL := nL) (ret := ry) (hh := z :: w) hpl rfl (fun p e s m args below meth c s₁ B hml hPc => main p e s m args below meth c s₁ B hml (fun _ => ?_) (fun z => by cases z) hPc)
    exact vx_table (x := y) B (atoms_spec (ws := q_code y cy nL ry (z :: w) :: q_TBL) B.pre _ List.mem_cons_self)
set_option maxHeartbeats 4000000 in
theorem q_frame (htr : l.stackTraces = false) (hPI : qFacts P I sw) (hE : qEok E rho) (hX : qScr rho Lx xs) : ∀ n, qFrame l N0 b H0 rho tys D Lx xs P I sw E n := by
  intro n
  induction n with
  | zero =>
    intro p e R s m args below meth c own nm cc nL ret hh d Rw hs js Qf Qc XC Rel C Wd hB hroks hhs hno hadd hQf hRret hRthr j L S h nc ns hr
    exact absurd hr (hno _ _ _)
  | succ n IH =>
    intro p e R s m args below meth c own nm cc nL ret hh d Rw hs js Qf Qc XC Rel C Wd hB hroks hhs hno hadd hQf hRret hRthr j L S h nc ns hr
    have hkk := IH p e R s m args below meth c own nm cc nL ret hh d Rw hs js Qf Qc XC Rel C Wd hB hroks hhs hno hadd hQf hRret hRthr
    have hcs := q_calls_of htr hPI IH
    cases hK : q_drop Rw j with
    | nil =>
      rw [hK] at hr
      exact absurd hr (hno _ _ _)
    | cons r K =>
      refine ⟨r, K, hK, fun H locs ls hJ hl hL => ?_⟩
      rw [hK] at hr
      exact q_one C Wd hE hX hkk hno hadd hQf hRret hRthr hB hhs hcs hroks hK hr hJ hl hL
end QMN
end
section
/-! THE PROGRAM AS ROWS, by program out of the listing and the tables -/
def q_m0 : List qRow := [(0, 49, 0, 0, 0, .aload_n 0, 1), (1, 34, 99, 100, 98, .invokespecial 1, 3), (4, 49, 0, 0, 0, .aload_n 0, 1), (5, 33, 0, 101, 102, .new 7, 3), (8, 12, 0, 0, 0, .dup, 1), (9, 37, 1, 0, 103, .invokespecial 9, 3), (12, 22, 9, 0, 1230, .putfield 10, 3), (15, 49, 0, 0, 0, .aload_n 0, 1), (16, 36, 3, 0, 169, .invokestatic 16, 3), (19, 22, 9, 1, 1234, .putfield 20, 3), (22, 49, 0, 0, 0, .aload_n 0, 1), (23, 36, 3, 0, 169, .invokestatic 16, 3), (26, 22, 9, 2, 1238, .putfield 24, 3), (29, 49, 0, 0, 0, .aload_n 0, 1), (30, 0, 512, 0, 0, .sipush 512, 3), (33, 31, 4, 196, 0, .anewarray 27, 3), (36, 22, 9, 3, 1242, .putfield 29, 3), (39, 49, 0, 0, 0, .aload_n 0, 1), (40, 0, 0, 0, 0, .iconst 0, 1), (41, 22, 9, 4, 1244, .putfield 33, 3), (44, 49, 0, 0, 0, .aload_n 0, 1), (45, 33, 6, 198, 199, .new 37, 3), (48, 12, 0, 0, 0, .dup, 1), (49, 38, 5, 192, 0, .invokespecial 39, 3), (52, 22, 9, 5, 1250, .putfield 40, 3), (55, 49, 0, 0, 0, .aload_n 0, 1), (56, 33, 6, 198, 199, .new 37, 3), (59, 12, 0, 0, 0, .dup, 1), (60, 38, 5, 192, 0, .invokespecial 39, 3), (63, 22, 9, 6, 1254, .putfield 44, 3), (66, 49, 0, 0, 0, .aload_n 0, 1), (67, 0, 0, 0, 0, .iconst 0, 1), (68, 22, 9, 7, 1256, .putfield 47, 3), (71, 49, 0, 0, 0, .aload_n 0, 1), (72, 0, 0, 0, 0, .iconst 0, 1), (73, 22, 9, 8, 1260, .putfield 50, 3), (76, 49, 0, 0, 0, .aload_n 0, 1), (77, 33, 4, 227, 228, .new 53, 3), (80, 12, 0, 0, 0, .dup, 1), (81, 38, 6, 128, 1, .invokespecial 55, 3), (84, 22, 9, 9, 1266, .putfield 56, 3), (87, 49, 0, 0, 0, .aload_n 0, 1), (88, 0, 16, 0, 0, .bipush 16, 2), (90, 30, 0, 146, 0, .newarray .int, 2), (92, 22, 9, 10, 1270, .putfield 60, 3), (95, 49, 0, 0, 0, .aload_n 0, 1), (96, 33, 8, 242, 243, .new 64, 3), (99, 12, 0, 0, 0, .dup, 1), (100, 38, 7, 256, 2, .invokespecial 66, 3), (103, 22, 9, 11, 1274, .putfield 67, 3), (106, 49, 0, 0, 0, .aload_n 0, 1), (107, 33, 8, 242, 243, .new 64, 3), (110, 12, 0, 0, 0, .dup, 1), (111, 38, 7, 256, 2, .invokespecial 66, 3), (114, 22, 9, 12, 1278, .putfield 71, 3), (117, 49, 0, 0, 0, .aload_n 0, 1), (118, 21, 9, 1, 308, .getfield 20, 3), (121, 0, 0, 0, 0, .iconst 0, 1), (122, 28, 0, 0, 0, .aaload, 1), (123, 33, 5, 257, 258, .new 74, 3), (126, 12, 0, 0, 0, .dup, 1), (127, 38, 8, 160, 3, .invokespecial 76, 3), (130, 35, 9, 225, 274, .invokevirtual 77, 3), (133, 49, 0, 0, 0, .aload_n 0, 1), (134, 21, 9, 2, 309, .getfield 24, 3), (137, 0, 0, 0, 0, .iconst 0, 1), (138, 28, 0, 0, 0, .aaload, 1), (139, 49, 0, 0, 0, .aload_n 0, 1), (140, 21, 9, 1, 308, .getfield 20, 3), (143, 0, 0, 0, 0, .iconst 0, 1), (144, 28, 0, 0, 0, .aaload, 1), (145, 35, 10, 225, 302, .invokevirtual 83, 3), (148, 42, 0, 0, 0, .return_, 1)]
def q_m1 : List qRow := [(0, 49, 0, 0, 0, .aload_n 0, 1), (1, 34, 99, 100, 106, .invokespecial 3, 3), (4, 49, 0, 0, 0, .aload_n 0, 1), (5, 0, 80, 0, 0, .bipush 80, 2), (7, 31, 2, 107, 0, .anewarray 9, 3), (10, 22, 0, 0, 590, .putfield 11, 3), (13, 49, 0, 0, 0, .aload_n 0, 1), (14, 0, 2, 0, 0, .iconst 2, 1), (15, 30, 0, 146, 0, .newarray .int, 2), (17, 22, 0, 1, 594, .putfield 17, 3), (20, 49, 0, 0, 0, .aload_n 0, 1), (21, 0, 0, 0, 0, .iconst 0, 1), (22, 22, 0, 2, 600, .putfield 21, 3), (25, 49, 0, 0, 0, .aload_n 0, 1), (26, 0, 0, 0, 0, .iconst 0, 1), (27, 22, 0, 3, 604, .putfield 25, 3), (30, 49, 0, 0, 0, .aload_n 0, 1), (31, 0, 0, 0, 0, .iconst 0, 1), (32, 22, 0, 4, 612, .putfield 28, 3), (35, 49, 0, 0, 0, .aload_n 0, 1), (36, 0, 0, 0, 0, .iconst 0, 1), (37, 22, 0, 5, 620, .putfield 31, 3), (40, 0, 0, 0, 0, .iconst 0, 1), (41, 2, 1, 0, 0, .istore_n 1, 1), (42, 1, 1, 0, 0, .iload_n 1, 1), (43, 49, 0, 0, 0, .aload_n 0, 1), (44, 21, 0, 0, 147, .getfield 11, 3), (47, 23, 0, 0, 0, .arraylength, 1), (48, 15, 3, 38, 0, .if_icmp .ge 22, 3), (51, 49, 0, 0, 0, .aload_n 0, 1), (52, 21, 0, 0, 147, .getfield 11, 3), (55, 1, 1, 0, 0, .iload_n 1, 1), (56, 33, 1, 107, 109, .new 9, 3), (59, 12, 0, 0, 0, .dup, 1), (60, 38, 2, 32, 4, .invokespecial 34, 3), (63, 29, 0, 0, 0, .aastore, 1), (64, 3, 1, 1, 0, .iinc 1 1, 3), (67, 20, 24, 0, 0, .goto (-25), 3), (70, 0, 0, 0, 0, .iconst 0, 1), (71, 2, 1, 0, 0, .istore_n 1, 1), (72, 1, 1, 0, 0, .iload_n 1, 1), (73, 0, 2, 0, 0, .iconst 2, 1), (74, 15, 3, 50, 0, .if_icmp .ge 17, 3), (77, 49, 0, 0, 0, .aload_n 0, 1), (78, 21, 0, 1, 148, .getfield 17, 3), (81, 1, 1, 0, 0, .iload_n 1, 1), (82, 0, 40, 0, 0, .bipush 40, 2), (84, 25, 0, 0, 0, .iastore, 1), (85, 3, 1, 1, 0, .iinc 1 1, 3), (88, 20, 40, 0, 0, .goto (-16), 3), (91, 42, 0, 0, 0, .return_, 1)]
def q_m2 : List qRow := [(0, 49, 0, 0, 0, .aload_n 0, 1), (1, 34, 99, 100, 113, .invokespecial 3, 3), (4, 49, 0, 0, 0, .aload_n 0, 1), (5, 0, 4, 0, 0, .iconst 4, 1), (6, 30, 0, 146, 0, .newarray .int, 2), (8, 22, 1, 0, 458, .putfield 9, 3), (11, 42, 0, 0, 0, .return_, 1)]
def q_m3 : List qRow := [(0, 0, 6, 0, 0, .bipush 6, 2), (2, 31, 3, 172, 0, .anewarray 78, 3), (5, 50, 0, 0, 0, .astore_n 0, 1), (6, 0, 0, 0, 0, .iconst 0, 1), (7, 2, 1, 0, 0, .istore_n 1, 1), (8, 1, 1, 0, 0, .iload_n 1, 1), (9, 0, 6, 0, 0, .bipush 6, 2), (11, 15, 3, 16, 0, .if_icmp .ge 19, 3), (14, 49, 0, 0, 0, .aload_n 0, 1), (15, 1, 1, 0, 0, .iload_n 1, 1), (16, 33, 7, 172, 174, .new 78, 3), (19, 12, 0, 0, 0, .dup, 1), (20, 38, 4, 224, 5, .invokespecial 383, 3), (23, 29, 0, 0, 0, .aastore, 1), (24, 3, 1, 1, 0, .iinc 1 1, 3), (27, 20, 5, 0, 0, .goto (-19), 3), (30, 49, 0, 0, 0, .aload_n 0, 1), (31, 41, 0, 0, 0, .areturn, 1)]
def q_m4 : List qRow := [(0, 49, 0, 0, 0, .aload_n 0, 1), (1, 34, 99, 100, 178, .invokespecial 3, 3), (4, 49, 0, 0, 0, .aload_n 0, 1), (5, 11, 0, 0, 0, .aconst_null, 1), (6, 22, 7, 0, 718, .putfield 9, 3), (9, 49, 0, 0, 0, .aload_n 0, 1), (10, 0, 0, 0, 0, .iconst 0, 1), (11, 22, 7, 1, 725, .putfield 15, 3), (14, 49, 0, 0, 0, .aload_n 0, 1), (15, 0, 1000, 0, 0, .sipush 1000, 3), (18, 22, 7, 2, 732, .putfield 19, 3), (21, 49, 0, 0, 0, .aload_n 0, 1), (22, 0, 1000, 0, 0, .sipush 1000, 3), (25, 22, 7, 3, 740, .putfield 23, 3), (28, 42, 0, 0, 0, .return_, 1)]
def q_m5 : List qRow := [(0, 49, 0, 0, 0, .aload_n 0, 1), (1, 34, 99, 100, 203, .invokespecial 3, 3), (4, 49, 0, 0, 0, .aload_n 0, 1), (5, 0, 10, 0, 0, .bipush 10, 2), (7, 30, 0, 146, 0, .newarray .int, 2), (9, 22, 6, 0, 826, .putfield 9, 3), (12, 49, 0, 0, 0, .aload_n 0, 1), (13, 0, 10, 0, 0, .bipush 10, 2), (15, 30, 0, 146, 0, .newarray .int, 2), (17, 22, 6, 1, 834, .putfield 15, 3), (20, 49, 0, 0, 0, .aload_n 0, 1), (21, 0, 10, 0, 0, .bipush 10, 2), (23, 0, 16, 0, 0, .bipush 16, 2), (25, 32, 6, 204, 146, .multianewarray 18 2, 4), (29, 22, 6, 2, 842, .putfield 20, 3), (32, 49, 0, 0, 0, .aload_n 0, 1), (33, 0, 0, 0, 0, .iconst 0, 1), (34, 22, 6, 3, 848, .putfield 23, 3), (37, 49, 0, 0, 0, .aload_n 0, 1), (38, 0, 0, 0, 0, .iconst 0, 1), (39, 22, 6, 4, 857, .putfield 27, 3), (42, 42, 0, 0, 0, .return_, 1)]
def q_m6 : List qRow := [(0, 49, 0, 0, 0, .aload_n 0, 1), (1, 34, 99, 100, 232, .invokespecial 3, 3), (4, 49, 0, 0, 0, .aload_n 0, 1), (5, 0, 16, 0, 0, .bipush 16, 2), (7, 31, 2, 233, 0, .anewarray 9, 3), (10, 22, 4, 0, 938, .putfield 11, 3), (13, 49, 0, 0, 0, .aload_n 0, 1), (14, 0, 16, 0, 0, .bipush 16, 2), (16, 30, 0, 146, 0, .newarray .int, 2), (18, 22, 4, 1, 946, .putfield 17, 3), (21, 42, 0, 0, 0, .return_, 1)]
def q_m7 : List qRow := [(0, 49, 0, 0, 0, .aload_n 0, 1), (1, 34, 99, 100, 247, .invokespecial 3, 3), (4, 42, 0, 0, 0, .return_, 1)]
def q_m8 : List qRow := [(0, 49, 0, 0, 0, .aload_n 0, 1), (1, 34, 99, 100, 262, .invokespecial 3, 3), (4, 49, 0, 0, 0, .aload_n 0, 1), (5, 0, 10, 0, 0, .bipush 10, 2), (7, 31, 5, 263, 0, .anewarray 9, 3), (10, 22, 5, 0, 1062, .putfield 11, 3), (13, 49, 0, 0, 0, .aload_n 0, 1), (14, 0, 0, 0, 0, .iconst 0, 1), (15, 22, 5, 1, 1064, .putfield 17, 3), (18, 42, 0, 0, 0, .return_, 1)]
def q_m9 : List qRow := [(0, 49, 1, 0, 0, .aload_n 1, 1), (1, 16, 8, 0, 0, .ifnull 13, 3), (4, 49, 1, 0, 0, .aload_n 1, 1), (5, 12, 0, 0, 0, .dup, 1), (6, 21, 5, 1, 267, .getfield 26, 3), (9, 0, 1, 0, 0, .iconst 1, 1), (10, 4, 0, 0, 0, .iadd, 1), (11, 22, 5, 1, 1068, .putfield 26, 3), (14, 49, 0, 0, 0, .aload_n 0, 1), (15, 21, 7, 0, 179, .getfield 9, 3), (18, 16, 14, 0, 0, .ifnull 10, 3), (21, 49, 0, 0, 0, .aload_n 0, 1), (22, 21, 7, 0, 179, .getfield 9, 3), (25, 35, 114, 160, 278, .invokevirtual 31, 3), (28, 49, 0, 0, 0, .aload_n 0, 1), (29, 49, 1, 0, 0, .aload_n 1, 1), (30, 22, 7, 0, 718, .putfield 9, 3), (33, 42, 0, 0, 0, .return_, 1)]
def q_m10 : List qRow := [(0, 49, 0, 0, 0, .aload_n 0, 1), (1, 49, 1, 0, 0, .aload_n 1, 1), (2, 21, 7, 0, 179, .getfield 9, 3), (5, 35, 9, 225, 306, .invokevirtual 34, 3), (8, 49, 0, 0, 0, .aload_n 0, 1), (9, 49, 1, 0, 0, .aload_n 1, 1), (10, 21, 7, 1, 181, .getfield 15, 3), (13, 22, 7, 1, 725, .putfield 15, 3), (16, 49, 0, 0, 0, .aload_n 0, 1), (17, 49, 1, 0, 0, .aload_n 1, 1), (18, 21, 7, 2, 183, .getfield 19, 3), (21, 22, 7, 2, 732, .putfield 19, 3), (24, 49, 0, 0, 0, .aload_n 0, 1), (25, 49, 1, 0, 0, .aload_n 1, 1), (26, 21, 7, 3, 185, .getfield 23, 3), (29, 22, 7, 3, 740, .putfield 23, 3), (32, 42, 0, 0, 0, .return_, 1)]
def q_m11 : List qRow := [(0, 49, 0, 0, 0, .aload_n 0, 1), (1, 34, 99, 100, 1032, .invokespecial 1, 3), (4, 49, 0, 0, 0, .aload_n 0, 1), (5, 0, 800, 0, 0, .sipush 800, 3), (8, 30, 0, 146, 0, .newarray .int, 2), (10, 22, 10, 0, 4134, .putfield 7, 3), (13, 49, 0, 0, 0, .aload_n 0, 1), (14, 0, 200, 0, 0, .sipush 200, 3), (17, 30, 0, 146, 0, .newarray .int, 2), (19, 22, 10, 1, 4138, .putfield 13, 3), (22, 49, 0, 0, 0, .aload_n 0, 1), (23, 0, 200, 0, 0, .sipush 200, 3), (26, 30, 0, 146, 0, .newarray .int, 2), (28, 22, 10, 2, 4142, .putfield 16, 3), (31, 49, 0, 0, 0, .aload_n 0, 1), (32, 0, 200, 0, 0, .sipush 200, 3), (35, 30, 0, 146, 0, .newarray .int, 2), (37, 22, 10, 3, 4146, .putfield 19, 3), (40, 49, 0, 0, 0, .aload_n 0, 1), (41, 0, 200, 0, 0, .sipush 200, 3), (44, 30, 0, 146, 0, .newarray .int, 2), (46, 22, 10, 4, 4150, .putfield 22, 3), (49, 49, 0, 0, 0, .aload_n 0, 1), (50, 0, 200, 0, 0, .sipush 200, 3), (53, 30, 0, 146, 0, .newarray .int, 2), (55, 22, 10, 6, 4158, .putfield 25, 3), (58, 49, 0, 0, 0, .aload_n 0, 1), (59, 0, 3200, 0, 0, .sipush 3200, 3), (62, 30, 0, 146, 0, .newarray .int, 2), (64, 22, 10, 7, 4162, .putfield 28, 3), (67, 49, 0, 0, 0, .aload_n 0, 1), (68, 0, 200, 0, 0, .sipush 200, 3), (71, 30, 0, 146, 0, .newarray .int, 2), (73, 22, 10, 9, 4170, .putfield 31, 3), (76, 49, 0, 0, 0, .aload_n 0, 1), (77, 0, 12, 0, 0, .bipush 12, 2), (79, 30, 0, 146, 0, .newarray .int, 2), (81, 22, 10, 10, 4174, .putfield 34, 3), (84, 49, 0, 0, 0, .aload_n 0, 1), (85, 0, 12, 0, 0, .bipush 12, 2), (87, 30, 0, 146, 0, .newarray .int, 2), (89, 22, 10, 11, 4178, .putfield 37, 3), (92, 49, 0, 0, 0, .aload_n 0, 1), (93, 0, 12, 0, 0, .bipush 12, 2), (95, 30, 0, 146, 0, .newarray .int, 2), (97, 22, 10, 12, 4182, .putfield 40, 3), (100, 49, 0, 0, 0, .aload_n 0, 1), (101, 0, 12, 0, 0, .bipush 12, 2), (103, 30, 0, 146, 0, .newarray .int, 2), (105, 22, 10, 13, 4186, .putfield 43, 3), (108, 49, 0, 0, 0, .aload_n 0, 1), (109, 0, 61, 0, 0, .bipush 61, 2), (111, 30, 0, 146, 0, .newarray .int, 2), (113, 22, 10, 14, 4190, .putfield 46, 3), (116, 49, 0, 0, 0, .aload_n 0, 1), (117, 0, 61, 0, 0, .bipush 61, 2), (119, 30, 0, 146, 0, .newarray .int, 2), (121, 22, 10, 15, 4194, .putfield 49, 3), (124, 49, 0, 0, 0, .aload_n 0, 1), (125, 0, 61, 0, 0, .bipush 61, 2), (127, 30, 0, 146, 0, .newarray .int, 2), (129, 22, 10, 16, 4198, .putfield 52, 3), (132, 49, 0, 0, 0, .aload_n 0, 1), (133, 0, 976, 0, 0, .sipush 976, 3), (136, 30, 0, 146, 0, .newarray .int, 2), (138, 22, 10, 17, 4202, .putfield 55, 3), (141, 49, 0, 0, 0, .aload_n 0, 1), (142, 0, 10, 0, 0, .bipush 10, 2), (144, 30, 0, 146, 0, .newarray .int, 2), (146, 22, 10, 20, 4214, .putfield 58, 3), (149, 49, 0, 0, 0, .aload_n 0, 1), (150, 0, 10, 0, 0, .bipush 10, 2), (152, 30, 0, 146, 0, .newarray .int, 2), (154, 22, 10, 21, 4218, .putfield 61, 3), (157, 49, 0, 0, 0, .aload_n 0, 1), (158, 0, 160, 0, 0, .sipush 160, 3), (161, 30, 0, 146, 0, .newarray .int, 2), (163, 22, 10, 22, 4222, .putfield 64, 3), (166, 49, 0, 0, 0, .aload_n 0, 1), (167, 0, 200, 0, 0, .sipush 200, 3), (170, 30, 0, 146, 0, .newarray .int, 2), (172, 22, 10, 27, 4242, .putfield 67, 3), (175, 49, 0, 0, 0, .aload_n 0, 1), (176, 0, 200, 0, 0, .sipush 200, 3), (179, 30, 0, 146, 0, .newarray .int, 2), (181, 22, 10, 28, 4246, .putfield 70, 3), (184, 49, 0, 0, 0, .aload_n 0, 1), (185, 0, 16, 0, 0, .bipush 16, 2), (187, 30, 0, 146, 0, .newarray .int, 2), (189, 22, 10, 29, 4250, .putfield 73, 3), (192, 49, 0, 0, 0, .aload_n 0, 1), (193, 0, 16, 0, 0, .bipush 16, 2), (195, 30, 0, 146, 0, .newarray .int, 2), (197, 22, 10, 31, 4258, .putfield 76, 3), (200, 49, 0, 0, 0, .aload_n 0, 1), (201, 0, 200, 0, 0, .sipush 200, 3), (204, 30, 0, 146, 0, .newarray .int, 2), (206, 22, 10, 32, 4262, .putfield 79, 3), (209, 49, 0, 0, 0, .aload_n 0, 1), (210, 0, 16, 0, 0, .bipush 16, 2), (212, 30, 0, 146, 0, .newarray .int, 2), (214, 22, 10, 33, 4266, .putfield 82, 3), (217, 49, 0, 0, 0, .aload_n 0, 1), (218, 0, 160, 0, 0, .sipush 160, 3), (221, 30, 0, 146, 0, .newarray .int, 2), (223, 22, 10, 34, 4270, .putfield 85, 3), (226, 49, 0, 0, 0, .aload_n 0, 1), (227, 0, 10, 0, 0, .bipush 10, 2), (229, 30, 0, 146, 0, .newarray .int, 2), (231, 22, 10, 35, 4274, .putfield 88, 3), (234, 0, 0, 0, 0, .iconst 0, 1), (235, 2, 1, 0, 0, .istore_n 1, 1), (236, 1, 1, 0, 0, .iload_n 1, 1), (237, 0, 12, 0, 0, .bipush 12, 2), (239, 15, 3, 138, 0, .if_icmp .ge 45, 3), (242, 49, 0, 0, 0, .aload_n 0, 1), (243, 21, 10, 10, 1043, .getfield 34, 3), (246, 1, 1, 0, 0, .iload_n 1, 1), (247, 1, 1, 0, 0, .iload_n 1, 1), (248, 0, 6, 0, 0, .bipush 6, 2), (250, 48, 0, 0, 0, .irem, 1), (251, 14, 1, 124, 0, .ifCond .ne 7, 3), (254, 0, 0, 0, 0, .iconst 0, 1), (255, 20, 125, 0, 0, .goto 4, 3), (258, 0, 4294967295, 0, 0, .iconst (-1), 1), (259, 25, 0, 0, 0, .iastore, 1), (260, 49, 0, 0, 0, .aload_n 0, 1), (261, 21, 10, 12, 1045, .getfield 40, 3), (264, 1, 1, 0, 0, .iload_n 1, 1), (265, 0, 1000, 0, 0, .sipush 1000, 3), (268, 25, 0, 0, 0, .iastore, 1), (269, 49, 0, 0, 0, .aload_n 0, 1), (270, 21, 10, 13, 1046, .getfield 43, 3), (273, 1, 1, 0, 0, .iload_n 1, 1), (274, 0, 1000, 0, 0, .sipush 1000, 3), (277, 25, 0, 0, 0, .iastore, 1), (278, 3, 1, 1, 0, .iinc 1 1, 3), (281, 20, 112, 0, 0, .goto (-45), 3), (284, 0, 0, 0, 0, .iconst 0, 1), (285, 2, 1, 0, 0, .istore_n 1, 1), (286, 1, 1, 0, 0, .iload_n 1, 1), (287, 0, 200, 0, 0, .sipush 200, 3), (290, 15, 3, 150, 0, .if_icmp .ge 16, 3), (293, 49, 0, 0, 0, .aload_n 0, 1), (294, 21, 10, 6, 1039, .getfield 25, 3), (297, 1, 1, 0, 0, .iload_n 1, 1), (298, 0, 4294967295, 0, 0, .iconst (-1), 1), (299, 25, 0, 0, 0, .iastore, 1), (300, 3, 1, 1, 0, .iinc 1 1, 3), (303, 20, 140, 0, 0, .goto (-17), 3), (306, 42, 0, 0, 0, .return_, 1)]
def q_m12 : List qRow := [(0, 49, 3, 0, 0, .aload_n 3, 1), (1, 0, 0, 0, 0, .iconst 0, 1), (2, 49, 0, 0, 0, .aload_n 0, 1), (3, 1, 1, 0, 0, .iload_n 1, 1), (4, 1, 2, 0, 0, .iload_n 2, 1), (5, 35, 13, 290, 484, .invokevirtual 7, 3), (8, 45, 0, 0, 0, .i2l, 1), (9, 27, 0, 0, 0, .lastore, 1), (10, 20, 15, 0, 0, .goto 11, 3), (13, 50, 4, 0, 0, .astore 4, 2), (15, 0, 1, 0, 0, .iconst 1, 1), (16, 40, 0, 0, 0, .ireturn, 1), (17, 99, 0, 0, 0, .nop, 1), (19, 99, 0, 0, 0, .nop, 1), (20, 99, 0, 0, 0, .nop, 1), (21, 0, 0, 0, 0, .iconst 0, 1), (22, 40, 0, 0, 0, .ireturn, 1)]
def q_m13 : List qRow := [(0, 49, 0, 0, 0, .aload_n 0, 1), (1, 1, 1, 0, 0, .iload_n 1, 1), (2, 35, 14, 289, 488, .invokevirtual 87, 3), (5, 50, 3, 0, 0, .astore_n 3, 1), (6, 1, 2, 0, 0, .iload_n 2, 1), (7, 36, 21, 1, 555, .invokestatic 91, 3), (10, 49, 3, 0, 0, .aload_n 3, 1), (11, 21, 7, 1, 182, .getfield 95, 3), (14, 14, 1, 16, 0, .ifCond .ne 18, 3), (17, 49, 3, 0, 0, .aload_n 3, 1), (18, 21, 7, 0, 180, .getfield 99, 3), (21, 1, 2, 0, 0, .iload_n 2, 1), (22, 35, 22, 161, 558, .invokevirtual 103, 3), (25, 17, 16, 0, 0, .ifnonnull 7, 3), (28, 0, 1, 0, 0, .iconst 1, 1), (29, 20, 17, 0, 0, .goto 4, 3), (32, 99, 0, 0, 0, .nop, 1), (33, 36, 23, 1, 559, .invokestatic 107, 3), (36, 33, 3, 394, 395, .new 111, 3), (39, 12, 0, 0, 0, .dup, 1), (40, 49, 0, 0, 0, .aload_n 0, 1), (41, 21, 9, 7, 314, .getfield 47, 3), (44, 37, 24, 97, 396, .invokespecial 113, 3), (47, 50, 4, 0, 0, .astore 4, 2), (49, 49, 0, 0, 0, .aload_n 0, 1), (50, 12, 0, 0, 0, .dup, 1), (51, 21, 9, 7, 314, .getfield 47, 3), (54, 0, 1, 0, 0, .iconst 1, 1), (55, 4, 0, 0, 0, .iadd, 1), (56, 22, 9, 7, 1256, .putfield 47, 3), (59, 49, 0, 0, 0, .aload_n 0, 1), (60, 49, 3, 0, 0, .aload_n 3, 1), (61, 35, 25, 289, 376, .invokevirtual 115, 3), (64, 1, 2, 0, 0, .iload_n 2, 1), (65, 49, 4, 0, 0, .aload 4, 2), (67, 35, 27, 162, 577, .invokevirtual 119, 3), (70, 49, 4, 0, 0, .aload 4, 2), (72, 21, 3, 0, 404, .getfield 123, 3), (75, 40, 0, 0, 0, .ireturn, 1)]
def q_m14 : List qRow := [(0, 1, 1, 0, 0, .iload_n 1, 1), (1, 14, 2, 11, 0, .ifCond .lt 21, 3), (4, 1, 1, 0, 0, .iload_n 1, 1), (5, 0, 6, 0, 0, .bipush 6, 2), (7, 15, 3, 11, 0, .if_icmp .ge 15, 3), (10, 49, 0, 0, 0, .aload_n 0, 1), (11, 21, 9, 1, 308, .getfield 20, 3), (14, 1, 1, 0, 0, .iload_n 1, 1), (15, 28, 0, 0, 0, .aaload, 1), (16, 21, 7, 0, 180, .getfield 99, 3), (19, 17, 15, 0, 0, .ifnonnull 11, 3), (22, 43, 0, 492, 336, .new 334, 3), (25, 99, 0, 0, 0, .nop, 1), (26, 99, 0, 0, 0, .nop, 1), (29, 99, 0, 0, 0, .nop, 1), (30, 49, 0, 0, 0, .aload_n 0, 1), (31, 21, 9, 1, 308, .getfield 20, 3), (34, 1, 1, 0, 0, .iload_n 1, 1), (35, 28, 0, 0, 0, .aaload, 1), (36, 41, 0, 0, 0, .areturn, 1)]
def q_m15 : List qRow := [(0, 49, 0, 0, 0, .aload_n 0, 1), (1, 1, 1, 0, 0, .iload_n 1, 1), (2, 1, 2, 0, 0, .iload_n 2, 1), (3, 35, 16, 322, 1150, .invokevirtual 162, 3), (6, 2, 3, 0, 0, .istore_n 3, 1), (7, 49, 0, 0, 0, .aload_n 0, 1), (8, 1, 3, 0, 0, .iload_n 3, 1), (9, 14, 1, 10, 0, .ifCond .ne 7, 3), (12, 0, 1, 0, 0, .iconst 1, 1), (13, 20, 24, 0, 0, .goto 27, 3), (16, 49, 0, 0, 0, .aload_n 0, 1), (17, 21, 10, 11, 1044, .getfield 37, 3), (20, 1, 1, 0, 0, .iload_n 1, 1), (21, 24, 0, 0, 0, .iaload, 1), (22, 0, 1, 0, 0, .iconst 1, 1), (23, 15, 0, 21, 0, .if_icmp .eq 12, 3), (26, 49, 0, 0, 0, .aload_n 0, 1), (27, 1, 1, 0, 0, .iload_n 1, 1), (28, 1, 2, 0, 0, .iload_n 2, 1), (29, 35, 31, 322, 1162, .invokevirtual 165, 3), (32, 14, 2, 23, 0, .ifCond .lt 7, 3), (35, 99, 0, 0, 0, .nop, 1), (36, 99, 0, 0, 0, .nop, 1), (39, 0, 0, 0, 0, .iconst 0, 1), (40, 35, 19, 321, 1166, .invokevirtual 169, 3), (43, 14, 0, 28, 0, .ifCond .eq 5, 3), (46, 0, 4294967295, 0, 0, .iconst (-1), 1), (47, 40, 0, 0, 0, .ireturn, 1), (48, 49, 0, 0, 0, .aload_n 0, 1), (49, 1, 1, 0, 0, .iload_n 1, 1), (50, 35, 32, 321, 1170, .invokevirtual 149, 3), (53, 49, 0, 0, 0, .aload_n 0, 1), (54, 49, 0, 0, 0, .aload_n 0, 1), (55, 21, 10, 8, 1041, .getfield 172, 3), (58, 35, 36, 321, 1186, .invokevirtual 175, 3), (61, 2, 4, 0, 0, .istore 4, 2), (63, 49, 0, 0, 0, .aload_n 0, 1), (64, 12, 0, 0, 0, .dup, 1), (65, 21, 10, 8, 1041, .getfield 172, 3), (68, 0, 1, 0, 0, .iconst 1, 1), (69, 4, 0, 0, 0, .iadd, 1), (70, 22, 10, 8, 4164, .putfield 172, 3), (73, 49, 0, 0, 0, .aload_n 0, 1), (74, 21, 10, 9, 1042, .getfield 31, 3), (77, 0, 10, 0, 0, .bipush 10, 2), (79, 49, 0, 0, 0, .aload_n 0, 1), (80, 21, 10, 10, 1043, .getfield 34, 3), (83, 1, 1, 0, 0, .iload_n 1, 1), (84, 24, 0, 0, 0, .iaload, 1), (85, 6, 0, 0, 0, .imul, 1), (86, 1, 2, 0, 0, .iload_n 2, 1), (87, 4, 0, 0, 0, .iadd, 1), (88, 1, 4, 0, 0, .iload 4, 2), (90, 0, 1, 0, 0, .iconst 1, 1), (91, 4, 0, 0, 0, .iadd, 1), (92, 25, 0, 0, 0, .iastore, 1), (93, 49, 0, 0, 0, .aload_n 0, 1), (94, 21, 10, 8, 1041, .getfield 172, 3), (97, 0, 1, 0, 0, .iconst 1, 1), (98, 5, 0, 0, 0, .isub, 1), (99, 40, 0, 0, 0, .ireturn, 1)]
def q_m16 : List qRow := [(0, 49, 0, 0, 0, .aload_n 0, 1), (1, 1, 1, 0, 0, .iload_n 1, 1), (2, 35, 17, 321, 1154, .invokevirtual 99, 3), (5, 14, 0, 12, 0, .ifCond .eq 18, 3), (8, 49, 0, 0, 0, .aload_n 0, 1), (9, 1, 2, 0, 0, .iload_n 2, 1), (10, 0, 0, 0, 0, .iconst 0, 1), (11, 0, 9, 0, 0, .bipush 9, 2), (13, 35, 18, 323, 1158, .invokevirtual 95, 3), (16, 14, 0, 12, 0, .ifCond .eq 7, 3), (19, 0, 1, 0, 0, .iconst 1, 1), (20, 20, 13, 0, 0, .goto 4, 3), (23, 0, 0, 0, 0, .iconst 0, 1), (24, 40, 1, 0, 0, .ireturn, 1)]
def q_m17 : List qRow := [(0, 49, 0, 0, 0, .aload_n 0, 1), (1, 1, 1, 0, 0, .iload_n 1, 1), (2, 0, 0, 0, 0, .iconst 0, 1), (3, 0, 5, 0, 0, .iconst 5, 1), (4, 35, 18, 323, 1158, .invokevirtual 95, 3), (7, 14, 0, 13, 0, .ifCond .eq 16, 3), (10, 49, 0, 0, 0, .aload_n 0, 1), (11, 21, 10, 10, 1043, .getfield 34, 3), (14, 1, 1, 0, 0, .iload_n 1, 1), (15, 24, 0, 0, 0, .iaload, 1), (16, 14, 2, 13, 0, .ifCond .lt 7, 3), (19, 0, 1, 0, 0, .iconst 1, 1), (20, 20, 14, 0, 0, .goto 4, 3), (23, 0, 0, 0, 0, .iconst 0, 1), (24, 40, 1, 0, 0, .ireturn, 1)]
def q_m18 : List qRow := [(0, 1, 1, 0, 0, .iload_n 1, 1), (1, 1, 2, 0, 0, .iload_n 2, 1), (2, 15, 2, 8, 0, .if_icmp .lt 12, 3), (5, 1, 1, 0, 0, .iload_n 1, 1), (6, 1, 3, 0, 0, .iload_n 3, 1), (7, 15, 4, 8, 0, .if_icmp .gt 7, 3), (10, 0, 1, 0, 0, .iconst 1, 1), (11, 20, 9, 0, 0, .goto 4, 3), (14, 0, 0, 0, 0, .iconst 0, 1), (15, 40, 1, 0, 0, .ireturn, 1)]
def q_m19 : List qRow := [(0, 49, 0, 0, 0, .aload_n 0, 1), (1, 1, 1, 0, 0, .iload_n 1, 1), (2, 22, 10, 30, 4252, .putfield 91, 3), (5, 1, 1, 0, 0, .iload_n 1, 1), (6, 14, 5, 7, 0, .ifCond .le 7, 3), (9, 0, 1, 0, 0, .iconst 1, 1), (10, 20, 8, 0, 0, .goto 4, 3), (13, 0, 0, 0, 0, .iconst 0, 1), (14, 40, 1, 0, 0, .ireturn, 1)]
def q_m20 : List qRow := [(0, 49, 0, 0, 0, .aload_n 0, 1), (1, 21, 10, 30, 1063, .getfield 91, 3), (4, 40, 0, 0, 0, .ireturn, 1)]
def q_m21 : List qRow := [(0, 1, 0, 0, 0, .iload_n 0, 1), (1, 14, 2, 5, 0, .ifCond .lt 9, 3), (4, 1, 0, 0, 0, .iload_n 0, 1), (5, 0, 10, 0, 0, .bipush 10, 2), (7, 15, 2, 9, 0, .if_icmp .lt 11, 3), (10, 43, 0, 492, 336, .new 334, 3), (13, 99, 0, 0, 0, .nop, 1), (14, 99, 0, 0, 0, .nop, 1), (17, 99, 0, 0, 0, .nop, 1), (18, 42, 0, 0, 0, .return_, 1)]
def q_m22 : List qRow := [(0, 1, 1, 0, 0, .iload_n 1, 1), (1, 14, 2, 10, 0, .ifCond .lt 18, 3), (4, 1, 1, 0, 0, .iload_n 1, 1), (5, 0, 10, 0, 0, .bipush 10, 2), (7, 15, 3, 10, 0, .if_icmp .ge 12, 3), (10, 49, 0, 0, 0, .aload_n 0, 1), (11, 21, 5, 0, 265, .getfield 11, 3), (14, 1, 1, 0, 0, .iload_n 1, 1), (15, 28, 0, 0, 0, .aaload, 1), (16, 20, 11, 0, 0, .goto 4, 3), (19, 99, 0, 0, 0, .nop, 1), (20, 41, 0, 0, 0, .areturn, 1)]
def q_m23 : List qRow := [(0, 1, 0, 0, 0, .iload_n 0, 1), (1, 14, 1, 6, 0, .ifCond .ne 11, 3), (4, 43, 2, 562, 292, .new 290, 3), (7, 99, 0, 0, 0, .nop, 1), (8, 99, 0, 0, 0, .nop, 1), (11, 99, 0, 0, 0, .nop, 1), (12, 42, 0, 0, 0, .return_, 1)]
def q_m24 : List qRow := [(0, 49, 0, 0, 0, .aload_n 0, 1), (1, 34, 99, 100, 399, .invokespecial 1, 3), (4, 49, 0, 0, 0, .aload_n 0, 1), (5, 33, 4, 400, 228, .new 7, 3), (8, 12, 0, 0, 0, .dup, 1), (9, 38, 6, 128, 6, .invokespecial 9, 3), (12, 22, 3, 1, 1626, .putfield 10, 3), (15, 49, 0, 0, 0, .aload_n 0, 1), (16, 0, 0, 0, 0, .iconst 0, 1), (17, 22, 3, 2, 1640, .putfield 16, 3), (20, 49, 0, 0, 0, .aload_n 0, 1), (21, 1, 1, 0, 0, .iload_n 1, 1), (22, 22, 3, 0, 1608, .putfield 20, 3), (25, 42, 0, 0, 0, .return_, 1)]
def q_m25 : List qRow := [(0, 49, 1, 0, 0, .aload_n 1, 1), (1, 21, 7, 0, 180, .getfield 99, 3), (4, 21, 5, 1, 268, .getfield 343, 3), (7, 0, 1, 0, 0, .iconst 1, 1), (8, 15, 5, 30, 0, .if_icmp .le 50, 3), (11, 49, 1, 0, 0, .aload_n 1, 1), (12, 21, 7, 0, 180, .getfield 99, 3), (15, 12, 0, 0, 0, .dup, 1), (16, 21, 5, 1, 268, .getfield 343, 3), (19, 0, 1, 0, 0, .iconst 1, 1), (20, 5, 0, 0, 0, .isub, 1), (21, 22, 5, 1, 1072, .putfield 343, 3), (24, 49, 1, 0, 0, .aload_n 1, 1), (25, 49, 1, 0, 0, .aload_n 1, 1), (26, 21, 7, 0, 180, .getfield 99, 3), (29, 35, 26, 160, 380, .invokevirtual 345, 3), (32, 22, 7, 0, 722, .putfield 99, 3), (35, 49, 1, 0, 0, .aload_n 1, 1), (36, 21, 7, 0, 180, .getfield 99, 3), (39, 12, 0, 0, 0, .dup, 1), (40, 21, 5, 1, 268, .getfield 343, 3), (43, 0, 1, 0, 0, .iconst 1, 1), (44, 4, 0, 0, 0, .iadd, 1), (45, 22, 5, 1, 1072, .putfield 343, 3), (48, 49, 0, 0, 0, .aload_n 0, 1), (49, 12, 0, 0, 0, .dup, 1), (50, 21, 9, 8, 315, .getfield 50, 3), (53, 0, 1, 0, 0, .iconst 1, 1), (54, 4, 0, 0, 0, .iadd, 1), (55, 22, 9, 8, 1260, .putfield 50, 3), (58, 49, 1, 0, 0, .aload_n 1, 1), (59, 21, 7, 0, 180, .getfield 99, 3), (62, 41, 0, 0, 0, .areturn, 1)]
def q_m26 : List qRow := [(0, 33, 5, 384, 258, .new 12, 3), (3, 12, 0, 0, 0, .dup, 1), (4, 37, 8, 160, 385, .invokespecial 63, 3), (7, 50, 1, 0, 0, .astore_n 1, 1), (8, 0, 0, 0, 0, .iconst 0, 1), (9, 2, 2, 0, 0, .istore_n 2, 1), (10, 1, 2, 0, 0, .iload_n 2, 1), (11, 0, 10, 0, 0, .bipush 10, 2), (13, 15, 3, 33, 0, .if_icmp .ge 47, 3), (16, 49, 1, 0, 0, .aload_n 1, 1), (17, 21, 5, 0, 265, .getfield 11, 3), (20, 1, 2, 0, 0, .iload_n 2, 1), (21, 49, 0, 0, 0, .aload_n 0, 1), (22, 21, 5, 0, 265, .getfield 11, 3), (25, 1, 2, 0, 0, .iload_n 2, 1), (26, 28, 0, 0, 0, .aaload, 1), (27, 29, 0, 0, 0, .aastore, 1), (28, 49, 0, 0, 0, .aload_n 0, 1), (29, 21, 5, 0, 265, .getfield 11, 3), (32, 1, 2, 0, 0, .iload_n 2, 1), (33, 28, 0, 0, 0, .aaload, 1), (34, 16, 31, 0, 0, .ifnull 20, 3), (37, 99, 0, 0, 0, .nop, 1), (38, 99, 0, 0, 0, .nop, 1), (39, 99, 0, 0, 0, .nop, 1), (42, 99, 0, 0, 0, .nop, 1), (45, 99, 0, 0, 0, .nop, 1), (46, 99, 0, 0, 0, .nop, 1), (49, 99, 0, 0, 0, .nop, 1), (50, 99, 0, 0, 0, .nop, 1), (51, 99, 0, 0, 0, .nop, 1), (54, 3, 2, 1, 0, .iinc 2 1, 3), (57, 20, 6, 0, 0, .goto (-47), 3), (60, 49, 1, 0, 0, .aload_n 1, 1), (61, 41, 0, 0, 0, .areturn, 1)]
def q_m27 : List qRow := [(0, 49, 0, 0, 0, .aload_n 0, 1), (1, 1, 1, 0, 0, .iload_n 1, 1), (2, 35, 22, 161, 286, .invokevirtual 25, 3), (5, 50, 3, 0, 0, .astore_n 3, 1), (6, 49, 3, 0, 0, .aload_n 3, 1), (7, 49, 2, 0, 0, .aload_n 2, 1), (8, 18, 12, 0, 0, .if_acmp .eq 13, 3), (11, 1, 1, 0, 0, .iload_n 1, 1), (12, 14, 2, 12, 0, .ifCond .lt 9, 3), (15, 1, 1, 0, 0, .iload_n 1, 1), (16, 0, 10, 0, 0, .bipush 10, 2), (18, 15, 2, 13, 0, .if_icmp .lt 4, 3), (21, 99, 0, 0, 0, .nop, 1), (22, 49, 0, 0, 0, .aload_n 0, 1), (23, 21, 5, 0, 265, .getfield 11, 3), (26, 1, 1, 0, 0, .iload_n 1, 1), (27, 49, 2, 0, 0, .aload_n 2, 1), (28, 29, 0, 0, 0, .aastore, 1), (29, 49, 2, 0, 0, .aload_n 2, 1), (30, 16, 29, 0, 0, .ifnull 18, 3), (33, 49, 0, 0, 0, .aload_n 0, 1), (34, 49, 2, 0, 0, .aload_n 2, 1), (35, 35, 28, 161, 445, .invokevirtual 21, 3), (38, 0, 1, 0, 0, .iconst 1, 1), (39, 1, 1, 0, 0, .iload_n 1, 1), (40, 10, 0, 0, 0, .ishl, 1), (41, 15, 1, 29, 0, .if_icmp .ne 7, 3), (44, 49, 2, 0, 0, .aload_n 2, 1), (45, 35, 29, 96, 386, .invokevirtual 53, 3), (48, 49, 3, 0, 0, .aload_n 3, 1), (49, 16, 37, 0, 0, .ifnull 15, 3), (52, 99, 0, 0, 0, .nop, 1), (53, 99, 0, 0, 0, .nop, 1), (54, 99, 0, 0, 0, .nop, 1), (57, 99, 0, 0, 0, .nop, 1), (60, 99, 0, 0, 0, .nop, 1), (61, 99, 0, 0, 0, .nop, 1), (64, 42, 0, 0, 0, .return_, 1)]
def q_m28 : List qRow := [(0, 0, 0, 0, 0, .iconst 0, 1), (1, 2, 2, 0, 0, .istore_n 2, 1), (2, 0, 0, 0, 0, .iconst 0, 1), (3, 2, 3, 0, 0, .istore_n 3, 1), (4, 1, 3, 0, 0, .iload_n 3, 1), (5, 0, 10, 0, 0, .bipush 10, 2), (7, 15, 3, 21, 0, .if_icmp .ge 25, 3), (10, 49, 0, 0, 0, .aload_n 0, 1), (11, 21, 5, 0, 265, .getfield 11, 3), (14, 1, 3, 0, 0, .iload_n 3, 1), (15, 28, 0, 0, 0, .aaload, 1), (16, 49, 1, 0, 0, .aload_n 1, 1), (17, 19, 19, 0, 0, .if_acmp .ne 9, 3), (20, 1, 2, 0, 0, .iload_n 2, 1), (21, 0, 1, 0, 0, .iconst 1, 1), (22, 1, 3, 0, 0, .iload_n 3, 1), (23, 10, 0, 0, 0, .ishl, 1), (24, 8, 0, 0, 0, .ior, 1), (25, 2, 2, 0, 0, .istore_n 2, 1), (26, 3, 3, 1, 0, .iinc 3 1, 3), (29, 20, 4, 0, 0, .goto (-25), 3), (32, 1, 2, 0, 0, .iload_n 2, 1), (33, 40, 0, 0, 0, .ireturn, 1)]
def q_m29 : List qRow := [(0, 49, 0, 0, 0, .aload_n 0, 1), (1, 12, 0, 0, 0, .dup, 1), (2, 21, 3, 2, 410, .getfield 16, 3), (5, 0, 1, 0, 0, .iconst 1, 1), (6, 4, 0, 0, 0, .iadd, 1), (7, 22, 3, 2, 1640, .putfield 16, 3), (10, 49, 0, 0, 0, .aload_n 0, 1), (11, 21, 3, 2, 410, .getfield 16, 3), (14, 0, 1, 0, 0, .iconst 1, 1), (15, 15, 1, 14, 0, .if_icmp .ne 11, 3), (18, 49, 0, 0, 0, .aload_n 0, 1), (19, 21, 3, 1, 406, .getfield 10, 3), (22, 0, 1, 0, 0, .iconst 1, 1), (23, 35, 30, 129, 298, .invokevirtual 30, 3), (26, 42, 0, 0, 0, .return_, 1)]
def q_m30 : List qRow := [(0, 0, 0, 0, 0, .iconst 0, 1), (1, 2, 2, 0, 0, .istore_n 2, 1), (2, 1, 2, 0, 0, .iload_n 2, 1), (3, 0, 16, 0, 0, .bipush 16, 2), (5, 15, 3, 21, 0, .if_icmp .ge 33, 3), (8, 49, 0, 0, 0, .aload_n 0, 1), (9, 21, 4, 0, 234, .getfield 11, 3), (12, 1, 2, 0, 0, .iload_n 2, 1), (13, 28, 0, 0, 0, .aaload, 1), (14, 16, 19, 0, 0, .ifnull 18, 3), (17, 99, 0, 0, 0, .nop, 1), (18, 99, 0, 0, 0, .nop, 1), (21, 99, 0, 0, 0, .nop, 1), (22, 99, 0, 0, 0, .nop, 1), (23, 99, 0, 0, 0, .nop, 1), (24, 99, 0, 0, 0, .nop, 1), (27, 99, 0, 0, 0, .nop, 1), (28, 99, 0, 0, 0, .nop, 1), (29, 99, 0, 0, 0, .nop, 1), (32, 3, 2, 1, 0, .iinc 2 1, 3), (35, 20, 2, 0, 0, .goto (-33), 3), (38, 42, 0, 0, 0, .return_, 1)]
def q_m31 : List qRow := [(0, 49, 0, 0, 0, .aload_n 0, 1), (1, 21, 10, 9, 1042, .getfield 31, 3), (4, 0, 10, 0, 0, .bipush 10, 2), (6, 49, 0, 0, 0, .aload_n 0, 1), (7, 21, 10, 10, 1043, .getfield 34, 3), (10, 1, 1, 0, 0, .iload_n 1, 1), (11, 24, 0, 0, 0, .iaload, 1), (12, 6, 0, 0, 0, .imul, 1), (13, 1, 2, 0, 0, .iload_n 2, 1), (14, 4, 0, 0, 0, .iadd, 1), (15, 24, 0, 0, 0, .iaload, 1), (16, 0, 1, 0, 0, .iconst 1, 1), (17, 5, 0, 0, 0, .isub, 1), (18, 40, 0, 0, 0, .ireturn, 1)]
def q_m32 : List qRow := [(0, 49, 0, 0, 0, .aload_n 0, 1), (1, 1, 1, 0, 0, .iload_n 1, 1), (2, 35, 33, 321, 1174, .invokevirtual 136, 3), (5, 14, 0, 44, 0, .ifCond .eq 66, 3), (8, 49, 0, 0, 0, .aload_n 0, 1), (9, 35, 35, 320, 1182, .invokevirtual 139, 3), (12, 2, 2, 0, 0, .istore_n 2, 1), (13, 0, 0, 0, 0, .iconst 0, 1), (14, 2, 3, 0, 0, .istore_n 3, 1), (15, 1, 3, 0, 0, .iload_n 3, 1), (16, 0, 10, 0, 0, .bipush 10, 2), (18, 15, 3, 33, 0, .if_icmp .ge 36, 3), (21, 49, 0, 0, 0, .aload_n 0, 1), (22, 21, 10, 9, 1042, .getfield 31, 3), (25, 0, 10, 0, 0, .bipush 10, 2), (27, 1, 2, 0, 0, .iload_n 2, 1), (28, 6, 0, 0, 0, .imul, 1), (29, 1, 3, 0, 0, .iload_n 3, 1), (30, 4, 0, 0, 0, .iadd, 1), (31, 49, 0, 0, 0, .aload_n 0, 1), (32, 21, 10, 9, 1042, .getfield 31, 3), (35, 0, 10, 0, 0, .bipush 10, 2), (37, 49, 0, 0, 0, .aload_n 0, 1), (38, 21, 10, 10, 1043, .getfield 34, 3), (41, 1, 1, 0, 0, .iload_n 1, 1), (42, 24, 0, 0, 0, .iaload, 1), (43, 6, 0, 0, 0, .imul, 1), (44, 1, 3, 0, 0, .iload_n 3, 1), (45, 4, 0, 0, 0, .iadd, 1), (46, 24, 0, 0, 0, .iaload, 1), (47, 25, 0, 0, 0, .iastore, 1), (48, 3, 3, 1, 0, .iinc 3 1, 3), (51, 20, 9, 0, 0, .goto (-36), 3), (54, 49, 0, 0, 0, .aload_n 0, 1), (55, 21, 10, 10, 1043, .getfield 34, 3), (58, 1, 1, 0, 0, .iload_n 1, 1), (59, 1, 2, 0, 0, .iload_n 2, 1), (60, 25, 0, 0, 0, .iastore, 1), (61, 49, 0, 0, 0, .aload_n 0, 1), (62, 12, 0, 0, 0, .dup, 1), (63, 21, 10, 25, 1058, .getfield 143, 3), (66, 0, 1, 0, 0, .iconst 1, 1), (67, 4, 0, 0, 0, .iadd, 1), (68, 22, 10, 25, 4232, .putfield 143, 3), (71, 42, 0, 0, 0, .return_, 1)]
def q_m33 : List qRow := [(0, 0, 0, 0, 0, .iconst 0, 1), (1, 2, 2, 0, 0, .istore_n 2, 1), (2, 0, 0, 0, 0, .iconst 0, 1), (3, 2, 3, 0, 0, .istore_n 3, 1), (4, 1, 3, 0, 0, .iload_n 3, 1), (5, 0, 12, 0, 0, .bipush 12, 2), (7, 15, 3, 26, 0, .if_icmp .ge 36, 3), (10, 1, 2, 0, 0, .iload_n 2, 1), (11, 1, 3, 0, 0, .iload_n 3, 1), (12, 1, 1, 0, 0, .iload_n 1, 1), (13, 15, 0, 21, 0, .if_icmp .eq 21, 3), (16, 49, 0, 0, 0, .aload_n 0, 1), (17, 1, 3, 0, 0, .iload_n 3, 1), (18, 49, 0, 0, 0, .aload_n 0, 1), (19, 21, 10, 10, 1043, .getfield 34, 3), (22, 1, 1, 0, 0, .iload_n 1, 1), (23, 24, 0, 0, 0, .iaload, 1), (24, 35, 34, 322, 1178, .invokevirtual 129, 3), (27, 14, 0, 21, 0, .ifCond .eq 7, 3), (30, 0, 1, 0, 0, .iconst 1, 1), (31, 20, 22, 0, 0, .goto 4, 3), (34, 0, 0, 0, 0, .iconst 0, 1), (35, 8, 0, 0, 0, .ior, 1), (36, 2, 2, 0, 0, .istore_n 2, 1), (37, 3, 3, 1, 0, .iinc 3 1, 3), (40, 20, 4, 0, 0, .goto (-36), 3), (43, 1, 2, 0, 0, .iload_n 2, 1), (44, 40, 1, 0, 0, .ireturn, 1)]
def q_m34 : List qRow := [(0, 49, 0, 0, 0, .aload_n 0, 1), (1, 21, 10, 10, 1043, .getfield 34, 3), (4, 1, 1, 0, 0, .iload_n 1, 1), (5, 24, 0, 0, 0, .iaload, 1), (6, 1, 2, 0, 0, .iload_n 2, 1), (7, 15, 1, 8, 0, .if_icmp .ne 7, 3), (10, 0, 1, 0, 0, .iconst 1, 1), (11, 20, 9, 0, 0, .goto 4, 3), (14, 0, 0, 0, 0, .iconst 0, 1), (15, 40, 1, 0, 0, .ireturn, 1)]
def q_m35 : List qRow := [(0, 0, 0, 0, 0, .iconst 0, 1), (1, 2, 1, 0, 0, .istore_n 1, 1), (2, 0, 1, 0, 0, .iconst 1, 1), (3, 2, 2, 0, 0, .istore_n 2, 1), (4, 1, 2, 0, 0, .iload_n 2, 1), (5, 14, 0, 36, 0, .ifCond .eq 52, 3), (8, 0, 0, 0, 0, .iconst 0, 1), (9, 2, 2, 0, 0, .istore_n 2, 1), (10, 0, 0, 0, 0, .iconst 0, 1), (11, 2, 3, 0, 0, .istore_n 3, 1), (12, 1, 3, 0, 0, .iload_n 3, 1), (13, 0, 12, 0, 0, .bipush 12, 2), (15, 15, 3, 27, 0, .if_icmp .ge 27, 3), (18, 1, 2, 0, 0, .iload_n 2, 1), (19, 49, 0, 0, 0, .aload_n 0, 1), (20, 21, 10, 10, 1043, .getfield 34, 3), (23, 1, 3, 0, 0, .iload_n 3, 1), (24, 24, 0, 0, 0, .iaload, 1), (25, 1, 1, 0, 0, .iload_n 1, 1), (26, 15, 1, 22, 0, .if_icmp .ne 7, 3), (29, 0, 1, 0, 0, .iconst 1, 1), (30, 20, 23, 0, 0, .goto 4, 3), (33, 0, 0, 0, 0, .iconst 0, 1), (34, 8, 0, 0, 0, .ior, 1), (35, 2, 2, 0, 0, .istore_n 2, 1), (36, 3, 3, 1, 0, .iinc 3 1, 3), (39, 20, 10, 0, 0, .goto (-27), 3), (42, 1, 1, 0, 0, .iload_n 1, 1), (43, 1, 2, 0, 0, .iload_n 2, 1), (44, 14, 0, 32, 0, .ifCond .eq 7, 3), (47, 0, 1, 0, 0, .iconst 1, 1), (48, 20, 33, 0, 0, .goto 4, 3), (51, 0, 0, 0, 0, .iconst 0, 1), (52, 4, 0, 0, 0, .iadd, 1), (53, 2, 1, 0, 0, .istore_n 1, 1), (54, 20, 4, 0, 0, .goto (-50), 3), (57, 1, 1, 0, 0, .iload_n 1, 1), (58, 40, 0, 0, 0, .ireturn, 1)]
def q_m36 : List qRow := [(0, 49, 0, 0, 0, .aload_n 0, 1), (1, 35, 37, 320, 1190, .invokevirtual 153, 3), (4, 2, 2, 0, 0, .istore_n 2, 1), (5, 49, 0, 0, 0, .aload_n 0, 1), (6, 21, 10, 6, 1039, .getfield 25, 3), (9, 1, 2, 0, 0, .iload_n 2, 1), (10, 1, 1, 0, 0, .iload_n 1, 1), (11, 25, 0, 0, 0, .iastore, 1), (12, 0, 0, 0, 0, .iconst 0, 1), (13, 2, 3, 0, 0, .istore_n 3, 1), (14, 1, 3, 0, 0, .iload_n 3, 1), (15, 0, 16, 0, 0, .bipush 16, 2), (17, 15, 3, 24, 0, .if_icmp .ge 21, 3), (20, 49, 0, 0, 0, .aload_n 0, 1), (21, 21, 10, 7, 1040, .getfield 28, 3), (24, 0, 16, 0, 0, .bipush 16, 2), (26, 1, 2, 0, 0, .iload_n 2, 1), (27, 6, 0, 0, 0, .imul, 1), (28, 1, 3, 0, 0, .iload_n 3, 1), (29, 4, 0, 0, 0, .iadd, 1), (30, 0, 0, 0, 0, .iconst 0, 1), (31, 25, 0, 0, 0, .iastore, 1), (32, 3, 3, 1, 0, .iinc 3 1, 3), (35, 20, 10, 0, 0, .goto (-21), 3), (38, 1, 2, 0, 0, .iload_n 2, 1), (39, 40, 0, 0, 0, .ireturn, 1)]
def q_m37 : List qRow := [(0, 0, 0, 0, 0, .iconst 0, 1), (1, 2, 1, 0, 0, .istore_n 1, 1), (2, 0, 1, 0, 0, .iconst 1, 1), (3, 2, 2, 0, 0, .istore_n 2, 1), (4, 1, 2, 0, 0, .iload_n 2, 1), (5, 14, 0, 24, 0, .ifCond .eq 33, 3), (8, 49, 0, 0, 0, .aload_n 0, 1), (9, 21, 10, 6, 1039, .getfield 25, 3), (12, 1, 1, 0, 0, .iload_n 1, 1), (13, 24, 0, 0, 0, .iaload, 1), (14, 14, 2, 13, 0, .ifCond .lt 7, 3), (17, 99, 0, 0, 0, .nop, 1), (18, 99, 0, 0, 0, .nop, 1), (21, 0, 0, 0, 0, .iconst 0, 1), (22, 2, 2, 0, 0, .istore_n 2, 1), (23, 1, 1, 0, 0, .iload_n 1, 1), (24, 1, 2, 0, 0, .iload_n 2, 1), (25, 14, 0, 20, 0, .ifCond .eq 7, 3), (28, 99, 0, 0, 0, .nop, 1), (29, 99, 0, 0, 0, .nop, 1), (32, 0, 0, 0, 0, .iconst 0, 1), (33, 4, 0, 0, 0, .iadd, 1), (34, 2, 1, 0, 0, .istore_n 1, 1), (35, 20, 4, 0, 0, .goto (-31), 3), (38, 1, 1, 0, 0, .iload_n 1, 1), (39, 40, 0, 0, 0, .ireturn, 1)]
def q_m38 : List qRow := [(0, 49, 4, 0, 0, .aload 4, 2), (2, 0, 0, 0, 0, .iconst 0, 1), (3, 49, 0, 0, 0, .aload_n 0, 1), (4, 1, 1, 0, 0, .iload_n 1, 1), (5, 1, 2, 0, 0, .iload_n 2, 1), (6, 1, 3, 0, 0, .iload_n 3, 1), (7, 35, 39, 291, 581, .invokevirtual 17, 3), (10, 99, 0, 0, 0, .nop, 1), (11, 99, 0, 0, 0, .nop, 1), (12, 99, 0, 0, 0, .nop, 1), (15, 50, 5, 0, 0, .astore 5, 2), (17, 0, 1, 0, 0, .iconst 1, 1), (18, 40, 0, 0, 0, .ireturn, 1), (19, 50, 5, 0, 0, .astore 5, 2), (21, 0, 2, 0, 0, .iconst 2, 1), (22, 40, 0, 0, 0, .ireturn, 1), (23, 99, 0, 0, 0, .nop, 1), (24, 99, 0, 0, 0, .nop, 1)]
def q_m39 : List qRow := [(0, 49, 0, 0, 0, .aload_n 0, 1), (1, 1, 1, 0, 0, .iload_n 1, 1), (2, 35, 14, 289, 488, .invokevirtual 87, 3), (5, 50, 4, 0, 0, .astore 4, 2), (7, 1, 2, 0, 0, .iload_n 2, 1), (8, 36, 21, 1, 555, .invokestatic 91, 3), (11, 1, 3, 0, 0, .iload_n 3, 1), (12, 36, 21, 1, 555, .invokestatic 91, 3), (15, 49, 4, 0, 0, .aload 4, 2), (17, 1, 2, 0, 0, .iload_n 2, 1), (18, 36, 41, 2, 585, .invokestatic 126, 3), (21, 99, 0, 0, 0, .nop, 1), (23, 99, 0, 0, 0, .nop, 1), (25, 99, 0, 0, 0, .nop, 1), (28, 99, 0, 0, 0, .nop, 1), (29, 99, 0, 0, 0, .nop, 1), (32, 99, 0, 0, 0, .nop, 1), (35, 99, 0, 0, 0, .nop, 1), (36, 99, 0, 0, 0, .nop, 1), (39, 99, 0, 0, 0, .nop, 1), (40, 99, 0, 0, 0, .nop, 1), (43, 99, 0, 0, 0, .nop, 1), (44, 99, 0, 0, 0, .nop, 1), (46, 99, 0, 0, 0, .nop, 1), (49, 99, 0, 0, 0, .nop, 1), (51, 99, 0, 0, 0, .nop, 1), (53, 99, 0, 0, 0, .nop, 1), (54, 99, 0, 0, 0, .nop, 1), (56, 99, 0, 0, 0, .nop, 1), (59, 99, 0, 0, 0, .nop, 1), (61, 99, 0, 0, 0, .nop, 1), (63, 99, 0, 0, 0, .nop, 1), (66, 99, 0, 0, 0, .nop, 1), (69, 99, 0, 0, 0, .nop, 1)]
def q_m40 : List qRow := [(0, 49, 0, 0, 0, .aload_n 0, 1), (1, 1, 1, 0, 0, .iload_n 1, 1), (2, 1, 2, 0, 0, .iload_n 2, 1), (3, 35, 16, 322, 1150, .invokevirtual 162, 3), (6, 14, 0, 13, 0, .ifCond .eq 18, 3), (9, 49, 0, 0, 0, .aload_n 0, 1), (10, 1, 3, 0, 0, .iload_n 3, 1), (11, 0, 0, 0, 0, .iconst 0, 1), (12, 0, 9, 0, 0, .bipush 9, 2), (14, 35, 18, 323, 1158, .invokevirtual 95, 3), (17, 14, 0, 13, 0, .ifCond .eq 7, 3), (20, 0, 1, 0, 0, .iconst 1, 1), (21, 20, 14, 0, 0, .goto 4, 3), (24, 0, 0, 0, 0, .iconst 0, 1), (25, 2, 4, 0, 0, .istore 4, 2), (27, 49, 0, 0, 0, .aload_n 0, 1), (28, 1, 4, 0, 0, .iload 4, 2), (30, 14, 1, 20, 0, .ifCond .ne 7, 3), (33, 0, 1, 0, 0, .iconst 1, 1), (34, 20, 39, 0, 0, .goto 36, 3), (37, 49, 0, 0, 0, .aload_n 0, 1), (38, 21, 10, 11, 1044, .getfield 37, 3), (41, 1, 1, 0, 0, .iload_n 1, 1), (42, 24, 0, 0, 0, .iaload, 1), (43, 0, 1, 0, 0, .iconst 1, 1), (44, 15, 0, 36, 0, .if_icmp .eq 21, 3), (47, 49, 0, 0, 0, .aload_n 0, 1), (48, 1, 1, 0, 0, .iload_n 1, 1), (49, 1, 2, 0, 0, .iload_n 2, 1), (50, 35, 31, 322, 1162, .invokevirtual 165, 3), (53, 14, 2, 36, 0, .ifCond .lt 12, 3), (56, 99, 0, 0, 0, .nop, 1), (57, 99, 0, 0, 0, .nop, 1), (58, 99, 0, 0, 0, .nop, 1), (59, 99, 0, 0, 0, .nop, 1), (62, 99, 0, 0, 0, .nop, 1), (65, 0, 2, 0, 0, .iconst 2, 1), (66, 20, 39, 0, 0, .goto 4, 3), (69, 99, 0, 0, 0, .nop, 1), (70, 35, 19, 321, 1166, .invokevirtual 169, 3), (73, 14, 0, 43, 0, .ifCond .eq 5, 3), (76, 0, 4294967295, 0, 0, .iconst (-1), 1), (77, 40, 0, 0, 0, .ireturn, 1), (78, 99, 0, 0, 0, .nop, 1), (79, 99, 0, 0, 0, .nop, 1), (80, 99, 0, 0, 0, .nop, 1), (83, 99, 0, 0, 0, .nop, 1), (84, 99, 0, 0, 0, .nop, 1), (87, 99, 0, 0, 0, .nop, 1), (89, 99, 0, 0, 0, .nop, 1), (90, 99, 0, 0, 0, .nop, 1), (93, 99, 0, 0, 0, .nop, 1), (94, 99, 0, 0, 0, .nop, 1), (95, 99, 0, 0, 0, .nop, 1), (96, 99, 0, 0, 0, .nop, 1), (97, 99, 0, 0, 0, .nop, 1), (98, 99, 0, 0, 0, .nop, 1), (99, 99, 0, 0, 0, .nop, 1), (102, 99, 0, 0, 0, .nop, 1), (104, 99, 0, 0, 0, .nop, 1), (105, 99, 0, 0, 0, .nop, 1), (108, 99, 0, 0, 0, .nop, 1), (109, 99, 0, 0, 0, .nop, 1), (110, 99, 0, 0, 0, .nop, 1), (111, 99, 0, 0, 0, .nop, 1), (112, 99, 0, 0, 0, .nop, 1), (113, 99, 0, 0, 0, .nop, 1), (114, 99, 0, 0, 0, .nop, 1), (115, 99, 0, 0, 0, .nop, 1), (116, 99, 0, 0, 0, .nop, 1), (117, 99, 0, 0, 0, .nop, 1), (118, 99, 0, 0, 0, .nop, 1), (119, 99, 0, 0, 0, .nop, 1), (120, 99, 0, 0, 0, .nop, 1), (123, 99, 0, 0, 0, .nop, 1), (126, 99, 0, 0, 0, .nop, 1)]
def q_m41 : List qRow := [(0, 49, 0, 0, 0, .aload_n 0, 1), (1, 21, 7, 1, 182, .getfield 95, 3), (4, 14, 1, 5, 0, .ifCond .ne 7, 3), (7, 0, 1, 0, 0, .iconst 1, 1), (8, 20, 6, 0, 0, .goto 4, 3), (11, 99, 0, 0, 0, .nop, 1), (12, 36, 23, 1, 559, .invokestatic 107, 3), (15, 49, 0, 0, 0, .aload_n 0, 1), (16, 1, 1, 0, 0, .iload_n 1, 1), (17, 36, 42, 2, 588, .invokestatic 192, 3), (20, 99, 0, 0, 0, .nop, 1)]
def q_m42 : List qRow := [(0, 49, 0, 0, 0, .aload_n 0, 1), (1, 21, 7, 0, 180, .getfield 99, 3), (4, 1, 1, 0, 0, .iload_n 1, 1), (5, 35, 22, 161, 558, .invokevirtual 103, 3), (8, 50, 2, 0, 0, .astore_n 2, 1), (9, 49, 2, 0, 0, .aload_n 2, 1), (10, 17, 11, 0, 0, .ifnonnull 11, 3), (13, 43, 2, 562, 292, .new 290, 3), (16, 99, 0, 0, 0, .nop, 1), (17, 99, 0, 0, 0, .nop, 1), (20, 99, 0, 0, 0, .nop, 1), (21, 99, 0, 0, 0, .nop, 1), (22, 99, 0, 0, 0, .nop, 1)]
def q_m43 : List qRow := [(0, 49, 3, 0, 0, .aload_n 3, 1), (1, 0, 0, 0, 0, .iconst 0, 1), (2, 49, 0, 0, 0, .aload_n 0, 1), (3, 1, 1, 0, 0, .iload_n 1, 1), (4, 1, 2, 0, 0, .iload_n 2, 1), (5, 35, 44, 290, 596, .invokevirtual 21, 3), (8, 99, 0, 0, 0, .nop, 1), (9, 99, 0, 0, 0, .nop, 1), (10, 99, 0, 0, 0, .nop, 1), (13, 50, 4, 0, 0, .astore 4, 2), (15, 0, 1, 0, 0, .iconst 1, 1), (16, 40, 0, 0, 0, .ireturn, 1), (17, 50, 4, 0, 0, .astore 4, 2), (19, 0, 2, 0, 0, .iconst 2, 1), (20, 40, 0, 0, 0, .ireturn, 1), (21, 99, 0, 0, 0, .nop, 1), (22, 99, 0, 0, 0, .nop, 1)]
def q_m44 : List qRow := [(0, 49, 0, 0, 0, .aload_n 0, 1), (1, 1, 1, 0, 0, .iload_n 1, 1), (2, 35, 14, 289, 488, .invokevirtual 87, 3), (5, 50, 3, 0, 0, .astore_n 3, 1), (6, 1, 2, 0, 0, .iload_n 2, 1), (7, 36, 21, 1, 555, .invokestatic 91, 3), (10, 49, 3, 0, 0, .aload_n 3, 1), (11, 1, 2, 0, 0, .iload_n 2, 1), (12, 36, 41, 2, 585, .invokestatic 126, 3), (15, 99, 0, 0, 0, .nop, 1), (17, 99, 0, 0, 0, .nop, 1), (18, 99, 0, 0, 0, .nop, 1), (19, 99, 0, 0, 0, .nop, 1), (22, 99, 0, 0, 0, .nop, 1), (24, 99, 0, 0, 0, .nop, 1), (26, 99, 0, 0, 0, .nop, 1), (27, 99, 0, 0, 0, .nop, 1), (28, 99, 0, 0, 0, .nop, 1), (31, 99, 0, 0, 0, .nop, 1), (32, 99, 0, 0, 0, .nop, 1), (35, 99, 0, 0, 0, .nop, 1), (38, 99, 0, 0, 0, .nop, 1), (40, 99, 0, 0, 0, .nop, 1), (42, 99, 0, 0, 0, .nop, 1), (45, 99, 0, 0, 0, .nop, 1), (48, 99, 0, 0, 0, .nop, 1)]
def q_m45 : List qRow := [(0, 49, 0, 0, 0, .aload_n 0, 1), (1, 1, 1, 0, 0, .iload_n 1, 1), (2, 1, 2, 0, 0, .iload_n 2, 1), (3, 35, 16, 322, 1150, .invokevirtual 162, 3), (6, 2, 3, 0, 0, .istore_n 3, 1), (7, 49, 0, 0, 0, .aload_n 0, 1), (8, 1, 3, 0, 0, .iload_n 3, 1), (9, 14, 1, 10, 0, .ifCond .ne 7, 3), (12, 0, 1, 0, 0, .iconst 1, 1), (13, 20, 24, 0, 0, .goto 27, 3), (16, 49, 0, 0, 0, .aload_n 0, 1), (17, 21, 10, 11, 1044, .getfield 37, 3), (20, 1, 1, 0, 0, .iload_n 1, 1), (21, 24, 0, 0, 0, .iaload, 1), (22, 0, 1, 0, 0, .iconst 1, 1), (23, 15, 0, 21, 0, .if_icmp .eq 12, 3), (26, 49, 0, 0, 0, .aload_n 0, 1), (27, 1, 1, 0, 0, .iload_n 1, 1), (28, 1, 2, 0, 0, .iload_n 2, 1), (29, 35, 31, 322, 1162, .invokevirtual 165, 3), (32, 14, 3, 23, 0, .ifCond .ge 7, 3), (35, 0, 2, 0, 0, .iconst 2, 1), (36, 20, 24, 0, 0, .goto 4, 3), (39, 99, 0, 0, 0, .nop, 1), (40, 35, 19, 321, 1166, .invokevirtual 169, 3), (43, 14, 0, 28, 0, .ifCond .eq 5, 3), (46, 0, 4294967295, 0, 0, .iconst (-1), 1), (47, 40, 0, 0, 0, .ireturn, 1), (48, 99, 0, 0, 0, .nop, 1), (49, 99, 0, 0, 0, .nop, 1), (50, 99, 0, 0, 0, .nop, 1), (51, 99, 0, 0, 0, .nop, 1), (54, 99, 0, 0, 0, .nop, 1), (56, 99, 0, 0, 0, .nop, 1), (57, 99, 0, 0, 0, .nop, 1), (58, 99, 0, 0, 0, .nop, 1), (61, 99, 0, 0, 0, .nop, 1), (62, 99, 0, 0, 0, .nop, 1), (65, 99, 0, 0, 0, .nop, 1), (67, 99, 0, 0, 0, .nop, 1), (68, 99, 0, 0, 0, .nop, 1), (71, 99, 0, 0, 0, .nop, 1), (72, 99, 0, 0, 0, .nop, 1), (73, 99, 0, 0, 0, .nop, 1), (74, 99, 0, 0, 0, .nop, 1), (75, 99, 0, 0, 0, .nop, 1), (76, 99, 0, 0, 0, .nop, 1), (77, 99, 0, 0, 0, .nop, 1), (78, 99, 0, 0, 0, .nop, 1), (79, 99, 0, 0, 0, .nop, 1), (80, 99, 0, 0, 0, .nop, 1), (82, 99, 0, 0, 0, .nop, 1), (85, 99, 0, 0, 0, .nop, 1), (87, 99, 0, 0, 0, .nop, 1), (88, 99, 0, 0, 0, .nop, 1), (91, 99, 0, 0, 0, .nop, 1), (93, 99, 0, 0, 0, .nop, 1)]
def q_m46 : List qRow := [(0, 49, 0, 0, 0, .aload_n 0, 1), (1, 1, 1, 0, 0, .iload_n 1, 1), (2, 1, 2, 0, 0, .iload_n 2, 1), (3, 1, 3, 0, 0, .iload_n 3, 1), (4, 1, 4, 0, 0, .iload 4, 2), (6, 35, 47, 292, 603, .invokevirtual 24, 3), (9, 99, 0, 0, 0, .nop, 1), (12, 50, 5, 0, 0, .astore 5, 2), (14, 0, 1, 0, 0, .iconst 1, 1), (15, 40, 0, 0, 0, .ireturn, 1), (16, 50, 5, 0, 0, .astore 5, 2), (18, 0, 2, 0, 0, .iconst 2, 1), (19, 40, 0, 0, 0, .ireturn, 1), (20, 99, 0, 0, 0, .nop, 1), (21, 99, 0, 0, 0, .nop, 1)]
def q_m47 : List qRow := [(0, 49, 0, 0, 0, .aload_n 0, 1), (1, 1, 1, 0, 0, .iload_n 1, 1), (2, 35, 14, 289, 488, .invokevirtual 87, 3), (5, 50, 5, 0, 0, .astore 5, 2), (7, 1, 2, 0, 0, .iload_n 2, 1), (8, 36, 21, 1, 555, .invokestatic 91, 3), (11, 1, 3, 0, 0, .iload_n 3, 1), (12, 36, 21, 1, 555, .invokestatic 91, 3), (15, 49, 5, 0, 0, .aload 5, 2), (17, 1, 2, 0, 0, .iload_n 2, 1), (18, 36, 41, 2, 585, .invokestatic 126, 3), (21, 99, 0, 0, 0, .nop, 1), (23, 99, 0, 0, 0, .nop, 1), (25, 99, 0, 0, 0, .nop, 1), (28, 99, 0, 0, 0, .nop, 1), (29, 99, 0, 0, 0, .nop, 1), (32, 99, 0, 0, 0, .nop, 1), (34, 99, 0, 0, 0, .nop, 1), (36, 99, 0, 0, 0, .nop, 1), (39, 99, 0, 0, 0, .nop, 1), (41, 99, 0, 0, 0, .nop, 1), (44, 99, 0, 0, 0, .nop, 1), (45, 99, 0, 0, 0, .nop, 1), (48, 99, 0, 0, 0, .nop, 1), (49, 99, 0, 0, 0, .nop, 1), (52, 99, 0, 0, 0, .nop, 1), (54, 99, 0, 0, 0, .nop, 1), (56, 99, 0, 0, 0, .nop, 1), (59, 99, 0, 0, 0, .nop, 1), (60, 99, 0, 0, 0, .nop, 1), (62, 99, 0, 0, 0, .nop, 1), (65, 99, 0, 0, 0, .nop, 1), (67, 99, 0, 0, 0, .nop, 1), (69, 99, 0, 0, 0, .nop, 1), (70, 99, 0, 0, 0, .nop, 1), (72, 99, 0, 0, 0, .nop, 1), (75, 99, 0, 0, 0, .nop, 1), (77, 99, 0, 0, 0, .nop, 1), (78, 99, 0, 0, 0, .nop, 1), (80, 99, 0, 0, 0, .nop, 1), (83, 99, 0, 0, 0, .nop, 1), (85, 99, 0, 0, 0, .nop, 1), (88, 99, 0, 0, 0, .nop, 1), (89, 99, 0, 0, 0, .nop, 1), (92, 99, 0, 0, 0, .nop, 1), (93, 99, 0, 0, 0, .nop, 1), (96, 99, 0, 0, 0, .nop, 1), (99, 99, 0, 0, 0, .nop, 1)]
def q_m48 : List qRow := [(0, 49, 0, 0, 0, .aload_n 0, 1), (1, 1, 1, 0, 0, .iload_n 1, 1), (2, 1, 2, 0, 0, .iload_n 2, 1), (3, 35, 16, 322, 1150, .invokevirtual 162, 3), (6, 14, 0, 13, 0, .ifCond .eq 18, 3), (9, 49, 0, 0, 0, .aload_n 0, 1), (10, 1, 3, 0, 0, .iload_n 3, 1), (11, 0, 0, 0, 0, .iconst 0, 1), (12, 0, 9, 0, 0, .bipush 9, 2), (14, 35, 18, 323, 1158, .invokevirtual 95, 3), (17, 14, 0, 13, 0, .ifCond .eq 7, 3), (20, 0, 1, 0, 0, .iconst 1, 1), (21, 20, 14, 0, 0, .goto 4, 3), (24, 0, 0, 0, 0, .iconst 0, 1), (25, 2, 5, 0, 0, .istore 5, 2), (27, 1, 5, 0, 0, .iload 5, 2), (29, 14, 0, 37, 0, .ifCond .eq 40, 3), (32, 49, 0, 0, 0, .aload_n 0, 1), (33, 21, 10, 11, 1044, .getfield 37, 3), (36, 1, 1, 0, 0, .iload_n 1, 1), (37, 24, 0, 0, 0, .iaload, 1), (38, 0, 1, 0, 0, .iconst 1, 1), (39, 15, 0, 35, 0, .if_icmp .eq 26, 3), (42, 49, 0, 0, 0, .aload_n 0, 1), (43, 1, 1, 0, 0, .iload_n 1, 1), (44, 1, 2, 0, 0, .iload_n 2, 1), (45, 35, 31, 322, 1162, .invokevirtual 165, 3), (48, 14, 2, 35, 0, .ifCond .lt 17, 3), (51, 99, 0, 0, 0, .nop, 1), (53, 99, 0, 0, 0, .nop, 1), (56, 99, 0, 0, 0, .nop, 1), (57, 99, 0, 0, 0, .nop, 1), (58, 99, 0, 0, 0, .nop, 1), (59, 99, 0, 0, 0, .nop, 1), (62, 99, 0, 0, 0, .nop, 1), (65, 0, 1, 0, 0, .iconst 1, 1), (66, 20, 38, 0, 0, .goto 4, 3), (69, 0, 0, 0, 0, .iconst 0, 1), (70, 2, 6, 0, 0, .istore 6, 2), (72, 49, 0, 0, 0, .aload_n 0, 1), (73, 1, 5, 0, 0, .iload 5, 2), (75, 14, 1, 44, 0, .ifCond .ne 7, 3), (78, 0, 1, 0, 0, .iconst 1, 1), (79, 20, 49, 0, 0, .goto 13, 3), (82, 1, 6, 0, 0, .iload 6, 2), (84, 14, 0, 48, 0, .ifCond .eq 7, 3), (87, 0, 2, 0, 0, .iconst 2, 1), (88, 20, 49, 0, 0, .goto 4, 3), (91, 99, 0, 0, 0, .nop, 1), (92, 35, 19, 321, 1166, .invokevirtual 169, 3), (95, 14, 0, 52, 0, .ifCond .eq 4, 3), (98, 42, 0, 0, 0, .return_, 1), (99, 99, 0, 0, 0, .nop, 1), (100, 99, 0, 0, 0, .nop, 1), (101, 99, 0, 0, 0, .nop, 1), (102, 99, 0, 0, 0, .nop, 1), (105, 99, 0, 0, 0, .nop, 1), (106, 99, 0, 0, 0, .nop, 1), (107, 99, 0, 0, 0, .nop, 1), (108, 99, 0, 0, 0, .nop, 1), (111, 99, 0, 0, 0, .nop, 1), (114, 99, 0, 0, 0, .nop, 1), (115, 99, 0, 0, 0, .nop, 1), (116, 99, 0, 0, 0, .nop, 1), (119, 99, 0, 0, 0, .nop, 1), (121, 99, 0, 0, 0, .nop, 1), (122, 99, 0, 0, 0, .nop, 1), (125, 99, 0, 0, 0, .nop, 1), (126, 99, 0, 0, 0, .nop, 1), (127, 99, 0, 0, 0, .nop, 1), (128, 99, 0, 0, 0, .nop, 1), (130, 99, 0, 0, 0, .nop, 1), (131, 99, 0, 0, 0, .nop, 1), (134, 99, 0, 0, 0, .nop, 1), (136, 99, 0, 0, 0, .nop, 1), (137, 99, 0, 0, 0, .nop, 1), (138, 99, 0, 0, 0, .nop, 1), (139, 99, 0, 0, 0, .nop, 1), (141, 99, 0, 0, 0, .nop, 1), (142, 99, 0, 0, 0, .nop, 1), (145, 99, 0, 0, 0, .nop, 1), (147, 99, 0, 0, 0, .nop, 1), (148, 99, 0, 0, 0, .nop, 1), (149, 99, 0, 0, 0, .nop, 1), (150, 99, 0, 0, 0, .nop, 1), (153, 99, 0, 0, 0, .nop, 1), (155, 99, 0, 0, 0, .nop, 1), (156, 99, 0, 0, 0, .nop, 1), (157, 99, 0, 0, 0, .nop, 1), (158, 99, 0, 0, 0, .nop, 1), (159, 99, 0, 0, 0, .nop, 1), (160, 99, 0, 0, 0, .nop, 1), (163, 99, 0, 0, 0, .nop, 1), (165, 99, 0, 0, 0, .nop, 1), (166, 99, 0, 0, 0, .nop, 1), (167, 99, 0, 0, 0, .nop, 1), (169, 99, 0, 0, 0, .nop, 1), (172, 99, 0, 0, 0, .nop, 1), (174, 99, 0, 0, 0, .nop, 1), (177, 99, 0, 0, 0, .nop, 1), (178, 99, 0, 0, 0, .nop, 1), (179, 99, 0, 0, 0, .nop, 1), (180, 99, 0, 0, 0, .nop, 1), (183, 99, 0, 0, 0, .nop, 1)]
def q_m49 : List qRow := [(0, 49, 3, 0, 0, .aload_n 3, 1), (1, 0, 0, 0, 0, .iconst 0, 1), (2, 49, 0, 0, 0, .aload_n 0, 1), (3, 1, 1, 0, 0, .iload_n 1, 1), (4, 1, 2, 0, 0, .iload_n 2, 1), (5, 35, 50, 290, 610, .invokevirtual 28, 3), (8, 45, 0, 0, 0, .i2l, 1), (9, 27, 0, 0, 0, .lastore, 1), (10, 20, 12, 0, 0, .goto 7, 3), (13, 50, 4, 0, 0, .astore 4, 2), (15, 0, 1, 0, 0, .iconst 1, 1), (16, 40, 0, 0, 0, .ireturn, 1), (17, 0, 0, 0, 0, .iconst 0, 1), (18, 40, 0, 0, 0, .ireturn, 1)]
def q_m50 : List qRow := [(0, 49, 0, 0, 0, .aload_n 0, 1), (1, 1, 1, 0, 0, .iload_n 1, 1), (2, 35, 14, 289, 488, .invokevirtual 87, 3), (5, 50, 3, 0, 0, .astore_n 3, 1), (6, 1, 2, 0, 0, .iload_n 2, 1), (7, 36, 21, 1, 555, .invokestatic 91, 3), (10, 49, 3, 0, 0, .aload_n 3, 1), (11, 21, 7, 0, 180, .getfield 99, 3), (14, 1, 2, 0, 0, .iload_n 2, 1), (15, 35, 22, 161, 558, .invokevirtual 103, 3), (18, 50, 4, 0, 0, .astore 4, 2), (20, 49, 4, 0, 0, .aload 4, 2), (22, 17, 15, 0, 0, .ifnonnull 7, 3), (25, 0, 4294967295, 0, 0, .iconst (-1), 1), (26, 20, 17, 0, 0, .goto 8, 3), (29, 99, 0, 0, 0, .nop, 1), (31, 99, 0, 0, 0, .nop, 1), (34, 40, 0, 0, 0, .ireturn, 1)]
def q_m51 : List qRow := [(0, 49, 0, 0, 0, .aload_n 0, 1), (1, 49, 0, 0, 0, .aload_n 0, 1), (2, 1, 1, 0, 0, .iload_n 1, 1), (3, 1, 2, 0, 0, .iload_n 2, 1), (4, 35, 16, 322, 1150, .invokevirtual 162, 3), (7, 14, 0, 8, 0, .ifCond .eq 7, 3), (10, 0, 0, 0, 0, .iconst 0, 1), (11, 20, 9, 0, 0, .goto 4, 3), (14, 0, 1, 0, 0, .iconst 1, 1), (15, 35, 19, 321, 1166, .invokevirtual 169, 3), (18, 14, 0, 13, 0, .ifCond .eq 5, 3), (21, 0, 4294967295, 0, 0, .iconst (-1), 1), (22, 40, 0, 0, 0, .ireturn, 1), (23, 49, 0, 0, 0, .aload_n 0, 1), (24, 1, 1, 0, 0, .iload_n 1, 1), (25, 1, 2, 0, 0, .iload_n 2, 1), (26, 35, 31, 322, 1162, .invokevirtual 165, 3), (29, 14, 3, 20, 0, .ifCond .ge 7, 3), (32, 0, 4294967295, 0, 0, .iconst (-1), 1), (33, 20, 27, 0, 0, .goto 14, 3), (36, 99, 0, 0, 0, .nop, 1), (37, 99, 0, 0, 0, .nop, 1), (40, 99, 0, 0, 0, .nop, 1), (41, 99, 0, 0, 0, .nop, 1), (42, 99, 0, 0, 0, .nop, 1), (43, 99, 0, 0, 0, .nop, 1), (46, 99, 0, 0, 0, .nop, 1), (47, 40, 0, 0, 0, .ireturn, 1)]
def q_m52 : List qRow := [(0, 49, 7, 0, 0, .aload 7, 2), (2, 0, 0, 0, 0, .iconst 0, 1), (3, 49, 0, 0, 0, .aload_n 0, 1), (4, 1, 1, 0, 0, .iload_n 1, 1), (5, 1, 2, 0, 0, .iload_n 2, 1), (6, 1, 3, 0, 0, .iload_n 3, 1), (7, 1, 4, 0, 0, .iload 4, 2), (9, 1, 5, 0, 0, .iload 5, 2), (11, 1, 6, 0, 0, .iload 6, 2), (13, 35, 53, 294, 618, .invokevirtual 31, 3), (16, 99, 0, 0, 0, .nop, 1), (17, 99, 0, 0, 0, .nop, 1), (18, 99, 0, 0, 0, .nop, 1), (21, 50, 8, 0, 0, .astore 8, 2), (23, 0, 1, 0, 0, .iconst 1, 1), (24, 40, 0, 0, 0, .ireturn, 1), (25, 50, 8, 0, 0, .astore 8, 2), (27, 0, 2, 0, 0, .iconst 2, 1), (28, 40, 0, 0, 0, .ireturn, 1), (29, 50, 8, 0, 0, .astore 8, 2), (31, 0, 3, 0, 0, .iconst 3, 1), (32, 40, 0, 0, 0, .ireturn, 1), (33, 99, 0, 0, 0, .nop, 1), (34, 99, 0, 0, 0, .nop, 1)]
def q_m53 : List qRow := [(0, 49, 0, 0, 0, .aload_n 0, 1), (1, 1, 1, 0, 0, .iload_n 1, 1), (2, 35, 14, 289, 488, .invokevirtual 87, 3), (5, 50, 7, 0, 0, .astore 7, 2), (7, 1, 2, 0, 0, .iload_n 2, 1), (8, 36, 21, 1, 555, .invokestatic 91, 3), (11, 1, 3, 0, 0, .iload_n 3, 1), (12, 1, 4, 0, 0, .iload 4, 2), (14, 0, 4, 0, 0, .iconst 4, 1), (15, 36, 56, 3, 622, .invokestatic 143, 3), (18, 1, 4, 0, 0, .iload 4, 2), (20, 0, 1, 0, 0, .iconst 1, 1), (21, 15, 2, 18, 0, .if_icmp .lt 13, 3), (24, 1, 4, 0, 0, .iload 4, 2), (26, 0, 4, 0, 0, .iconst 4, 1), (27, 15, 4, 18, 0, .if_icmp .gt 7, 3), (30, 0, 1, 0, 0, .iconst 1, 1), (31, 20, 19, 0, 0, .goto 4, 3), (34, 0, 0, 0, 0, .iconst 0, 1), (35, 36, 59, 1, 628, .invokestatic 147, 3), (38, 1, 5, 0, 0, .iload 5, 2), (40, 36, 60, 1, 646, .invokestatic 150, 3), (43, 14, 0, 31, 0, .ifCond .eq 23, 3), (46, 1, 6, 0, 0, .iload 6, 2), (48, 0, 4294966297, 0, 0, .sipush (-999), 3), (51, 15, 2, 31, 0, .if_icmp .lt 15, 3), (54, 1, 6, 0, 0, .iload 6, 2), (56, 0, 999, 0, 0, .sipush 999, 3), (59, 15, 4, 31, 0, .if_icmp .gt 7, 3), (62, 0, 1, 0, 0, .iconst 1, 1), (63, 20, 32, 0, 0, .goto 4, 3), (66, 0, 0, 0, 0, .iconst 0, 1), (67, 36, 59, 1, 628, .invokestatic 147, 3), (70, 1, 5, 0, 0, .iload 5, 2), (72, 1, 4, 0, 0, .iload 4, 2), (74, 0, 1, 0, 0, .iconst 1, 1), (75, 5, 0, 0, 0, .isub, 1), (76, 1, 6, 0, 0, .iload 6, 2), (78, 6, 0, 0, 0, .imul, 1), (79, 4, 0, 0, 0, .iadd, 1), (80, 36, 60, 1, 646, .invokestatic 150, 3), (83, 36, 59, 1, 628, .invokestatic 147, 3), (86, 49, 7, 0, 0, .aload 7, 2), (88, 1, 2, 0, 0, .iload_n 2, 1), (89, 36, 41, 2, 585, .invokestatic 126, 3), (92, 99, 0, 0, 0, .nop, 1), (94, 99, 0, 0, 0, .nop, 1), (95, 99, 0, 0, 0, .nop, 1), (98, 99, 0, 0, 0, .nop, 1), (99, 99, 0, 0, 0, .nop, 1), (101, 99, 0, 0, 0, .nop, 1), (103, 99, 0, 0, 0, .nop, 1), (105, 99, 0, 0, 0, .nop, 1), (108, 99, 0, 0, 0, .nop, 1), (109, 99, 0, 0, 0, .nop, 1), (112, 99, 0, 0, 0, .nop, 1), (113, 99, 0, 0, 0, .nop, 1), (115, 99, 0, 0, 0, .nop, 1), (116, 99, 0, 0, 0, .nop, 1), (118, 99, 0, 0, 0, .nop, 1), (120, 99, 0, 0, 0, .nop, 1), (122, 99, 0, 0, 0, .nop, 1), (123, 99, 0, 0, 0, .nop, 1), (124, 99, 0, 0, 0, .nop, 1), (125, 99, 0, 0, 0, .nop, 1), (128, 99, 0, 0, 0, .nop, 1), (131, 99, 0, 0, 0, .nop, 1), (132, 99, 0, 0, 0, .nop, 1), (133, 99, 0, 0, 0, .nop, 1), (135, 99, 0, 0, 0, .nop, 1), (138, 99, 0, 0, 0, .nop, 1), (139, 99, 0, 0, 0, .nop, 1), (142, 99, 0, 0, 0, .nop, 1), (145, 99, 0, 0, 0, .nop, 1), (146, 99, 0, 0, 0, .nop, 1), (147, 99, 0, 0, 0, .nop, 1), (149, 99, 0, 0, 0, .nop, 1), (151, 99, 0, 0, 0, .nop, 1), (154, 99, 0, 0, 0, .nop, 1), (155, 99, 0, 0, 0, .nop, 1), (158, 99, 0, 0, 0, .nop, 1), (160, 99, 0, 0, 0, .nop, 1), (163, 99, 0, 0, 0, .nop, 1)]
def q_m54 : List qRow := [(0, 49, 0, 0, 0, .aload_n 0, 1), (1, 1, 1, 0, 0, .iload_n 1, 1), (2, 1, 2, 0, 0, .iload_n 2, 1), (3, 35, 16, 322, 1150, .invokevirtual 162, 3), (6, 14, 0, 22, 0, .ifCond .eq 35, 3), (9, 49, 0, 0, 0, .aload_n 0, 1), (10, 1, 3, 0, 0, .iload_n 3, 1), (11, 35, 58, 321, 1242, .invokevirtual 195, 3), (14, 14, 0, 22, 0, .ifCond .eq 27, 3), (17, 49, 0, 0, 0, .aload_n 0, 1), (18, 1, 4, 0, 0, .iload 4, 2), (20, 0, 1, 0, 0, .iconst 1, 1), (21, 0, 4, 0, 0, .iconst 4, 1), (22, 35, 18, 323, 1158, .invokevirtual 95, 3), (25, 14, 0, 20, 0, .ifCond .eq 12, 3), (28, 1, 4, 0, 0, .iload 4, 2), (30, 0, 16, 0, 0, .bipush 16, 2), (32, 1, 3, 0, 0, .iload_n 3, 1), (33, 5, 0, 0, 0, .isub, 1), (34, 15, 4, 22, 0, .if_icmp .gt 7, 3), (37, 0, 1, 0, 0, .iconst 1, 1), (38, 20, 23, 0, 0, .goto 4, 3), (41, 0, 0, 0, 0, .iconst 0, 1), (42, 2, 7, 0, 0, .istore 7, 2), (44, 49, 0, 0, 0, .aload_n 0, 1), (45, 1, 4, 0, 0, .iload 4, 2), (47, 0, 1, 0, 0, .iconst 1, 1), (48, 0, 4, 0, 0, .iconst 4, 1), (49, 35, 18, 323, 1158, .invokevirtual 95, 3), (52, 14, 0, 44, 0, .ifCond .eq 35, 3), (55, 49, 0, 0, 0, .aload_n 0, 1), (56, 1, 5, 0, 0, .iload 5, 2), (58, 0, 0, 0, 0, .iconst 0, 1), (59, 0, 999, 0, 0, .sipush 999, 3), (62, 35, 18, 323, 1158, .invokevirtual 95, 3), (65, 14, 0, 44, 0, .ifCond .eq 22, 3), (68, 49, 0, 0, 0, .aload_n 0, 1), (69, 1, 6, 0, 0, .iload 6, 2), (71, 0, 4294966297, 0, 0, .sipush (-999), 3), (74, 0, 999, 0, 0, .sipush 999, 3), (77, 35, 18, 323, 1158, .invokevirtual 95, 3), (80, 14, 0, 44, 0, .ifCond .eq 7, 3), (83, 0, 1, 0, 0, .iconst 1, 1), (84, 20, 45, 0, 0, .goto 4, 3), (87, 0, 0, 0, 0, .iconst 0, 1), (88, 2, 8, 0, 0, .istore 8, 2), (90, 1, 8, 0, 0, .iload 8, 2), (92, 14, 0, 62, 0, .ifCond .eq 28, 3), (95, 49, 0, 0, 0, .aload_n 0, 1), (96, 1, 5, 0, 0, .iload 5, 2), (98, 1, 6, 0, 0, .iload 6, 2), (100, 1, 4, 0, 0, .iload 4, 2), (102, 0, 1, 0, 0, .iconst 1, 1), (103, 5, 0, 0, 0, .isub, 1), (104, 6, 0, 0, 0, .imul, 1), (105, 4, 0, 0, 0, .iadd, 1), (106, 0, 0, 0, 0, .iconst 0, 1), (107, 0, 999, 0, 0, .sipush 999, 3), (110, 35, 18, 323, 1158, .invokevirtual 95, 3), (113, 14, 0, 62, 0, .ifCond .eq 7, 3), (116, 0, 1, 0, 0, .iconst 1, 1), (117, 20, 63, 0, 0, .goto 4, 3), (120, 0, 0, 0, 0, .iconst 0, 1), (121, 2, 8, 0, 0, .istore 8, 2), (123, 1, 7, 0, 0, .iload 7, 2), (125, 14, 1, 68, 0, .ifCond .ne 7, 3), (128, 0, 1, 0, 0, .iconst 1, 1), (129, 20, 86, 0, 0, .goto 36, 3), (132, 1, 8, 0, 0, .iload 8, 2), (134, 14, 1, 72, 0, .ifCond .ne 7, 3), (137, 0, 2, 0, 0, .iconst 2, 1), (138, 20, 86, 0, 0, .goto 27, 3), (141, 49, 0, 0, 0, .aload_n 0, 1), (142, 21, 10, 11, 1044, .getfield 37, 3), (145, 1, 1, 0, 0, .iload_n 1, 1), (146, 24, 0, 0, 0, .iaload, 1), (147, 0, 1, 0, 0, .iconst 1, 1), (148, 15, 0, 83, 0, .if_icmp .eq 12, 3), (151, 49, 0, 0, 0, .aload_n 0, 1), (152, 1, 1, 0, 0, .iload_n 1, 1), (153, 1, 2, 0, 0, .iload_n 2, 1), (154, 35, 31, 322, 1162, .invokevirtual 165, 3), (157, 14, 3, 85, 0, .ifCond .ge 7, 3), (160, 0, 3, 0, 0, .iconst 3, 1), (161, 20, 86, 0, 0, .goto 4, 3), (164, 99, 0, 0, 0, .nop, 1), (165, 2, 9, 0, 0, .istore 9, 2), (167, 49, 0, 0, 0, .aload_n 0, 1), (168, 21, 10, 5, 1038, .getfield 123, 3), (171, 2, 10, 0, 0, .istore 10, 2), (173, 0, 4294967295, 0, 0, .iconst (-1), 1), (174, 2, 11, 0, 0, .istore 11, 2), (176, 1, 9, 0, 0, .iload 9, 2), (178, 14, 1, 156, 0, .ifCond .ne 117, 3), (181, 99, 0, 0, 0, .nop, 1), (182, 99, 0, 0, 0, .nop, 1), (184, 99, 0, 0, 0, .nop, 1), (186, 99, 0, 0, 0, .nop, 1), (188, 99, 0, 0, 0, .nop, 1), (191, 99, 0, 0, 0, .nop, 1), (192, 99, 0, 0, 0, .nop, 1), (195, 99, 0, 0, 0, .nop, 1), (197, 99, 0, 0, 0, .nop, 1), (199, 99, 0, 0, 0, .nop, 1), (201, 99, 0, 0, 0, .nop, 1), (203, 99, 0, 0, 0, .nop, 1), (204, 99, 0, 0, 0, .nop, 1), (205, 99, 0, 0, 0, .nop, 1), (206, 99, 0, 0, 0, .nop, 1), (209, 99, 0, 0, 0, .nop, 1), (212, 99, 0, 0, 0, .nop, 1), (213, 99, 0, 0, 0, .nop, 1), (215, 99, 0, 0, 0, .nop, 1), (218, 99, 0, 0, 0, .nop, 1), (220, 99, 0, 0, 0, .nop, 1), (221, 99, 0, 0, 0, .nop, 1), (222, 99, 0, 0, 0, .nop, 1), (223, 99, 0, 0, 0, .nop, 1), (224, 99, 0, 0, 0, .nop, 1), (227, 99, 0, 0, 0, .nop, 1), (230, 99, 0, 0, 0, .nop, 1), (231, 99, 0, 0, 0, .nop, 1), (233, 99, 0, 0, 0, .nop, 1), (235, 99, 0, 0, 0, .nop, 1), (237, 99, 0, 0, 0, .nop, 1), (240, 99, 0, 0, 0, .nop, 1), (242, 99, 0, 0, 0, .nop, 1), (245, 99, 0, 0, 0, .nop, 1), (246, 99, 0, 0, 0, .nop, 1), (249, 99, 0, 0, 0, .nop, 1), (250, 99, 0, 0, 0, .nop, 1), (252, 99, 0, 0, 0, .nop, 1), (253, 99, 0, 0, 0, .nop, 1), (254, 99, 0, 0, 0, .nop, 1), (256, 99, 0, 0, 0, .nop, 1), (257, 99, 0, 0, 0, .nop, 1), (259, 99, 0, 0, 0, .nop, 1), (260, 99, 0, 0, 0, .nop, 1), (261, 99, 0, 0, 0, .nop, 1), (262, 99, 0, 0, 0, .nop, 1), (263, 99, 0, 0, 0, .nop, 1), (266, 99, 0, 0, 0, .nop, 1), (269, 99, 0, 0, 0, .nop, 1), (271, 99, 0, 0, 0, .nop, 1), (274, 99, 0, 0, 0, .nop, 1), (275, 99, 0, 0, 0, .nop, 1), (276, 99, 0, 0, 0, .nop, 1), (277, 99, 0, 0, 0, .nop, 1), (278, 99, 0, 0, 0, .nop, 1), (279, 99, 0, 0, 0, .nop, 1), (282, 99, 0, 0, 0, .nop, 1), (285, 99, 0, 0, 0, .nop, 1), (288, 99, 0, 0, 0, .nop, 1), (289, 99, 0, 0, 0, .nop, 1), (292, 99, 0, 0, 0, .nop, 1), (293, 99, 0, 0, 0, .nop, 1), (295, 49, 0, 0, 0, .aload_n 0, 1), (296, 1, 9, 0, 0, .iload 9, 2), (298, 35, 19, 321, 1166, .invokevirtual 169, 3), (301, 14, 0, 165, 0, .ifCond .eq 11, 3), (304, 49, 0, 0, 0, .aload_n 0, 1), (305, 1, 10, 0, 0, .iload 10, 2), (307, 35, 55, 321, 1274, .invokevirtual 207, 3), (310, 0, 4294967295, 0, 0, .iconst (-1), 1), (311, 40, 0, 0, 0, .ireturn, 1), (312, 99, 0, 0, 0, .nop, 1), (313, 99, 0, 0, 0, .nop, 1), (315, 99, 0, 0, 0, .nop, 1), (318, 99, 0, 0, 0, .nop, 1), (320, 99, 0, 0, 0, .nop, 1), (321, 99, 0, 0, 0, .nop, 1), (322, 99, 0, 0, 0, .nop, 1), (323, 99, 0, 0, 0, .nop, 1), (324, 99, 0, 0, 0, .nop, 1), (325, 99, 0, 0, 0, .nop, 1), (328, 99, 0, 0, 0, .nop, 1), (331, 99, 0, 0, 0, .nop, 1), (333, 99, 0, 0, 0, .nop, 1)]
def q_m55 : List qRow := [(0, 0, 0, 0, 0, .iconst 0, 1), (1, 2, 2, 0, 0, .istore_n 2, 1), (2, 1, 2, 0, 0, .iload_n 2, 1), (3, 0, 200, 0, 0, .sipush 200, 3), (6, 15, 3, 28, 0, .if_icmp .ge 44, 3), (9, 49, 0, 0, 0, .aload_n 0, 1), (10, 21, 10, 1, 1034, .getfield 13, 3), (13, 1, 2, 0, 0, .iload_n 2, 1), (14, 49, 0, 0, 0, .aload_n 0, 1), (15, 21, 10, 1, 1034, .getfield 13, 3), (18, 1, 2, 0, 0, .iload_n 2, 1), (19, 24, 0, 0, 0, .iaload, 1), (20, 14, 5, 21, 0, .ifCond .le 17, 3), (23, 99, 0, 0, 0, .nop, 1), (24, 99, 0, 0, 0, .nop, 1), (27, 99, 0, 0, 0, .nop, 1), (28, 99, 0, 0, 0, .nop, 1), (29, 99, 0, 0, 0, .nop, 1), (30, 99, 0, 0, 0, .nop, 1), (33, 99, 0, 0, 0, .nop, 1), (34, 99, 0, 0, 0, .nop, 1), (37, 49, 0, 0, 0, .aload_n 0, 1), (38, 21, 10, 1, 1034, .getfield 13, 3), (41, 1, 2, 0, 0, .iload_n 2, 1), (42, 24, 0, 0, 0, .iaload, 1), (43, 25, 0, 0, 0, .iastore, 1), (44, 3, 2, 1, 0, .iinc 2 1, 3), (47, 20, 2, 0, 0, .goto (-45), 3), (50, 49, 0, 0, 0, .aload_n 0, 1), (51, 1, 1, 0, 0, .iload_n 1, 1), (52, 22, 10, 5, 4152, .putfield 123, 3), (55, 42, 0, 0, 0, .return_, 1)]
def q_m56 : List qRow := [(0, 1, 0, 0, 0, .iload_n 0, 1), (1, 36, 57, 1, 625, .invokestatic 337, 3), (4, 1, 1, 0, 0, .iload_n 1, 1), (5, 0, 1, 0, 0, .iconst 1, 1), (6, 15, 2, 17, 0, .if_icmp .lt 24, 3), (9, 1, 1, 0, 0, .iload_n 1, 1), (10, 1, 2, 0, 0, .iload_n 2, 1), (11, 15, 4, 17, 0, .if_icmp .gt 19, 3), (14, 1, 0, 0, 0, .iload_n 0, 1), (15, 1, 1, 0, 0, .iload_n 1, 1), (16, 4, 0, 0, 0, .iadd, 1), (17, 0, 16, 0, 0, .bipush 16, 2), (19, 15, 5, 17, 0, .if_icmp .le 11, 3), (22, 43, 0, 492, 336, .new 334, 3), (25, 99, 0, 0, 0, .nop, 1), (26, 99, 0, 0, 0, .nop, 1), (29, 99, 0, 0, 0, .nop, 1), (30, 42, 0, 0, 0, .return_, 1)]
def q_m57 : List qRow := [(0, 1, 0, 0, 0, .iload_n 0, 1), (1, 14, 2, 5, 0, .ifCond .lt 9, 3), (4, 1, 0, 0, 0, .iload_n 0, 1), (5, 0, 16, 0, 0, .bipush 16, 2), (7, 15, 2, 9, 0, .if_icmp .lt 11, 3), (10, 43, 0, 492, 336, .new 334, 3), (13, 99, 0, 0, 0, .nop, 1), (14, 99, 0, 0, 0, .nop, 1), (17, 99, 0, 0, 0, .nop, 1), (18, 42, 0, 0, 0, .return_, 1)]
def q_m58 : List qRow := [(0, 49, 0, 0, 0, .aload_n 0, 1), (1, 1, 1, 0, 0, .iload_n 1, 1), (2, 0, 0, 0, 0, .iconst 0, 1), (3, 0, 15, 0, 0, .bipush 15, 2), (5, 35, 18, 323, 1158, .invokevirtual 95, 3), (8, 40, 1, 0, 0, .ireturn, 1)]
def q_m59 : List qRow := [(0, 1, 0, 0, 0, .iload_n 0, 1), (1, 14, 1, 6, 0, .ifCond .ne 11, 3), (4, 43, 1, 631, 342, .new 340, 3), (7, 99, 0, 0, 0, .nop, 1), (8, 99, 0, 0, 0, .nop, 1), (11, 99, 0, 0, 0, .nop, 1), (12, 42, 0, 0, 0, .return_, 1)]
def q_m60 : List qRow := [(0, 1, 0, 0, 0, .iload_n 0, 1), (1, 14, 2, 7, 0, .ifCond .lt 14, 3), (4, 1, 0, 0, 0, .iload_n 0, 1), (5, 0, 999, 0, 0, .sipush 999, 3), (8, 15, 4, 7, 0, .if_icmp .gt 7, 3), (11, 0, 1, 0, 0, .iconst 1, 1), (12, 20, 8, 0, 0, .goto 4, 3), (15, 0, 0, 0, 0, .iconst 0, 1), (16, 40, 1, 0, 0, .ireturn, 1)]
def q_m61 : List qRow := [(0, 49, 5, 0, 0, .aload 5, 2), (2, 0, 0, 0, 0, .iconst 0, 1), (3, 49, 0, 0, 0, .aload_n 0, 1), (4, 1, 1, 0, 0, .iload_n 1, 1), (5, 1, 2, 0, 0, .iload_n 2, 1), (6, 1, 3, 0, 0, .iload_n 3, 1), (7, 1, 4, 0, 0, .iload 4, 2), (9, 35, 62, 292, 718, .invokevirtual 37, 3), (12, 99, 0, 0, 0, .nop, 1), (13, 99, 0, 0, 0, .nop, 1), (14, 99, 0, 0, 0, .nop, 1), (17, 50, 6, 0, 0, .astore 6, 2), (19, 0, 1, 0, 0, .iconst 1, 1), (20, 40, 0, 0, 0, .ireturn, 1), (21, 50, 6, 0, 0, .astore 6, 2), (23, 0, 2, 0, 0, .iconst 2, 1), (24, 40, 0, 0, 0, .ireturn, 1), (25, 50, 6, 0, 0, .astore 6, 2), (27, 0, 3, 0, 0, .iconst 3, 1), (28, 40, 0, 0, 0, .ireturn, 1), (29, 99, 0, 0, 0, .nop, 1), (30, 99, 0, 0, 0, .nop, 1)]
def q_m62 : List qRow := [(0, 49, 0, 0, 0, .aload_n 0, 1), (1, 1, 1, 0, 0, .iload_n 1, 1), (2, 35, 14, 289, 488, .invokevirtual 87, 3), (5, 50, 5, 0, 0, .astore 5, 2), (7, 1, 2, 0, 0, .iload_n 2, 1), (8, 36, 21, 1, 555, .invokestatic 91, 3), (11, 1, 3, 0, 0, .iload_n 3, 1), (12, 1, 4, 0, 0, .iload 4, 2), (14, 0, 16, 0, 0, .bipush 16, 2), (16, 36, 56, 3, 622, .invokestatic 143, 3), (19, 1, 4, 0, 0, .iload 4, 2), (21, 0, 1, 0, 0, .iconst 1, 1), (22, 15, 2, 18, 0, .if_icmp .lt 14, 3), (25, 1, 4, 0, 0, .iload 4, 2), (27, 0, 16, 0, 0, .bipush 16, 2), (29, 15, 4, 18, 0, .if_icmp .gt 7, 3), (32, 0, 1, 0, 0, .iconst 1, 1), (33, 20, 19, 0, 0, .goto 4, 3), (36, 0, 0, 0, 0, .iconst 0, 1), (37, 36, 59, 1, 628, .invokestatic 147, 3), (40, 49, 5, 0, 0, .aload 5, 2), (42, 1, 2, 0, 0, .iload_n 2, 1), (43, 36, 41, 2, 585, .invokestatic 126, 3), (46, 99, 0, 0, 0, .nop, 1), (48, 99, 0, 0, 0, .nop, 1), (50, 99, 0, 0, 0, .nop, 1), (53, 99, 0, 0, 0, .nop, 1), (56, 99, 0, 0, 0, .nop, 1), (58, 99, 0, 0, 0, .nop, 1), (59, 99, 0, 0, 0, .nop, 1), (62, 99, 0, 0, 0, .nop, 1), (64, 99, 0, 0, 0, .nop, 1), (67, 99, 0, 0, 0, .nop, 1), (70, 99, 0, 0, 0, .nop, 1), (71, 99, 0, 0, 0, .nop, 1), (73, 99, 0, 0, 0, .nop, 1), (75, 99, 0, 0, 0, .nop, 1), (77, 99, 0, 0, 0, .nop, 1), (80, 99, 0, 0, 0, .nop, 1), (81, 99, 0, 0, 0, .nop, 1), (84, 99, 0, 0, 0, .nop, 1), (85, 99, 0, 0, 0, .nop, 1), (87, 99, 0, 0, 0, .nop, 1), (88, 99, 0, 0, 0, .nop, 1), (89, 99, 0, 0, 0, .nop, 1), (90, 99, 0, 0, 0, .nop, 1), (93, 99, 0, 0, 0, .nop, 1), (96, 99, 0, 0, 0, .nop, 1), (99, 99, 0, 0, 0, .nop, 1), (100, 99, 0, 0, 0, .nop, 1), (102, 99, 0, 0, 0, .nop, 1), (104, 99, 0, 0, 0, .nop, 1), (107, 99, 0, 0, 0, .nop, 1), (108, 99, 0, 0, 0, .nop, 1), (111, 99, 0, 0, 0, .nop, 1), (114, 99, 0, 0, 0, .nop, 1), (116, 99, 0, 0, 0, .nop, 1), (117, 99, 0, 0, 0, .nop, 1)]
def q_m63 : List qRow := [(0, 49, 0, 0, 0, .aload_n 0, 1), (1, 1, 1, 0, 0, .iload_n 1, 1), (2, 1, 2, 0, 0, .iload_n 2, 1), (3, 35, 16, 322, 1150, .invokevirtual 162, 3), (6, 14, 0, 22, 0, .ifCond .eq 36, 3), (9, 49, 0, 0, 0, .aload_n 0, 1), (10, 1, 3, 0, 0, .iload_n 3, 1), (11, 35, 58, 321, 1242, .invokevirtual 195, 3), (14, 14, 0, 22, 0, .ifCond .eq 28, 3), (17, 49, 0, 0, 0, .aload_n 0, 1), (18, 1, 4, 0, 0, .iload 4, 2), (20, 0, 1, 0, 0, .iconst 1, 1), (21, 0, 16, 0, 0, .bipush 16, 2), (23, 35, 18, 323, 1158, .invokevirtual 95, 3), (26, 14, 0, 20, 0, .ifCond .eq 12, 3), (29, 1, 4, 0, 0, .iload 4, 2), (31, 0, 16, 0, 0, .bipush 16, 2), (33, 1, 3, 0, 0, .iload_n 3, 1), (34, 5, 0, 0, 0, .isub, 1), (35, 15, 4, 22, 0, .if_icmp .gt 7, 3), (38, 0, 1, 0, 0, .iconst 1, 1), (39, 20, 23, 0, 0, .goto 4, 3), (42, 0, 0, 0, 0, .iconst 0, 1), (43, 2, 5, 0, 0, .istore 5, 2), (45, 49, 0, 0, 0, .aload_n 0, 1), (46, 1, 5, 0, 0, .iload 5, 2), (48, 14, 1, 29, 0, .ifCond .ne 7, 3), (51, 0, 1, 0, 0, .iconst 1, 1), (52, 20, 51, 0, 0, .goto 43, 3), (55, 49, 0, 0, 0, .aload_n 0, 1), (56, 1, 4, 0, 0, .iload 4, 2), (58, 0, 1, 0, 0, .iconst 1, 1), (59, 0, 16, 0, 0, .bipush 16, 2), (61, 35, 18, 323, 1158, .invokevirtual 95, 3), (64, 14, 1, 37, 0, .ifCond .ne 7, 3), (67, 0, 2, 0, 0, .iconst 2, 1), (68, 20, 51, 0, 0, .goto 27, 3), (71, 49, 0, 0, 0, .aload_n 0, 1), (72, 21, 10, 11, 1044, .getfield 37, 3), (75, 1, 1, 0, 0, .iload_n 1, 1), (76, 24, 0, 0, 0, .iaload, 1), (77, 0, 1, 0, 0, .iconst 1, 1), (78, 15, 0, 48, 0, .if_icmp .eq 12, 3), (81, 49, 0, 0, 0, .aload_n 0, 1), (82, 1, 1, 0, 0, .iload_n 1, 1), (83, 1, 2, 0, 0, .iload_n 2, 1), (84, 35, 31, 322, 1162, .invokevirtual 165, 3), (87, 14, 3, 50, 0, .ifCond .ge 7, 3), (90, 0, 3, 0, 0, .iconst 3, 1), (91, 20, 51, 0, 0, .goto 4, 3), (94, 99, 0, 0, 0, .nop, 1), (95, 35, 19, 321, 1166, .invokevirtual 169, 3), (98, 14, 0, 55, 0, .ifCond .eq 5, 3), (101, 0, 4294967295, 0, 0, .iconst (-1), 1), (102, 40, 0, 0, 0, .ireturn, 1), (103, 99, 0, 0, 0, .nop, 1), (104, 99, 0, 0, 0, .nop, 1), (105, 99, 0, 0, 0, .nop, 1), (106, 99, 0, 0, 0, .nop, 1), (107, 99, 0, 0, 0, .nop, 1), (110, 99, 0, 0, 0, .nop, 1), (113, 99, 0, 0, 0, .nop, 1), (114, 99, 0, 0, 0, .nop, 1), (116, 99, 0, 0, 0, .nop, 1), (117, 99, 0, 0, 0, .nop, 1), (119, 99, 0, 0, 0, .nop, 1), (121, 99, 0, 0, 0, .nop, 1), (122, 99, 0, 0, 0, .nop, 1), (124, 99, 0, 0, 0, .nop, 1), (125, 99, 0, 0, 0, .nop, 1), (128, 99, 0, 0, 0, .nop, 1), (130, 99, 0, 0, 0, .nop, 1), (131, 99, 0, 0, 0, .nop, 1), (134, 99, 0, 0, 0, .nop, 1), (136, 99, 0, 0, 0, .nop, 1), (137, 99, 0, 0, 0, .nop, 1), (140, 99, 0, 0, 0, .nop, 1), (141, 99, 0, 0, 0, .nop, 1), (144, 99, 0, 0, 0, .nop, 1), (145, 99, 0, 0, 0, .nop, 1), (146, 99, 0, 0, 0, .nop, 1), (148, 99, 0, 0, 0, .nop, 1), (149, 99, 0, 0, 0, .nop, 1), (152, 99, 0, 0, 0, .nop, 1), (154, 99, 0, 0, 0, .nop, 1), (155, 99, 0, 0, 0, .nop, 1), (156, 99, 0, 0, 0, .nop, 1), (159, 99, 0, 0, 0, .nop, 1), (162, 99, 0, 0, 0, .nop, 1), (163, 99, 0, 0, 0, .nop, 1), (164, 99, 0, 0, 0, .nop, 1), (165, 99, 0, 0, 0, .nop, 1), (166, 99, 0, 0, 0, .nop, 1), (167, 99, 0, 0, 0, .nop, 1), (170, 99, 0, 0, 0, .nop, 1), (173, 99, 0, 0, 0, .nop, 1), (175, 99, 0, 0, 0, .nop, 1)]
def q_m64 : List qRow := [(0, 49, 8, 0, 0, .aload 8, 2), (2, 0, 0, 0, 0, .iconst 0, 1), (3, 49, 0, 0, 0, .aload_n 0, 1), (4, 1, 1, 0, 0, .iload_n 1, 1), (5, 1, 2, 0, 0, .iload_n 2, 1), (6, 1, 3, 0, 0, .iload_n 3, 1), (7, 1, 4, 0, 0, .iload 4, 2), (9, 1, 5, 0, 0, .iload 5, 2), (11, 1, 6, 0, 0, .iload 6, 2), (13, 1, 7, 0, 0, .iload 7, 2), (15, 35, 65, 295, 738, .invokevirtual 41, 3), (18, 99, 0, 0, 0, .nop, 1), (19, 99, 0, 0, 0, .nop, 1), (20, 99, 0, 0, 0, .nop, 1), (23, 50, 9, 0, 0, .astore 9, 2), (25, 0, 1, 0, 0, .iconst 1, 1), (26, 40, 0, 0, 0, .ireturn, 1), (27, 50, 9, 0, 0, .astore 9, 2), (29, 0, 2, 0, 0, .iconst 2, 1), (30, 40, 0, 0, 0, .ireturn, 1), (31, 50, 9, 0, 0, .astore 9, 2), (33, 0, 3, 0, 0, .iconst 3, 1), (34, 40, 0, 0, 0, .ireturn, 1), (35, 99, 0, 0, 0, .nop, 1), (36, 99, 0, 0, 0, .nop, 1)]
def q_m65 : List qRow := [(0, 49, 0, 0, 0, .aload_n 0, 1), (1, 1, 1, 0, 0, .iload_n 1, 1), (2, 1, 2, 0, 0, .iload_n 2, 1), (3, 1, 3, 0, 0, .iload_n 3, 1), (4, 1, 4, 0, 0, .iload 4, 2), (6, 1, 5, 0, 0, .iload 5, 2), (8, 1, 6, 0, 0, .iload 6, 2), (10, 1, 7, 0, 0, .iload 7, 2), (12, 35, 66, 295, 742, .invokevirtual 188, 3), (15, 49, 0, 0, 0, .aload_n 0, 1), (16, 1, 1, 0, 0, .iload_n 1, 1), (17, 35, 14, 289, 488, .invokevirtual 87, 3), (20, 50, 8, 0, 0, .astore 8, 2), (22, 49, 0, 0, 0, .aload_n 0, 1), (23, 1, 5, 0, 0, .iload 5, 2), (25, 35, 14, 289, 488, .invokevirtual 87, 3), (28, 50, 9, 0, 0, .astore 9, 2), (30, 49, 8, 0, 0, .aload 8, 2), (32, 1, 2, 0, 0, .iload_n 2, 1), (33, 36, 42, 2, 588, .invokestatic 192, 3), (36, 99, 0, 0, 0, .nop, 1), (38, 99, 0, 0, 0, .nop, 1), (40, 99, 0, 0, 0, .nop, 1), (42, 99, 0, 0, 0, .nop, 1), (45, 99, 0, 0, 0, .nop, 1), (47, 99, 0, 0, 0, .nop, 1), (48, 99, 0, 0, 0, .nop, 1), (50, 99, 0, 0, 0, .nop, 1), (51, 99, 0, 0, 0, .nop, 1), (53, 99, 0, 0, 0, .nop, 1), (55, 99, 0, 0, 0, .nop, 1), (57, 99, 0, 0, 0, .nop, 1), (60, 99, 0, 0, 0, .nop, 1), (61, 99, 0, 0, 0, .nop, 1), (63, 99, 0, 0, 0, .nop, 1), (65, 99, 0, 0, 0, .nop, 1), (68, 99, 0, 0, 0, .nop, 1), (71, 99, 0, 0, 0, .nop, 1), (72, 99, 0, 0, 0, .nop, 1), (75, 99, 0, 0, 0, .nop, 1), (76, 99, 0, 0, 0, .nop, 1), (79, 99, 0, 0, 0, .nop, 1), (80, 99, 0, 0, 0, .nop, 1), (82, 99, 0, 0, 0, .nop, 1), (84, 99, 0, 0, 0, .nop, 1), (87, 99, 0, 0, 0, .nop, 1), (88, 99, 0, 0, 0, .nop, 1), (91, 99, 0, 0, 0, .nop, 1), (93, 99, 0, 0, 0, .nop, 1), (94, 99, 0, 0, 0, .nop, 1), (97, 99, 0, 0, 0, .nop, 1), (100, 99, 0, 0, 0, .nop, 1), (103, 99, 0, 0, 0, .nop, 1)]
def q_m66 : List qRow := [(0, 49, 0, 0, 0, .aload_n 0, 1), (1, 1, 1, 0, 0, .iload_n 1, 1), (2, 35, 14, 289, 488, .invokevirtual 87, 3), (5, 13, 0, 0, 0, .pop, 1), (6, 1, 2, 0, 0, .iload_n 2, 1), (7, 36, 21, 1, 555, .invokestatic 91, 3), (10, 1, 3, 0, 0, .iload_n 3, 1), (11, 1, 4, 0, 0, .iload 4, 2), (13, 0, 16, 0, 0, .bipush 16, 2), (15, 36, 56, 3, 622, .invokestatic 143, 3), (18, 49, 0, 0, 0, .aload_n 0, 1), (19, 1, 5, 0, 0, .iload 5, 2), (21, 35, 14, 289, 488, .invokevirtual 87, 3), (24, 13, 0, 0, 0, .pop, 1), (25, 1, 6, 0, 0, .iload 6, 2), (27, 36, 21, 1, 555, .invokestatic 91, 3), (30, 1, 7, 0, 0, .iload 7, 2), (32, 1, 4, 0, 0, .iload 4, 2), (34, 0, 16, 0, 0, .bipush 16, 2), (36, 36, 56, 3, 622, .invokestatic 143, 3), (39, 1, 4, 0, 0, .iload 4, 2), (41, 0, 1, 0, 0, .iconst 1, 1), (42, 15, 2, 28, 0, .if_icmp .lt 14, 3), (45, 1, 4, 0, 0, .iload 4, 2), (47, 0, 16, 0, 0, .bipush 16, 2), (49, 15, 4, 28, 0, .if_icmp .gt 7, 3), (52, 0, 1, 0, 0, .iconst 1, 1), (53, 20, 29, 0, 0, .goto 4, 3), (56, 0, 0, 0, 0, .iconst 0, 1), (57, 36, 59, 1, 628, .invokestatic 147, 3), (60, 42, 0, 0, 0, .return_, 1)]
def q_m67 : List qRow := [(0, 49, 0, 0, 0, .aload_n 0, 1), (1, 1, 1, 0, 0, .iload_n 1, 1), (2, 1, 2, 0, 0, .iload_n 2, 1), (3, 1, 3, 0, 0, .iload_n 3, 1), (4, 1, 4, 0, 0, .iload 4, 2), (6, 1, 5, 0, 0, .iload 5, 2), (8, 1, 6, 0, 0, .iload 6, 2), (10, 1, 7, 0, 0, .iload 7, 2), (12, 35, 68, 327, 1298, .invokevirtual 218, 3), (15, 2, 8, 0, 0, .istore 8, 2), (17, 1, 8, 0, 0, .iload 8, 2), (19, 14, 1, 33, 0, .ifCond .ne 42, 3), (22, 99, 0, 0, 0, .nop, 1), (23, 99, 0, 0, 0, .nop, 1), (24, 99, 0, 0, 0, .nop, 1), (25, 99, 0, 0, 0, .nop, 1), (26, 99, 0, 0, 0, .nop, 1), (28, 99, 0, 0, 0, .nop, 1), (30, 99, 0, 0, 0, .nop, 1), (32, 99, 0, 0, 0, .nop, 1), (34, 99, 0, 0, 0, .nop, 1), (37, 99, 0, 0, 0, .nop, 1), (38, 99, 0, 0, 0, .nop, 1), (40, 99, 0, 0, 0, .nop, 1), (41, 99, 0, 0, 0, .nop, 1), (43, 99, 0, 0, 0, .nop, 1), (45, 99, 0, 0, 0, .nop, 1), (48, 99, 0, 0, 0, .nop, 1), (51, 99, 0, 0, 0, .nop, 1), (54, 99, 0, 0, 0, .nop, 1), (55, 99, 0, 0, 0, .nop, 1), (58, 99, 0, 0, 0, .nop, 1), (59, 99, 0, 0, 0, .nop, 1), (61, 49, 0, 0, 0, .aload_n 0, 1), (62, 1, 8, 0, 0, .iload 8, 2), (64, 35, 19, 321, 1166, .invokevirtual 169, 3), (67, 14, 0, 39, 0, .ifCond .eq 5, 3), (70, 0, 4294967295, 0, 0, .iconst (-1), 1), (71, 40, 0, 0, 0, .ireturn, 1), (72, 99, 0, 0, 0, .nop, 1), (73, 99, 0, 0, 0, .nop, 1), (75, 99, 0, 0, 0, .nop, 1), (76, 99, 0, 0, 0, .nop, 1), (78, 99, 0, 0, 0, .nop, 1), (80, 99, 0, 0, 0, .nop, 1), (83, 99, 0, 0, 0, .nop, 1), (86, 99, 0, 0, 0, .nop, 1), (87, 99, 0, 0, 0, .nop, 1), (88, 99, 0, 0, 0, .nop, 1), (89, 99, 0, 0, 0, .nop, 1), (90, 99, 0, 0, 0, .nop, 1), (93, 99, 0, 0, 0, .nop, 1), (94, 99, 0, 0, 0, .nop, 1), (96, 99, 0, 0, 0, .nop, 1), (98, 99, 0, 0, 0, .nop, 1), (101, 99, 0, 0, 0, .nop, 1), (104, 99, 0, 0, 0, .nop, 1)]
def q_m68 : List qRow := [(0, 49, 0, 0, 0, .aload_n 0, 1), (1, 1, 1, 0, 0, .iload_n 1, 1), (2, 1, 2, 0, 0, .iload_n 2, 1), (3, 1, 3, 0, 0, .iload_n 3, 1), (4, 1, 5, 0, 0, .iload 5, 2), (6, 1, 6, 0, 0, .iload 6, 2), (8, 1, 7, 0, 0, .iload 7, 2), (10, 35, 69, 326, 1302, .invokevirtual 214, 3), (13, 14, 0, 27, 0, .ifCond .eq 38, 3), (16, 49, 0, 0, 0, .aload_n 0, 1), (17, 1, 4, 0, 0, .iload 4, 2), (19, 0, 1, 0, 0, .iconst 1, 1), (20, 0, 16, 0, 0, .bipush 16, 2), (22, 35, 18, 323, 1158, .invokevirtual 95, 3), (25, 14, 0, 25, 0, .ifCond .eq 22, 3), (28, 1, 4, 0, 0, .iload 4, 2), (30, 0, 16, 0, 0, .bipush 16, 2), (32, 1, 3, 0, 0, .iload_n 3, 1), (33, 5, 0, 0, 0, .isub, 1), (34, 15, 4, 27, 0, .if_icmp .gt 17, 3), (37, 1, 4, 0, 0, .iload 4, 2), (39, 0, 16, 0, 0, .bipush 16, 2), (41, 1, 7, 0, 0, .iload 7, 2), (43, 5, 0, 0, 0, .isub, 1), (44, 15, 4, 27, 0, .if_icmp .gt 7, 3), (47, 0, 1, 0, 0, .iconst 1, 1), (48, 20, 28, 0, 0, .goto 4, 3), (51, 0, 0, 0, 0, .iconst 0, 1), (52, 2, 8, 0, 0, .istore 8, 2), (54, 1, 8, 0, 0, .iload 8, 2), (56, 14, 1, 33, 0, .ifCond .ne 7, 3), (59, 0, 1, 0, 0, .iconst 1, 1), (60, 20, 60, 0, 0, .goto 55, 3), (63, 49, 0, 0, 0, .aload_n 0, 1), (64, 1, 4, 0, 0, .iload 4, 2), (66, 0, 1, 0, 0, .iconst 1, 1), (67, 0, 16, 0, 0, .bipush 16, 2), (69, 35, 18, 323, 1158, .invokevirtual 95, 3), (72, 14, 1, 41, 0, .ifCond .ne 7, 3), (75, 0, 2, 0, 0, .iconst 2, 1), (76, 20, 60, 0, 0, .goto 39, 3), (79, 49, 0, 0, 0, .aload_n 0, 1), (80, 21, 10, 11, 1044, .getfield 37, 3), (83, 1, 5, 0, 0, .iload 5, 2), (85, 24, 0, 0, 0, .iaload, 1), (86, 0, 1, 0, 0, .iconst 1, 1), (87, 15, 0, 57, 0, .if_icmp .eq 23, 3), (90, 49, 0, 0, 0, .aload_n 0, 1), (91, 1, 1, 0, 0, .iload_n 1, 1), (92, 1, 2, 0, 0, .iload_n 2, 1), (93, 35, 31, 322, 1162, .invokevirtual 165, 3), (96, 14, 2, 57, 0, .ifCond .lt 14, 3), (99, 99, 0, 0, 0, .nop, 1), (100, 99, 0, 0, 0, .nop, 1), (102, 99, 0, 0, 0, .nop, 1), (104, 99, 0, 0, 0, .nop, 1), (107, 99, 0, 0, 0, .nop, 1), (110, 0, 3, 0, 0, .iconst 3, 1), (111, 20, 60, 0, 0, .goto 4, 3), (114, 99, 0, 0, 0, .nop, 1), (115, 40, 0, 0, 0, .ireturn, 1)]
def q_m69 : List qRow := [(0, 49, 0, 0, 0, .aload_n 0, 1), (1, 1, 1, 0, 0, .iload_n 1, 1), (2, 1, 2, 0, 0, .iload_n 2, 1), (3, 35, 16, 322, 1150, .invokevirtual 162, 3), (6, 14, 0, 20, 0, .ifCond .eq 35, 3), (9, 49, 0, 0, 0, .aload_n 0, 1), (10, 1, 3, 0, 0, .iload_n 3, 1), (11, 35, 58, 321, 1242, .invokevirtual 195, 3), (14, 14, 0, 20, 0, .ifCond .eq 27, 3), (17, 49, 0, 0, 0, .aload_n 0, 1), (18, 1, 4, 0, 0, .iload 4, 2), (20, 1, 5, 0, 0, .iload 5, 2), (22, 35, 16, 322, 1150, .invokevirtual 162, 3), (25, 14, 0, 20, 0, .ifCond .eq 16, 3), (28, 49, 0, 0, 0, .aload_n 0, 1), (29, 1, 6, 0, 0, .iload 6, 2), (31, 35, 58, 321, 1242, .invokevirtual 195, 3), (34, 14, 0, 20, 0, .ifCond .eq 7, 3), (37, 0, 1, 0, 0, .iconst 1, 1), (38, 20, 21, 0, 0, .goto 4, 3), (41, 0, 0, 0, 0, .iconst 0, 1), (42, 40, 1, 0, 0, .ireturn, 1)]
def q_m70 : List qRow := [(0, 49, 8, 0, 0, .aload 8, 2), (2, 0, 0, 0, 0, .iconst 0, 1), (3, 49, 0, 0, 0, .aload_n 0, 1), (4, 1, 1, 0, 0, .iload_n 1, 1), (5, 1, 2, 0, 0, .iload_n 2, 1), (6, 1, 3, 0, 0, .iload_n 3, 1), (7, 1, 4, 0, 0, .iload 4, 2), (9, 1, 5, 0, 0, .iload 5, 2), (11, 1, 6, 0, 0, .iload 6, 2), (13, 1, 7, 0, 0, .iload 7, 2), (15, 35, 71, 295, 766, .invokevirtual 45, 3), (18, 99, 0, 0, 0, .nop, 1), (21, 99, 0, 0, 0, .nop, 1), (22, 99, 0, 0, 0, .nop, 1), (25, 99, 0, 0, 0, .nop, 1), (26, 99, 0, 0, 0, .nop, 1), (27, 99, 0, 0, 0, .nop, 1), (30, 50, 9, 0, 0, .astore 9, 2), (32, 0, 1, 0, 0, .iconst 1, 1), (33, 40, 0, 0, 0, .ireturn, 1), (34, 50, 9, 0, 0, .astore 9, 2), (36, 0, 2, 0, 0, .iconst 2, 1), (37, 40, 0, 0, 0, .ireturn, 1), (38, 50, 9, 0, 0, .astore 9, 2), (40, 0, 3, 0, 0, .iconst 3, 1), (41, 40, 0, 0, 0, .ireturn, 1), (42, 99, 0, 0, 0, .nop, 1), (43, 99, 0, 0, 0, .nop, 1)]
def q_m71 : List qRow := [(0, 49, 0, 0, 0, .aload_n 0, 1), (1, 1, 1, 0, 0, .iload_n 1, 1), (2, 1, 2, 0, 0, .iload_n 2, 1), (3, 1, 3, 0, 0, .iload_n 3, 1), (4, 1, 4, 0, 0, .iload 4, 2), (6, 1, 5, 0, 0, .iload 5, 2), (8, 1, 6, 0, 0, .iload 6, 2), (10, 1, 7, 0, 0, .iload 7, 2), (12, 35, 66, 295, 742, .invokevirtual 188, 3), (15, 49, 0, 0, 0, .aload_n 0, 1), (16, 1, 5, 0, 0, .iload 5, 2), (18, 35, 14, 289, 488, .invokevirtual 87, 3), (21, 50, 8, 0, 0, .astore 8, 2), (23, 49, 0, 0, 0, .aload_n 0, 1), (24, 1, 1, 0, 0, .iload_n 1, 1), (25, 35, 14, 289, 488, .invokevirtual 87, 3), (28, 1, 2, 0, 0, .iload_n 2, 1), (29, 36, 42, 2, 588, .invokestatic 192, 3), (32, 99, 0, 0, 0, .nop, 1), (34, 99, 0, 0, 0, .nop, 1), (36, 99, 0, 0, 0, .nop, 1), (38, 99, 0, 0, 0, .nop, 1), (41, 99, 0, 0, 0, .nop, 1), (43, 99, 0, 0, 0, .nop, 1), (44, 99, 0, 0, 0, .nop, 1), (46, 99, 0, 0, 0, .nop, 1), (48, 99, 0, 0, 0, .nop, 1), (50, 99, 0, 0, 0, .nop, 1), (53, 99, 0, 0, 0, .nop, 1), (55, 99, 0, 0, 0, .nop, 1), (58, 99, 0, 0, 0, .nop, 1), (59, 99, 0, 0, 0, .nop, 1), (61, 99, 0, 0, 0, .nop, 1), (62, 99, 0, 0, 0, .nop, 1), (64, 99, 0, 0, 0, .nop, 1), (67, 99, 0, 0, 0, .nop, 1), (69, 99, 0, 0, 0, .nop, 1), (71, 99, 0, 0, 0, .nop, 1), (72, 99, 0, 0, 0, .nop, 1), (75, 99, 0, 0, 0, .nop, 1), (78, 99, 0, 0, 0, .nop, 1), (79, 99, 0, 0, 0, .nop, 1), (80, 99, 0, 0, 0, .nop, 1), (83, 99, 0, 0, 0, .nop, 1), (86, 99, 0, 0, 0, .nop, 1), (87, 99, 0, 0, 0, .nop, 1), (89, 99, 0, 0, 0, .nop, 1), (90, 99, 0, 0, 0, .nop, 1), (92, 99, 0, 0, 0, .nop, 1), (94, 99, 0, 0, 0, .nop, 1), (96, 99, 0, 0, 0, .nop, 1), (99, 99, 0, 0, 0, .nop, 1), (100, 99, 0, 0, 0, .nop, 1), (102, 99, 0, 0, 0, .nop, 1), (104, 99, 0, 0, 0, .nop, 1), (107, 99, 0, 0, 0, .nop, 1), (110, 99, 0, 0, 0, .nop, 1), (111, 99, 0, 0, 0, .nop, 1), (114, 99, 0, 0, 0, .nop, 1), (115, 99, 0, 0, 0, .nop, 1), (118, 99, 0, 0, 0, .nop, 1), (119, 99, 0, 0, 0, .nop, 1), (121, 99, 0, 0, 0, .nop, 1), (123, 99, 0, 0, 0, .nop, 1), (126, 99, 0, 0, 0, .nop, 1), (127, 99, 0, 0, 0, .nop, 1)]
def q_m72 : List qRow := [(0, 49, 0, 0, 0, .aload_n 0, 1), (1, 1, 1, 0, 0, .iload_n 1, 1), (2, 1, 2, 0, 0, .iload_n 2, 1), (3, 1, 3, 0, 0, .iload_n 3, 1), (4, 1, 4, 0, 0, .iload 4, 2), (6, 1, 5, 0, 0, .iload 5, 2), (8, 1, 6, 0, 0, .iload 6, 2), (10, 1, 7, 0, 0, .iload 7, 2), (12, 35, 68, 327, 1298, .invokevirtual 218, 3), (15, 2, 8, 0, 0, .istore 8, 2), (17, 1, 8, 0, 0, .iload 8, 2), (19, 14, 1, 14, 0, .ifCond .ne 7, 3), (22, 99, 0, 0, 0, .nop, 1), (23, 99, 0, 0, 0, .nop, 1), (26, 0, 0, 0, 0, .iconst 0, 1), (27, 2, 9, 0, 0, .istore 9, 2), (29, 0, 0, 0, 0, .iconst 0, 1), (30, 2, 10, 0, 0, .istore 10, 2), (32, 1, 10, 0, 0, .iload 10, 2), (34, 1, 4, 0, 0, .iload 4, 2), (36, 15, 3, 72, 0, .if_icmp .ge 100, 3), (39, 1, 9, 0, 0, .iload 9, 2), (41, 14, 0, 72, 0, .ifCond .eq 95, 3), (44, 99, 0, 0, 0, .nop, 1), (45, 99, 0, 0, 0, .nop, 1), (48, 99, 0, 0, 0, .nop, 1), (50, 99, 0, 0, 0, .nop, 1), (51, 99, 0, 0, 0, .nop, 1), (52, 99, 0, 0, 0, .nop, 1), (53, 99, 0, 0, 0, .nop, 1), (56, 99, 0, 0, 0, .nop, 1), (57, 99, 0, 0, 0, .nop, 1), (58, 99, 0, 0, 0, .nop, 1), (59, 99, 0, 0, 0, .nop, 1), (61, 99, 0, 0, 0, .nop, 1), (62, 99, 0, 0, 0, .nop, 1), (63, 99, 0, 0, 0, .nop, 1), (65, 99, 0, 0, 0, .nop, 1), (66, 99, 0, 0, 0, .nop, 1), (69, 99, 0, 0, 0, .nop, 1), (71, 99, 0, 0, 0, .nop, 1), (72, 99, 0, 0, 0, .nop, 1), (74, 99, 0, 0, 0, .nop, 1), (76, 99, 0, 0, 0, .nop, 1), (79, 99, 0, 0, 0, .nop, 1), (80, 99, 0, 0, 0, .nop, 1), (82, 99, 0, 0, 0, .nop, 1), (83, 99, 0, 0, 0, .nop, 1), (85, 99, 0, 0, 0, .nop, 1), (86, 99, 0, 0, 0, .nop, 1), (87, 99, 0, 0, 0, .nop, 1), (89, 99, 0, 0, 0, .nop, 1), (91, 99, 0, 0, 0, .nop, 1), (94, 99, 0, 0, 0, .nop, 1), (96, 99, 0, 0, 0, .nop, 1), (99, 99, 0, 0, 0, .nop, 1), (100, 99, 0, 0, 0, .nop, 1), (102, 99, 0, 0, 0, .nop, 1), (105, 99, 0, 0, 0, .nop, 1), (108, 99, 0, 0, 0, .nop, 1), (109, 99, 0, 0, 0, .nop, 1), (111, 99, 0, 0, 0, .nop, 1), (114, 99, 0, 0, 0, .nop, 1), (115, 99, 0, 0, 0, .nop, 1), (117, 99, 0, 0, 0, .nop, 1), (120, 99, 0, 0, 0, .nop, 1), (123, 99, 0, 0, 0, .nop, 1), (124, 99, 0, 0, 0, .nop, 1), (127, 99, 0, 0, 0, .nop, 1), (128, 99, 0, 0, 0, .nop, 1), (130, 99, 0, 0, 0, .nop, 1), (133, 99, 0, 0, 0, .nop, 1), (136, 1, 9, 0, 0, .iload 9, 2), (138, 14, 0, 95, 0, .ifCond .eq 42, 3), (141, 99, 0, 0, 0, .nop, 1), (142, 99, 0, 0, 0, .nop, 1), (143, 99, 0, 0, 0, .nop, 1), (144, 99, 0, 0, 0, .nop, 1), (145, 99, 0, 0, 0, .nop, 1), (147, 99, 0, 0, 0, .nop, 1), (149, 99, 0, 0, 0, .nop, 1), (151, 99, 0, 0, 0, .nop, 1), (153, 99, 0, 0, 0, .nop, 1), (156, 99, 0, 0, 0, .nop, 1), (157, 99, 0, 0, 0, .nop, 1), (159, 99, 0, 0, 0, .nop, 1), (160, 99, 0, 0, 0, .nop, 1), (162, 99, 0, 0, 0, .nop, 1), (164, 99, 0, 0, 0, .nop, 1), (167, 99, 0, 0, 0, .nop, 1), (170, 99, 0, 0, 0, .nop, 1), (173, 99, 0, 0, 0, .nop, 1), (174, 99, 0, 0, 0, .nop, 1), (177, 99, 0, 0, 0, .nop, 1), (178, 99, 0, 0, 0, .nop, 1), (180, 49, 0, 0, 0, .aload_n 0, 1), (181, 1, 8, 0, 0, .iload 8, 2), (183, 35, 19, 321, 1166, .invokevirtual 169, 3), (186, 14, 0, 101, 0, .ifCond .eq 5, 3), (189, 0, 0, 0, 0, .iconst 0, 1), (190, 40, 1, 0, 0, .ireturn, 1), (191, 99, 0, 0, 0, .nop, 1), (193, 99, 0, 0, 0, .nop, 1), (196, 99, 0, 0, 0, .nop, 1), (197, 99, 0, 0, 0, .nop, 1), (199, 99, 0, 0, 0, .nop, 1), (200, 99, 0, 0, 0, .nop, 1), (202, 99, 0, 0, 0, .nop, 1), (204, 99, 0, 0, 0, .nop, 1), (207, 99, 0, 0, 0, .nop, 1), (210, 99, 0, 0, 0, .nop, 1), (212, 99, 0, 0, 0, .nop, 1)]
def q_m73 : List qRow := [(0, 49, 3, 0, 0, .aload_n 3, 1), (1, 0, 0, 0, 0, .iconst 0, 1), (2, 49, 0, 0, 0, .aload_n 0, 1), (3, 1, 1, 0, 0, .iload_n 1, 1), (4, 1, 2, 0, 0, .iload_n 2, 1), (5, 35, 74, 290, 791, .invokevirtual 49, 3), (8, 99, 0, 0, 0, .nop, 1), (9, 99, 0, 0, 0, .nop, 1), (10, 99, 0, 0, 0, .nop, 1), (13, 50, 4, 0, 0, .astore 4, 2), (15, 0, 1, 0, 0, .iconst 1, 1), (16, 40, 0, 0, 0, .ireturn, 1), (17, 50, 4, 0, 0, .astore 4, 2), (19, 0, 2, 0, 0, .iconst 2, 1), (20, 40, 0, 0, 0, .ireturn, 1), (21, 99, 0, 0, 0, .nop, 1), (22, 99, 0, 0, 0, .nop, 1)]
def q_m74 : List qRow := [(0, 49, 0, 0, 0, .aload_n 0, 1), (1, 1, 1, 0, 0, .iload_n 1, 1), (2, 35, 14, 289, 488, .invokevirtual 87, 3), (5, 50, 3, 0, 0, .astore_n 3, 1), (6, 1, 2, 0, 0, .iload_n 2, 1), (7, 36, 21, 1, 555, .invokestatic 91, 3), (10, 49, 3, 0, 0, .aload_n 3, 1), (11, 1, 2, 0, 0, .iload_n 2, 1), (12, 36, 41, 2, 585, .invokestatic 126, 3), (15, 99, 0, 0, 0, .nop, 1), (17, 99, 0, 0, 0, .nop, 1), (18, 99, 0, 0, 0, .nop, 1), (21, 99, 0, 0, 0, .nop, 1), (22, 99, 0, 0, 0, .nop, 1), (24, 99, 0, 0, 0, .nop, 1), (26, 99, 0, 0, 0, .nop, 1), (28, 99, 0, 0, 0, .nop, 1), (31, 99, 0, 0, 0, .nop, 1), (33, 99, 0, 0, 0, .nop, 1), (36, 99, 0, 0, 0, .nop, 1), (38, 99, 0, 0, 0, .nop, 1), (41, 99, 0, 0, 0, .nop, 1), (44, 99, 0, 0, 0, .nop, 1), (45, 99, 0, 0, 0, .nop, 1), (48, 99, 0, 0, 0, .nop, 1), (50, 99, 0, 0, 0, .nop, 1), (52, 99, 0, 0, 0, .nop, 1), (55, 99, 0, 0, 0, .nop, 1), (57, 99, 0, 0, 0, .nop, 1), (60, 99, 0, 0, 0, .nop, 1), (61, 99, 0, 0, 0, .nop, 1), (62, 99, 0, 0, 0, .nop, 1), (65, 99, 0, 0, 0, .nop, 1), (67, 99, 0, 0, 0, .nop, 1), (68, 99, 0, 0, 0, .nop, 1), (70, 99, 0, 0, 0, .nop, 1), (73, 99, 0, 0, 0, .nop, 1), (74, 99, 0, 0, 0, .nop, 1), (77, 99, 0, 0, 0, .nop, 1), (78, 99, 0, 0, 0, .nop, 1), (81, 99, 0, 0, 0, .nop, 1), (84, 99, 0, 0, 0, .nop, 1), (87, 99, 0, 0, 0, .nop, 1), (88, 99, 0, 0, 0, .nop, 1), (89, 99, 0, 0, 0, .nop, 1), (91, 99, 0, 0, 0, .nop, 1), (94, 99, 0, 0, 0, .nop, 1), (95, 99, 0, 0, 0, .nop, 1), (98, 99, 0, 0, 0, .nop, 1), (99, 99, 0, 0, 0, .nop, 1), (102, 99, 0, 0, 0, .nop, 1), (105, 99, 0, 0, 0, .nop, 1)]
def q_m75 : List qRow := [(0, 49, 0, 0, 0, .aload_n 0, 1), (1, 1, 1, 0, 0, .iload_n 1, 1), (2, 1, 2, 0, 0, .iload_n 2, 1), (3, 35, 16, 322, 1150, .invokevirtual 162, 3), (6, 2, 3, 0, 0, .istore_n 3, 1), (7, 1, 3, 0, 0, .iload_n 3, 1), (8, 14, 1, 9, 0, .ifCond .ne 7, 3), (11, 0, 1, 0, 0, .iconst 1, 1), (12, 20, 23, 0, 0, .goto 27, 3), (15, 49, 0, 0, 0, .aload_n 0, 1), (16, 21, 10, 11, 1044, .getfield 37, 3), (19, 1, 1, 0, 0, .iload_n 1, 1), (20, 24, 0, 0, 0, .iaload, 1), (21, 0, 1, 0, 0, .iconst 1, 1), (22, 15, 0, 20, 0, .if_icmp .eq 12, 3), (25, 49, 0, 0, 0, .aload_n 0, 1), (26, 1, 1, 0, 0, .iload_n 1, 1), (27, 1, 2, 0, 0, .iload_n 2, 1), (28, 35, 31, 322, 1162, .invokevirtual 165, 3), (31, 14, 3, 22, 0, .ifCond .ge 7, 3), (34, 0, 2, 0, 0, .iconst 2, 1), (35, 20, 23, 0, 0, .goto 4, 3), (38, 99, 0, 0, 0, .nop, 1), (39, 2, 4, 0, 0, .istore 4, 2), (41, 49, 0, 0, 0, .aload_n 0, 1), (42, 21, 10, 5, 1038, .getfield 123, 3), (45, 2, 5, 0, 0, .istore 5, 2), (47, 0, 0, 0, 0, .iconst 0, 1), (48, 2, 6, 0, 0, .istore 6, 2), (50, 1, 4, 0, 0, .iload 4, 2), (52, 14, 1, 70, 0, .ifCond .ne 80, 3), (55, 99, 0, 0, 0, .nop, 1), (56, 99, 0, 0, 0, .nop, 1), (57, 99, 0, 0, 0, .nop, 1), (58, 99, 0, 0, 0, .nop, 1), (59, 99, 0, 0, 0, .nop, 1), (62, 99, 0, 0, 0, .nop, 1), (65, 99, 0, 0, 0, .nop, 1), (66, 99, 0, 0, 0, .nop, 1), (68, 99, 0, 0, 0, .nop, 1), (70, 99, 0, 0, 0, .nop, 1), (72, 99, 0, 0, 0, .nop, 1), (75, 99, 0, 0, 0, .nop, 1), (76, 99, 0, 0, 0, .nop, 1), (77, 99, 0, 0, 0, .nop, 1), (80, 99, 0, 0, 0, .nop, 1), (82, 99, 0, 0, 0, .nop, 1), (83, 99, 0, 0, 0, .nop, 1), (86, 99, 0, 0, 0, .nop, 1), (88, 99, 0, 0, 0, .nop, 1), (89, 99, 0, 0, 0, .nop, 1), (92, 99, 0, 0, 0, .nop, 1), (94, 99, 0, 0, 0, .nop, 1), (95, 99, 0, 0, 0, .nop, 1), (98, 99, 0, 0, 0, .nop, 1), (100, 99, 0, 0, 0, .nop, 1), (101, 99, 0, 0, 0, .nop, 1), (104, 99, 0, 0, 0, .nop, 1), (105, 99, 0, 0, 0, .nop, 1), (108, 99, 0, 0, 0, .nop, 1), (110, 99, 0, 0, 0, .nop, 1), (111, 99, 0, 0, 0, .nop, 1), (113, 99, 0, 0, 0, .nop, 1), (115, 99, 0, 0, 0, .nop, 1), (118, 99, 0, 0, 0, .nop, 1), (119, 99, 0, 0, 0, .nop, 1), (122, 99, 0, 0, 0, .nop, 1), (124, 99, 0, 0, 0, .nop, 1), (126, 99, 0, 0, 0, .nop, 1), (129, 99, 0, 0, 0, .nop, 1), (132, 1, 4, 0, 0, .iload 4, 2), (134, 14, 1, 92, 0, .ifCond .ne 40, 3), (137, 99, 0, 0, 0, .nop, 1), (138, 99, 0, 0, 0, .nop, 1), (139, 99, 0, 0, 0, .nop, 1), (142, 99, 0, 0, 0, .nop, 1), (143, 99, 0, 0, 0, .nop, 1), (146, 99, 0, 0, 0, .nop, 1), (148, 99, 0, 0, 0, .nop, 1), (150, 99, 0, 0, 0, .nop, 1), (153, 99, 0, 0, 0, .nop, 1), (154, 99, 0, 0, 0, .nop, 1), (155, 99, 0, 0, 0, .nop, 1), (156, 99, 0, 0, 0, .nop, 1), (157, 99, 0, 0, 0, .nop, 1), (158, 99, 0, 0, 0, .nop, 1), (161, 99, 0, 0, 0, .nop, 1), (164, 99, 0, 0, 0, .nop, 1), (167, 99, 0, 0, 0, .nop, 1), (168, 99, 0, 0, 0, .nop, 1), (171, 99, 0, 0, 0, .nop, 1), (172, 99, 0, 0, 0, .nop, 1), (174, 49, 0, 0, 0, .aload_n 0, 1), (175, 1, 4, 0, 0, .iload 4, 2), (177, 35, 19, 321, 1166, .invokevirtual 169, 3), (180, 14, 0, 101, 0, .ifCond .eq 11, 3), (183, 49, 0, 0, 0, .aload_n 0, 1), (184, 1, 5, 0, 0, .iload 5, 2), (186, 35, 55, 321, 1274, .invokevirtual 207, 3), (189, 0, 4294967295, 0, 0, .iconst (-1), 1), (190, 40, 0, 0, 0, .ireturn, 1), (191, 99, 0, 0, 0, .nop, 1), (192, 99, 0, 0, 0, .nop, 1), (193, 99, 0, 0, 0, .nop, 1), (194, 99, 0, 0, 0, .nop, 1), (195, 99, 0, 0, 0, .nop, 1), (196, 99, 0, 0, 0, .nop, 1), (199, 99, 0, 0, 0, .nop, 1), (202, 99, 0, 0, 0, .nop, 1), (204, 99, 0, 0, 0, .nop, 1)]
def q_m76 : List qRow := [(0, 49, 4, 0, 0, .aload 4, 2), (2, 0, 0, 0, 0, .iconst 0, 1), (3, 49, 0, 0, 0, .aload_n 0, 1), (4, 1, 1, 0, 0, .iload_n 1, 1), (5, 1, 2, 0, 0, .iload_n 2, 1), (6, 1, 3, 0, 0, .iload_n 3, 1), (7, 35, 77, 291, 798, .invokevirtual 52, 3), (10, 99, 0, 0, 0, .nop, 1), (11, 99, 0, 0, 0, .nop, 1), (12, 99, 0, 0, 0, .nop, 1), (15, 50, 5, 0, 0, .astore 5, 2), (17, 0, 1, 0, 0, .iconst 1, 1), (18, 40, 0, 0, 0, .ireturn, 1), (19, 50, 5, 0, 0, .astore 5, 2), (21, 0, 2, 0, 0, .iconst 2, 1), (22, 40, 0, 0, 0, .ireturn, 1), (23, 99, 0, 0, 0, .nop, 1), (24, 99, 0, 0, 0, .nop, 1)]
def q_m77 : List qRow := [(0, 49, 0, 0, 0, .aload_n 0, 1), (1, 1, 1, 0, 0, .iload_n 1, 1), (2, 1, 2, 0, 0, .iload_n 2, 1), (3, 1, 3, 0, 0, .iload_n 3, 1), (4, 35, 78, 291, 802, .invokevirtual 217, 3), (7, 99, 0, 0, 0, .nop, 1), (9, 99, 0, 0, 0, .nop, 1), (11, 99, 0, 0, 0, .nop, 1), (14, 99, 0, 0, 0, .nop, 1), (15, 99, 0, 0, 0, .nop, 1), (18, 99, 0, 0, 0, .nop, 1), (20, 99, 0, 0, 0, .nop, 1), (22, 99, 0, 0, 0, .nop, 1), (25, 99, 0, 0, 0, .nop, 1), (26, 99, 0, 0, 0, .nop, 1), (29, 99, 0, 0, 0, .nop, 1), (31, 99, 0, 0, 0, .nop, 1), (34, 99, 0, 0, 0, .nop, 1), (36, 99, 0, 0, 0, .nop, 1), (39, 99, 0, 0, 0, .nop, 1), (40, 99, 0, 0, 0, .nop, 1), (43, 99, 0, 0, 0, .nop, 1)]
def q_m78 : List qRow := [(0, 49, 0, 0, 0, .aload_n 0, 1), (1, 1, 1, 0, 0, .iload_n 1, 1), (2, 35, 14, 289, 488, .invokevirtual 87, 3), (5, 50, 4, 0, 0, .astore 4, 2), (7, 1, 2, 0, 0, .iload_n 2, 1), (8, 36, 21, 1, 555, .invokestatic 91, 3), (11, 1, 3, 0, 0, .iload_n 3, 1), (12, 36, 57, 1, 625, .invokestatic 337, 3), (15, 49, 4, 0, 0, .aload 4, 2), (17, 1, 2, 0, 0, .iload_n 2, 1), (18, 36, 42, 2, 588, .invokestatic 192, 3), (21, 99, 0, 0, 0, .nop, 1)]
def q_m79 : List qRow := [(0, 49, 0, 0, 0, .aload_n 0, 1), (1, 1, 1, 0, 0, .iload_n 1, 1), (2, 1, 2, 0, 0, .iload_n 2, 1), (3, 35, 16, 322, 1150, .invokevirtual 162, 3), (6, 14, 0, 11, 0, .ifCond .eq 15, 3), (9, 49, 0, 0, 0, .aload_n 0, 1), (10, 1, 3, 0, 0, .iload_n 3, 1), (11, 35, 58, 321, 1242, .invokevirtual 195, 3), (14, 14, 0, 11, 0, .ifCond .eq 7, 3), (17, 0, 1, 0, 0, .iconst 1, 1), (18, 20, 12, 0, 0, .goto 4, 3), (21, 0, 0, 0, 0, .iconst 0, 1), (22, 2, 4, 0, 0, .istore 4, 2), (24, 49, 0, 0, 0, .aload_n 0, 1), (25, 1, 4, 0, 0, .iload 4, 2), (27, 14, 1, 18, 0, .ifCond .ne 7, 3), (30, 0, 1, 0, 0, .iconst 1, 1), (31, 20, 26, 0, 0, .goto 17, 3), (34, 49, 0, 0, 0, .aload_n 0, 1), (35, 1, 1, 0, 0, .iload_n 1, 1), (36, 1, 2, 0, 0, .iload_n 2, 1), (37, 35, 31, 322, 1162, .invokevirtual 165, 3), (40, 14, 3, 25, 0, .ifCond .ge 7, 3), (43, 0, 2, 0, 0, .iconst 2, 1), (44, 20, 26, 0, 0, .goto 4, 3), (47, 99, 0, 0, 0, .nop, 1), (48, 35, 19, 321, 1166, .invokevirtual 169, 3), (51, 14, 0, 30, 0, .ifCond .eq 5, 3), (54, 0, 4294967295, 0, 0, .iconst (-1), 1), (55, 40, 0, 0, 0, .ireturn, 1), (56, 99, 0, 0, 0, .nop, 1), (57, 99, 0, 0, 0, .nop, 1), (60, 99, 0, 0, 0, .nop, 1), (62, 99, 0, 0, 0, .nop, 1), (63, 99, 0, 0, 0, .nop, 1), (64, 99, 0, 0, 0, .nop, 1), (65, 99, 0, 0, 0, .nop, 1), (68, 99, 0, 0, 0, .nop, 1), (69, 99, 0, 0, 0, .nop, 1), (70, 99, 0, 0, 0, .nop, 1), (71, 99, 0, 0, 0, .nop, 1), (72, 99, 0, 0, 0, .nop, 1), (74, 99, 0, 0, 0, .nop, 1), (76, 99, 0, 0, 0, .nop, 1), (77, 99, 0, 0, 0, .nop, 1), (78, 99, 0, 0, 0, .nop, 1), (79, 99, 0, 0, 0, .nop, 1), (80, 99, 0, 0, 0, .nop, 1), (82, 99, 0, 0, 0, .nop, 1), (84, 99, 0, 0, 0, .nop, 1), (87, 99, 0, 0, 0, .nop, 1), (88, 99, 0, 0, 0, .nop, 1), (91, 99, 0, 0, 0, .nop, 1), (93, 99, 0, 0, 0, .nop, 1), (94, 99, 0, 0, 0, .nop, 1), (95, 99, 0, 0, 0, .nop, 1), (98, 99, 0, 0, 0, .nop, 1), (99, 99, 0, 0, 0, .nop, 1), (102, 99, 0, 0, 0, .nop, 1), (104, 99, 0, 0, 0, .nop, 1), (105, 99, 0, 0, 0, .nop, 1), (106, 99, 0, 0, 0, .nop, 1), (109, 99, 0, 0, 0, .nop, 1), (110, 99, 0, 0, 0, .nop, 1), (113, 99, 0, 0, 0, .nop, 1), (115, 99, 0, 0, 0, .nop, 1), (116, 99, 0, 0, 0, .nop, 1), (117, 99, 0, 0, 0, .nop, 1), (118, 99, 0, 0, 0, .nop, 1), (119, 99, 0, 0, 0, .nop, 1), (122, 99, 0, 0, 0, .nop, 1), (123, 99, 0, 0, 0, .nop, 1), (124, 99, 0, 0, 0, .nop, 1), (127, 99, 0, 0, 0, .nop, 1), (128, 99, 0, 0, 0, .nop, 1), (130, 99, 0, 0, 0, .nop, 1), (133, 99, 0, 0, 0, .nop, 1)]
def q_m80 : List qRow := [(0, 49, 4, 0, 0, .aload 4, 2), (2, 0, 0, 0, 0, .iconst 0, 1), (3, 49, 0, 0, 0, .aload_n 0, 1), (4, 1, 1, 0, 0, .iload_n 1, 1), (5, 1, 2, 0, 0, .iload_n 2, 1), (6, 1, 3, 0, 0, .iload_n 3, 1), (7, 35, 81, 291, 813, .invokevirtual 55, 3), (10, 99, 0, 0, 0, .nop, 1), (11, 99, 0, 0, 0, .nop, 1), (12, 99, 0, 0, 0, .nop, 1), (15, 50, 5, 0, 0, .astore 5, 2), (17, 0, 1, 0, 0, .iconst 1, 1), (18, 40, 0, 0, 0, .ireturn, 1), (19, 50, 5, 0, 0, .astore 5, 2), (21, 0, 2, 0, 0, .iconst 2, 1), (22, 40, 0, 0, 0, .ireturn, 1), (23, 50, 5, 0, 0, .astore 5, 2), (25, 0, 3, 0, 0, .iconst 3, 1), (26, 40, 0, 0, 0, .ireturn, 1), (27, 99, 0, 0, 0, .nop, 1), (28, 99, 0, 0, 0, .nop, 1)]
def q_m81 : List qRow := [(0, 49, 0, 0, 0, .aload_n 0, 1), (1, 1, 1, 0, 0, .iload_n 1, 1), (2, 35, 14, 289, 488, .invokevirtual 87, 3), (5, 50, 4, 0, 0, .astore 4, 2), (7, 1, 2, 0, 0, .iload_n 2, 1), (8, 36, 21, 1, 555, .invokestatic 91, 3), (11, 1, 3, 0, 0, .iload_n 3, 1), (12, 14, 2, 13, 0, .ifCond .lt 12, 3), (15, 1, 3, 0, 0, .iload_n 3, 1), (16, 0, 2, 0, 0, .iconst 2, 1), (17, 15, 4, 13, 0, .if_icmp .gt 7, 3), (20, 0, 1, 0, 0, .iconst 1, 1), (21, 20, 14, 0, 0, .goto 4, 3), (24, 0, 0, 0, 0, .iconst 0, 1), (25, 36, 59, 1, 628, .invokestatic 147, 3), (28, 49, 4, 0, 0, .aload 4, 2), (30, 1, 2, 0, 0, .iload_n 2, 1), (31, 36, 42, 2, 588, .invokestatic 192, 3), (34, 99, 0, 0, 0, .nop, 1), (36, 99, 0, 0, 0, .nop, 1), (37, 99, 0, 0, 0, .nop, 1), (40, 99, 0, 0, 0, .nop, 1), (42, 99, 0, 0, 0, .nop, 1), (45, 99, 0, 0, 0, .nop, 1), (47, 99, 0, 0, 0, .nop, 1), (50, 99, 0, 0, 0, .nop, 1), (53, 99, 0, 0, 0, .nop, 1), (54, 99, 0, 0, 0, .nop, 1), (55, 99, 0, 0, 0, .nop, 1), (56, 99, 0, 0, 0, .nop, 1), (59, 99, 0, 0, 0, .nop, 1), (61, 99, 0, 0, 0, .nop, 1), (64, 99, 0, 0, 0, .nop, 1), (66, 99, 0, 0, 0, .nop, 1), (69, 99, 0, 0, 0, .nop, 1), (72, 99, 0, 0, 0, .nop, 1), (75, 99, 0, 0, 0, .nop, 1), (77, 99, 0, 0, 0, .nop, 1), (80, 99, 0, 0, 0, .nop, 1), (83, 99, 0, 0, 0, .nop, 1)]
def q_m82 : List qRow := [(0, 49, 0, 0, 0, .aload_n 0, 1), (1, 1, 1, 0, 0, .iload_n 1, 1), (2, 1, 2, 0, 0, .iload_n 2, 1), (3, 35, 16, 322, 1150, .invokevirtual 162, 3), (6, 2, 4, 0, 0, .istore 4, 2), (8, 49, 0, 0, 0, .aload_n 0, 1), (9, 1, 4, 0, 0, .iload 4, 2), (11, 14, 1, 10, 0, .ifCond .ne 7, 3), (14, 0, 1, 0, 0, .iconst 1, 1), (15, 20, 26, 0, 0, .goto 31, 3), (18, 49, 0, 0, 0, .aload_n 0, 1), (19, 1, 3, 0, 0, .iload_n 3, 1), (20, 0, 0, 0, 0, .iconst 0, 1), (21, 0, 2, 0, 0, .iconst 2, 1), (22, 35, 18, 323, 1158, .invokevirtual 95, 3), (25, 14, 1, 18, 0, .ifCond .ne 7, 3), (28, 0, 2, 0, 0, .iconst 2, 1), (29, 20, 26, 0, 0, .goto 17, 3), (32, 49, 0, 0, 0, .aload_n 0, 1), (33, 1, 1, 0, 0, .iload_n 1, 1), (34, 1, 2, 0, 0, .iload_n 2, 1), (35, 35, 31, 322, 1162, .invokevirtual 165, 3), (38, 14, 3, 25, 0, .ifCond .ge 7, 3), (41, 0, 3, 0, 0, .iconst 3, 1), (42, 20, 26, 0, 0, .goto 4, 3), (45, 99, 0, 0, 0, .nop, 1), (46, 35, 19, 321, 1166, .invokevirtual 169, 3), (49, 14, 0, 30, 0, .ifCond .eq 5, 3), (52, 0, 4294967295, 0, 0, .iconst (-1), 1), (53, 40, 0, 0, 0, .ireturn, 1), (54, 99, 0, 0, 0, .nop, 1), (55, 99, 0, 0, 0, .nop, 1), (56, 99, 0, 0, 0, .nop, 1), (57, 99, 0, 0, 0, .nop, 1), (60, 99, 0, 0, 0, .nop, 1), (62, 99, 0, 0, 0, .nop, 1), (63, 99, 0, 0, 0, .nop, 1), (65, 99, 0, 0, 0, .nop, 1), (66, 99, 0, 0, 0, .nop, 1), (68, 99, 0, 0, 0, .nop, 1), (70, 99, 0, 0, 0, .nop, 1), (72, 99, 0, 0, 0, .nop, 1), (75, 99, 0, 0, 0, .nop, 1), (77, 99, 0, 0, 0, .nop, 1), (78, 99, 0, 0, 0, .nop, 1), (81, 99, 0, 0, 0, .nop, 1), (83, 99, 0, 0, 0, .nop, 1), (85, 99, 0, 0, 0, .nop, 1), (86, 99, 0, 0, 0, .nop, 1), (88, 99, 0, 0, 0, .nop, 1), (89, 99, 0, 0, 0, .nop, 1), (90, 99, 0, 0, 0, .nop, 1), (93, 99, 0, 0, 0, .nop, 1), (94, 99, 0, 0, 0, .nop, 1), (97, 99, 0, 0, 0, .nop, 1), (98, 99, 0, 0, 0, .nop, 1), (99, 99, 0, 0, 0, .nop, 1), (101, 99, 0, 0, 0, .nop, 1), (104, 99, 0, 0, 0, .nop, 1), (107, 99, 0, 0, 0, .nop, 1), (108, 99, 0, 0, 0, .nop, 1), (111, 99, 0, 0, 0, .nop, 1), (112, 99, 0, 0, 0, .nop, 1), (113, 99, 0, 0, 0, .nop, 1), (115, 99, 0, 0, 0, .nop, 1), (118, 99, 0, 0, 0, .nop, 1), (121, 99, 0, 0, 0, .nop, 1), (122, 99, 0, 0, 0, .nop, 1), (123, 99, 0, 0, 0, .nop, 1), (126, 99, 0, 0, 0, .nop, 1), (127, 99, 0, 0, 0, .nop, 1), (129, 99, 0, 0, 0, .nop, 1), (131, 99, 0, 0, 0, .nop, 1), (134, 99, 0, 0, 0, .nop, 1), (137, 99, 0, 0, 0, .nop, 1), (139, 99, 0, 0, 0, .nop, 1)]
def q_m83 : List qRow := [(0, 49, 4, 0, 0, .aload 4, 2), (2, 0, 0, 0, 0, .iconst 0, 1), (3, 49, 0, 0, 0, .aload_n 0, 1), (4, 1, 1, 0, 0, .iload_n 1, 1), (5, 1, 2, 0, 0, .iload_n 2, 1), (6, 1, 3, 0, 0, .iload_n 3, 1), (7, 35, 84, 291, 820, .invokevirtual 58, 3), (10, 99, 0, 0, 0, .nop, 1), (11, 99, 0, 0, 0, .nop, 1), (12, 99, 0, 0, 0, .nop, 1), (15, 50, 5, 0, 0, .astore 5, 2), (17, 0, 1, 0, 0, .iconst 1, 1), (18, 40, 0, 0, 0, .ireturn, 1), (19, 50, 5, 0, 0, .astore 5, 2), (21, 0, 2, 0, 0, .iconst 2, 1), (22, 40, 0, 0, 0, .ireturn, 1), (23, 99, 0, 0, 0, .nop, 1), (24, 99, 0, 0, 0, .nop, 1)]
def q_m84 : List qRow := [(0, 49, 0, 0, 0, .aload_n 0, 1), (1, 1, 1, 0, 0, .iload_n 1, 1), (2, 1, 2, 0, 0, .iload_n 2, 1), (3, 1, 3, 0, 0, .iload_n 3, 1), (4, 35, 78, 291, 802, .invokevirtual 217, 3), (7, 99, 0, 0, 0, .nop, 1), (10, 99, 0, 0, 0, .nop, 1), (11, 99, 0, 0, 0, .nop, 1), (14, 99, 0, 0, 0, .nop, 1), (16, 99, 0, 0, 0, .nop, 1), (17, 99, 0, 0, 0, .nop, 1), (19, 99, 0, 0, 0, .nop, 1), (20, 99, 0, 0, 0, .nop, 1), (22, 99, 0, 0, 0, .nop, 1), (24, 99, 0, 0, 0, .nop, 1), (26, 99, 0, 0, 0, .nop, 1), (29, 99, 0, 0, 0, .nop, 1), (31, 99, 0, 0, 0, .nop, 1), (34, 99, 0, 0, 0, .nop, 1), (35, 99, 0, 0, 0, .nop, 1), (38, 99, 0, 0, 0, .nop, 1), (40, 99, 0, 0, 0, .nop, 1), (41, 99, 0, 0, 0, .nop, 1), (44, 99, 0, 0, 0, .nop, 1), (47, 99, 0, 0, 0, .nop, 1), (49, 99, 0, 0, 0, .nop, 1), (50, 99, 0, 0, 0, .nop, 1), (53, 99, 0, 0, 0, .nop, 1), (55, 99, 0, 0, 0, .nop, 1), (56, 99, 0, 0, 0, .nop, 1), (59, 99, 0, 0, 0, .nop, 1), (61, 99, 0, 0, 0, .nop, 1), (64, 99, 0, 0, 0, .nop, 1), (65, 99, 0, 0, 0, .nop, 1), (67, 99, 0, 0, 0, .nop, 1), (70, 99, 0, 0, 0, .nop, 1), (73, 99, 0, 0, 0, .nop, 1), (75, 99, 0, 0, 0, .nop, 1)]
def q_m85 : List qRow := [(0, 49, 0, 0, 0, .aload_n 0, 1), (1, 1, 1, 0, 0, .iload_n 1, 1), (2, 1, 2, 0, 0, .iload_n 2, 1), (3, 35, 16, 322, 1150, .invokevirtual 162, 3), (6, 14, 0, 11, 0, .ifCond .eq 15, 3), (9, 49, 0, 0, 0, .aload_n 0, 1), (10, 1, 3, 0, 0, .iload_n 3, 1), (11, 35, 58, 321, 1242, .invokevirtual 195, 3), (14, 14, 0, 11, 0, .ifCond .eq 7, 3), (17, 0, 1, 0, 0, .iconst 1, 1), (18, 20, 12, 0, 0, .goto 4, 3), (21, 0, 0, 0, 0, .iconst 0, 1), (22, 2, 4, 0, 0, .istore 4, 2), (24, 49, 0, 0, 0, .aload_n 0, 1), (25, 1, 4, 0, 0, .iload 4, 2), (27, 14, 1, 18, 0, .ifCond .ne 7, 3), (30, 0, 1, 0, 0, .iconst 1, 1), (31, 20, 26, 0, 0, .goto 17, 3), (34, 49, 0, 0, 0, .aload_n 0, 1), (35, 1, 1, 0, 0, .iload_n 1, 1), (36, 1, 2, 0, 0, .iload_n 2, 1), (37, 35, 31, 322, 1162, .invokevirtual 165, 3), (40, 14, 3, 25, 0, .ifCond .ge 7, 3), (43, 0, 2, 0, 0, .iconst 2, 1), (44, 20, 26, 0, 0, .goto 4, 3), (47, 99, 0, 0, 0, .nop, 1), (48, 35, 19, 321, 1166, .invokevirtual 169, 3), (51, 14, 0, 30, 0, .ifCond .eq 5, 3), (54, 0, 4294967295, 0, 0, .iconst (-1), 1), (55, 40, 0, 0, 0, .ireturn, 1), (56, 99, 0, 0, 0, .nop, 1), (57, 99, 0, 0, 0, .nop, 1), (60, 99, 0, 0, 0, .nop, 1), (62, 99, 0, 0, 0, .nop, 1), (63, 99, 0, 0, 0, .nop, 1), (64, 99, 0, 0, 0, .nop, 1), (65, 99, 0, 0, 0, .nop, 1), (68, 99, 0, 0, 0, .nop, 1), (69, 99, 0, 0, 0, .nop, 1), (70, 99, 0, 0, 0, .nop, 1), (71, 99, 0, 0, 0, .nop, 1), (72, 99, 0, 0, 0, .nop, 1), (74, 99, 0, 0, 0, .nop, 1), (75, 99, 0, 0, 0, .nop, 1), (77, 99, 0, 0, 0, .nop, 1), (78, 99, 0, 0, 0, .nop, 1), (80, 99, 0, 0, 0, .nop, 1), (82, 99, 0, 0, 0, .nop, 1), (84, 99, 0, 0, 0, .nop, 1), (87, 99, 0, 0, 0, .nop, 1), (89, 99, 0, 0, 0, .nop, 1), (92, 99, 0, 0, 0, .nop, 1), (93, 99, 0, 0, 0, .nop, 1), (95, 99, 0, 0, 0, .nop, 1), (97, 99, 0, 0, 0, .nop, 1), (100, 99, 0, 0, 0, .nop, 1), (103, 99, 0, 0, 0, .nop, 1), (104, 99, 0, 0, 0, .nop, 1), (107, 99, 0, 0, 0, .nop, 1), (109, 99, 0, 0, 0, .nop, 1), (110, 99, 0, 0, 0, .nop, 1), (113, 99, 0, 0, 0, .nop, 1), (114, 99, 0, 0, 0, .nop, 1), (116, 99, 0, 0, 0, .nop, 1), (118, 99, 0, 0, 0, .nop, 1), (121, 99, 0, 0, 0, .nop, 1), (124, 99, 0, 0, 0, .nop, 1), (125, 99, 0, 0, 0, .nop, 1), (128, 99, 0, 0, 0, .nop, 1), (129, 99, 0, 0, 0, .nop, 1), (131, 99, 0, 0, 0, .nop, 1), (132, 99, 0, 0, 0, .nop, 1), (134, 99, 0, 0, 0, .nop, 1), (136, 99, 0, 0, 0, .nop, 1), (138, 99, 0, 0, 0, .nop, 1), (141, 99, 0, 0, 0, .nop, 1), (143, 99, 0, 0, 0, .nop, 1), (146, 99, 0, 0, 0, .nop, 1), (147, 99, 0, 0, 0, .nop, 1), (150, 99, 0, 0, 0, .nop, 1), (152, 99, 0, 0, 0, .nop, 1), (154, 99, 0, 0, 0, .nop, 1), (155, 99, 0, 0, 0, .nop, 1), (157, 99, 0, 0, 0, .nop, 1), (158, 99, 0, 0, 0, .nop, 1), (159, 99, 0, 0, 0, .nop, 1), (161, 99, 0, 0, 0, .nop, 1), (163, 99, 0, 0, 0, .nop, 1), (165, 99, 0, 0, 0, .nop, 1), (168, 99, 0, 0, 0, .nop, 1), (170, 99, 0, 0, 0, .nop, 1), (171, 99, 0, 0, 0, .nop, 1), (172, 99, 0, 0, 0, .nop, 1), (173, 99, 0, 0, 0, .nop, 1), (174, 99, 0, 0, 0, .nop, 1), (176, 99, 0, 0, 0, .nop, 1), (177, 99, 0, 0, 0, .nop, 1), (178, 99, 0, 0, 0, .nop, 1), (179, 99, 0, 0, 0, .nop, 1), (180, 99, 0, 0, 0, .nop, 1), (183, 99, 0, 0, 0, .nop, 1), (184, 99, 0, 0, 0, .nop, 1), (187, 99, 0, 0, 0, .nop, 1), (188, 99, 0, 0, 0, .nop, 1), (189, 99, 0, 0, 0, .nop, 1), (191, 99, 0, 0, 0, .nop, 1), (194, 99, 0, 0, 0, .nop, 1), (197, 99, 0, 0, 0, .nop, 1), (200, 99, 0, 0, 0, .nop, 1), (203, 99, 0, 0, 0, .nop, 1), (206, 99, 0, 0, 0, .nop, 1), (209, 99, 0, 0, 0, .nop, 1), (211, 99, 0, 0, 0, .nop, 1)]
def q_m86 : List qRow := [(0, 49, 3, 0, 0, .aload_n 3, 1), (1, 0, 0, 0, 0, .iconst 0, 1), (2, 49, 0, 0, 0, .aload_n 0, 1), (3, 1, 1, 0, 0, .iload_n 1, 1), (4, 1, 2, 0, 0, .iload_n 2, 1), (5, 35, 87, 290, 832, .invokevirtual 61, 3), (8, 45, 0, 0, 0, .i2l, 1), (9, 27, 0, 0, 0, .lastore, 1), (10, 20, 15, 0, 0, .goto 11, 3), (13, 50, 4, 0, 0, .astore 4, 2), (15, 0, 1, 0, 0, .iconst 1, 1), (16, 40, 0, 0, 0, .ireturn, 1), (17, 99, 0, 0, 0, .nop, 1), (19, 99, 0, 0, 0, .nop, 1), (20, 99, 0, 0, 0, .nop, 1), (21, 0, 0, 0, 0, .iconst 0, 1), (22, 40, 0, 0, 0, .ireturn, 1)]
def q_m87 : List qRow := [(0, 49, 0, 0, 0, .aload_n 0, 1), (1, 1, 1, 0, 0, .iload_n 1, 1), (2, 35, 14, 289, 488, .invokevirtual 87, 3), (5, 50, 3, 0, 0, .astore_n 3, 1), (6, 49, 0, 0, 0, .aload_n 0, 1), (7, 35, 89, 288, 836, .invokevirtual 233, 3), (10, 2, 4, 0, 0, .istore 4, 2), (12, 1, 4, 0, 0, .iload 4, 2), (14, 0, 4294967295, 0, 0, .iconst (-1), 1), (15, 15, 0, 12, 0, .if_icmp .eq 7, 3), (18, 0, 1, 0, 0, .iconst 1, 1), (19, 20, 13, 0, 0, .goto 4, 3), (22, 99, 0, 0, 0, .nop, 1), (23, 36, 23, 1, 559, .invokestatic 107, 3), (26, 49, 0, 0, 0, .aload_n 0, 1), (27, 21, 9, 1, 308, .getfield 20, 3), (30, 1, 4, 0, 0, .iload 4, 2), (32, 28, 0, 0, 0, .aaload, 1), (33, 49, 3, 0, 0, .aload_n 3, 1), (34, 35, 10, 225, 302, .invokevirtual 83, 3), (37, 49, 0, 0, 0, .aload_n 0, 1), (38, 21, 9, 1, 308, .getfield 20, 3), (41, 1, 4, 0, 0, .iload 4, 2), (43, 28, 0, 0, 0, .aaload, 1), (44, 1, 2, 0, 0, .iload_n 2, 1), (45, 22, 7, 1, 729, .putfield 95, 3), (48, 1, 4, 0, 0, .iload 4, 2), (50, 40, 0, 0, 0, .ireturn, 1)]
def q_m88 : List qRow := [(0, 49, 0, 0, 0, .aload_n 0, 1), (1, 49, 0, 0, 0, .aload_n 0, 1), (2, 1, 1, 0, 0, .iload_n 1, 1), (3, 35, 17, 321, 1154, .invokevirtual 99, 3), (6, 14, 1, 7, 0, .ifCond .ne 7, 3), (9, 0, 1, 0, 0, .iconst 1, 1), (10, 20, 14, 0, 0, .goto 17, 3), (13, 49, 0, 0, 0, .aload_n 0, 1), (14, 35, 90, 320, 1350, .invokevirtual 239, 3), (17, 0, 6, 0, 0, .bipush 6, 2), (19, 15, 1, 13, 0, .if_icmp .ne 7, 3), (22, 99, 0, 0, 0, .nop, 1), (23, 99, 0, 0, 0, .nop, 1), (26, 0, 0, 0, 0, .iconst 0, 1), (27, 35, 19, 321, 1166, .invokevirtual 169, 3), (30, 14, 0, 18, 0, .ifCond .eq 5, 3), (33, 0, 4294967295, 0, 0, .iconst (-1), 1), (34, 40, 0, 0, 0, .ireturn, 1), (35, 49, 0, 0, 0, .aload_n 0, 1), (36, 35, 91, 320, 1354, .invokevirtual 242, 3), (39, 2, 3, 0, 0, .istore_n 3, 1), (40, 49, 0, 0, 0, .aload_n 0, 1), (41, 1, 3, 0, 0, .iload_n 3, 1), (42, 1, 1, 0, 0, .iload_n 1, 1), (43, 1, 2, 0, 0, .iload_n 2, 1), (44, 14, 0, 28, 0, .ifCond .eq 7, 3), (47, 0, 1, 0, 0, .iconst 1, 1), (48, 20, 29, 0, 0, .goto 4, 3), (51, 0, 0, 0, 0, .iconst 0, 1), (52, 49, 0, 0, 0, .aload_n 0, 1), (53, 21, 10, 12, 1045, .getfield 40, 3), (56, 1, 1, 0, 0, .iload_n 1, 1), (57, 24, 0, 0, 0, .iaload, 1), (58, 49, 0, 0, 0, .aload_n 0, 1), (59, 21, 10, 13, 1046, .getfield 43, 3), (62, 1, 1, 0, 0, .iload_n 1, 1), (63, 24, 0, 0, 0, .iaload, 1), (64, 35, 92, 325, 1358, .invokevirtual 245, 3), (67, 1, 3, 0, 0, .iload_n 3, 1), (68, 40, 0, 0, 0, .ireturn, 1)]
def q_m89 : List qRow := [(0, 0, 0, 0, 0, .iconst 0, 1), (1, 2, 1, 0, 0, .istore_n 1, 1), (2, 1, 1, 0, 0, .iload_n 1, 1), (3, 0, 6, 0, 0, .bipush 6, 2), (5, 15, 3, 15, 0, .if_icmp .ge 23, 3), (8, 49, 0, 0, 0, .aload_n 0, 1), (9, 21, 9, 1, 308, .getfield 20, 3), (12, 1, 1, 0, 0, .iload_n 1, 1), (13, 28, 0, 0, 0, .aaload, 1), (14, 21, 7, 0, 180, .getfield 99, 3), (17, 17, 13, 0, 0, .ifnonnull 5, 3), (20, 1, 1, 0, 0, .iload_n 1, 1), (21, 40, 0, 0, 0, .ireturn, 1), (22, 3, 1, 1, 0, .iinc 1 1, 3), (25, 20, 2, 0, 0, .goto (-23), 3), (28, 99, 0, 0, 0, .nop, 1), (29, 99, 0, 0, 0, .nop, 1)]
def q_m90 : List qRow := [(0, 0, 0, 0, 0, .iconst 0, 1), (1, 2, 1, 0, 0, .istore_n 1, 1), (2, 0, 0, 0, 0, .iconst 0, 1), (3, 2, 2, 0, 0, .istore_n 2, 1), (4, 1, 2, 0, 0, .iload_n 2, 1), (5, 0, 6, 0, 0, .bipush 6, 2), (7, 15, 3, 20, 0, .if_icmp .ge 26, 3), (10, 1, 1, 0, 0, .iload_n 1, 1), (11, 49, 0, 0, 0, .aload_n 0, 1), (12, 21, 10, 10, 1043, .getfield 34, 3), (15, 1, 2, 0, 0, .iload_n 2, 1), (16, 24, 0, 0, 0, .iaload, 1), (17, 14, 2, 15, 0, .ifCond .lt 7, 3), (20, 0, 1, 0, 0, .iconst 1, 1), (21, 20, 16, 0, 0, .goto 4, 3), (24, 0, 0, 0, 0, .iconst 0, 1), (25, 4, 0, 0, 0, .iadd, 1), (26, 2, 1, 0, 0, .istore_n 1, 1), (27, 3, 2, 1, 0, .iinc 2 1, 3), (30, 20, 4, 0, 0, .goto (-26), 3), (33, 1, 1, 0, 0, .iload_n 1, 1), (34, 40, 0, 0, 0, .ireturn, 1)]
def q_m91 : List qRow := [(0, 0, 0, 0, 0, .iconst 0, 1), (1, 2, 1, 0, 0, .istore_n 1, 1), (2, 1, 1, 0, 0, .iload_n 1, 1), (3, 0, 6, 0, 0, .bipush 6, 2), (5, 15, 3, 12, 0, .if_icmp .ge 18, 3), (8, 49, 0, 0, 0, .aload_n 0, 1), (9, 21, 10, 10, 1043, .getfield 34, 3), (12, 1, 1, 0, 0, .iload_n 1, 1), (13, 24, 0, 0, 0, .iaload, 1), (14, 14, 2, 12, 0, .ifCond .lt 9, 3), (17, 3, 1, 1, 0, .iinc 1 1, 3), (20, 20, 2, 0, 0, .goto (-18), 3), (23, 1, 1, 0, 0, .iload_n 1, 1), (24, 40, 0, 0, 0, .ireturn, 1)]
def q_m92 : List qRow := [(0, 49, 0, 0, 0, .aload_n 0, 1), (1, 21, 10, 10, 1043, .getfield 34, 3), (4, 1, 1, 0, 0, .iload_n 1, 1), (5, 49, 0, 0, 0, .aload_n 0, 1), (6, 21, 10, 10, 1043, .getfield 34, 3), (9, 1, 2, 0, 0, .iload_n 2, 1), (10, 24, 0, 0, 0, .iaload, 1), (11, 25, 0, 0, 0, .iastore, 1), (12, 49, 0, 0, 0, .aload_n 0, 1), (13, 21, 10, 11, 1044, .getfield 37, 3), (16, 1, 1, 0, 0, .iload_n 1, 1), (17, 1, 3, 0, 0, .iload_n 3, 1), (18, 25, 0, 0, 0, .iastore, 1), (19, 49, 0, 0, 0, .aload_n 0, 1), (20, 21, 10, 12, 1045, .getfield 40, 3), (23, 1, 1, 0, 0, .iload_n 1, 1), (24, 1, 4, 0, 0, .iload 4, 2), (26, 25, 0, 0, 0, .iastore, 1), (27, 49, 0, 0, 0, .aload_n 0, 1), (28, 21, 10, 13, 1046, .getfield 43, 3), (31, 1, 1, 0, 0, .iload_n 1, 1), (32, 1, 5, 0, 0, .iload 5, 2), (34, 25, 0, 0, 0, .iastore, 1), (35, 42, 0, 0, 0, .return_, 1)]
def q_m93 : List qRow := [(0, 49, 2, 0, 0, .aload_n 2, 1), (1, 0, 0, 0, 0, .iconst 0, 1), (2, 49, 0, 0, 0, .aload_n 0, 1), (3, 1, 1, 0, 0, .iload_n 1, 1), (4, 35, 94, 289, 843, .invokevirtual 65, 3), (7, 99, 0, 0, 0, .nop, 1), (8, 99, 0, 0, 0, .nop, 1), (9, 99, 0, 0, 0, .nop, 1), (12, 50, 3, 0, 0, .astore_n 3, 1), (13, 0, 1, 0, 0, .iconst 1, 1), (14, 40, 0, 0, 0, .ireturn, 1), (15, 50, 3, 0, 0, .astore_n 3, 1), (16, 0, 2, 0, 0, .iconst 2, 1), (17, 40, 0, 0, 0, .ireturn, 1), (18, 99, 0, 0, 0, .nop, 1), (19, 99, 0, 0, 0, .nop, 1)]
def q_m94 : List qRow := [(0, 49, 0, 0, 0, .aload_n 0, 1), (1, 1, 1, 0, 0, .iload_n 1, 1), (2, 35, 14, 289, 488, .invokevirtual 87, 3), (5, 50, 2, 0, 0, .astore_n 2, 1), (6, 1, 1, 0, 0, .iload_n 1, 1), (7, 14, 0, 8, 0, .ifCond .eq 7, 3), (10, 99, 0, 0, 0, .nop, 1), (11, 99, 0, 0, 0, .nop, 1), (14, 0, 0, 0, 0, .iconst 0, 1), (15, 36, 23, 1, 559, .invokestatic 107, 3), (18, 99, 0, 0, 0, .nop, 1), (19, 99, 0, 0, 0, .nop, 1), (20, 99, 0, 0, 0, .nop, 1), (23, 99, 0, 0, 0, .nop, 1), (24, 99, 0, 0, 0, .nop, 1), (27, 99, 0, 0, 0, .nop, 1), (30, 99, 0, 0, 0, .nop, 1), (31, 99, 0, 0, 0, .nop, 1), (34, 99, 0, 0, 0, .nop, 1)]
def q_m95 : List qRow := [(0, 49, 0, 0, 0, .aload_n 0, 1), (1, 49, 0, 0, 0, .aload_n 0, 1), (2, 1, 1, 0, 0, .iload_n 1, 1), (3, 35, 17, 321, 1154, .invokevirtual 99, 3), (6, 14, 1, 7, 0, .ifCond .ne 7, 3), (9, 0, 1, 0, 0, .iconst 1, 1), (10, 20, 12, 0, 0, .goto 12, 3), (13, 1, 1, 0, 0, .iload_n 1, 1), (14, 14, 1, 11, 0, .ifCond .ne 7, 3), (17, 0, 2, 0, 0, .iconst 2, 1), (18, 20, 12, 0, 0, .goto 4, 3), (21, 99, 0, 0, 0, .nop, 1), (22, 35, 19, 321, 1166, .invokevirtual 169, 3), (25, 14, 0, 16, 0, .ifCond .eq 5, 3), (28, 0, 4294967295, 0, 0, .iconst (-1), 1), (29, 40, 0, 0, 0, .ireturn, 1), (30, 99, 0, 0, 0, .nop, 1), (31, 99, 0, 0, 0, .nop, 1), (34, 99, 0, 0, 0, .nop, 1), (35, 99, 0, 0, 0, .nop, 1), (36, 99, 0, 0, 0, .nop, 1), (37, 99, 0, 0, 0, .nop, 1), (38, 99, 0, 0, 0, .nop, 1), (41, 99, 0, 0, 0, .nop, 1), (42, 99, 0, 0, 0, .nop, 1), (45, 99, 0, 0, 0, .nop, 1)]
def q_m96 : List qRow := [(0, 49, 0, 0, 0, .aload_n 0, 1), (1, 1, 1, 0, 0, .iload_n 1, 1), (2, 1, 2, 0, 0, .iload_n 2, 1), (3, 1, 3, 0, 0, .iload_n 3, 1), (4, 35, 97, 291, 850, .invokevirtual 69, 3), (7, 20, 12, 0, 0, .goto 11, 3), (10, 50, 4, 0, 0, .astore 4, 2), (12, 0, 1, 0, 0, .iconst 1, 1), (13, 40, 0, 0, 0, .ireturn, 1), (14, 50, 4, 0, 0, .astore 4, 2), (16, 0, 2, 0, 0, .iconst 2, 1), (17, 40, 0, 0, 0, .ireturn, 1), (18, 0, 0, 0, 0, .iconst 0, 1), (19, 40, 0, 0, 0, .ireturn, 1)]
def q_m97 : List qRow := [(0, 49, 0, 0, 0, .aload_n 0, 1), (1, 1, 1, 0, 0, .iload_n 1, 1), (2, 35, 14, 289, 488, .invokevirtual 87, 3), (5, 50, 4, 0, 0, .astore 4, 2), (7, 1, 2, 0, 0, .iload_n 2, 1), (8, 14, 2, 11, 0, .ifCond .lt 14, 3), (11, 1, 2, 0, 0, .iload_n 2, 1), (12, 0, 1000, 0, 0, .sipush 1000, 3), (15, 15, 4, 11, 0, .if_icmp .gt 7, 3), (18, 0, 1, 0, 0, .iconst 1, 1), (19, 20, 12, 0, 0, .goto 4, 3), (22, 0, 0, 0, 0, .iconst 0, 1), (23, 36, 59, 1, 628, .invokestatic 147, 3), (26, 1, 3, 0, 0, .iload_n 3, 1), (27, 14, 2, 20, 0, .ifCond .lt 14, 3), (30, 1, 3, 0, 0, .iload_n 3, 1), (31, 0, 1000, 0, 0, .sipush 1000, 3), (34, 15, 4, 20, 0, .if_icmp .gt 7, 3), (37, 0, 1, 0, 0, .iconst 1, 1), (38, 20, 21, 0, 0, .goto 4, 3), (41, 0, 0, 0, 0, .iconst 0, 1), (42, 36, 59, 1, 628, .invokestatic 147, 3), (45, 49, 4, 0, 0, .aload 4, 2), (47, 1, 2, 0, 0, .iload_n 2, 1), (48, 22, 7, 2, 736, .putfield 239, 3), (51, 49, 4, 0, 0, .aload 4, 2), (53, 1, 3, 0, 0, .iload_n 3, 1), (54, 22, 7, 3, 744, .putfield 242, 3), (57, 42, 0, 0, 0, .return_, 1)]
def q_m98 : List qRow := [(0, 49, 0, 0, 0, .aload_n 0, 1), (1, 49, 0, 0, 0, .aload_n 0, 1), (2, 1, 1, 0, 0, .iload_n 1, 1), (3, 35, 17, 321, 1154, .invokevirtual 99, 3), (6, 14, 1, 7, 0, .ifCond .ne 7, 3), (9, 0, 1, 0, 0, .iconst 1, 1), (10, 20, 22, 0, 0, .goto 32, 3), (13, 49, 0, 0, 0, .aload_n 0, 1), (14, 1, 2, 0, 0, .iload_n 2, 1), (15, 0, 0, 0, 0, .iconst 0, 1), (16, 0, 1000, 0, 0, .sipush 1000, 3), (19, 35, 18, 323, 1158, .invokevirtual 95, 3), (22, 14, 0, 21, 0, .ifCond .eq 19, 3), (25, 49, 0, 0, 0, .aload_n 0, 1), (26, 1, 3, 0, 0, .iload_n 3, 1), (27, 0, 0, 0, 0, .iconst 0, 1), (28, 0, 1000, 0, 0, .sipush 1000, 3), (31, 35, 18, 323, 1158, .invokevirtual 95, 3), (34, 14, 0, 21, 0, .ifCond .eq 7, 3), (37, 0, 0, 0, 0, .iconst 0, 1), (38, 20, 22, 0, 0, .goto 4, 3), (41, 0, 2, 0, 0, .iconst 2, 1), (42, 35, 19, 321, 1166, .invokevirtual 169, 3), (45, 14, 1, 34, 0, .ifCond .ne 17, 3), (48, 49, 0, 0, 0, .aload_n 0, 1), (49, 21, 10, 12, 1045, .getfield 40, 3), (52, 1, 1, 0, 0, .iload_n 1, 1), (53, 1, 2, 0, 0, .iload_n 2, 1), (54, 25, 0, 0, 0, .iastore, 1), (55, 49, 0, 0, 0, .aload_n 0, 1), (56, 21, 10, 13, 1046, .getfield 43, 3), (59, 1, 1, 0, 0, .iload_n 1, 1), (60, 1, 3, 0, 0, .iload_n 3, 1), (61, 25, 0, 0, 0, .iastore, 1), (62, 42, 0, 0, 0, .return_, 1)]
def q_m99 : List qRow := [(0, 49, 3, 0, 0, .aload_n 3, 1), (1, 0, 0, 0, 0, .iconst 0, 1), (2, 49, 0, 0, 0, .aload_n 0, 1), (3, 1, 1, 0, 0, .iload_n 1, 1), (4, 1, 2, 0, 0, .iload_n 2, 1), (5, 35, 100, 290, 857, .invokevirtual 73, 3), (8, 45, 0, 0, 0, .i2l, 1), (9, 27, 0, 0, 0, .lastore, 1), (10, 20, 15, 0, 0, .goto 11, 3), (13, 50, 4, 0, 0, .astore 4, 2), (15, 0, 1, 0, 0, .iconst 1, 1), (16, 40, 0, 0, 0, .ireturn, 1), (17, 50, 4, 0, 0, .astore 4, 2), (19, 0, 2, 0, 0, .iconst 2, 1), (20, 40, 0, 0, 0, .ireturn, 1), (21, 0, 0, 0, 0, .iconst 0, 1), (22, 40, 0, 0, 0, .ireturn, 1)]
def q_m100 : List qRow := [(0, 49, 0, 0, 0, .aload_n 0, 1), (1, 1, 1, 0, 0, .iload_n 1, 1), (2, 35, 14, 289, 488, .invokevirtual 87, 3), (5, 50, 3, 0, 0, .astore_n 3, 1), (6, 1, 2, 0, 0, .iload_n 2, 1), (7, 14, 2, 11, 0, .ifCond .lt 12, 3), (10, 1, 2, 0, 0, .iload_n 2, 1), (11, 0, 3, 0, 0, .iconst 3, 1), (12, 15, 4, 11, 0, .if_icmp .gt 7, 3), (15, 0, 1, 0, 0, .iconst 1, 1), (16, 20, 12, 0, 0, .goto 4, 3), (19, 0, 0, 0, 0, .iconst 0, 1), (20, 36, 59, 1, 628, .invokestatic 147, 3), (23, 1, 2, 0, 0, .iload_n 2, 1), (24, 14, 1, 19, 0, .ifCond .ne 11, 3), (27, 49, 3, 0, 0, .aload_n 3, 1), (28, 21, 7, 0, 180, .getfield 99, 3), (31, 35, 102, 160, 861, .invokevirtual 245, 3), (34, 40, 0, 0, 0, .ireturn, 1), (35, 1, 2, 0, 0, .iload_n 2, 1), (36, 0, 3, 0, 0, .iconst 3, 1), (37, 15, 1, 29, 0, .if_icmp .ne 16, 3), (40, 49, 3, 0, 0, .aload_n 3, 1), (41, 21, 7, 1, 182, .getfield 95, 3), (44, 14, 0, 27, 0, .ifCond .eq 7, 3), (47, 99, 0, 0, 0, .nop, 1), (48, 99, 0, 0, 0, .nop, 1), (51, 0, 0, 0, 0, .iconst 0, 1), (52, 40, 0, 0, 0, .ireturn, 1), (53, 49, 0, 0, 0, .aload_n 0, 1), (54, 1, 1, 0, 0, .iload_n 1, 1), (55, 11, 0, 0, 0, .aconst_null, 1), (56, 49, 0, 0, 0, .aload_n 0, 1), (57, 21, 9, 11, 318, .getfield 67, 3), (60, 35, 103, 291, 682, .invokevirtual 248, 3), (63, 1, 2, 0, 0, .iload_n 2, 1), (64, 0, 1, 0, 0, .iconst 1, 1), (65, 15, 1, 42, 0, .if_icmp .ne 13, 3), (68, 49, 0, 0, 0, .aload_n 0, 1), (69, 21, 9, 11, 318, .getfield 67, 3), (72, 21, 8, 0, 249, .getfield 252, 3), (75, 20, 45, 0, 0, .goto 10, 3), (78, 49, 0, 0, 0, .aload_n 0, 1), (79, 21, 9, 11, 318, .getfield 67, 3), (82, 21, 8, 1, 251, .getfield 255, 3), (85, 40, 0, 0, 0, .ireturn, 1)]
def q_m101 : List qRow := [(0, 49, 0, 0, 0, .aload_n 0, 1), (1, 49, 0, 0, 0, .aload_n 0, 1), (2, 1, 1, 0, 0, .iload_n 1, 1), (3, 35, 17, 321, 1154, .invokevirtual 99, 3), (6, 14, 1, 7, 0, .ifCond .ne 7, 3), (9, 0, 1, 0, 0, .iconst 1, 1), (10, 20, 16, 0, 0, .goto 18, 3), (13, 49, 0, 0, 0, .aload_n 0, 1), (14, 1, 2, 0, 0, .iload_n 2, 1), (15, 0, 0, 0, 0, .iconst 0, 1), (16, 0, 3, 0, 0, .iconst 3, 1), (17, 35, 18, 323, 1158, .invokevirtual 95, 3), (20, 14, 0, 15, 0, .ifCond .eq 7, 3), (23, 0, 0, 0, 0, .iconst 0, 1), (24, 20, 16, 0, 0, .goto 4, 3), (27, 0, 2, 0, 0, .iconst 2, 1), (28, 35, 19, 321, 1166, .invokevirtual 169, 3), (31, 14, 0, 20, 0, .ifCond .eq 5, 3), (34, 0, 4294967295, 0, 0, .iconst (-1), 1), (35, 40, 0, 0, 0, .ireturn, 1), (36, 1, 2, 0, 0, .iload_n 2, 1), (37, 14, 1, 46, 0, .ifCond .ne 44, 3), (40, 0, 0, 0, 0, .iconst 0, 1), (41, 2, 3, 0, 0, .istore_n 3, 1), (42, 0, 0, 0, 0, .iconst 0, 1), (43, 2, 4, 0, 0, .istore 4, 2), (45, 1, 4, 0, 0, .iload 4, 2), (47, 0, 10, 0, 0, .bipush 10, 2), (49, 15, 3, 44, 0, .if_icmp .ge 30, 3), (52, 1, 3, 0, 0, .iload_n 3, 1), (53, 49, 0, 0, 0, .aload_n 0, 1), (54, 1, 1, 0, 0, .iload_n 1, 1), (55, 1, 4, 0, 0, .iload 4, 2), (57, 35, 31, 322, 1162, .invokevirtual 165, 3), (60, 14, 2, 39, 0, .ifCond .lt 10, 3), (63, 99, 0, 0, 0, .nop, 1), (64, 99, 0, 0, 0, .nop, 1), (66, 99, 0, 0, 0, .nop, 1), (67, 99, 0, 0, 0, .nop, 1), (70, 0, 0, 0, 0, .iconst 0, 1), (71, 8, 0, 0, 0, .ior, 1), (72, 2, 3, 0, 0, .istore_n 3, 1), (73, 3, 4, 1, 0, .iinc 4 1, 3), (76, 20, 26, 0, 0, .goto (-31), 3), (79, 1, 3, 0, 0, .iload_n 3, 1), (80, 40, 0, 0, 0, .ireturn, 1), (81, 49, 0, 0, 0, .aload_n 0, 1), (82, 1, 1, 0, 0, .iload_n 1, 1), (83, 0, 4294967295, 0, 0, .iconst (-1), 1), (84, 0, 0, 0, 0, .iconst 0, 1), (85, 35, 106, 323, 1266, .invokevirtual 184, 3), (88, 1, 2, 0, 0, .iload_n 2, 1), (89, 0, 3, 0, 0, .iconst 3, 1), (90, 15, 1, 59, 0, .if_icmp .ne 12, 3), (93, 49, 0, 0, 0, .aload_n 0, 1), (94, 21, 10, 11, 1044, .getfield 37, 3), (97, 1, 1, 0, 0, .iload_n 1, 1), (98, 24, 0, 0, 0, .iaload, 1), (99, 20, 67, 0, 0, .goto 17, 3), (102, 49, 0, 0, 0, .aload_n 0, 1), (103, 1, 2, 0, 0, .iload_n 2, 1), (104, 0, 2, 0, 0, .iconst 2, 1), (105, 15, 1, 65, 0, .if_icmp .ne 7, 3), (108, 0, 1, 0, 0, .iconst 1, 1), (109, 20, 66, 0, 0, .goto 4, 3), (112, 0, 0, 0, 0, .iconst 0, 1), (113, 35, 108, 321, 1270, .invokevirtual 188, 3), (116, 40, 0, 0, 0, .ireturn, 1)]
def q_m102 : List qRow := [(0, 0, 1023, 0, 0, .sipush 1023, 3), (3, 49, 0, 0, 0, .aload_n 0, 1), (4, 11, 0, 0, 0, .aconst_null, 1), (5, 35, 28, 161, 445, .invokevirtual 21, 3), (8, 0, 4294967295, 0, 0, .iconst (-1), 1), (9, 9, 0, 0, 0, .ixor, 1), (10, 7, 0, 0, 0, .iand, 1), (11, 40, 0, 0, 0, .ireturn, 1)]
def q_m103 : List qRow := [(0, 49, 0, 0, 0, .aload_n 0, 1), (1, 21, 9, 0, 307, .getfield 10, 3), (4, 35, 104, 0, 686, .invokevirtual 320, 3), (7, 2, 4, 0, 0, .istore 4, 2), (9, 0, 0, 0, 0, .iconst 0, 1), (10, 2, 5, 0, 0, .istore 5, 2), (12, 1, 5, 0, 0, .iload 5, 2), (14, 0, 6, 0, 0, .bipush 6, 2), (16, 15, 3, 27, 0, .if_icmp .ge 43, 3), (19, 1, 5, 0, 0, .iload 5, 2), (21, 1, 1, 0, 0, .iload_n 1, 1), (22, 15, 0, 25, 0, .if_icmp .eq 31, 3), (25, 49, 0, 0, 0, .aload_n 0, 1), (26, 21, 9, 1, 308, .getfield 20, 3), (29, 1, 5, 0, 0, .iload 5, 2), (31, 28, 0, 0, 0, .aaload, 1), (32, 21, 7, 0, 180, .getfield 99, 3), (35, 16, 25, 0, 0, .ifnull 18, 3), (38, 99, 0, 0, 0, .nop, 1), (39, 99, 0, 0, 0, .nop, 1), (42, 99, 0, 0, 0, .nop, 1), (44, 99, 0, 0, 0, .nop, 1), (45, 99, 0, 0, 0, .nop, 1), (48, 99, 0, 0, 0, .nop, 1), (50, 99, 0, 0, 0, .nop, 1), (53, 3, 5, 1, 0, .iinc 5 1, 3), (56, 20, 6, 0, 0, .goto (-44), 3), (59, 49, 3, 0, 0, .aload_n 3, 1), (60, 35, 105, 256, 698, .invokevirtual 376, 3), (63, 49, 0, 0, 0, .aload_n 0, 1), (64, 1, 1, 0, 0, .iload_n 1, 1), (65, 35, 14, 289, 488, .invokevirtual 87, 3), (68, 21, 7, 0, 180, .getfield 99, 3), (71, 50, 5, 0, 0, .astore 5, 2), (73, 0, 0, 0, 0, .iconst 0, 1), (74, 2, 6, 0, 0, .istore 6, 2), (76, 1, 6, 0, 0, .iload 6, 2), (78, 0, 10, 0, 0, .bipush 10, 2), (80, 15, 3, 58, 0, .if_icmp .ge 47, 3), (83, 49, 5, 0, 0, .aload 5, 2), (85, 1, 6, 0, 0, .iload 6, 2), (87, 35, 22, 161, 558, .invokevirtual 103, 3), (90, 50, 7, 0, 0, .astore 7, 2), (92, 49, 7, 0, 0, .aload 7, 2), (94, 16, 56, 0, 0, .ifnull 27, 3), (97, 99, 0, 0, 0, .nop, 1), (98, 99, 0, 0, 0, .nop, 1), (100, 99, 0, 0, 0, .nop, 1), (101, 99, 0, 0, 0, .nop, 1), (104, 99, 0, 0, 0, .nop, 1), (105, 99, 0, 0, 0, .nop, 1), (108, 99, 0, 0, 0, .nop, 1), (111, 99, 0, 0, 0, .nop, 1), (113, 99, 0, 0, 0, .nop, 1), (116, 99, 0, 0, 0, .nop, 1), (118, 99, 0, 0, 0, .nop, 1), (121, 3, 6, 1, 0, .iinc 6 1, 3), (124, 20, 36, 0, 0, .goto (-48), 3), (127, 42, 0, 0, 0, .return_, 1)]
def q_m104 : List qRow := [(0, 49, 0, 0, 0, .aload_n 0, 1), (1, 12, 0, 0, 0, .dup, 1), (2, 21, 0, 5, 155, .getfield 31, 3), (5, 0, 1, 0, 0, .iconst 1, 1), (6, 4, 0, 0, 0, .iadd, 1), (7, 22, 0, 5, 620, .putfield 31, 3), (10, 49, 0, 0, 0, .aload_n 0, 1), (11, 21, 0, 5, 155, .getfield 31, 3), (14, 40, 0, 0, 0, .ireturn, 1)]
def q_m105 : List qRow := [(0, 49, 0, 0, 0, .aload_n 0, 1), (1, 0, 0, 0, 0, .iconst 0, 1), (2, 22, 8, 0, 992, .putfield 9, 3), (5, 49, 0, 0, 0, .aload_n 0, 1), (6, 0, 0, 0, 0, .iconst 0, 1), (7, 22, 8, 1, 1000, .putfield 15, 3), (10, 42, 0, 0, 0, .return_, 1)]
def q_m106 : List qRow := [(0, 0, 0, 0, 0, .iconst 0, 1), (1, 2, 4, 0, 0, .istore 4, 2), (3, 1, 4, 0, 0, .iload 4, 2), (5, 0, 200, 0, 0, .sipush 200, 3), (8, 15, 3, 17, 0, .if_icmp .ge 25, 3), (11, 49, 0, 0, 0, .aload_n 0, 1), (12, 21, 10, 28, 1061, .getfield 70, 3), (15, 1, 4, 0, 0, .iload 4, 2), (17, 0, 0, 0, 0, .iconst 0, 1), (18, 25, 0, 0, 0, .iastore, 1), (19, 49, 0, 0, 0, .aload_n 0, 1), (20, 21, 10, 32, 1065, .getfield 79, 3), (23, 1, 4, 0, 0, .iload 4, 2), (25, 0, 0, 0, 0, .iconst 0, 1), (26, 25, 0, 0, 0, .iastore, 1), (27, 3, 4, 1, 0, .iinc 4 1, 3), (30, 20, 2, 0, 0, .goto (-27), 3), (33, 0, 0, 0, 0, .iconst 0, 1), (34, 2, 4, 0, 0, .istore 4, 2), (36, 1, 4, 0, 0, .iload 4, 2), (38, 0, 10, 0, 0, .bipush 10, 2), (40, 15, 3, 50, 0, .if_icmp .ge 55, 3), (43, 49, 0, 0, 0, .aload_n 0, 1), (44, 21, 10, 9, 1042, .getfield 31, 3), (47, 0, 10, 0, 0, .bipush 10, 2), (49, 49, 0, 0, 0, .aload_n 0, 1), (50, 21, 10, 10, 1043, .getfield 34, 3), (53, 1, 1, 0, 0, .iload_n 1, 1), (54, 24, 0, 0, 0, .iaload, 1), (55, 6, 0, 0, 0, .imul, 1), (56, 1, 4, 0, 0, .iload 4, 2), (58, 4, 0, 0, 0, .iadd, 1), (59, 24, 0, 0, 0, .iaload, 1), (60, 0, 1, 0, 0, .iconst 1, 1), (61, 5, 0, 0, 0, .isub, 1), (62, 2, 5, 0, 0, .istore 5, 2), (64, 1, 5, 0, 0, .iload 5, 2), (66, 14, 2, 48, 0, .ifCond .lt 23, 3), (69, 99, 0, 0, 0, .nop, 1), (71, 99, 0, 0, 0, .nop, 1), (72, 99, 0, 0, 0, .nop, 1), (75, 99, 0, 0, 0, .nop, 1), (76, 99, 0, 0, 0, .nop, 1), (79, 99, 0, 0, 0, .nop, 1), (80, 99, 0, 0, 0, .nop, 1), (82, 99, 0, 0, 0, .nop, 1), (83, 99, 0, 0, 0, .nop, 1), (86, 99, 0, 0, 0, .nop, 1), (89, 3, 4, 1, 0, .iinc 4 1, 3), (92, 20, 19, 0, 0, .goto (-56), 3), (95, 0, 0, 0, 0, .iconst 0, 1), (96, 2, 4, 0, 0, .istore 4, 2), (98, 1, 4, 0, 0, .iload 4, 2), (100, 0, 16, 0, 0, .bipush 16, 2), (102, 15, 3, 76, 0, .if_icmp .ge 40, 3), (105, 1, 3, 0, 0, .iload_n 3, 1), (106, 14, 0, 76, 0, .ifCond .eq 36, 3), (109, 99, 0, 0, 0, .nop, 1), (110, 99, 0, 0, 0, .nop, 1), (113, 99, 0, 0, 0, .nop, 1), (115, 99, 0, 0, 0, .nop, 1), (116, 99, 0, 0, 0, .nop, 1), (119, 99, 0, 0, 0, .nop, 1), (120, 99, 0, 0, 0, .nop, 1), (123, 99, 0, 0, 0, .nop, 1), (124, 99, 0, 0, 0, .nop, 1), (127, 99, 0, 0, 0, .nop, 1), (129, 99, 0, 0, 0, .nop, 1), (130, 99, 0, 0, 0, .nop, 1), (131, 99, 0, 0, 0, .nop, 1), (132, 99, 0, 0, 0, .nop, 1), (133, 99, 0, 0, 0, .nop, 1), (134, 99, 0, 0, 0, .nop, 1), (135, 99, 0, 0, 0, .nop, 1), (136, 99, 0, 0, 0, .nop, 1), (139, 99, 0, 0, 0, .nop, 1), (142, 0, 0, 0, 0, .iconst 0, 1), (143, 2, 4, 0, 0, .istore 4, 2), (145, 1, 4, 0, 0, .iload 4, 2), (147, 0, 6, 0, 0, .bipush 6, 2), (149, 15, 3, 91, 0, .if_icmp .ge 25, 3), (152, 1, 4, 0, 0, .iload 4, 2), (154, 1, 1, 0, 0, .iload_n 1, 1), (155, 15, 0, 89, 0, .if_icmp .eq 13, 3), (158, 49, 0, 0, 0, .aload_n 0, 1), (159, 1, 4, 0, 0, .iload 4, 2), (161, 49, 0, 0, 0, .aload_n 0, 1), (162, 21, 10, 32, 1065, .getfield 79, 3), (165, 35, 107, 322, 1222, .invokevirtual 107, 3), (168, 3, 4, 1, 0, .iinc 4 1, 3), (171, 20, 78, 0, 0, .goto (-26), 3), (174, 42, 0, 0, 0, .return_, 1)]
def q_m107 : List qRow := [(0, 0, 0, 0, 0, .iconst 0, 1), (1, 2, 3, 0, 0, .istore_n 3, 1), (2, 1, 3, 0, 0, .iload_n 3, 1), (3, 0, 10, 0, 0, .bipush 10, 2), (5, 15, 3, 40, 0, .if_icmp .ge 60, 3), (8, 49, 0, 0, 0, .aload_n 0, 1), (9, 21, 10, 10, 1043, .getfield 34, 3), (12, 1, 1, 0, 0, .iload_n 1, 1), (13, 24, 0, 0, 0, .iaload, 1), (14, 14, 2, 40, 0, .ifCond .lt 51, 3), (17, 49, 0, 0, 0, .aload_n 0, 1), (18, 21, 10, 9, 1042, .getfield 31, 3), (21, 0, 10, 0, 0, .bipush 10, 2), (23, 49, 0, 0, 0, .aload_n 0, 1), (24, 21, 10, 10, 1043, .getfield 34, 3), (27, 1, 1, 0, 0, .iload_n 1, 1), (28, 24, 0, 0, 0, .iaload, 1), (29, 6, 0, 0, 0, .imul, 1), (30, 1, 3, 0, 0, .iload_n 3, 1), (31, 4, 0, 0, 0, .iadd, 1), (32, 24, 0, 0, 0, .iaload, 1), (33, 14, 5, 38, 0, .ifCond .le 26, 3), (36, 99, 0, 0, 0, .nop, 1), (37, 99, 0, 0, 0, .nop, 1), (38, 99, 0, 0, 0, .nop, 1), (41, 99, 0, 0, 0, .nop, 1), (43, 99, 0, 0, 0, .nop, 1), (44, 99, 0, 0, 0, .nop, 1), (47, 99, 0, 0, 0, .nop, 1), (48, 99, 0, 0, 0, .nop, 1), (49, 99, 0, 0, 0, .nop, 1), (50, 99, 0, 0, 0, .nop, 1), (51, 99, 0, 0, 0, .nop, 1), (52, 99, 0, 0, 0, .nop, 1), (53, 99, 0, 0, 0, .nop, 1), (54, 99, 0, 0, 0, .nop, 1), (55, 99, 0, 0, 0, .nop, 1), (56, 99, 0, 0, 0, .nop, 1), (59, 3, 3, 1, 0, .iinc 3 1, 3), (62, 20, 2, 0, 0, .goto (-60), 3), (65, 42, 0, 0, 0, .return_, 1)]
def q_m108 : List qRow := [(0, 0, 0, 0, 0, .iconst 0, 1), (1, 2, 2, 0, 0, .istore_n 2, 1), (2, 0, 0, 0, 0, .iconst 0, 1), (3, 2, 3, 0, 0, .istore_n 3, 1), (4, 1, 3, 0, 0, .iload_n 3, 1), (5, 0, 200, 0, 0, .sipush 200, 3), (8, 15, 3, 40, 0, .if_icmp .ge 60, 3), (11, 1, 2, 0, 0, .iload_n 2, 1), (12, 49, 0, 0, 0, .aload_n 0, 1), (13, 21, 10, 28, 1061, .getfield 70, 3), (16, 1, 3, 0, 0, .iload_n 3, 1), (17, 24, 0, 0, 0, .iaload, 1), (18, 0, 1, 0, 0, .iconst 1, 1), (19, 15, 1, 35, 0, .if_icmp .ne 40, 3), (22, 99, 0, 0, 0, .nop, 1), (23, 99, 0, 0, 0, .nop, 1), (26, 99, 0, 0, 0, .nop, 1), (27, 99, 0, 0, 0, .nop, 1), (30, 99, 0, 0, 0, .nop, 1), (31, 99, 0, 0, 0, .nop, 1), (32, 99, 0, 0, 0, .nop, 1), (35, 99, 0, 0, 0, .nop, 1), (36, 99, 0, 0, 0, .nop, 1), (37, 99, 0, 0, 0, .nop, 1), (40, 99, 0, 0, 0, .nop, 1), (41, 99, 0, 0, 0, .nop, 1), (44, 99, 0, 0, 0, .nop, 1), (45, 99, 0, 0, 0, .nop, 1), (46, 99, 0, 0, 0, .nop, 1), (47, 99, 0, 0, 0, .nop, 1), (50, 99, 0, 0, 0, .nop, 1), (51, 99, 0, 0, 0, .nop, 1), (54, 99, 0, 0, 0, .nop, 1), (55, 99, 0, 0, 0, .nop, 1), (56, 99, 0, 0, 0, .nop, 1), (59, 0, 0, 0, 0, .iconst 0, 1), (60, 4, 0, 0, 0, .iadd, 1), (61, 2, 2, 0, 0, .istore_n 2, 1), (62, 3, 3, 1, 0, .iinc 3 1, 3), (65, 20, 4, 0, 0, .goto (-61), 3), (68, 1, 2, 0, 0, .iload_n 2, 1), (69, 40, 0, 0, 0, .ireturn, 1)]
def q_m109 : List qRow := [(0, 49, 3, 0, 0, .aload_n 3, 1), (1, 0, 0, 0, 0, .iconst 0, 1), (2, 49, 0, 0, 0, .aload_n 0, 1), (3, 1, 1, 0, 0, .iload_n 1, 1), (4, 1, 2, 0, 0, .iload_n 2, 1), (5, 35, 110, 290, 868, .invokevirtual 76, 3), (8, 14, 0, 9, 0, .ifCond .eq 7, 3), (11, 47, 1, 0, 0, .lconst 1, 1), (12, 20, 10, 0, 0, .goto 4, 3), (15, 99, 0, 0, 0, .nop, 1), (16, 27, 0, 0, 0, .lastore, 1), (17, 20, 15, 0, 0, .goto 7, 3), (20, 50, 4, 0, 0, .astore 4, 2), (22, 0, 1, 0, 0, .iconst 1, 1), (23, 40, 0, 0, 0, .ireturn, 1), (24, 0, 0, 0, 0, .iconst 0, 1), (25, 40, 0, 0, 0, .ireturn, 1)]
def q_m110 : List qRow := [(0, 49, 0, 0, 0, .aload_n 0, 1), (1, 1, 1, 0, 0, .iload_n 1, 1), (2, 35, 14, 289, 488, .invokevirtual 87, 3), (5, 21, 7, 0, 180, .getfield 99, 3), (8, 50, 3, 0, 0, .astore_n 3, 1), (9, 49, 0, 0, 0, .aload_n 0, 1), (10, 1, 2, 0, 0, .iload_n 2, 1), (11, 35, 14, 289, 488, .invokevirtual 87, 3), (14, 21, 7, 0, 180, .getfield 99, 3), (17, 50, 4, 0, 0, .astore 4, 2), (19, 49, 3, 0, 0, .aload_n 3, 1), (20, 35, 102, 160, 861, .invokevirtual 245, 3), (23, 49, 4, 0, 0, .aload 4, 2), (25, 35, 102, 160, 861, .invokevirtual 245, 3), (28, 15, 0, 17, 0, .if_icmp .eq 5, 3), (31, 99, 0, 0, 0, .nop, 1), (32, 99, 0, 0, 0, .nop, 1), (33, 0, 0, 0, 0, .iconst 0, 1), (34, 2, 5, 0, 0, .istore 5, 2), (36, 1, 5, 0, 0, .iload 5, 2), (38, 0, 10, 0, 0, .bipush 10, 2), (40, 15, 3, 44, 0, .if_icmp .ge 54, 3), (43, 49, 3, 0, 0, .aload_n 3, 1), (44, 1, 5, 0, 0, .iload 5, 2), (46, 35, 22, 161, 558, .invokevirtual 103, 3), (49, 50, 6, 0, 0, .astore 6, 2), (51, 49, 4, 0, 0, .aload 4, 2), (53, 1, 5, 0, 0, .iload 5, 2), (55, 35, 22, 161, 558, .invokevirtual 103, 3), (58, 50, 7, 0, 0, .astore 7, 2), (60, 49, 6, 0, 0, .aload 6, 2), (62, 16, 42, 0, 0, .ifnull 26, 3), (65, 99, 0, 0, 0, .nop, 1), (67, 99, 0, 0, 0, .nop, 1), (70, 99, 0, 0, 0, .nop, 1), (72, 99, 0, 0, 0, .nop, 1), (75, 99, 0, 0, 0, .nop, 1), (77, 99, 0, 0, 0, .nop, 1), (80, 99, 0, 0, 0, .nop, 1), (83, 99, 0, 0, 0, .nop, 1), (86, 99, 0, 0, 0, .nop, 1), (87, 99, 0, 0, 0, .nop, 1), (88, 3, 5, 1, 0, .iinc 5 1, 3), (91, 20, 19, 0, 0, .goto (-55), 3), (94, 0, 1, 0, 0, .iconst 1, 1), (95, 40, 1, 0, 0, .ireturn, 1)]
def q_m111 : List qRow := [(0, 49, 0, 0, 0, .aload_n 0, 1), (1, 49, 0, 0, 0, .aload_n 0, 1), (2, 1, 1, 0, 0, .iload_n 1, 1), (3, 35, 17, 321, 1154, .invokevirtual 99, 3), (6, 14, 0, 11, 0, .ifCond .eq 15, 3), (9, 49, 0, 0, 0, .aload_n 0, 1), (10, 1, 2, 0, 0, .iload_n 2, 1), (11, 35, 17, 321, 1154, .invokevirtual 99, 3), (14, 14, 0, 11, 0, .ifCond .eq 7, 3), (17, 0, 0, 0, 0, .iconst 0, 1), (18, 20, 12, 0, 0, .goto 4, 3), (21, 0, 1, 0, 0, .iconst 1, 1), (22, 35, 19, 321, 1166, .invokevirtual 169, 3), (25, 14, 0, 16, 0, .ifCond .eq 5, 3), (28, 0, 0, 0, 0, .iconst 0, 1), (29, 40, 1, 0, 0, .ireturn, 1), (30, 0, 1, 0, 0, .iconst 1, 1), (31, 2, 3, 0, 0, .istore_n 3, 1), (32, 0, 0, 0, 0, .iconst 0, 1), (33, 2, 4, 0, 0, .istore 4, 2), (35, 1, 4, 0, 0, .iload 4, 2), (37, 0, 10, 0, 0, .bipush 10, 2), (39, 15, 3, 94, 0, .if_icmp .ge 138, 3), (42, 49, 0, 0, 0, .aload_n 0, 1), (43, 1, 1, 0, 0, .iload_n 1, 1), (44, 1, 4, 0, 0, .iload 4, 2), (46, 35, 31, 322, 1162, .invokevirtual 165, 3), (49, 2, 5, 0, 0, .istore 5, 2), (51, 49, 0, 0, 0, .aload_n 0, 1), (52, 1, 2, 0, 0, .iload_n 2, 1), (53, 1, 4, 0, 0, .iload 4, 2), (55, 35, 31, 322, 1162, .invokevirtual 165, 3), (58, 2, 6, 0, 0, .istore 6, 2), (60, 1, 3, 0, 0, .iload_n 3, 1), (61, 1, 5, 0, 0, .iload 5, 2), (63, 14, 3, 38, 0, .ifCond .ge 7, 3), (66, 0, 1, 0, 0, .iconst 1, 1), (67, 20, 39, 0, 0, .goto 4, 3), (70, 99, 0, 0, 0, .nop, 1), (71, 1, 6, 0, 0, .iload 6, 2), (73, 14, 3, 43, 0, .ifCond .ge 7, 3), (76, 0, 1, 0, 0, .iconst 1, 1), (77, 20, 44, 0, 0, .goto 4, 3), (80, 99, 0, 0, 0, .nop, 1), (81, 15, 1, 47, 0, .if_icmp .ne 7, 3), (84, 0, 1, 0, 0, .iconst 1, 1), (85, 20, 48, 0, 0, .goto 4, 3), (88, 99, 0, 0, 0, .nop, 1), (89, 7, 0, 0, 0, .iand, 1), (90, 2, 3, 0, 0, .istore_n 3, 1), (91, 0, 0, 0, 0, .iconst 0, 1), (92, 2, 7, 0, 0, .istore 7, 2), (94, 1, 7, 0, 0, .iload 7, 2), (96, 0, 16, 0, 0, .bipush 16, 2), (98, 15, 3, 92, 0, .if_icmp .ge 73, 3), (101, 1, 5, 0, 0, .iload 5, 2), (103, 14, 2, 92, 0, .ifCond .lt 68, 3), (106, 99, 0, 0, 0, .nop, 1), (108, 99, 0, 0, 0, .nop, 1), (111, 99, 0, 0, 0, .nop, 1), (112, 99, 0, 0, 0, .nop, 1), (113, 99, 0, 0, 0, .nop, 1), (116, 99, 0, 0, 0, .nop, 1), (118, 99, 0, 0, 0, .nop, 1), (120, 99, 0, 0, 0, .nop, 1), (121, 99, 0, 0, 0, .nop, 1), (123, 99, 0, 0, 0, .nop, 1), (124, 99, 0, 0, 0, .nop, 1), (125, 99, 0, 0, 0, .nop, 1), (128, 99, 0, 0, 0, .nop, 1), (130, 99, 0, 0, 0, .nop, 1), (131, 99, 0, 0, 0, .nop, 1), (133, 99, 0, 0, 0, .nop, 1), (136, 99, 0, 0, 0, .nop, 1), (138, 99, 0, 0, 0, .nop, 1), (139, 99, 0, 0, 0, .nop, 1), (140, 99, 0, 0, 0, .nop, 1), (143, 99, 0, 0, 0, .nop, 1), (145, 99, 0, 0, 0, .nop, 1), (147, 99, 0, 0, 0, .nop, 1), (148, 99, 0, 0, 0, .nop, 1), (150, 99, 0, 0, 0, .nop, 1), (151, 99, 0, 0, 0, .nop, 1), (152, 99, 0, 0, 0, .nop, 1), (155, 99, 0, 0, 0, .nop, 1), (158, 99, 0, 0, 0, .nop, 1), (159, 99, 0, 0, 0, .nop, 1), (162, 99, 0, 0, 0, .nop, 1), (163, 99, 0, 0, 0, .nop, 1), (164, 99, 0, 0, 0, .nop, 1), (165, 99, 0, 0, 0, .nop, 1), (168, 99, 0, 0, 0, .nop, 1), (171, 3, 4, 1, 0, .iinc 4 1, 3), (174, 20, 20, 0, 0, .goto (-139), 3), (177, 1, 3, 0, 0, .iload_n 3, 1), (178, 40, 1, 0, 0, .ireturn, 1)]
def q_m112 : List qRow := [(0, 49, 0, 0, 0, .aload_n 0, 1), (1, 35, 113, 288, 351, .invokevirtual 262, 3), (4, 49, 0, 0, 0, .aload_n 0, 1), (5, 35, 116, 288, 364, .invokevirtual 236, 3), (8, 40, 0, 0, 0, .ireturn, 1)]
def q_m113 : List qRow := [(0, 0, 0, 0, 0, .iconst 0, 1), (1, 2, 1, 0, 0, .istore_n 1, 1), (2, 1, 1, 0, 0, .iload_n 1, 1), (3, 0, 6, 0, 0, .bipush 6, 2), (5, 15, 3, 16, 0, .if_icmp .ge 24, 3), (8, 49, 0, 0, 0, .aload_n 0, 1), (9, 21, 9, 2, 309, .getfield 24, 3), (12, 1, 1, 0, 0, .iload_n 1, 1), (13, 28, 0, 0, 0, .aaload, 1), (14, 49, 0, 0, 0, .aload_n 0, 1), (15, 21, 9, 1, 308, .getfield 20, 3), (18, 1, 1, 0, 0, .iload_n 1, 1), (19, 28, 0, 0, 0, .aaload, 1), (20, 35, 10, 225, 302, .invokevirtual 83, 3), (23, 3, 1, 1, 0, .iinc 1 1, 3), (26, 20, 2, 0, 0, .goto (-24), 3), (29, 0, 0, 0, 0, .iconst 0, 1), (30, 2, 1, 0, 0, .istore_n 1, 1), (31, 1, 1, 0, 0, .iload_n 1, 1), (32, 49, 0, 0, 0, .aload_n 0, 1), (33, 21, 9, 4, 311, .getfield 33, 3), (36, 15, 3, 41, 0, .if_icmp .ge 38, 3), (39, 99, 0, 0, 0, .nop, 1), (40, 99, 0, 0, 0, .nop, 1), (43, 99, 0, 0, 0, .nop, 1), (44, 99, 0, 0, 0, .nop, 1), (45, 99, 0, 0, 0, .nop, 1), (48, 99, 0, 0, 0, .nop, 1), (49, 99, 0, 0, 0, .nop, 1), (52, 99, 0, 0, 0, .nop, 1), (53, 99, 0, 0, 0, .nop, 1), (54, 99, 0, 0, 0, .nop, 1), (57, 99, 0, 0, 0, .nop, 1), (58, 99, 0, 0, 0, .nop, 1), (61, 99, 0, 0, 0, .nop, 1), (62, 99, 0, 0, 0, .nop, 1), (65, 99, 0, 0, 0, .nop, 1), (66, 99, 0, 0, 0, .nop, 1), (67, 99, 0, 0, 0, .nop, 1), (68, 99, 0, 0, 0, .nop, 1), (71, 99, 0, 0, 0, .nop, 1), (74, 49, 0, 0, 0, .aload_n 0, 1), (75, 0, 0, 0, 0, .iconst 0, 1), (76, 22, 9, 4, 1244, .putfield 33, 3), (79, 49, 0, 0, 0, .aload_n 0, 1), (80, 21, 9, 0, 307, .getfield 10, 3), (83, 35, 115, 0, 356, .invokevirtual 140, 3), (86, 42, 0, 0, 0, .return_, 1)]
def q_m114 : List qRow := [(0, 49, 0, 0, 0, .aload_n 0, 1), (1, 12, 0, 0, 0, .dup, 1), (2, 21, 5, 1, 266, .getfield 17, 3), (5, 0, 1, 0, 0, .iconst 1, 1), (6, 5, 0, 0, 0, .isub, 1), (7, 22, 5, 1, 1064, .putfield 17, 3), (10, 0, 0, 0, 0, .iconst 0, 1), (11, 2, 1, 0, 0, .istore_n 1, 1), (12, 1, 1, 0, 0, .iload_n 1, 1), (13, 0, 10, 0, 0, .bipush 10, 2), (15, 15, 3, 30, 0, .if_icmp .ge 42, 3), (18, 49, 0, 0, 0, .aload_n 0, 1), (19, 21, 5, 1, 266, .getfield 17, 3), (22, 14, 1, 28, 0, .ifCond .ne 29, 3), (25, 99, 0, 0, 0, .nop, 1), (26, 99, 0, 0, 0, .nop, 1), (29, 99, 0, 0, 0, .nop, 1), (30, 99, 0, 0, 0, .nop, 1), (31, 99, 0, 0, 0, .nop, 1), (34, 99, 0, 0, 0, .nop, 1), (35, 99, 0, 0, 0, .nop, 1), (36, 99, 0, 0, 0, .nop, 1), (39, 99, 0, 0, 0, .nop, 1), (42, 99, 0, 0, 0, .nop, 1), (43, 99, 0, 0, 0, .nop, 1), (46, 99, 0, 0, 0, .nop, 1), (47, 99, 0, 0, 0, .nop, 1), (48, 99, 0, 0, 0, .nop, 1), (51, 3, 1, 1, 0, .iinc 1 1, 3), (54, 20, 8, 0, 0, .goto (-42), 3), (57, 42, 0, 0, 0, .return_, 1)]
def q_m115 : List qRow := [(0, 0, 0, 0, 0, .iconst 0, 1), (1, 2, 1, 0, 0, .istore_n 1, 1), (2, 0, 0, 0, 0, .iconst 0, 1), (3, 2, 2, 0, 0, .istore_n 2, 1), (4, 1, 2, 0, 0, .iload_n 2, 1), (5, 49, 0, 0, 0, .aload_n 0, 1), (6, 21, 0, 2, 150, .getfield 21, 3), (9, 15, 3, 39, 0, .if_icmp .ge 60, 3), (12, 99, 0, 0, 0, .nop, 1), (13, 99, 0, 0, 0, .nop, 1), (16, 99, 0, 0, 0, .nop, 1), (17, 99, 0, 0, 0, .nop, 1), (18, 99, 0, 0, 0, .nop, 1), (19, 99, 0, 0, 0, .nop, 1), (20, 99, 0, 0, 0, .nop, 1), (23, 99, 0, 0, 0, .nop, 1), (26, 99, 0, 0, 0, .nop, 1), (27, 99, 0, 0, 0, .nop, 1), (30, 99, 0, 0, 0, .nop, 1), (31, 99, 0, 0, 0, .nop, 1), (32, 99, 0, 0, 0, .nop, 1), (35, 99, 0, 0, 0, .nop, 1), (36, 99, 0, 0, 0, .nop, 1), (37, 99, 0, 0, 0, .nop, 1), (38, 99, 0, 0, 0, .nop, 1), (39, 99, 0, 0, 0, .nop, 1), (42, 99, 0, 0, 0, .nop, 1), (43, 99, 0, 0, 0, .nop, 1), (44, 99, 0, 0, 0, .nop, 1), (45, 99, 0, 0, 0, .nop, 1), (48, 99, 0, 0, 0, .nop, 1), (51, 99, 0, 0, 0, .nop, 1), (52, 99, 0, 0, 0, .nop, 1), (53, 99, 0, 0, 0, .nop, 1), (56, 99, 0, 0, 0, .nop, 1), (57, 99, 0, 0, 0, .nop, 1), (60, 99, 0, 0, 0, .nop, 1), (63, 99, 0, 0, 0, .nop, 1), (66, 99, 0, 0, 0, .nop, 1), (69, 49, 0, 0, 0, .aload_n 0, 1), (70, 1, 1, 0, 0, .iload_n 1, 1), (71, 22, 0, 2, 600, .putfield 21, 3), (74, 42, 0, 0, 0, .return_, 1)]
def q_m116 : List qRow := [(0, 0, 0, 0, 0, .iconst 0, 1), (1, 2, 1, 0, 0, .istore_n 1, 1), (2, 0, 0, 0, 0, .iconst 0, 1), (3, 2, 2, 0, 0, .istore_n 2, 1), (4, 1, 2, 0, 0, .iload_n 2, 1), (5, 0, 6, 0, 0, .bipush 6, 2), (7, 15, 3, 16, 0, .if_icmp .ge 24, 3), (10, 49, 0, 0, 0, .aload_n 0, 1), (11, 21, 9, 1, 308, .getfield 20, 3), (14, 1, 2, 0, 0, .iload_n 2, 1), (15, 28, 0, 0, 0, .aaload, 1), (16, 21, 7, 0, 180, .getfield 99, 3), (19, 16, 14, 0, 0, .ifnull 6, 3), (22, 3, 1, 1, 0, .iinc 1 1, 3), (25, 3, 2, 1, 0, .iinc 2 1, 3), (28, 20, 4, 0, 0, .goto (-24), 3), (31, 1, 1, 0, 0, .iload_n 1, 1), (32, 40, 0, 0, 0, .ireturn, 1)]
def q_m117 : List qRow := [(0, 49, 0, 0, 0, .aload_n 0, 1), (1, 0, 0, 0, 0, .iconst 0, 1), (2, 35, 19, 321, 1166, .invokevirtual 169, 3), (5, 13, 0, 0, 0, .pop, 1), (6, 49, 0, 0, 0, .aload_n 0, 1), (7, 35, 118, 320, 1382, .invokevirtual 249, 3), (10, 49, 0, 0, 0, .aload_n 0, 1), (11, 35, 90, 320, 1350, .invokevirtual 239, 3), (14, 40, 0, 0, 0, .ireturn, 1)]
def q_m118 : List qRow := [(0, 0, 0, 0, 0, .iconst 0, 1), (1, 2, 1, 0, 0, .istore_n 1, 1), (2, 1, 1, 0, 0, .iload_n 1, 1), (3, 0, 6, 0, 0, .bipush 6, 2), (5, 15, 3, 38, 0, .if_icmp .ge 58, 3), (8, 49, 0, 0, 0, .aload_n 0, 1), (9, 21, 10, 10, 1043, .getfield 34, 3), (12, 1, 1, 0, 0, .iload_n 1, 1), (13, 24, 0, 0, 0, .iaload, 1), (14, 14, 3, 18, 0, .ifCond .ge 16, 3), (17, 49, 0, 0, 0, .aload_n 0, 1), (18, 21, 10, 10, 1043, .getfield 34, 3), (21, 0, 6, 0, 0, .bipush 6, 2), (23, 1, 1, 0, 0, .iload_n 1, 1), (24, 4, 0, 0, 0, .iadd, 1), (25, 0, 4294967295, 0, 0, .iconst (-1), 1), (26, 25, 0, 0, 0, .iastore, 1), (27, 20, 36, 0, 0, .goto 30, 3), (30, 49, 0, 0, 0, .aload_n 0, 1), (31, 0, 6, 0, 0, .bipush 6, 2), (33, 1, 1, 0, 0, .iload_n 1, 1), (34, 4, 0, 0, 0, .iadd, 1), (35, 1, 1, 0, 0, .iload_n 1, 1), (36, 49, 0, 0, 0, .aload_n 0, 1), (37, 21, 10, 11, 1044, .getfield 37, 3), (40, 1, 1, 0, 0, .iload_n 1, 1), (41, 24, 0, 0, 0, .iaload, 1), (42, 49, 0, 0, 0, .aload_n 0, 1), (43, 21, 10, 12, 1045, .getfield 40, 3), (46, 1, 1, 0, 0, .iload_n 1, 1), (47, 24, 0, 0, 0, .iaload, 1), (48, 49, 0, 0, 0, .aload_n 0, 1), (49, 21, 10, 13, 1046, .getfield 43, 3), (52, 1, 1, 0, 0, .iload_n 1, 1), (53, 24, 0, 0, 0, .iaload, 1), (54, 35, 92, 325, 1358, .invokevirtual 245, 3), (57, 3, 1, 1, 0, .iinc 1 1, 3), (60, 20, 2, 0, 0, .goto (-58), 3), (63, 49, 0, 0, 0, .aload_n 0, 1), (64, 0, 0, 0, 0, .iconst 0, 1), (65, 22, 10, 18, 4204, .putfield 110, 3), (68, 49, 0, 0, 0, .aload_n 0, 1), (69, 35, 119, 320, 1206, .invokevirtual 181, 3), (72, 42, 0, 0, 0, .return_, 1)]
def q_m119 : List qRow := [(0, 49, 0, 0, 0, .aload_n 0, 1), (1, 35, 120, 320, 1210, .invokevirtual 156, 3), (4, 49, 0, 0, 0, .aload_n 0, 1), (5, 35, 121, 320, 1218, .invokevirtual 159, 3), (8, 42, 0, 0, 0, .return_, 1)]
def q_m120 : List qRow := [(0, 0, 0, 0, 0, .iconst 0, 1), (1, 2, 1, 0, 0, .istore_n 1, 1), (2, 1, 1, 0, 0, .iload_n 1, 1), (3, 0, 200, 0, 0, .sipush 200, 3), (6, 15, 3, 40, 0, .if_icmp .ge 65, 3), (9, 0, 0, 0, 0, .iconst 0, 1), (10, 2, 2, 0, 0, .istore_n 2, 1), (11, 0, 0, 0, 0, .iconst 0, 1), (12, 2, 3, 0, 0, .istore_n 3, 1), (13, 1, 3, 0, 0, .iload_n 3, 1), (14, 0, 12, 0, 0, .bipush 12, 2), (16, 15, 3, 26, 0, .if_icmp .ge 29, 3), (19, 49, 0, 0, 0, .aload_n 0, 1), (20, 21, 10, 6, 1039, .getfield 25, 3), (23, 1, 1, 0, 0, .iload_n 1, 1), (24, 24, 0, 0, 0, .iaload, 1), (25, 14, 2, 26, 0, .ifCond .lt 20, 3), (28, 99, 0, 0, 0, .nop, 1), (29, 99, 0, 0, 0, .nop, 1), (32, 99, 0, 0, 0, .nop, 1), (33, 99, 0, 0, 0, .nop, 1), (34, 99, 0, 0, 0, .nop, 1), (35, 99, 0, 0, 0, .nop, 1), (38, 99, 0, 0, 0, .nop, 1), (39, 99, 0, 0, 0, .nop, 1), (42, 99, 0, 0, 0, .nop, 1), (45, 49, 0, 0, 0, .aload_n 0, 1), (46, 21, 10, 6, 1039, .getfield 25, 3), (49, 1, 1, 0, 0, .iload_n 1, 1), (50, 1, 2, 0, 0, .iload_n 2, 1), (51, 14, 0, 36, 0, .ifCond .eq 12, 3), (54, 99, 0, 0, 0, .nop, 1), (55, 99, 0, 0, 0, .nop, 1), (58, 99, 0, 0, 0, .nop, 1), (59, 99, 0, 0, 0, .nop, 1), (60, 99, 0, 0, 0, .nop, 1), (63, 0, 4294967295, 0, 0, .iconst (-1), 1), (64, 25, 0, 0, 0, .iastore, 1), (65, 3, 1, 1, 0, .iinc 1 1, 3), (68, 20, 2, 0, 0, .goto (-66), 3), (71, 42, 0, 0, 0, .return_, 1)]
def q_m121 : List qRow := [(0, 0, 0, 0, 0, .iconst 0, 1), (1, 2, 1, 0, 0, .istore_n 1, 1), (2, 1, 1, 0, 0, .iload_n 1, 1), (3, 0, 200, 0, 0, .sipush 200, 3), (6, 15, 3, 12, 0, .if_icmp .ge 16, 3), (9, 49, 0, 0, 0, .aload_n 0, 1), (10, 21, 10, 27, 1060, .getfield 67, 3), (13, 1, 1, 0, 0, .iload_n 1, 1), (14, 0, 0, 0, 0, .iconst 0, 1), (15, 25, 0, 0, 0, .iastore, 1), (16, 3, 1, 1, 0, .iinc 1 1, 3), (19, 20, 2, 0, 0, .goto (-17), 3), (22, 0, 0, 0, 0, .iconst 0, 1), (23, 2, 1, 0, 0, .istore_n 1, 1), (24, 1, 1, 0, 0, .iload_n 1, 1), (25, 0, 12, 0, 0, .bipush 12, 2), (27, 15, 3, 24, 0, .if_icmp .ge 18, 3), (30, 49, 0, 0, 0, .aload_n 0, 1), (31, 1, 1, 0, 0, .iload_n 1, 1), (32, 49, 0, 0, 0, .aload_n 0, 1), (33, 21, 10, 27, 1060, .getfield 67, 3), (36, 35, 107, 322, 1222, .invokevirtual 107, 3), (39, 3, 1, 1, 0, .iinc 1 1, 3), (42, 20, 14, 0, 0, .goto (-18), 3), (45, 0, 0, 0, 0, .iconst 0, 1), (46, 2, 1, 0, 0, .istore_n 1, 1), (47, 1, 1, 0, 0, .iload_n 1, 1), (48, 0, 16, 0, 0, .bipush 16, 2), (50, 49, 0, 0, 0, .aload_n 0, 1), (51, 21, 10, 18, 1051, .getfield 110, 3), (54, 6, 0, 0, 0, .imul, 1), (55, 15, 3, 51, 0, .if_icmp .ge 34, 3), (58, 99, 0, 0, 0, .nop, 1), (59, 99, 0, 0, 0, .nop, 1), (62, 99, 0, 0, 0, .nop, 1), (63, 99, 0, 0, 0, .nop, 1), (64, 99, 0, 0, 0, .nop, 1), (67, 99, 0, 0, 0, .nop, 1), (68, 99, 0, 0, 0, .nop, 1), (71, 99, 0, 0, 0, .nop, 1), (72, 99, 0, 0, 0, .nop, 1), (75, 99, 0, 0, 0, .nop, 1), (76, 99, 0, 0, 0, .nop, 1), (77, 99, 0, 0, 0, .nop, 1), (78, 99, 0, 0, 0, .nop, 1), (79, 99, 0, 0, 0, .nop, 1), (80, 99, 0, 0, 0, .nop, 1), (81, 99, 0, 0, 0, .nop, 1), (82, 99, 0, 0, 0, .nop, 1), (83, 99, 0, 0, 0, .nop, 1), (86, 99, 0, 0, 0, .nop, 1), (89, 0, 0, 0, 0, .iconst 0, 1), (90, 2, 1, 0, 0, .istore_n 1, 1), (91, 1, 1, 0, 0, .iload_n 1, 1), (92, 0, 200, 0, 0, .sipush 200, 3), (95, 15, 3, 74, 0, .if_icmp .ge 35, 3), (98, 49, 0, 0, 0, .aload_n 0, 1), (99, 21, 10, 1, 1034, .getfield 13, 3), (102, 1, 1, 0, 0, .iload_n 1, 1), (103, 49, 0, 0, 0, .aload_n 0, 1), (104, 21, 10, 27, 1060, .getfield 67, 3), (107, 1, 1, 0, 0, .iload_n 1, 1), (108, 24, 0, 0, 0, .iaload, 1), (109, 0, 1, 0, 0, .iconst 1, 1), (110, 15, 1, 70, 0, .if_icmp .ne 12, 3), (113, 99, 0, 0, 0, .nop, 1), (114, 99, 0, 0, 0, .nop, 1), (117, 99, 0, 0, 0, .nop, 1), (118, 99, 0, 0, 0, .nop, 1), (119, 99, 0, 0, 0, .nop, 1), (122, 0, 0, 0, 0, .iconst 0, 1), (123, 25, 0, 0, 0, .iastore, 1), (124, 3, 1, 1, 0, .iinc 1 1, 3), (127, 20, 53, 0, 0, .goto (-36), 3), (130, 42, 0, 0, 0, .return_, 1)]
def q_m122 : List qRow := [(0, 49, 3, 0, 0, .aload_n 3, 1), (1, 0, 0, 0, 0, .iconst 0, 1), (2, 49, 0, 0, 0, .aload_n 0, 1), (3, 1, 1, 0, 0, .iload_n 1, 1), (4, 1, 2, 0, 0, .iload_n 2, 1), (5, 35, 123, 290, 880, .invokevirtual 80, 3), (8, 99, 0, 0, 0, .nop, 1), (9, 99, 0, 0, 0, .nop, 1), (10, 99, 0, 0, 0, .nop, 1), (13, 50, 4, 0, 0, .astore 4, 2), (15, 0, 1, 0, 0, .iconst 1, 1), (16, 40, 0, 0, 0, .ireturn, 1), (17, 50, 4, 0, 0, .astore 4, 2), (19, 0, 2, 0, 0, .iconst 2, 1), (20, 40, 0, 0, 0, .ireturn, 1), (21, 99, 0, 0, 0, .nop, 1), (22, 99, 0, 0, 0, .nop, 1)]
def q_m123 : List qRow := [(0, 49, 0, 0, 0, .aload_n 0, 1), (1, 1, 1, 0, 0, .iload_n 1, 1), (2, 35, 14, 289, 488, .invokevirtual 87, 3), (5, 50, 3, 0, 0, .astore_n 3, 1), (6, 1, 2, 0, 0, .iload_n 2, 1), (7, 36, 21, 1, 555, .invokestatic 91, 3), (10, 49, 3, 0, 0, .aload_n 3, 1), (11, 1, 2, 0, 0, .iload_n 2, 1), (12, 36, 42, 2, 588, .invokestatic 192, 3), (15, 99, 0, 0, 0, .nop, 1), (17, 99, 0, 0, 0, .nop, 1), (18, 99, 0, 0, 0, .nop, 1), (19, 99, 0, 0, 0, .nop, 1), (21, 99, 0, 0, 0, .nop, 1), (24, 99, 0, 0, 0, .nop, 1), (27, 99, 0, 0, 0, .nop, 1), (28, 99, 0, 0, 0, .nop, 1), (31, 99, 0, 0, 0, .nop, 1), (34, 99, 0, 0, 0, .nop, 1), (37, 99, 0, 0, 0, .nop, 1), (40, 99, 0, 0, 0, .nop, 1), (41, 99, 0, 0, 0, .nop, 1), (42, 99, 0, 0, 0, .nop, 1), (44, 99, 0, 0, 0, .nop, 1), (47, 99, 0, 0, 0, .nop, 1), (48, 99, 0, 0, 0, .nop, 1), (51, 99, 0, 0, 0, .nop, 1), (53, 99, 0, 0, 0, .nop, 1), (56, 99, 0, 0, 0, .nop, 1), (59, 99, 0, 0, 0, .nop, 1), (61, 99, 0, 0, 0, .nop, 1), (63, 99, 0, 0, 0, .nop, 1), (66, 99, 0, 0, 0, .nop, 1), (68, 99, 0, 0, 0, .nop, 1), (71, 99, 0, 0, 0, .nop, 1), (74, 99, 0, 0, 0, .nop, 1), (76, 99, 0, 0, 0, .nop, 1), (79, 99, 0, 0, 0, .nop, 1), (80, 99, 0, 0, 0, .nop, 1), (83, 99, 0, 0, 0, .nop, 1), (84, 99, 0, 0, 0, .nop, 1), (87, 99, 0, 0, 0, .nop, 1), (88, 99, 0, 0, 0, .nop, 1), (91, 99, 0, 0, 0, .nop, 1), (93, 99, 0, 0, 0, .nop, 1), (94, 99, 0, 0, 0, .nop, 1), (95, 99, 0, 0, 0, .nop, 1), (96, 99, 0, 0, 0, .nop, 1), (99, 99, 0, 0, 0, .nop, 1), (100, 99, 0, 0, 0, .nop, 1), (101, 99, 0, 0, 0, .nop, 1), (104, 99, 0, 0, 0, .nop, 1), (105, 99, 0, 0, 0, .nop, 1), (108, 99, 0, 0, 0, .nop, 1), (111, 99, 0, 0, 0, .nop, 1), (112, 99, 0, 0, 0, .nop, 1), (115, 99, 0, 0, 0, .nop, 1)]
def q_m124 : List qRow := [(0, 49, 0, 0, 0, .aload_n 0, 1), (1, 1, 1, 0, 0, .iload_n 1, 1), (2, 1, 2, 0, 0, .iload_n 2, 1), (3, 35, 16, 322, 1150, .invokevirtual 162, 3), (6, 2, 3, 0, 0, .istore_n 3, 1), (7, 49, 0, 0, 0, .aload_n 0, 1), (8, 1, 3, 0, 0, .iload_n 3, 1), (9, 14, 1, 10, 0, .ifCond .ne 7, 3), (12, 0, 1, 0, 0, .iconst 1, 1), (13, 20, 18, 0, 0, .goto 17, 3), (16, 49, 0, 0, 0, .aload_n 0, 1), (17, 1, 1, 0, 0, .iload_n 1, 1), (18, 1, 2, 0, 0, .iload_n 2, 1), (19, 35, 31, 322, 1162, .invokevirtual 165, 3), (22, 14, 3, 17, 0, .ifCond .ge 7, 3), (25, 0, 2, 0, 0, .iconst 2, 1), (26, 20, 18, 0, 0, .goto 4, 3), (29, 99, 0, 0, 0, .nop, 1), (30, 35, 19, 321, 1166, .invokevirtual 169, 3), (33, 14, 0, 22, 0, .ifCond .eq 5, 3), (36, 0, 4294967295, 0, 0, .iconst (-1), 1), (37, 40, 0, 0, 0, .ireturn, 1), (38, 99, 0, 0, 0, .nop, 1), (39, 99, 0, 0, 0, .nop, 1), (40, 99, 0, 0, 0, .nop, 1), (41, 99, 0, 0, 0, .nop, 1), (44, 99, 0, 0, 0, .nop, 1), (46, 99, 0, 0, 0, .nop, 1), (47, 99, 0, 0, 0, .nop, 1), (49, 99, 0, 0, 0, .nop, 1), (50, 99, 0, 0, 0, .nop, 1), (52, 99, 0, 0, 0, .nop, 1), (54, 99, 0, 0, 0, .nop, 1), (55, 99, 0, 0, 0, .nop, 1), (58, 99, 0, 0, 0, .nop, 1), (61, 99, 0, 0, 0, .nop, 1), (62, 99, 0, 0, 0, .nop, 1), (65, 99, 0, 0, 0, .nop, 1), (67, 99, 0, 0, 0, .nop, 1), (68, 99, 0, 0, 0, .nop, 1), (69, 99, 0, 0, 0, .nop, 1), (72, 99, 0, 0, 0, .nop, 1), (73, 99, 0, 0, 0, .nop, 1), (76, 99, 0, 0, 0, .nop, 1), (78, 99, 0, 0, 0, .nop, 1), (79, 99, 0, 0, 0, .nop, 1), (80, 99, 0, 0, 0, .nop, 1), (83, 99, 0, 0, 0, .nop, 1), (85, 99, 0, 0, 0, .nop, 1), (86, 99, 0, 0, 0, .nop, 1), (89, 99, 0, 0, 0, .nop, 1), (90, 99, 0, 0, 0, .nop, 1), (93, 99, 0, 0, 0, .nop, 1), (95, 99, 0, 0, 0, .nop, 1), (96, 99, 0, 0, 0, .nop, 1), (99, 99, 0, 0, 0, .nop, 1), (101, 99, 0, 0, 0, .nop, 1), (102, 99, 0, 0, 0, .nop, 1), (103, 99, 0, 0, 0, .nop, 1), (104, 99, 0, 0, 0, .nop, 1), (107, 99, 0, 0, 0, .nop, 1), (109, 99, 0, 0, 0, .nop, 1), (110, 99, 0, 0, 0, .nop, 1), (113, 99, 0, 0, 0, .nop, 1), (115, 99, 0, 0, 0, .nop, 1), (116, 99, 0, 0, 0, .nop, 1), (117, 99, 0, 0, 0, .nop, 1), (118, 99, 0, 0, 0, .nop, 1), (121, 99, 0, 0, 0, .nop, 1), (123, 99, 0, 0, 0, .nop, 1), (124, 99, 0, 0, 0, .nop, 1), (127, 99, 0, 0, 0, .nop, 1), (129, 99, 0, 0, 0, .nop, 1), (130, 99, 0, 0, 0, .nop, 1), (131, 99, 0, 0, 0, .nop, 1), (132, 99, 0, 0, 0, .nop, 1), (134, 99, 0, 0, 0, .nop, 1), (136, 99, 0, 0, 0, .nop, 1), (138, 99, 0, 0, 0, .nop, 1), (141, 99, 0, 0, 0, .nop, 1), (142, 99, 0, 0, 0, .nop, 1), (145, 99, 0, 0, 0, .nop, 1), (147, 99, 0, 0, 0, .nop, 1), (149, 99, 0, 0, 0, .nop, 1), (150, 99, 0, 0, 0, .nop, 1), (152, 99, 0, 0, 0, .nop, 1), (153, 99, 0, 0, 0, .nop, 1), (154, 99, 0, 0, 0, .nop, 1), (157, 99, 0, 0, 0, .nop, 1), (159, 99, 0, 0, 0, .nop, 1), (161, 99, 0, 0, 0, .nop, 1), (162, 99, 0, 0, 0, .nop, 1), (164, 99, 0, 0, 0, .nop, 1), (165, 99, 0, 0, 0, .nop, 1), (166, 99, 0, 0, 0, .nop, 1), (167, 99, 0, 0, 0, .nop, 1), (170, 99, 0, 0, 0, .nop, 1), (173, 99, 0, 0, 0, .nop, 1), (176, 99, 0, 0, 0, .nop, 1), (179, 99, 0, 0, 0, .nop, 1), (182, 99, 0, 0, 0, .nop, 1), (183, 99, 0, 0, 0, .nop, 1), (186, 99, 0, 0, 0, .nop, 1), (188, 99, 0, 0, 0, .nop, 1), (189, 99, 0, 0, 0, .nop, 1), (190, 99, 0, 0, 0, .nop, 1), (191, 99, 0, 0, 0, .nop, 1), (194, 99, 0, 0, 0, .nop, 1), (196, 99, 0, 0, 0, .nop, 1), (197, 99, 0, 0, 0, .nop, 1), (200, 99, 0, 0, 0, .nop, 1), (202, 99, 0, 0, 0, .nop, 1), (203, 99, 0, 0, 0, .nop, 1), (204, 99, 0, 0, 0, .nop, 1), (205, 99, 0, 0, 0, .nop, 1), (208, 99, 0, 0, 0, .nop, 1), (210, 99, 0, 0, 0, .nop, 1), (211, 99, 0, 0, 0, .nop, 1), (212, 99, 0, 0, 0, .nop, 1), (213, 99, 0, 0, 0, .nop, 1), (215, 99, 0, 0, 0, .nop, 1), (217, 99, 0, 0, 0, .nop, 1), (219, 99, 0, 0, 0, .nop, 1), (222, 99, 0, 0, 0, .nop, 1), (223, 99, 0, 0, 0, .nop, 1), (226, 99, 0, 0, 0, .nop, 1), (228, 99, 0, 0, 0, .nop, 1), (229, 99, 0, 0, 0, .nop, 1), (230, 99, 0, 0, 0, .nop, 1), (231, 99, 0, 0, 0, .nop, 1), (232, 99, 0, 0, 0, .nop, 1), (234, 99, 0, 0, 0, .nop, 1), (237, 99, 0, 0, 0, .nop, 1), (239, 99, 0, 0, 0, .nop, 1), (242, 99, 0, 0, 0, .nop, 1), (243, 99, 0, 0, 0, .nop, 1), (245, 99, 0, 0, 0, .nop, 1), (246, 99, 0, 0, 0, .nop, 1), (249, 99, 0, 0, 0, .nop, 1), (250, 99, 0, 0, 0, .nop, 1), (251, 99, 0, 0, 0, .nop, 1), (252, 99, 0, 0, 0, .nop, 1), (255, 99, 0, 0, 0, .nop, 1), (258, 99, 0, 0, 0, .nop, 1), (259, 99, 0, 0, 0, .nop, 1), (261, 99, 0, 0, 0, .nop, 1), (263, 99, 0, 0, 0, .nop, 1), (265, 99, 0, 0, 0, .nop, 1), (268, 99, 0, 0, 0, .nop, 1), (269, 99, 0, 0, 0, .nop, 1), (272, 99, 0, 0, 0, .nop, 1), (274, 99, 0, 0, 0, .nop, 1), (276, 99, 0, 0, 0, .nop, 1), (277, 99, 0, 0, 0, .nop, 1), (279, 99, 0, 0, 0, .nop, 1), (280, 99, 0, 0, 0, .nop, 1), (281, 99, 0, 0, 0, .nop, 1), (284, 99, 0, 0, 0, .nop, 1), (286, 99, 0, 0, 0, .nop, 1), (288, 99, 0, 0, 0, .nop, 1), (289, 99, 0, 0, 0, .nop, 1), (291, 99, 0, 0, 0, .nop, 1), (292, 99, 0, 0, 0, .nop, 1), (293, 99, 0, 0, 0, .nop, 1), (294, 99, 0, 0, 0, .nop, 1), (297, 99, 0, 0, 0, .nop, 1), (300, 99, 0, 0, 0, .nop, 1), (301, 99, 0, 0, 0, .nop, 1), (303, 99, 0, 0, 0, .nop, 1), (304, 99, 0, 0, 0, .nop, 1), (305, 99, 0, 0, 0, .nop, 1), (308, 99, 0, 0, 0, .nop, 1), (309, 99, 0, 0, 0, .nop, 1), (312, 99, 0, 0, 0, .nop, 1), (313, 99, 0, 0, 0, .nop, 1), (316, 99, 0, 0, 0, .nop, 1)]
def q_m125 : List qRow := [(0, 0, 0, 0, 0, .iconst 0, 1), (1, 2, 1, 0, 0, .istore_n 1, 1), (2, 1, 1, 0, 0, .iload_n 1, 1), (3, 0, 6, 0, 0, .bipush 6, 2), (5, 15, 3, 16, 0, .if_icmp .ge 24, 3), (8, 49, 0, 0, 0, .aload_n 0, 1), (9, 21, 9, 1, 308, .getfield 20, 3), (12, 1, 1, 0, 0, .iload_n 1, 1), (13, 28, 0, 0, 0, .aaload, 1), (14, 49, 0, 0, 0, .aload_n 0, 1), (15, 21, 9, 2, 309, .getfield 24, 3), (18, 1, 1, 0, 0, .iload_n 1, 1), (19, 28, 0, 0, 0, .aaload, 1), (20, 35, 10, 225, 302, .invokevirtual 83, 3), (23, 3, 1, 1, 0, .iinc 1 1, 3), (26, 20, 2, 0, 0, .goto (-24), 3), (29, 0, 0, 0, 0, .iconst 0, 1), (30, 2, 1, 0, 0, .istore_n 1, 1), (31, 0, 0, 0, 0, .iconst 0, 1), (32, 2, 2, 0, 0, .istore_n 2, 1), (33, 1, 2, 0, 0, .iload_n 2, 1), (34, 49, 0, 0, 0, .aload_n 0, 1), (35, 21, 9, 4, 311, .getfield 33, 3), (38, 15, 3, 34, 0, .if_icmp .ge 25, 3), (41, 99, 0, 0, 0, .nop, 1), (42, 99, 0, 0, 0, .nop, 1), (43, 99, 0, 0, 0, .nop, 1), (46, 99, 0, 0, 0, .nop, 1), (47, 99, 0, 0, 0, .nop, 1), (48, 99, 0, 0, 0, .nop, 1), (51, 99, 0, 0, 0, .nop, 1), (54, 99, 0, 0, 0, .nop, 1), (57, 99, 0, 0, 0, .nop, 1), (60, 99, 0, 0, 0, .nop, 1), (63, 49, 0, 0, 0, .aload_n 0, 1), (64, 35, 113, 288, 351, .invokevirtual 262, 3), (67, 1, 1, 0, 0, .iload_n 1, 1), (68, 40, 0, 0, 0, .ireturn, 1)]
def q_m126 : List qRow := [(0, 49, 0, 0, 0, .aload_n 0, 1), (1, 0, 0, 0, 0, .iconst 0, 1), (2, 35, 19, 321, 1166, .invokevirtual 169, 3), (5, 13, 0, 0, 0, .pop, 1), (6, 0, 0, 0, 0, .iconst 0, 1), (7, 2, 1, 0, 0, .istore_n 1, 1), (8, 1, 1, 0, 0, .iload_n 1, 1), (9, 0, 6, 0, 0, .bipush 6, 2), (11, 15, 3, 48, 0, .if_icmp .ge 67, 3), (14, 49, 0, 0, 0, .aload_n 0, 1), (15, 21, 10, 10, 1043, .getfield 34, 3), (18, 0, 6, 0, 0, .bipush 6, 2), (20, 1, 1, 0, 0, .iload_n 1, 1), (21, 4, 0, 0, 0, .iadd, 1), (22, 24, 0, 0, 0, .iaload, 1), (23, 14, 3, 22, 0, .ifCond .ge 13, 3), (26, 49, 0, 0, 0, .aload_n 0, 1), (27, 21, 10, 10, 1043, .getfield 34, 3), (30, 1, 1, 0, 0, .iload_n 1, 1), (31, 0, 4294967295, 0, 0, .iconst (-1), 1), (32, 25, 0, 0, 0, .iastore, 1), (33, 20, 46, 0, 0, .goto 39, 3), (36, 49, 0, 0, 0, .aload_n 0, 1), (37, 1, 1, 0, 0, .iload_n 1, 1), (38, 0, 6, 0, 0, .bipush 6, 2), (40, 1, 1, 0, 0, .iload_n 1, 1), (41, 4, 0, 0, 0, .iadd, 1), (42, 49, 0, 0, 0, .aload_n 0, 1), (43, 21, 10, 11, 1044, .getfield 37, 3), (46, 0, 6, 0, 0, .bipush 6, 2), (48, 1, 1, 0, 0, .iload_n 1, 1), (49, 4, 0, 0, 0, .iadd, 1), (50, 24, 0, 0, 0, .iaload, 1), (51, 49, 0, 0, 0, .aload_n 0, 1), (52, 21, 10, 12, 1045, .getfield 40, 3), (55, 0, 6, 0, 0, .bipush 6, 2), (57, 1, 1, 0, 0, .iload_n 1, 1), (58, 4, 0, 0, 0, .iadd, 1), (59, 24, 0, 0, 0, .iaload, 1), (60, 49, 0, 0, 0, .aload_n 0, 1), (61, 21, 10, 13, 1046, .getfield 43, 3), (64, 0, 6, 0, 0, .bipush 6, 2), (66, 1, 1, 0, 0, .iload_n 1, 1), (67, 4, 0, 0, 0, .iadd, 1), (68, 24, 0, 0, 0, .iaload, 1), (69, 35, 92, 325, 1358, .invokevirtual 245, 3), (72, 3, 1, 1, 0, .iinc 1 1, 3), (75, 20, 6, 0, 0, .goto (-67), 3), (78, 49, 0, 0, 0, .aload_n 0, 1), (79, 35, 120, 320, 1210, .invokevirtual 156, 3), (82, 0, 0, 0, 0, .iconst 0, 1), (83, 2, 1, 0, 0, .istore_n 1, 1), (84, 0, 0, 0, 0, .iconst 0, 1), (85, 2, 2, 0, 0, .istore_n 2, 1), (86, 1, 2, 0, 0, .iload_n 2, 1), (87, 49, 0, 0, 0, .aload_n 0, 1), (88, 21, 10, 18, 1051, .getfield 110, 3), (91, 15, 3, 80, 0, .if_icmp .ge 45, 3), (94, 99, 0, 0, 0, .nop, 1), (95, 99, 0, 0, 0, .nop, 1), (98, 99, 0, 0, 0, .nop, 1), (99, 99, 0, 0, 0, .nop, 1), (102, 99, 0, 0, 0, .nop, 1), (103, 99, 0, 0, 0, .nop, 1), (104, 99, 0, 0, 0, .nop, 1), (105, 99, 0, 0, 0, .nop, 1), (108, 99, 0, 0, 0, .nop, 1), (109, 99, 0, 0, 0, .nop, 1), (112, 99, 0, 0, 0, .nop, 1), (113, 99, 0, 0, 0, .nop, 1), (116, 99, 0, 0, 0, .nop, 1), (117, 99, 0, 0, 0, .nop, 1), (118, 99, 0, 0, 0, .nop, 1), (119, 99, 0, 0, 0, .nop, 1), (122, 99, 0, 0, 0, .nop, 1), (123, 99, 0, 0, 0, .nop, 1), (124, 99, 0, 0, 0, .nop, 1), (127, 99, 0, 0, 0, .nop, 1), (130, 99, 0, 0, 0, .nop, 1), (133, 99, 0, 0, 0, .nop, 1), (136, 49, 0, 0, 0, .aload_n 0, 1), (137, 35, 118, 320, 1382, .invokevirtual 249, 3), (140, 1, 1, 0, 0, .iload_n 1, 1), (141, 40, 0, 0, 0, .ireturn, 1)]
def q_m127 : List qRow := [(0, 49, 3, 0, 0, .aload_n 3, 1), (1, 0, 0, 0, 0, .iconst 0, 1), (2, 49, 0, 0, 0, .aload_n 0, 1), (3, 1, 1, 0, 0, .iload_n 1, 1), (4, 1, 2, 0, 0, .iload_n 2, 1), (5, 35, 128, 290, 915, .invokevirtual 83, 3), (8, 99, 0, 0, 0, .nop, 1), (9, 99, 0, 0, 0, .nop, 1), (10, 99, 0, 0, 0, .nop, 1), (13, 50, 4, 0, 0, .astore 4, 2), (15, 0, 1, 0, 0, .iconst 1, 1), (16, 40, 0, 0, 0, .ireturn, 1), (17, 50, 4, 0, 0, .astore 4, 2), (19, 0, 2, 0, 0, .iconst 2, 1), (20, 40, 0, 0, 0, .ireturn, 1), (21, 99, 0, 0, 0, .nop, 1), (22, 99, 0, 0, 0, .nop, 1)]
def q_m128 : List qRow := [(0, 49, 0, 0, 0, .aload_n 0, 1), (1, 1, 1, 0, 0, .iload_n 1, 1), (2, 35, 14, 289, 488, .invokevirtual 87, 3), (5, 50, 3, 0, 0, .astore_n 3, 1), (6, 49, 0, 0, 0, .aload_n 0, 1), (7, 1, 2, 0, 0, .iload_n 2, 1), (8, 35, 14, 289, 488, .invokevirtual 87, 3), (11, 50, 4, 0, 0, .astore 4, 2), (13, 49, 3, 0, 0, .aload_n 3, 1), (14, 21, 7, 1, 182, .getfield 95, 3), (17, 14, 0, 16, 0, .ifCond .eq 15, 3), (20, 99, 0, 0, 0, .nop, 1), (22, 99, 0, 0, 0, .nop, 1), (25, 99, 0, 0, 0, .nop, 1), (28, 99, 0, 0, 0, .nop, 1), (29, 99, 0, 0, 0, .nop, 1), (32, 0, 0, 0, 0, .iconst 0, 1), (33, 36, 23, 1, 559, .invokestatic 107, 3), (36, 99, 0, 0, 0, .nop, 1), (37, 99, 0, 0, 0, .nop, 1), (40, 99, 0, 0, 0, .nop, 1), (41, 99, 0, 0, 0, .nop, 1), (44, 99, 0, 0, 0, .nop, 1), (46, 99, 0, 0, 0, .nop, 1), (49, 99, 0, 0, 0, .nop, 1), (52, 99, 0, 0, 0, .nop, 1), (54, 99, 0, 0, 0, .nop, 1), (56, 99, 0, 0, 0, .nop, 1), (58, 99, 0, 0, 0, .nop, 1), (61, 99, 0, 0, 0, .nop, 1), (62, 99, 0, 0, 0, .nop, 1), (65, 99, 0, 0, 0, .nop, 1), (66, 99, 0, 0, 0, .nop, 1), (69, 99, 0, 0, 0, .nop, 1), (70, 99, 0, 0, 0, .nop, 1), (73, 99, 0, 0, 0, .nop, 1), (75, 99, 0, 0, 0, .nop, 1), (76, 99, 0, 0, 0, .nop, 1), (77, 99, 0, 0, 0, .nop, 1), (80, 99, 0, 0, 0, .nop, 1), (83, 99, 0, 0, 0, .nop, 1), (84, 99, 0, 0, 0, .nop, 1), (86, 99, 0, 0, 0, .nop, 1), (89, 99, 0, 0, 0, .nop, 1), (91, 99, 0, 0, 0, .nop, 1)]
def q_m129 : List qRow := [(0, 49, 0, 0, 0, .aload_n 0, 1), (1, 1, 1, 0, 0, .iload_n 1, 1), (2, 35, 17, 321, 1154, .invokevirtual 99, 3), (5, 14, 0, 10, 0, .ifCond .eq 15, 3), (8, 49, 0, 0, 0, .aload_n 0, 1), (9, 1, 2, 0, 0, .iload_n 2, 1), (10, 35, 17, 321, 1154, .invokevirtual 99, 3), (13, 14, 0, 10, 0, .ifCond .eq 7, 3), (16, 0, 1, 0, 0, .iconst 1, 1), (17, 20, 11, 0, 0, .goto 4, 3), (20, 0, 0, 0, 0, .iconst 0, 1), (21, 2, 3, 0, 0, .istore_n 3, 1), (22, 49, 0, 0, 0, .aload_n 0, 1), (23, 1, 3, 0, 0, .iload_n 3, 1), (24, 14, 1, 17, 0, .ifCond .ne 7, 3), (27, 0, 1, 0, 0, .iconst 1, 1), (28, 20, 35, 0, 0, .goto 35, 3), (31, 49, 0, 0, 0, .aload_n 0, 1), (32, 21, 10, 11, 1044, .getfield 37, 3), (35, 1, 1, 0, 0, .iload_n 1, 1), (36, 24, 0, 0, 0, .iaload, 1), (37, 14, 0, 32, 0, .ifCond .eq 21, 3), (40, 99, 0, 0, 0, .nop, 1), (41, 99, 0, 0, 0, .nop, 1), (44, 99, 0, 0, 0, .nop, 1), (45, 99, 0, 0, 0, .nop, 1), (46, 99, 0, 0, 0, .nop, 1), (49, 99, 0, 0, 0, .nop, 1), (50, 99, 0, 0, 0, .nop, 1), (51, 99, 0, 0, 0, .nop, 1), (52, 99, 0, 0, 0, .nop, 1), (55, 99, 0, 0, 0, .nop, 1), (58, 0, 2, 0, 0, .iconst 2, 1), (59, 20, 35, 0, 0, .goto 4, 3), (62, 99, 0, 0, 0, .nop, 1), (63, 35, 19, 321, 1166, .invokevirtual 169, 3), (66, 14, 0, 39, 0, .ifCond .eq 5, 3), (69, 0, 4294967295, 0, 0, .iconst (-1), 1), (70, 40, 0, 0, 0, .ireturn, 1), (71, 99, 0, 0, 0, .nop, 1), (72, 99, 0, 0, 0, .nop, 1), (73, 99, 0, 0, 0, .nop, 1), (76, 99, 0, 0, 0, .nop, 1), (77, 99, 0, 0, 0, .nop, 1), (78, 99, 0, 0, 0, .nop, 1), (81, 99, 0, 0, 0, .nop, 1), (82, 99, 0, 0, 0, .nop, 1), (84, 99, 0, 0, 0, .nop, 1), (85, 99, 0, 0, 0, .nop, 1), (87, 99, 0, 0, 0, .nop, 1), (89, 99, 0, 0, 0, .nop, 1), (91, 99, 0, 0, 0, .nop, 1), (94, 99, 0, 0, 0, .nop, 1), (95, 99, 0, 0, 0, .nop, 1), (98, 99, 0, 0, 0, .nop, 1), (100, 99, 0, 0, 0, .nop, 1), (101, 99, 0, 0, 0, .nop, 1), (102, 99, 0, 0, 0, .nop, 1), (105, 99, 0, 0, 0, .nop, 1), (108, 99, 0, 0, 0, .nop, 1), (109, 99, 0, 0, 0, .nop, 1), (110, 99, 0, 0, 0, .nop, 1), (111, 99, 0, 0, 0, .nop, 1), (114, 99, 0, 0, 0, .nop, 1), (116, 99, 0, 0, 0, .nop, 1), (118, 99, 0, 0, 0, .nop, 1), (121, 99, 0, 0, 0, .nop, 1), (122, 99, 0, 0, 0, .nop, 1), (123, 99, 0, 0, 0, .nop, 1), (124, 99, 0, 0, 0, .nop, 1), (127, 99, 0, 0, 0, .nop, 1), (129, 99, 0, 0, 0, .nop, 1), (130, 99, 0, 0, 0, .nop, 1), (133, 99, 0, 0, 0, .nop, 1), (135, 99, 0, 0, 0, .nop, 1), (136, 99, 0, 0, 0, .nop, 1), (139, 99, 0, 0, 0, .nop, 1), (140, 99, 0, 0, 0, .nop, 1), (143, 99, 0, 0, 0, .nop, 1), (144, 99, 0, 0, 0, .nop, 1), (145, 99, 0, 0, 0, .nop, 1), (147, 99, 0, 0, 0, .nop, 1), (149, 99, 0, 0, 0, .nop, 1), (151, 99, 0, 0, 0, .nop, 1), (154, 99, 0, 0, 0, .nop, 1), (155, 99, 0, 0, 0, .nop, 1), (158, 99, 0, 0, 0, .nop, 1), (159, 99, 0, 0, 0, .nop, 1), (162, 99, 0, 0, 0, .nop, 1), (164, 99, 0, 0, 0, .nop, 1), (167, 99, 0, 0, 0, .nop, 1), (168, 99, 0, 0, 0, .nop, 1), (169, 99, 0, 0, 0, .nop, 1), (171, 99, 0, 0, 0, .nop, 1), (174, 99, 0, 0, 0, .nop, 1), (176, 99, 0, 0, 0, .nop, 1), (179, 99, 0, 0, 0, .nop, 1), (181, 99, 0, 0, 0, .nop, 1), (184, 99, 0, 0, 0, .nop, 1), (185, 99, 0, 0, 0, .nop, 1), (188, 99, 0, 0, 0, .nop, 1), (189, 99, 0, 0, 0, .nop, 1), (192, 99, 0, 0, 0, .nop, 1), (193, 99, 0, 0, 0, .nop, 1), (194, 99, 0, 0, 0, .nop, 1), (195, 99, 0, 0, 0, .nop, 1), (198, 99, 0, 0, 0, .nop, 1), (200, 99, 0, 0, 0, .nop, 1), (201, 99, 0, 0, 0, .nop, 1), (202, 99, 0, 0, 0, .nop, 1), (204, 99, 0, 0, 0, .nop, 1), (207, 99, 0, 0, 0, .nop, 1), (209, 99, 0, 0, 0, .nop, 1), (212, 99, 0, 0, 0, .nop, 1), (213, 99, 0, 0, 0, .nop, 1), (216, 99, 0, 0, 0, .nop, 1), (217, 99, 0, 0, 0, .nop, 1), (218, 99, 0, 0, 0, .nop, 1), (221, 99, 0, 0, 0, .nop, 1), (222, 99, 0, 0, 0, .nop, 1), (225, 99, 0, 0, 0, .nop, 1), (227, 99, 0, 0, 0, .nop, 1), (228, 99, 0, 0, 0, .nop, 1), (229, 99, 0, 0, 0, .nop, 1), (232, 99, 0, 0, 0, .nop, 1), (235, 99, 0, 0, 0, .nop, 1), (236, 99, 0, 0, 0, .nop, 1), (238, 99, 0, 0, 0, .nop, 1), (240, 99, 0, 0, 0, .nop, 1), (242, 99, 0, 0, 0, .nop, 1), (245, 99, 0, 0, 0, .nop, 1), (246, 99, 0, 0, 0, .nop, 1), (248, 99, 0, 0, 0, .nop, 1), (250, 99, 0, 0, 0, .nop, 1), (252, 99, 0, 0, 0, .nop, 1), (255, 99, 0, 0, 0, .nop, 1), (257, 99, 0, 0, 0, .nop, 1), (258, 99, 0, 0, 0, .nop, 1), (261, 99, 0, 0, 0, .nop, 1), (263, 99, 0, 0, 0, .nop, 1), (264, 99, 0, 0, 0, .nop, 1), (267, 99, 0, 0, 0, .nop, 1), (268, 99, 0, 0, 0, .nop, 1), (270, 99, 0, 0, 0, .nop, 1), (271, 99, 0, 0, 0, .nop, 1), (273, 99, 0, 0, 0, .nop, 1), (276, 99, 0, 0, 0, .nop, 1), (277, 99, 0, 0, 0, .nop, 1), (280, 99, 0, 0, 0, .nop, 1), (281, 99, 0, 0, 0, .nop, 1), (284, 99, 0, 0, 0, .nop, 1), (286, 99, 0, 0, 0, .nop, 1), (288, 99, 0, 0, 0, .nop, 1), (289, 99, 0, 0, 0, .nop, 1), (291, 99, 0, 0, 0, .nop, 1), (292, 99, 0, 0, 0, .nop, 1), (293, 99, 0, 0, 0, .nop, 1), (296, 99, 0, 0, 0, .nop, 1), (297, 99, 0, 0, 0, .nop, 1), (300, 99, 0, 0, 0, .nop, 1), (301, 99, 0, 0, 0, .nop, 1), (302, 99, 0, 0, 0, .nop, 1), (305, 99, 0, 0, 0, .nop, 1), (307, 99, 0, 0, 0, .nop, 1), (309, 99, 0, 0, 0, .nop, 1), (310, 99, 0, 0, 0, .nop, 1), (312, 99, 0, 0, 0, .nop, 1), (313, 99, 0, 0, 0, .nop, 1), (314, 99, 0, 0, 0, .nop, 1), (317, 99, 0, 0, 0, .nop, 1), (318, 99, 0, 0, 0, .nop, 1), (319, 99, 0, 0, 0, .nop, 1), (320, 99, 0, 0, 0, .nop, 1), (322, 99, 0, 0, 0, .nop, 1), (324, 99, 0, 0, 0, .nop, 1), (327, 99, 0, 0, 0, .nop, 1), (328, 99, 0, 0, 0, .nop, 1), (331, 99, 0, 0, 0, .nop, 1), (332, 99, 0, 0, 0, .nop, 1), (333, 99, 0, 0, 0, .nop, 1), (335, 99, 0, 0, 0, .nop, 1), (338, 99, 0, 0, 0, .nop, 1), (341, 99, 0, 0, 0, .nop, 1), (342, 99, 0, 0, 0, .nop, 1), (343, 99, 0, 0, 0, .nop, 1), (346, 99, 0, 0, 0, .nop, 1), (347, 99, 0, 0, 0, .nop, 1), (348, 99, 0, 0, 0, .nop, 1), (351, 99, 0, 0, 0, .nop, 1), (352, 99, 0, 0, 0, .nop, 1), (353, 99, 0, 0, 0, .nop, 1), (354, 99, 0, 0, 0, .nop, 1), (357, 99, 0, 0, 0, .nop, 1), (359, 99, 0, 0, 0, .nop, 1), (360, 99, 0, 0, 0, .nop, 1), (363, 99, 0, 0, 0, .nop, 1), (365, 99, 0, 0, 0, .nop, 1), (368, 99, 0, 0, 0, .nop, 1), (370, 99, 0, 0, 0, .nop, 1)]
def q_m130 : List qRow := [(0, 49, 2, 0, 0, .aload_n 2, 1), (1, 0, 0, 0, 0, .iconst 0, 1), (2, 49, 0, 0, 0, .aload_n 0, 1), (3, 1, 1, 0, 0, .iload_n 1, 1), (4, 35, 131, 289, 945, .invokevirtual 86, 3), (7, 99, 0, 0, 0, .nop, 1), (8, 99, 0, 0, 0, .nop, 1), (9, 99, 0, 0, 0, .nop, 1), (12, 50, 3, 0, 0, .astore_n 3, 1), (13, 0, 1, 0, 0, .iconst 1, 1), (14, 40, 0, 0, 0, .ireturn, 1), (15, 50, 3, 0, 0, .astore_n 3, 1), (16, 0, 2, 0, 0, .iconst 2, 1), (17, 40, 0, 0, 0, .ireturn, 1), (18, 99, 0, 0, 0, .nop, 1), (19, 99, 0, 0, 0, .nop, 1)]
def q_m131 : List qRow := [(0, 49, 0, 0, 0, .aload_n 0, 1), (1, 1, 1, 0, 0, .iload_n 1, 1), (2, 35, 14, 289, 488, .invokevirtual 87, 3), (5, 50, 2, 0, 0, .astore_n 2, 1), (6, 49, 0, 0, 0, .aload_n 0, 1), (7, 35, 89, 288, 836, .invokevirtual 233, 3), (10, 2, 3, 0, 0, .istore_n 3, 1), (11, 49, 0, 0, 0, .aload_n 0, 1), (12, 21, 9, 5, 312, .getfield 40, 3), (15, 21, 6, 4, 215, .getfield 283, 3), (18, 14, 0, 19, 0, .ifCond .eq 19, 3), (21, 99, 0, 0, 0, .nop, 1), (22, 99, 0, 0, 0, .nop, 1), (25, 99, 0, 0, 0, .nop, 1), (28, 99, 0, 0, 0, .nop, 1), (29, 99, 0, 0, 0, .nop, 1), (30, 99, 0, 0, 0, .nop, 1), (33, 99, 0, 0, 0, .nop, 1), (34, 99, 0, 0, 0, .nop, 1), (37, 0, 0, 0, 0, .iconst 0, 1), (38, 36, 23, 1, 559, .invokestatic 107, 3), (41, 99, 0, 0, 0, .nop, 1), (43, 99, 0, 0, 0, .nop, 1), (46, 99, 0, 0, 0, .nop, 1), (48, 99, 0, 0, 0, .nop, 1), (49, 99, 0, 0, 0, .nop, 1), (52, 99, 0, 0, 0, .nop, 1), (54, 99, 0, 0, 0, .nop, 1), (55, 99, 0, 0, 0, .nop, 1), (58, 99, 0, 0, 0, .nop, 1), (60, 99, 0, 0, 0, .nop, 1), (61, 99, 0, 0, 0, .nop, 1), (62, 99, 0, 0, 0, .nop, 1), (65, 99, 0, 0, 0, .nop, 1), (67, 99, 0, 0, 0, .nop, 1), (70, 99, 0, 0, 0, .nop, 1), (73, 99, 0, 0, 0, .nop, 1), (74, 99, 0, 0, 0, .nop, 1), (76, 99, 0, 0, 0, .nop, 1), (79, 99, 0, 0, 0, .nop, 1), (80, 99, 0, 0, 0, .nop, 1), (82, 99, 0, 0, 0, .nop, 1), (85, 99, 0, 0, 0, .nop, 1), (86, 99, 0, 0, 0, .nop, 1), (89, 99, 0, 0, 0, .nop, 1), (92, 99, 0, 0, 0, .nop, 1), (95, 99, 0, 0, 0, .nop, 1), (96, 99, 0, 0, 0, .nop, 1), (99, 99, 0, 0, 0, .nop, 1), (100, 99, 0, 0, 0, .nop, 1), (103, 99, 0, 0, 0, .nop, 1), (104, 99, 0, 0, 0, .nop, 1), (107, 99, 0, 0, 0, .nop, 1), (109, 99, 0, 0, 0, .nop, 1), (110, 99, 0, 0, 0, .nop, 1), (111, 99, 0, 0, 0, .nop, 1), (114, 99, 0, 0, 0, .nop, 1), (115, 99, 0, 0, 0, .nop, 1), (116, 99, 0, 0, 0, .nop, 1), (119, 99, 0, 0, 0, .nop, 1), (120, 99, 0, 0, 0, .nop, 1), (122, 99, 0, 0, 0, .nop, 1), (124, 99, 0, 0, 0, .nop, 1), (126, 99, 0, 0, 0, .nop, 1), (129, 99, 0, 0, 0, .nop, 1), (130, 99, 0, 0, 0, .nop, 1), (133, 99, 0, 0, 0, .nop, 1), (136, 99, 0, 0, 0, .nop, 1), (138, 99, 0, 0, 0, .nop, 1), (139, 99, 0, 0, 0, .nop, 1), (141, 99, 0, 0, 0, .nop, 1), (143, 99, 0, 0, 0, .nop, 1), (146, 99, 0, 0, 0, .nop, 1), (148, 99, 0, 0, 0, .nop, 1), (150, 99, 0, 0, 0, .nop, 1), (153, 99, 0, 0, 0, .nop, 1), (155, 99, 0, 0, 0, .nop, 1), (157, 99, 0, 0, 0, .nop, 1), (159, 99, 0, 0, 0, .nop, 1), (161, 99, 0, 0, 0, .nop, 1), (162, 99, 0, 0, 0, .nop, 1), (165, 99, 0, 0, 0, .nop, 1), (168, 99, 0, 0, 0, .nop, 1), (171, 99, 0, 0, 0, .nop, 1), (172, 99, 0, 0, 0, .nop, 1), (175, 99, 0, 0, 0, .nop, 1), (176, 99, 0, 0, 0, .nop, 1), (177, 99, 0, 0, 0, .nop, 1), (179, 99, 0, 0, 0, .nop, 1), (182, 99, 0, 0, 0, .nop, 1), (183, 99, 0, 0, 0, .nop, 1)]
def q_m132 : List qRow := [(0, 49, 0, 0, 0, .aload_n 0, 1), (1, 21, 10, 5, 1038, .getfield 123, 3), (4, 2, 2, 0, 0, .istore_n 2, 1), (5, 49, 0, 0, 0, .aload_n 0, 1), (6, 1, 1, 0, 0, .iload_n 1, 1), (7, 35, 17, 321, 1154, .invokevirtual 99, 3), (10, 14, 1, 9, 0, .ifCond .ne 7, 3), (13, 0, 1, 0, 0, .iconst 1, 1), (14, 20, 24, 0, 0, .goto 33, 3), (17, 49, 0, 0, 0, .aload_n 0, 1), (18, 21, 10, 19, 1052, .getfield 267, 3), (21, 14, 0, 21, 0, .ifCond .eq 21, 3), (24, 99, 0, 0, 0, .nop, 1), (25, 99, 0, 0, 0, .nop, 1), (28, 99, 0, 0, 0, .nop, 1), (29, 99, 0, 0, 0, .nop, 1), (30, 99, 0, 0, 0, .nop, 1), (33, 99, 0, 0, 0, .nop, 1), (34, 99, 0, 0, 0, .nop, 1), (37, 99, 0, 0, 0, .nop, 1), (39, 99, 0, 0, 0, .nop, 1), (42, 0, 2, 0, 0, .iconst 2, 1), (43, 20, 24, 0, 0, .goto 4, 3), (46, 99, 0, 0, 0, .nop, 1), (47, 2, 3, 0, 0, .istore_n 3, 1), (48, 1, 3, 0, 0, .iload_n 3, 1), (49, 14, 1, 32, 0, .ifCond .ne 12, 3), (52, 99, 0, 0, 0, .nop, 1), (53, 99, 0, 0, 0, .nop, 1), (56, 99, 0, 0, 0, .nop, 1), (59, 99, 0, 0, 0, .nop, 1), (60, 99, 0, 0, 0, .nop, 1), (61, 49, 0, 0, 0, .aload_n 0, 1), (62, 1, 3, 0, 0, .iload_n 3, 1), (63, 35, 19, 321, 1166, .invokevirtual 169, 3), (66, 14, 0, 41, 0, .ifCond .eq 10, 3), (69, 49, 0, 0, 0, .aload_n 0, 1), (70, 1, 2, 0, 0, .iload_n 2, 1), (71, 35, 55, 321, 1274, .invokevirtual 207, 3), (74, 0, 4294967295, 0, 0, .iconst (-1), 1), (75, 40, 0, 0, 0, .ireturn, 1), (76, 99, 0, 0, 0, .nop, 1), (77, 99, 0, 0, 0, .nop, 1), (80, 99, 0, 0, 0, .nop, 1), (82, 99, 0, 0, 0, .nop, 1), (83, 99, 0, 0, 0, .nop, 1), (85, 99, 0, 0, 0, .nop, 1), (86, 99, 0, 0, 0, .nop, 1), (87, 99, 0, 0, 0, .nop, 1), (90, 99, 0, 0, 0, .nop, 1), (93, 99, 0, 0, 0, .nop, 1), (96, 99, 0, 0, 0, .nop, 1), (97, 99, 0, 0, 0, .nop, 1), (99, 99, 0, 0, 0, .nop, 1), (102, 99, 0, 0, 0, .nop, 1), (103, 99, 0, 0, 0, .nop, 1), (105, 99, 0, 0, 0, .nop, 1), (107, 99, 0, 0, 0, .nop, 1), (108, 99, 0, 0, 0, .nop, 1), (111, 99, 0, 0, 0, .nop, 1), (114, 99, 0, 0, 0, .nop, 1), (115, 99, 0, 0, 0, .nop, 1), (118, 99, 0, 0, 0, .nop, 1), (120, 99, 0, 0, 0, .nop, 1), (121, 99, 0, 0, 0, .nop, 1), (122, 99, 0, 0, 0, .nop, 1), (124, 99, 0, 0, 0, .nop, 1), (127, 99, 0, 0, 0, .nop, 1), (128, 99, 0, 0, 0, .nop, 1), (131, 99, 0, 0, 0, .nop, 1), (134, 99, 0, 0, 0, .nop, 1), (135, 99, 0, 0, 0, .nop, 1), (137, 99, 0, 0, 0, .nop, 1), (139, 99, 0, 0, 0, .nop, 1), (141, 99, 0, 0, 0, .nop, 1), (144, 99, 0, 0, 0, .nop, 1), (145, 99, 0, 0, 0, .nop, 1), (148, 99, 0, 0, 0, .nop, 1), (150, 99, 0, 0, 0, .nop, 1), (151, 99, 0, 0, 0, .nop, 1), (154, 99, 0, 0, 0, .nop, 1), (156, 99, 0, 0, 0, .nop, 1), (157, 99, 0, 0, 0, .nop, 1), (158, 99, 0, 0, 0, .nop, 1), (160, 99, 0, 0, 0, .nop, 1), (161, 99, 0, 0, 0, .nop, 1), (162, 99, 0, 0, 0, .nop, 1), (165, 99, 0, 0, 0, .nop, 1), (167, 99, 0, 0, 0, .nop, 1), (168, 99, 0, 0, 0, .nop, 1), (171, 99, 0, 0, 0, .nop, 1), (172, 99, 0, 0, 0, .nop, 1), (175, 99, 0, 0, 0, .nop, 1), (176, 99, 0, 0, 0, .nop, 1), (179, 99, 0, 0, 0, .nop, 1), (180, 99, 0, 0, 0, .nop, 1), (183, 99, 0, 0, 0, .nop, 1), (185, 99, 0, 0, 0, .nop, 1), (186, 99, 0, 0, 0, .nop, 1), (187, 99, 0, 0, 0, .nop, 1), (188, 99, 0, 0, 0, .nop, 1), (189, 99, 0, 0, 0, .nop, 1), (190, 99, 0, 0, 0, .nop, 1), (191, 99, 0, 0, 0, .nop, 1), (192, 99, 0, 0, 0, .nop, 1), (195, 99, 0, 0, 0, .nop, 1), (198, 99, 0, 0, 0, .nop, 1), (199, 99, 0, 0, 0, .nop, 1), (202, 99, 0, 0, 0, .nop, 1), (204, 99, 0, 0, 0, .nop, 1)]
def q_m133 : List qRow := [(0, 49, 2, 0, 0, .aload_n 2, 1), (1, 0, 0, 0, 0, .iconst 0, 1), (2, 49, 0, 0, 0, .aload_n 0, 1), (3, 1, 1, 0, 0, .iload_n 1, 1), (4, 35, 134, 289, 968, .invokevirtual 89, 3), (7, 45, 0, 0, 0, .i2l, 1), (8, 27, 0, 0, 0, .lastore, 1), (9, 20, 11, 0, 0, .goto 6, 3), (12, 50, 3, 0, 0, .astore_n 3, 1), (13, 0, 1, 0, 0, .iconst 1, 1), (14, 40, 0, 0, 0, .ireturn, 1), (15, 0, 0, 0, 0, .iconst 0, 1), (16, 40, 0, 0, 0, .ireturn, 1)]
def q_m134 : List qRow := [(0, 1, 1, 0, 0, .iload_n 1, 1), (1, 14, 0, 5, 0, .ifCond .eq 8, 3), (4, 1, 1, 0, 0, .iload_n 1, 1), (5, 0, 1, 0, 0, .iconst 1, 1), (6, 15, 1, 7, 0, .if_icmp .ne 7, 3), (9, 0, 1, 0, 0, .iconst 1, 1), (10, 20, 8, 0, 0, .goto 4, 3), (13, 0, 0, 0, 0, .iconst 0, 1), (14, 36, 59, 1, 628, .invokestatic 147, 3), (17, 49, 0, 0, 0, .aload_n 0, 1), (18, 21, 9, 0, 307, .getfield 10, 3), (21, 21, 0, 3, 152, .getfield 299, 3), (24, 2, 2, 0, 0, .istore_n 2, 1), (25, 49, 0, 0, 0, .aload_n 0, 1), (26, 21, 9, 0, 307, .getfield 10, 3), (29, 1, 1, 0, 0, .iload_n 1, 1), (30, 22, 0, 3, 608, .putfield 299, 3), (33, 1, 2, 0, 0, .iload_n 2, 1), (34, 40, 0, 0, 0, .ireturn, 1)]
def q_m135 : List qRow := [(0, 49, 0, 0, 0, .aload_n 0, 1), (1, 49, 0, 0, 0, .aload_n 0, 1), (2, 1, 1, 0, 0, .iload_n 1, 1), (3, 0, 0, 0, 0, .iconst 0, 1), (4, 0, 1, 0, 0, .iconst 1, 1), (5, 35, 18, 323, 1158, .invokevirtual 95, 3), (8, 14, 0, 9, 0, .ifCond .eq 7, 3), (11, 0, 0, 0, 0, .iconst 0, 1), (12, 20, 10, 0, 0, .goto 4, 3), (15, 0, 1, 0, 0, .iconst 1, 1), (16, 35, 19, 321, 1166, .invokevirtual 169, 3), (19, 14, 0, 14, 0, .ifCond .eq 5, 3), (22, 0, 4294967295, 0, 0, .iconst (-1), 1), (23, 40, 0, 0, 0, .ireturn, 1), (24, 49, 0, 0, 0, .aload_n 0, 1), (25, 21, 10, 24, 1057, .getfield 120, 3), (28, 2, 2, 0, 0, .istore_n 2, 1), (29, 49, 0, 0, 0, .aload_n 0, 1), (30, 1, 1, 0, 0, .iload_n 1, 1), (31, 22, 10, 24, 4228, .putfield 120, 3), (34, 1, 2, 0, 0, .iload_n 2, 1), (35, 40, 0, 0, 0, .ireturn, 1)]
def q_m136 : List qRow := [(0, 49, 2, 0, 0, .aload_n 2, 1), (1, 0, 0, 0, 0, .iconst 0, 1), (2, 49, 0, 0, 0, .aload_n 0, 1), (3, 1, 1, 0, 0, .iload_n 1, 1), (4, 35, 137, 289, 975, .invokevirtual 92, 3), (7, 45, 0, 0, 0, .i2l, 1), (8, 27, 0, 0, 0, .lastore, 1), (9, 20, 11, 0, 0, .goto 6, 3), (12, 50, 3, 0, 0, .astore_n 3, 1), (13, 0, 1, 0, 0, .iconst 1, 1), (14, 40, 0, 0, 0, .ireturn, 1), (15, 0, 0, 0, 0, .iconst 0, 1), (16, 40, 0, 0, 0, .ireturn, 1)]
def q_m137 : List qRow := [(0, 1, 1, 0, 0, .iload_n 1, 1), (1, 14, 0, 5, 0, .ifCond .eq 8, 3), (4, 1, 1, 0, 0, .iload_n 1, 1), (5, 0, 1, 0, 0, .iconst 1, 1), (6, 15, 1, 7, 0, .if_icmp .ne 7, 3), (9, 0, 1, 0, 0, .iconst 1, 1), (10, 20, 8, 0, 0, .goto 4, 3), (13, 0, 0, 0, 0, .iconst 0, 1), (14, 36, 59, 1, 628, .invokestatic 147, 3), (17, 49, 0, 0, 0, .aload_n 0, 1), (18, 21, 9, 0, 307, .getfield 10, 3), (21, 1, 1, 0, 0, .iload_n 1, 1), (22, 35, 139, 1, 979, .invokevirtual 302, 3), (25, 40, 0, 0, 0, .ireturn, 1)]
def q_m138 : List qRow := [(0, 49, 0, 0, 0, .aload_n 0, 1), (1, 49, 0, 0, 0, .aload_n 0, 1), (2, 1, 1, 0, 0, .iload_n 1, 1), (3, 0, 0, 0, 0, .iconst 0, 1), (4, 0, 1, 0, 0, .iconst 1, 1), (5, 35, 18, 323, 1158, .invokevirtual 95, 3), (8, 14, 0, 9, 0, .ifCond .eq 7, 3), (11, 0, 0, 0, 0, .iconst 0, 1), (12, 20, 10, 0, 0, .goto 4, 3), (15, 0, 1, 0, 0, .iconst 1, 1), (16, 35, 19, 321, 1166, .invokevirtual 169, 3), (19, 14, 0, 14, 0, .ifCond .eq 5, 3), (22, 0, 4294967295, 0, 0, .iconst (-1), 1), (23, 40, 0, 0, 0, .ireturn, 1), (24, 0, 0, 0, 0, .iconst 0, 1), (25, 2, 2, 0, 0, .istore_n 2, 1), (26, 49, 0, 0, 0, .aload_n 0, 1), (27, 0, 4294967295, 0, 0, .iconst (-1), 1), (28, 35, 140, 321, 1438, .invokevirtual 281, 3), (31, 2, 3, 0, 0, .istore_n 3, 1), (32, 1, 3, 0, 0, .iload_n 3, 1), (33, 14, 2, 122, 0, .ifCond .lt 169, 3), (36, 99, 0, 0, 0, .nop, 1), (37, 99, 0, 0, 0, .nop, 1), (40, 99, 0, 0, 0, .nop, 1), (41, 99, 0, 0, 0, .nop, 1), (44, 99, 0, 0, 0, .nop, 1), (45, 99, 0, 0, 0, .nop, 1), (46, 99, 0, 0, 0, .nop, 1), (47, 99, 0, 0, 0, .nop, 1), (50, 99, 0, 0, 0, .nop, 1), (51, 99, 0, 0, 0, .nop, 1), (54, 99, 0, 0, 0, .nop, 1), (55, 99, 0, 0, 0, .nop, 1), (56, 99, 0, 0, 0, .nop, 1), (57, 99, 0, 0, 0, .nop, 1), (60, 99, 0, 0, 0, .nop, 1), (61, 99, 0, 0, 0, .nop, 1), (64, 99, 0, 0, 0, .nop, 1), (65, 99, 0, 0, 0, .nop, 1), (67, 99, 0, 0, 0, .nop, 1), (68, 99, 0, 0, 0, .nop, 1), (71, 99, 0, 0, 0, .nop, 1), (72, 99, 0, 0, 0, .nop, 1), (73, 99, 0, 0, 0, .nop, 1), (75, 99, 0, 0, 0, .nop, 1), (76, 99, 0, 0, 0, .nop, 1), (77, 99, 0, 0, 0, .nop, 1), (78, 99, 0, 0, 0, .nop, 1), (81, 99, 0, 0, 0, .nop, 1), (82, 99, 0, 0, 0, .nop, 1), (83, 99, 0, 0, 0, .nop, 1), (84, 99, 0, 0, 0, .nop, 1), (85, 99, 0, 0, 0, .nop, 1), (88, 99, 0, 0, 0, .nop, 1), (89, 99, 0, 0, 0, .nop, 1), (90, 99, 0, 0, 0, .nop, 1), (91, 99, 0, 0, 0, .nop, 1), (92, 99, 0, 0, 0, .nop, 1), (95, 99, 0, 0, 0, .nop, 1), (96, 99, 0, 0, 0, .nop, 1), (97, 99, 0, 0, 0, .nop, 1), (100, 99, 0, 0, 0, .nop, 1), (101, 99, 0, 0, 0, .nop, 1), (104, 99, 0, 0, 0, .nop, 1), (105, 99, 0, 0, 0, .nop, 1), (106, 99, 0, 0, 0, .nop, 1), (107, 99, 0, 0, 0, .nop, 1), (110, 99, 0, 0, 0, .nop, 1), (111, 99, 0, 0, 0, .nop, 1), (112, 99, 0, 0, 0, .nop, 1), (115, 99, 0, 0, 0, .nop, 1), (118, 99, 0, 0, 0, .nop, 1), (119, 99, 0, 0, 0, .nop, 1), (120, 99, 0, 0, 0, .nop, 1), (123, 99, 0, 0, 0, .nop, 1), (124, 99, 0, 0, 0, .nop, 1), (125, 99, 0, 0, 0, .nop, 1), (126, 99, 0, 0, 0, .nop, 1), (129, 99, 0, 0, 0, .nop, 1), (130, 99, 0, 0, 0, .nop, 1), (133, 99, 0, 0, 0, .nop, 1), (134, 99, 0, 0, 0, .nop, 1), (137, 99, 0, 0, 0, .nop, 1), (138, 99, 0, 0, 0, .nop, 1), (139, 99, 0, 0, 0, .nop, 1), (142, 99, 0, 0, 0, .nop, 1), (145, 99, 0, 0, 0, .nop, 1), (146, 99, 0, 0, 0, .nop, 1), (149, 99, 0, 0, 0, .nop, 1), (150, 99, 0, 0, 0, .nop, 1), (151, 99, 0, 0, 0, .nop, 1), (152, 99, 0, 0, 0, .nop, 1), (153, 99, 0, 0, 0, .nop, 1), (154, 99, 0, 0, 0, .nop, 1), (157, 99, 0, 0, 0, .nop, 1), (158, 99, 0, 0, 0, .nop, 1), (159, 99, 0, 0, 0, .nop, 1), (160, 99, 0, 0, 0, .nop, 1), (163, 99, 0, 0, 0, .nop, 1), (164, 99, 0, 0, 0, .nop, 1), (167, 99, 0, 0, 0, .nop, 1), (168, 99, 0, 0, 0, .nop, 1), (169, 99, 0, 0, 0, .nop, 1), (170, 99, 0, 0, 0, .nop, 1), (173, 99, 0, 0, 0, .nop, 1), (174, 99, 0, 0, 0, .nop, 1), (177, 99, 0, 0, 0, .nop, 1), (178, 99, 0, 0, 0, .nop, 1), (181, 99, 0, 0, 0, .nop, 1), (182, 99, 0, 0, 0, .nop, 1), (185, 99, 0, 0, 0, .nop, 1), (186, 99, 0, 0, 0, .nop, 1), (187, 99, 0, 0, 0, .nop, 1), (188, 99, 0, 0, 0, .nop, 1), (189, 99, 0, 0, 0, .nop, 1), (190, 99, 0, 0, 0, .nop, 1), (193, 99, 0, 0, 0, .nop, 1), (194, 99, 0, 0, 0, .nop, 1), (195, 99, 0, 0, 0, .nop, 1), (198, 99, 0, 0, 0, .nop, 1), (199, 99, 0, 0, 0, .nop, 1), (202, 1, 2, 0, 0, .iload_n 2, 1), (203, 40, 0, 0, 0, .ireturn, 1)]
def q_m139 : List qRow := [(0, 0, 0, 0, 0, .iconst 0, 1), (1, 2, 2, 0, 0, .istore_n 2, 1), (2, 0, 0, 0, 0, .iconst 0, 1), (3, 2, 3, 0, 0, .istore_n 3, 1), (4, 1, 3, 0, 0, .iload_n 3, 1), (5, 49, 0, 0, 0, .aload_n 0, 1), (6, 21, 0, 2, 150, .getfield 21, 3), (9, 15, 3, 50, 0, .if_icmp .ge 89, 3), (12, 99, 0, 0, 0, .nop, 1), (13, 99, 0, 0, 0, .nop, 1), (16, 99, 0, 0, 0, .nop, 1), (17, 99, 0, 0, 0, .nop, 1), (18, 99, 0, 0, 0, .nop, 1), (20, 99, 0, 0, 0, .nop, 1), (21, 99, 0, 0, 0, .nop, 1), (24, 99, 0, 0, 0, .nop, 1), (26, 99, 0, 0, 0, .nop, 1), (29, 99, 0, 0, 0, .nop, 1), (30, 99, 0, 0, 0, .nop, 1), (33, 99, 0, 0, 0, .nop, 1), (34, 99, 0, 0, 0, .nop, 1), (36, 99, 0, 0, 0, .nop, 1), (39, 99, 0, 0, 0, .nop, 1), (42, 99, 0, 0, 0, .nop, 1), (43, 99, 0, 0, 0, .nop, 1), (44, 99, 0, 0, 0, .nop, 1), (47, 99, 0, 0, 0, .nop, 1), (49, 99, 0, 0, 0, .nop, 1), (52, 99, 0, 0, 0, .nop, 1), (53, 99, 0, 0, 0, .nop, 1), (56, 99, 0, 0, 0, .nop, 1), (57, 99, 0, 0, 0, .nop, 1), (59, 99, 0, 0, 0, .nop, 1), (62, 99, 0, 0, 0, .nop, 1), (64, 99, 0, 0, 0, .nop, 1), (67, 99, 0, 0, 0, .nop, 1), (68, 99, 0, 0, 0, .nop, 1), (71, 99, 0, 0, 0, .nop, 1), (72, 99, 0, 0, 0, .nop, 1), (75, 99, 0, 0, 0, .nop, 1), (76, 99, 0, 0, 0, .nop, 1), (77, 99, 0, 0, 0, .nop, 1), (78, 99, 0, 0, 0, .nop, 1), (81, 99, 0, 0, 0, .nop, 1), (82, 99, 0, 0, 0, .nop, 1), (85, 99, 0, 0, 0, .nop, 1), (86, 99, 0, 0, 0, .nop, 1), (89, 99, 0, 0, 0, .nop, 1), (92, 99, 0, 0, 0, .nop, 1), (95, 99, 0, 0, 0, .nop, 1), (98, 1, 2, 0, 0, .iload_n 2, 1), (99, 40, 0, 0, 0, .ireturn, 1)]
def q_m140 : List qRow := [(0, 0, 4294967295, 0, 0, .iconst (-1), 1), (1, 2, 2, 0, 0, .istore_n 2, 1), (2, 0, 0, 0, 0, .iconst 0, 1), (3, 2, 3, 0, 0, .istore_n 3, 1), (4, 1, 3, 0, 0, .iload_n 3, 1), (5, 0, 200, 0, 0, .sipush 200, 3), (8, 15, 3, 35, 0, .if_icmp .ge 53, 3), (11, 49, 0, 0, 0, .aload_n 0, 1), (12, 21, 10, 1, 1034, .getfield 13, 3), (15, 1, 3, 0, 0, .iload_n 3, 1), (16, 24, 0, 0, 0, .iaload, 1), (17, 14, 5, 31, 0, .ifCond .le 36, 3), (20, 99, 0, 0, 0, .nop, 1), (21, 99, 0, 0, 0, .nop, 1), (24, 99, 0, 0, 0, .nop, 1), (25, 99, 0, 0, 0, .nop, 1), (26, 99, 0, 0, 0, .nop, 1), (27, 99, 0, 0, 0, .nop, 1), (30, 99, 0, 0, 0, .nop, 1), (31, 99, 0, 0, 0, .nop, 1), (34, 99, 0, 0, 0, .nop, 1), (35, 99, 0, 0, 0, .nop, 1), (38, 99, 0, 0, 0, .nop, 1), (39, 99, 0, 0, 0, .nop, 1), (40, 99, 0, 0, 0, .nop, 1), (41, 99, 0, 0, 0, .nop, 1), (44, 99, 0, 0, 0, .nop, 1), (45, 99, 0, 0, 0, .nop, 1), (46, 99, 0, 0, 0, .nop, 1), (49, 99, 0, 0, 0, .nop, 1), (50, 99, 0, 0, 0, .nop, 1), (53, 1, 2, 0, 0, .iload_n 2, 1), (54, 2, 2, 0, 0, .istore_n 2, 1), (55, 3, 3, 1, 0, .iinc 3 1, 3), (58, 20, 4, 0, 0, .goto (-54), 3), (61, 1, 2, 0, 0, .iload_n 2, 1), (62, 40, 0, 0, 0, .ireturn, 1)]
def q_m141 : List qRow := [(0, 49, 5, 0, 0, .aload 5, 2), (2, 0, 0, 0, 0, .iconst 0, 1), (3, 49, 0, 0, 0, .aload_n 0, 1), (4, 1, 1, 0, 0, .iload_n 1, 1), (5, 1, 2, 0, 0, .iload_n 2, 1), (6, 1, 3, 0, 0, .iload_n 3, 1), (7, 1, 4, 0, 0, .iload 4, 2), (9, 35, 142, 292, 994, .invokevirtual 95, 3), (12, 99, 0, 0, 0, .nop, 1), (15, 99, 0, 0, 0, .nop, 1), (16, 99, 0, 0, 0, .nop, 1), (19, 99, 0, 0, 0, .nop, 1), (20, 99, 0, 0, 0, .nop, 1), (21, 99, 0, 0, 0, .nop, 1), (24, 50, 6, 0, 0, .astore 6, 2), (26, 0, 1, 0, 0, .iconst 1, 1), (27, 40, 0, 0, 0, .ireturn, 1), (28, 50, 6, 0, 0, .astore 6, 2), (30, 0, 2, 0, 0, .iconst 2, 1), (31, 40, 0, 0, 0, .ireturn, 1), (32, 99, 0, 0, 0, .nop, 1), (33, 99, 0, 0, 0, .nop, 1)]
def q_m142 : List qRow := [(0, 1, 1, 0, 0, .iload_n 1, 1), (1, 36, 143, 1, 998, .invokestatic 305, 3), (4, 49, 0, 0, 0, .aload_n 0, 1), (5, 1, 2, 0, 0, .iload_n 2, 1), (6, 1, 3, 0, 0, .iload_n 3, 1), (7, 1, 4, 0, 0, .iload 4, 2), (9, 35, 78, 291, 802, .invokevirtual 217, 3), (12, 99, 0, 0, 0, .nop, 1), (15, 99, 0, 0, 0, .nop, 1), (17, 99, 0, 0, 0, .nop, 1), (20, 99, 0, 0, 0, .nop, 1), (22, 99, 0, 0, 0, .nop, 1), (24, 99, 0, 0, 0, .nop, 1), (27, 99, 0, 0, 0, .nop, 1), (29, 99, 0, 0, 0, .nop, 1), (30, 99, 0, 0, 0, .nop, 1), (33, 99, 0, 0, 0, .nop, 1), (36, 99, 0, 0, 0, .nop, 1), (37, 99, 0, 0, 0, .nop, 1), (38, 99, 0, 0, 0, .nop, 1), (40, 99, 0, 0, 0, .nop, 1), (41, 99, 0, 0, 0, .nop, 1), (44, 99, 0, 0, 0, .nop, 1), (45, 99, 0, 0, 0, .nop, 1), (46, 99, 0, 0, 0, .nop, 1), (47, 99, 0, 0, 0, .nop, 1), (48, 99, 0, 0, 0, .nop, 1), (51, 99, 0, 0, 0, .nop, 1), (52, 99, 0, 0, 0, .nop, 1)]
def q_m143 : List qRow := [(0, 1, 0, 0, 0, .iload_n 0, 1), (1, 14, 2, 5, 0, .ifCond .lt 8, 3), (4, 1, 0, 0, 0, .iload_n 0, 1), (5, 0, 2, 0, 0, .iconst 2, 1), (6, 15, 2, 9, 0, .if_icmp .lt 11, 3), (9, 43, 0, 492, 336, .new 334, 3), (12, 99, 0, 0, 0, .nop, 1), (13, 99, 0, 0, 0, .nop, 1), (16, 99, 0, 0, 0, .nop, 1), (17, 42, 0, 0, 0, .return_, 1)]
def q_m144 : List qRow := [(0, 49, 0, 0, 0, .aload_n 0, 1), (1, 1, 1, 0, 0, .iload_n 1, 1), (2, 0, 0, 0, 0, .iconst 0, 1), (3, 0, 1, 0, 0, .iconst 1, 1), (4, 35, 18, 323, 1158, .invokevirtual 95, 3), (7, 14, 0, 17, 0, .ifCond .eq 25, 3), (10, 49, 0, 0, 0, .aload_n 0, 1), (11, 1, 2, 0, 0, .iload_n 2, 1), (12, 1, 3, 0, 0, .iload_n 3, 1), (13, 35, 16, 322, 1150, .invokevirtual 162, 3), (16, 14, 0, 17, 0, .ifCond .eq 16, 3), (19, 49, 0, 0, 0, .aload_n 0, 1), (20, 1, 4, 0, 0, .iload 4, 2), (22, 35, 58, 321, 1242, .invokevirtual 195, 3), (25, 14, 0, 17, 0, .ifCond .eq 7, 3), (28, 0, 1, 0, 0, .iconst 1, 1), (29, 20, 18, 0, 0, .goto 4, 3), (32, 0, 0, 0, 0, .iconst 0, 1), (33, 2, 5, 0, 0, .istore 5, 2), (35, 49, 0, 0, 0, .aload_n 0, 1), (36, 1, 5, 0, 0, .iload 5, 2), (38, 14, 1, 24, 0, .ifCond .ne 7, 3), (41, 0, 1, 0, 0, .iconst 1, 1), (42, 20, 32, 0, 0, .goto 17, 3), (45, 49, 0, 0, 0, .aload_n 0, 1), (46, 1, 2, 0, 0, .iload_n 2, 1), (47, 1, 3, 0, 0, .iload_n 3, 1), (48, 35, 31, 322, 1162, .invokevirtual 165, 3), (51, 14, 3, 31, 0, .ifCond .ge 7, 3), (54, 0, 2, 0, 0, .iconst 2, 1), (55, 20, 32, 0, 0, .goto 4, 3), (58, 99, 0, 0, 0, .nop, 1), (59, 35, 19, 321, 1166, .invokevirtual 169, 3), (62, 14, 0, 36, 0, .ifCond .eq 5, 3), (65, 0, 0, 0, 0, .iconst 0, 1), (66, 40, 1, 0, 0, .ireturn, 1), (67, 99, 0, 0, 0, .nop, 1), (68, 99, 0, 0, 0, .nop, 1), (71, 99, 0, 0, 0, .nop, 1), (73, 99, 0, 0, 0, .nop, 1), (74, 99, 0, 0, 0, .nop, 1), (75, 99, 0, 0, 0, .nop, 1), (76, 99, 0, 0, 0, .nop, 1), (79, 99, 0, 0, 0, .nop, 1), (80, 99, 0, 0, 0, .nop, 1), (82, 99, 0, 0, 0, .nop, 1), (83, 99, 0, 0, 0, .nop, 1), (84, 99, 0, 0, 0, .nop, 1), (86, 99, 0, 0, 0, .nop, 1), (88, 99, 0, 0, 0, .nop, 1), (89, 99, 0, 0, 0, .nop, 1), (90, 99, 0, 0, 0, .nop, 1), (91, 99, 0, 0, 0, .nop, 1), (92, 99, 0, 0, 0, .nop, 1), (94, 99, 0, 0, 0, .nop, 1), (96, 99, 0, 0, 0, .nop, 1), (99, 99, 0, 0, 0, .nop, 1), (100, 99, 0, 0, 0, .nop, 1), (103, 99, 0, 0, 0, .nop, 1), (105, 99, 0, 0, 0, .nop, 1), (106, 99, 0, 0, 0, .nop, 1), (107, 99, 0, 0, 0, .nop, 1), (108, 99, 0, 0, 0, .nop, 1), (109, 99, 0, 0, 0, .nop, 1), (110, 99, 0, 0, 0, .nop, 1), (111, 99, 0, 0, 0, .nop, 1), (114, 99, 0, 0, 0, .nop, 1), (115, 99, 0, 0, 0, .nop, 1), (118, 99, 0, 0, 0, .nop, 1), (119, 99, 0, 0, 0, .nop, 1), (121, 99, 0, 0, 0, .nop, 1), (123, 99, 0, 0, 0, .nop, 1), (126, 99, 0, 0, 0, .nop, 1), (127, 99, 0, 0, 0, .nop, 1), (130, 99, 0, 0, 0, .nop, 1), (132, 99, 0, 0, 0, .nop, 1), (133, 99, 0, 0, 0, .nop, 1), (134, 99, 0, 0, 0, .nop, 1), (135, 99, 0, 0, 0, .nop, 1), (136, 99, 0, 0, 0, .nop, 1), (137, 99, 0, 0, 0, .nop, 1), (138, 99, 0, 0, 0, .nop, 1), (139, 99, 0, 0, 0, .nop, 1), (141, 99, 0, 0, 0, .nop, 1)]
def q_m145 : List qRow := [(0, 49, 0, 0, 0, .aload_n 0, 1), (1, 21, 9, 0, 307, .getfield 10, 3), (4, 35, 146, 0, 457, .invokevirtual 314, 3), (7, 40, 0, 0, 0, .ireturn, 1)]
def q_m146 : List qRow := [(0, 49, 0, 0, 0, .aload_n 0, 1), (1, 21, 0, 4, 153, .getfield 28, 3), (4, 2, 1, 0, 0, .istore_n 1, 1), (5, 0, 0, 0, 0, .iconst 0, 1), (6, 2, 2, 0, 0, .istore_n 2, 1), (7, 1, 2, 0, 0, .iload_n 2, 1), (8, 49, 0, 0, 0, .aload_n 0, 1), (9, 21, 0, 2, 150, .getfield 21, 3), (12, 15, 3, 30, 0, .if_icmp .ge 44, 3), (15, 99, 0, 0, 0, .nop, 1), (16, 99, 0, 0, 0, .nop, 1), (19, 99, 0, 0, 0, .nop, 1), (20, 99, 0, 0, 0, .nop, 1), (21, 99, 0, 0, 0, .nop, 1), (22, 99, 0, 0, 0, .nop, 1), (23, 99, 0, 0, 0, .nop, 1), (26, 99, 0, 0, 0, .nop, 1), (29, 99, 0, 0, 0, .nop, 1), (30, 99, 0, 0, 0, .nop, 1), (31, 99, 0, 0, 0, .nop, 1), (34, 99, 0, 0, 0, .nop, 1), (35, 99, 0, 0, 0, .nop, 1), (38, 99, 0, 0, 0, .nop, 1), (41, 99, 0, 0, 0, .nop, 1), (42, 99, 0, 0, 0, .nop, 1), (45, 99, 0, 0, 0, .nop, 1), (46, 99, 0, 0, 0, .nop, 1), (47, 99, 0, 0, 0, .nop, 1), (50, 99, 0, 0, 0, .nop, 1), (53, 99, 0, 0, 0, .nop, 1), (56, 49, 0, 0, 0, .aload_n 0, 1), (57, 21, 0, 4, 153, .getfield 28, 3), (60, 1, 1, 0, 0, .iload_n 1, 1), (61, 5, 0, 0, 0, .isub, 1), (62, 40, 0, 0, 0, .ireturn, 1)]
def q_m147 : List qRow := [(0, 49, 0, 0, 0, .aload_n 0, 1), (1, 0, 0, 0, 0, .iconst 0, 1), (2, 35, 19, 321, 1166, .invokevirtual 169, 3), (5, 13, 0, 0, 0, .pop, 1), (6, 0, 0, 0, 0, .iconst 0, 1), (7, 2, 1, 0, 0, .istore_n 1, 1), (8, 0, 0, 0, 0, .iconst 0, 1), (9, 2, 2, 0, 0, .istore_n 2, 1), (10, 1, 2, 0, 0, .iload_n 2, 1), (11, 0, 200, 0, 0, .sipush 200, 3), (14, 15, 3, 42, 0, .if_icmp .ge 58, 3), (17, 49, 0, 0, 0, .aload_n 0, 1), (18, 21, 10, 1, 1034, .getfield 13, 3), (21, 1, 2, 0, 0, .iload_n 2, 1), (22, 24, 0, 0, 0, .iaload, 1), (23, 14, 5, 40, 0, .ifCond .le 43, 3), (26, 99, 0, 0, 0, .nop, 1), (27, 99, 0, 0, 0, .nop, 1), (30, 99, 0, 0, 0, .nop, 1), (31, 99, 0, 0, 0, .nop, 1), (32, 99, 0, 0, 0, .nop, 1), (33, 99, 0, 0, 0, .nop, 1), (36, 99, 0, 0, 0, .nop, 1), (37, 99, 0, 0, 0, .nop, 1), (40, 99, 0, 0, 0, .nop, 1), (41, 99, 0, 0, 0, .nop, 1), (42, 99, 0, 0, 0, .nop, 1), (43, 99, 0, 0, 0, .nop, 1), (46, 99, 0, 0, 0, .nop, 1), (47, 99, 0, 0, 0, .nop, 1), (50, 99, 0, 0, 0, .nop, 1), (51, 99, 0, 0, 0, .nop, 1), (52, 99, 0, 0, 0, .nop, 1), (53, 99, 0, 0, 0, .nop, 1), (56, 99, 0, 0, 0, .nop, 1), (57, 99, 0, 0, 0, .nop, 1), (60, 99, 0, 0, 0, .nop, 1), (61, 99, 0, 0, 0, .nop, 1), (62, 99, 0, 0, 0, .nop, 1), (63, 99, 0, 0, 0, .nop, 1), (66, 3, 2, 1, 0, .iinc 2 1, 3), (69, 20, 8, 0, 0, .goto (-59), 3), (72, 49, 0, 0, 0, .aload_n 0, 1), (73, 12, 0, 0, 0, .dup, 1), (74, 21, 10, 26, 1059, .getfield 236, 3), (77, 1, 1, 0, 0, .iload_n 1, 1), (78, 4, 0, 0, 0, .iadd, 1), (79, 22, 10, 26, 4236, .putfield 236, 3), (82, 1, 1, 0, 0, .iload_n 1, 1), (83, 40, 0, 0, 0, .ireturn, 1)]
def q_m148 : List qRow := [(0, 49, 2, 0, 0, .aload_n 2, 1), (1, 0, 0, 0, 0, .iconst 0, 1), (2, 49, 0, 0, 0, .aload_n 0, 1), (3, 1, 1, 0, 0, .iload_n 1, 1), (4, 35, 149, 289, 1008, .invokevirtual 99, 3), (7, 45, 0, 0, 0, .i2l, 1), (8, 27, 0, 0, 0, .lastore, 1), (9, 20, 11, 0, 0, .goto 6, 3), (12, 50, 3, 0, 0, .astore_n 3, 1), (13, 0, 1, 0, 0, .iconst 1, 1), (14, 40, 0, 0, 0, .ireturn, 1), (15, 0, 0, 0, 0, .iconst 0, 1), (16, 40, 0, 0, 0, .ireturn, 1)]
def q_m149 : List qRow := [(0, 1, 1, 0, 0, .iload_n 1, 1), (1, 36, 143, 1, 998, .invokestatic 305, 3), (4, 49, 0, 0, 0, .aload_n 0, 1), (5, 21, 9, 0, 307, .getfield 10, 3), (8, 21, 0, 1, 149, .getfield 317, 3), (11, 1, 1, 0, 0, .iload_n 1, 1), (12, 24, 0, 0, 0, .iaload, 1), (13, 40, 0, 0, 0, .ireturn, 1)]
def q_m150 : List qRow := [(0, 49, 0, 0, 0, .aload_n 0, 1), (1, 49, 0, 0, 0, .aload_n 0, 1), (2, 1, 1, 0, 0, .iload_n 1, 1), (3, 0, 0, 0, 0, .iconst 0, 1), (4, 0, 1, 0, 0, .iconst 1, 1), (5, 35, 18, 323, 1158, .invokevirtual 95, 3), (8, 14, 0, 9, 0, .ifCond .eq 7, 3), (11, 0, 0, 0, 0, .iconst 0, 1), (12, 20, 10, 0, 0, .goto 4, 3), (15, 0, 1, 0, 0, .iconst 1, 1), (16, 35, 19, 321, 1166, .invokevirtual 169, 3), (19, 14, 0, 14, 0, .ifCond .eq 7, 3), (22, 0, 4294967295, 0, 0, .iconst (-1), 1), (23, 20, 17, 0, 0, .goto 8, 3), (26, 49, 0, 0, 0, .aload_n 0, 1), (27, 1, 1, 0, 0, .iload_n 1, 1), (28, 35, 151, 321, 1250, .invokevirtual 117, 3), (31, 40, 0, 0, 0, .ireturn, 1)]
def q_m151 : List qRow := [(0, 0, 40, 0, 0, .bipush 40, 2), (2, 2, 2, 0, 0, .istore_n 2, 1), (3, 0, 0, 0, 0, .iconst 0, 1), (4, 2, 3, 0, 0, .istore_n 3, 1), (5, 1, 3, 0, 0, .iload_n 3, 1), (6, 0, 200, 0, 0, .sipush 200, 3), (9, 15, 3, 32, 0, .if_icmp .ge 44, 3), (12, 1, 2, 0, 0, .iload_n 2, 1), (13, 49, 0, 0, 0, .aload_n 0, 1), (14, 21, 10, 1, 1034, .getfield 13, 3), (17, 1, 3, 0, 0, .iload_n 3, 1), (18, 24, 0, 0, 0, .iaload, 1), (19, 14, 5, 27, 0, .ifCond .le 25, 3), (22, 99, 0, 0, 0, .nop, 1), (23, 99, 0, 0, 0, .nop, 1), (26, 99, 0, 0, 0, .nop, 1), (27, 99, 0, 0, 0, .nop, 1), (28, 99, 0, 0, 0, .nop, 1), (29, 99, 0, 0, 0, .nop, 1), (30, 99, 0, 0, 0, .nop, 1), (31, 99, 0, 0, 0, .nop, 1), (32, 99, 0, 0, 0, .nop, 1), (33, 99, 0, 0, 0, .nop, 1), (36, 99, 0, 0, 0, .nop, 1), (37, 99, 0, 0, 0, .nop, 1), (38, 99, 0, 0, 0, .nop, 1), (41, 99, 0, 0, 0, .nop, 1), (44, 0, 0, 0, 0, .iconst 0, 1), (45, 5, 0, 0, 0, .isub, 1), (46, 2, 2, 0, 0, .istore_n 2, 1), (47, 3, 3, 1, 0, .iinc 3 1, 3), (50, 20, 4, 0, 0, .goto (-45), 3), (53, 1, 2, 0, 0, .iload_n 2, 1), (54, 40, 0, 0, 0, .ireturn, 1)]
def q_m152 : List qRow := [(0, 49, 2, 0, 0, .aload_n 2, 1), (1, 0, 0, 0, 0, .iconst 0, 1), (2, 49, 0, 0, 0, .aload_n 0, 1), (3, 1, 1, 0, 0, .iload_n 1, 1), (4, 35, 153, 289, 1015, .invokevirtual 102, 3), (7, 45, 0, 0, 0, .i2l, 1), (8, 27, 0, 0, 0, .lastore, 1), (9, 20, 11, 0, 0, .goto 6, 3), (12, 50, 3, 0, 0, .astore_n 3, 1), (13, 0, 1, 0, 0, .iconst 1, 1), (14, 40, 0, 0, 0, .ireturn, 1), (15, 0, 0, 0, 0, .iconst 0, 1), (16, 40, 0, 0, 0, .ireturn, 1)]
def q_m153 : List qRow := [(0, 1, 1, 0, 0, .iload_n 1, 1), (1, 36, 143, 1, 998, .invokestatic 305, 3), (4, 49, 0, 0, 0, .aload_n 0, 1), (5, 21, 9, 0, 307, .getfield 10, 3), (8, 35, 104, 0, 686, .invokevirtual 320, 3), (11, 2, 2, 0, 0, .istore_n 2, 1), (12, 0, 0, 0, 0, .iconst 0, 1), (13, 2, 3, 0, 0, .istore_n 3, 1), (14, 0, 0, 0, 0, .iconst 0, 1), (15, 2, 4, 0, 0, .istore 4, 2), (17, 1, 4, 0, 0, .iload 4, 2), (19, 0, 6, 0, 0, .bipush 6, 2), (21, 15, 3, 33, 0, .if_icmp .ge 37, 3), (24, 1, 3, 0, 0, .iload_n 3, 1), (25, 49, 0, 0, 0, .aload_n 0, 1), (26, 21, 9, 1, 308, .getfield 20, 3), (29, 1, 4, 0, 0, .iload 4, 2), (31, 28, 0, 0, 0, .aaload, 1), (32, 1, 1, 0, 0, .iload_n 1, 1), (33, 1, 2, 0, 0, .iload_n 2, 1), (34, 36, 155, 3, 1019, .invokestatic 323, 3), (37, 49, 0, 0, 0, .aload_n 0, 1), (38, 21, 9, 2, 309, .getfield 24, 3), (41, 1, 4, 0, 0, .iload 4, 2), (43, 28, 0, 0, 0, .aaload, 1), (44, 1, 1, 0, 0, .iload_n 1, 1), (45, 1, 2, 0, 0, .iload_n 2, 1), (46, 36, 155, 3, 1019, .invokestatic 323, 3), (49, 4, 0, 0, 0, .iadd, 1), (50, 4, 0, 0, 0, .iadd, 1), (51, 2, 3, 0, 0, .istore_n 3, 1), (52, 3, 4, 1, 0, .iinc 4 1, 3), (55, 20, 10, 0, 0, .goto (-38), 3), (58, 0, 0, 0, 0, .iconst 0, 1), (59, 2, 4, 0, 0, .istore 4, 2), (61, 1, 4, 0, 0, .iload 4, 2), (63, 49, 0, 0, 0, .aload_n 0, 1), (64, 21, 9, 4, 311, .getfield 33, 3), (67, 15, 3, 58, 0, .if_icmp .ge 40, 3), (70, 99, 0, 0, 0, .nop, 1), (71, 99, 0, 0, 0, .nop, 1), (74, 99, 0, 0, 0, .nop, 1), (76, 99, 0, 0, 0, .nop, 1), (77, 99, 0, 0, 0, .nop, 1), (79, 99, 0, 0, 0, .nop, 1), (80, 99, 0, 0, 0, .nop, 1), (82, 99, 0, 0, 0, .nop, 1), (85, 99, 0, 0, 0, .nop, 1), (86, 99, 0, 0, 0, .nop, 1), (89, 99, 0, 0, 0, .nop, 1), (91, 99, 0, 0, 0, .nop, 1), (94, 99, 0, 0, 0, .nop, 1), (95, 99, 0, 0, 0, .nop, 1), (96, 99, 0, 0, 0, .nop, 1), (99, 99, 0, 0, 0, .nop, 1), (100, 99, 0, 0, 0, .nop, 1), (101, 99, 0, 0, 0, .nop, 1), (104, 99, 0, 0, 0, .nop, 1), (107, 0, 40, 0, 0, .bipush 40, 2), (109, 1, 3, 0, 0, .iload_n 3, 1), (110, 5, 0, 0, 0, .isub, 1), (111, 40, 0, 0, 0, .ireturn, 1)]
def q_m154 : List qRow := [(0, 49, 0, 0, 0, .aload_n 0, 1), (1, 49, 0, 0, 0, .aload_n 0, 1), (2, 1, 1, 0, 0, .iload_n 1, 1), (3, 0, 0, 0, 0, .iconst 0, 1), (4, 0, 1, 0, 0, .iconst 1, 1), (5, 35, 18, 323, 1158, .invokevirtual 95, 3), (8, 14, 0, 9, 0, .ifCond .eq 7, 3), (11, 0, 0, 0, 0, .iconst 0, 1), (12, 20, 10, 0, 0, .goto 4, 3), (15, 0, 1, 0, 0, .iconst 1, 1), (16, 35, 19, 321, 1166, .invokevirtual 169, 3), (19, 14, 0, 14, 0, .ifCond .eq 5, 3), (22, 0, 4294967295, 0, 0, .iconst (-1), 1), (23, 40, 0, 0, 0, .ireturn, 1), (24, 49, 0, 0, 0, .aload_n 0, 1), (25, 35, 121, 320, 1218, .invokevirtual 159, 3), (28, 49, 0, 0, 0, .aload_n 0, 1), (29, 1, 1, 0, 0, .iload_n 1, 1), (30, 35, 151, 321, 1250, .invokevirtual 117, 3), (33, 40, 0, 0, 0, .ireturn, 1)]
def q_m155 : List qRow := [(0, 0, 0, 0, 0, .iconst 0, 1), (1, 2, 3, 0, 0, .istore_n 3, 1), (2, 0, 0, 0, 0, .iconst 0, 1), (3, 2, 4, 0, 0, .istore 4, 2), (5, 1, 4, 0, 0, .iload 4, 2), (7, 0, 10, 0, 0, .bipush 10, 2), (9, 15, 3, 31, 0, .if_icmp .ge 53, 3), (12, 49, 0, 0, 0, .aload_n 0, 1), (13, 21, 7, 0, 180, .getfield 99, 3), (16, 17, 12, 0, 0, .ifnonnull 7, 3), (19, 11, 0, 0, 0, .aconst_null, 1), (20, 20, 16, 0, 0, .goto 12, 3), (23, 49, 0, 0, 0, .aload_n 0, 1), (24, 21, 7, 0, 180, .getfield 99, 3), (27, 1, 4, 0, 0, .iload 4, 2), (29, 35, 22, 161, 558, .invokevirtual 103, 3), (32, 50, 5, 0, 0, .astore 5, 2), (34, 1, 3, 0, 0, .iload_n 3, 1), (35, 49, 5, 0, 0, .aload 5, 2), (37, 17, 22, 0, 0, .ifnonnull 7, 3), (40, 0, 0, 0, 0, .iconst 0, 1), (41, 20, 27, 0, 0, .goto 13, 3), (44, 99, 0, 0, 0, .nop, 1), (46, 99, 0, 0, 0, .nop, 1), (49, 99, 0, 0, 0, .nop, 1), (50, 99, 0, 0, 0, .nop, 1), (51, 99, 0, 0, 0, .nop, 1), (54, 4, 0, 0, 0, .iadd, 1), (55, 2, 3, 0, 0, .istore_n 3, 1), (56, 3, 4, 1, 0, .iinc 4 1, 3), (59, 20, 4, 0, 0, .goto (-54), 3), (62, 1, 3, 0, 0, .iload_n 3, 1), (63, 40, 0, 0, 0, .ireturn, 1)]
def q_m156 : List qRow := [(0, 49, 0, 0, 0, .aload_n 0, 1), (1, 21, 9, 8, 315, .getfield 50, 3), (4, 40, 0, 0, 0, .ireturn, 1)]
def q_m157 : List qRow := [(0, 49, 0, 0, 0, .aload_n 0, 1), (1, 0, 0, 0, 0, .iconst 0, 1), (2, 35, 19, 321, 1166, .invokevirtual 169, 3), (5, 13, 0, 0, 0, .pop, 1), (6, 49, 0, 0, 0, .aload_n 0, 1), (7, 21, 10, 25, 1058, .getfield 143, 3), (10, 40, 0, 0, 0, .ireturn, 1)]
def q_m158 : List qRow := [(0, 49, 0, 0, 0, .aload_n 0, 1), (1, 21, 9, 0, 307, .getfield 10, 3), (4, 21, 0, 4, 154, .getfield 331, 3), (7, 40, 0, 0, 0, .ireturn, 1)]
def q_m159 : List qRow := [(0, 49, 0, 0, 0, .aload_n 0, 1), (1, 0, 0, 0, 0, .iconst 0, 1), (2, 35, 19, 321, 1166, .invokevirtual 169, 3), (5, 13, 0, 0, 0, .pop, 1), (6, 49, 0, 0, 0, .aload_n 0, 1), (7, 21, 10, 26, 1059, .getfield 236, 3), (10, 40, 0, 0, 0, .ireturn, 1)]
set_option maxRecDepth 100000 in
def q_law : List qRow := [(0, 33, 9, 93, 94, .new 8, 3), (3, 12, 0, 0, 0, .dup, 1), (4, 37, 0, 288, 95, .invokespecial 105, 3), (7, 50, 1, 0, 0, .astore_n 1, 1), (8, 33, 10, 1027, 1028, .new 106, 3), (11, 12, 0, 0, 0, .dup, 1), (12, 37, 11, 320, 1029, .invokespecial 108, 3), (15, 50, 2, 0, 0, .astore_n 2, 1), (16, 0, 1, 0, 0, .iconst 1, 1), (17, 30, 1, 1466, 0, .newarray .long, 2), (19, 50, 3, 0, 0, .astore_n 3, 1), (20, 0, 0, 0, 0, .iconst 0, 1), (21, 2, 4, 0, 0, .istore 4, 2), (23, 1, 4, 0, 0, .iload 4, 2), (25, 49, 0, 0, 0, .aload_n 0, 1), (26, 23, 0, 0, 0, .arraylength, 1), (27, 0, 8, 0, 0, .bipush 8, 2), (29, 5, 0, 0, 0, .isub, 1), (30, 15, 4, 1421, 0, .if_icmp .gt 2240, 3), (33, 49, 0, 0, 0, .aload_n 0, 1), (34, 1, 4, 0, 0, .iload 4, 2), (36, 24, 0, 0, 0, .iaload, 1), (37, 0, 31, 0, 0, .bipush 31, 2), (39, 7, 0, 0, 0, .iand, 1), (40, 44, 0, 1419, 0, .tableswitch 2224 0 30 #[140, 208, 288, 356, 444, 512, 630, 722, 854, 993, 1061, 1141, 1221, 1301, 1385, 1441, 1501, 1569, 1644, 1657, 1725, 1738, 1806, 1862, 1918, 1974, 2073, 2086, 2142, 2198, 2211], 140), (180, 49, 1, 0, 0, .aload_n 1, 1), (181, 49, 0, 0, 0, .aload_n 0, 1), (182, 1, 4, 0, 0, .iload 4, 2), (184, 0, 1, 0, 0, .iconst 1, 1), (185, 4, 0, 0, 0, .iadd, 1), (186, 24, 0, 0, 0, .iaload, 1), (187, 49, 0, 0, 0, .aload_n 0, 1), (188, 1, 4, 0, 0, .iload 4, 2), (190, 0, 2, 0, 0, .iconst 2, 1), (191, 4, 0, 0, 0, .iadd, 1), (192, 24, 0, 0, 0, .iaload, 1), (193, 49, 3, 0, 0, .aload_n 3, 1), (194, 39, 12, 4, 479, .invokestatic 109, 3), (197, 2, 5, 0, 0, .istore 5, 2), (199, 49, 2, 0, 0, .aload_n 2, 1), (200, 49, 0, 0, 0, .aload_n 0, 1), (201, 1, 4, 0, 0, .iload 4, 2), (203, 0, 1, 0, 0, .iconst 1, 1), (204, 4, 0, 0, 0, .iadd, 1), (205, 24, 0, 0, 0, .iaload, 1), (206, 49, 0, 0, 0, .aload_n 0, 1), (207, 1, 4, 0, 0, .iload 4, 2), (209, 0, 2, 0, 0, .iconst 2, 1), (210, 4, 0, 0, 0, .iadd, 1), (211, 24, 0, 0, 0, .iaload, 1), (212, 35, 15, 322, 1146, .invokevirtual 114, 3), (215, 2, 6, 0, 0, .istore 6, 2), (217, 49, 2, 0, 0, .aload_n 2, 1), (218, 35, 20, 320, 1142, .invokevirtual 115, 3), (221, 1, 5, 0, 0, .iload 5, 2), (223, 15, 0, 58, 0, .if_icmp .eq 5, 3), (226, 99, 0, 0, 0, .nop, 1), (227, 99, 0, 0, 0, .nop, 1), (228, 1, 5, 0, 0, .iload 5, 2), (230, 14, 1, 69, 0, .ifCond .ne 15, 3), (233, 49, 3, 0, 0, .aload_n 3, 1), (234, 0, 0, 0, 0, .iconst 0, 1), (235, 26, 0, 0, 0, .laload, 1), (236, 1, 6, 0, 0, .iload 6, 2), (238, 45, 0, 0, 0, .i2l, 1), (239, 46, 0, 0, 0, .lcmp, 1), (240, 14, 0, 69, 0, .ifCond .eq 5, 3), (243, 99, 0, 0, 0, .nop, 1), (244, 99, 0, 0, 0, .nop, 1), (245, 20, 1419, 0, 0, .goto 2019, 3), (248, 49, 1, 0, 0, .aload_n 1, 1), (249, 49, 0, 0, 0, .aload_n 0, 1), (250, 1, 4, 0, 0, .iload 4, 2), (252, 0, 1, 0, 0, .iconst 1, 1), (253, 4, 0, 0, 0, .iadd, 1), (254, 24, 0, 0, 0, .iaload, 1), (255, 49, 0, 0, 0, .aload_n 0, 1), (256, 1, 4, 0, 0, .iload 4, 2), (258, 0, 2, 0, 0, .iconst 2, 1), (259, 4, 0, 0, 0, .iadd, 1), (260, 24, 0, 0, 0, .iaload, 1), (261, 49, 0, 0, 0, .aload_n 0, 1), (262, 1, 4, 0, 0, .iload 4, 2), (264, 0, 3, 0, 0, .iconst 3, 1), (265, 4, 0, 0, 0, .iadd, 1), (266, 24, 0, 0, 0, .iaload, 1), (267, 49, 3, 0, 0, .aload_n 3, 1), (268, 39, 38, 5, 578, .invokestatic 119, 3), (271, 2, 5, 0, 0, .istore 5, 2), (273, 49, 2, 0, 0, .aload_n 2, 1), (274, 49, 0, 0, 0, .aload_n 0, 1), (275, 1, 4, 0, 0, .iload 4, 2), (277, 0, 1, 0, 0, .iconst 1, 1), (278, 4, 0, 0, 0, .iadd, 1), (279, 24, 0, 0, 0, .iaload, 1), (280, 49, 0, 0, 0, .aload_n 0, 1), (281, 1, 4, 0, 0, .iload 4, 2), (283, 0, 2, 0, 0, .iconst 2, 1), (284, 4, 0, 0, 0, .iadd, 1), (285, 24, 0, 0, 0, .iaload, 1), (286, 49, 0, 0, 0, .aload_n 0, 1), (287, 1, 4, 0, 0, .iload 4, 2), (289, 0, 3, 0, 0, .iconst 3, 1), (290, 4, 0, 0, 0, .iadd, 1), (291, 24, 0, 0, 0, .iaload, 1), (292, 35, 40, 323, 1194, .invokevirtual 122, 3), (295, 2, 6, 0, 0, .istore 6, 2), (297, 49, 2, 0, 0, .aload_n 2, 1), (298, 35, 20, 320, 1142, .invokevirtual 115, 3), (301, 1, 5, 0, 0, .iload 5, 2), (303, 15, 0, 113, 0, .if_icmp .eq 5, 3), (306, 99, 0, 0, 0, .nop, 1), (307, 99, 0, 0, 0, .nop, 1), (308, 1, 5, 0, 0, .iload 5, 2), (310, 14, 1, 124, 0, .ifCond .ne 15, 3), (313, 99, 0, 0, 0, .nop, 1), (314, 99, 0, 0, 0, .nop, 1), (315, 99, 0, 0, 0, .nop, 1), (316, 99, 0, 0, 0, .nop, 1), (318, 99, 0, 0, 0, .nop, 1), (319, 99, 0, 0, 0, .nop, 1), (320, 99, 0, 0, 0, .nop, 1), (323, 99, 0, 0, 0, .nop, 1), (324, 99, 0, 0, 0, .nop, 1), (325, 20, 1419, 0, 0, .goto 1939, 3), (328, 49, 1, 0, 0, .aload_n 1, 1), (329, 49, 0, 0, 0, .aload_n 0, 1), (330, 1, 4, 0, 0, .iload 4, 2), (332, 0, 1, 0, 0, .iconst 1, 1), (333, 4, 0, 0, 0, .iadd, 1), (334, 24, 0, 0, 0, .iaload, 1), (335, 49, 0, 0, 0, .aload_n 0, 1), (336, 1, 4, 0, 0, .iload 4, 2), (338, 0, 2, 0, 0, .iconst 2, 1), (339, 4, 0, 0, 0, .iadd, 1), (340, 24, 0, 0, 0, .iaload, 1), (341, 49, 3, 0, 0, .aload_n 3, 1), (342, 39, 43, 4, 593, .invokestatic 123, 3), (345, 2, 5, 0, 0, .istore 5, 2), (347, 49, 2, 0, 0, .aload_n 2, 1), (348, 49, 0, 0, 0, .aload_n 0, 1), (349, 1, 4, 0, 0, .iload 4, 2), (351, 0, 1, 0, 0, .iconst 1, 1), (352, 4, 0, 0, 0, .iadd, 1), (353, 24, 0, 0, 0, .iaload, 1), (354, 49, 0, 0, 0, .aload_n 0, 1), (355, 1, 4, 0, 0, .iload 4, 2), (357, 0, 2, 0, 0, .iconst 2, 1), (358, 4, 0, 0, 0, .iadd, 1), (359, 24, 0, 0, 0, .iaload, 1), (360, 35, 45, 322, 1202, .invokevirtual 125, 3), (363, 2, 6, 0, 0, .istore 6, 2), (365, 49, 2, 0, 0, .aload_n 2, 1), (366, 35, 20, 320, 1142, .invokevirtual 115, 3), (369, 1, 5, 0, 0, .iload 5, 2), (371, 15, 0, 158, 0, .if_icmp .eq 5, 3), (374, 99, 0, 0, 0, .nop, 1), (375, 99, 0, 0, 0, .nop, 1), (376, 1, 5, 0, 0, .iload 5, 2), (378, 14, 1, 169, 0, .ifCond .ne 15, 3), (381, 99, 0, 0, 0, .nop, 1), (382, 99, 0, 0, 0, .nop, 1), (383, 99, 0, 0, 0, .nop, 1), (384, 99, 0, 0, 0, .nop, 1), (386, 99, 0, 0, 0, .nop, 1), (387, 99, 0, 0, 0, .nop, 1), (388, 99, 0, 0, 0, .nop, 1), (391, 99, 0, 0, 0, .nop, 1), (392, 99, 0, 0, 0, .nop, 1), (393, 20, 1419, 0, 0, .goto 1871, 3), (396, 49, 1, 0, 0, .aload_n 1, 1), (397, 49, 0, 0, 0, .aload_n 0, 1), (398, 1, 4, 0, 0, .iload 4, 2), (400, 0, 1, 0, 0, .iconst 1, 1), (401, 4, 0, 0, 0, .iadd, 1), (402, 24, 0, 0, 0, .iaload, 1), (403, 49, 0, 0, 0, .aload_n 0, 1), (404, 1, 4, 0, 0, .iload 4, 2), (406, 0, 2, 0, 0, .iconst 2, 1), (407, 4, 0, 0, 0, .iadd, 1), (408, 24, 0, 0, 0, .iaload, 1), (409, 49, 0, 0, 0, .aload_n 0, 1), (410, 1, 4, 0, 0, .iload 4, 2), (412, 0, 3, 0, 0, .iconst 3, 1), (413, 4, 0, 0, 0, .iadd, 1), (414, 24, 0, 0, 0, .iaload, 1), (415, 49, 0, 0, 0, .aload_n 0, 1), (416, 1, 4, 0, 0, .iload 4, 2), (418, 0, 4, 0, 0, .iconst 4, 1), (419, 4, 0, 0, 0, .iadd, 1), (420, 24, 0, 0, 0, .iaload, 1), (421, 14, 0, 194, 0, .ifCond .eq 7, 3), (424, 0, 1, 0, 0, .iconst 1, 1), (425, 20, 195, 0, 0, .goto 4, 3), (428, 0, 0, 0, 0, .iconst 0, 1), (429, 39, 46, 5, 600, .invokestatic 126, 3), (432, 2, 5, 0, 0, .istore 5, 2), (434, 49, 2, 0, 0, .aload_n 2, 1), (435, 49, 0, 0, 0, .aload_n 0, 1), (436, 1, 4, 0, 0, .iload 4, 2), (438, 0, 1, 0, 0, .iconst 1, 1), (439, 4, 0, 0, 0, .iadd, 1), (440, 24, 0, 0, 0, .iaload, 1), (441, 49, 0, 0, 0, .aload_n 0, 1), (442, 1, 4, 0, 0, .iload 4, 2), (444, 0, 2, 0, 0, .iconst 2, 1), (445, 4, 0, 0, 0, .iadd, 1), (446, 24, 0, 0, 0, .iaload, 1), (447, 49, 0, 0, 0, .aload_n 0, 1), (448, 1, 4, 0, 0, .iload 4, 2), (450, 0, 3, 0, 0, .iconst 3, 1), (451, 4, 0, 0, 0, .iadd, 1), (452, 24, 0, 0, 0, .iaload, 1), (453, 49, 0, 0, 0, .aload_n 0, 1), (454, 1, 4, 0, 0, .iload 4, 2), (456, 0, 4, 0, 0, .iconst 4, 1), (457, 4, 0, 0, 0, .iadd, 1), (458, 24, 0, 0, 0, .iaload, 1), (459, 14, 0, 221, 0, .ifCond .eq 7, 3), (462, 0, 1, 0, 0, .iconst 1, 1), (463, 20, 222, 0, 0, .goto 4, 3), (466, 0, 0, 0, 0, .iconst 0, 1), (467, 35, 48, 324, 1230, .invokevirtual 129, 3), (470, 49, 2, 0, 0, .aload_n 2, 1), (471, 35, 20, 320, 1142, .invokevirtual 115, 3), (474, 1, 5, 0, 0, .iload 5, 2), (476, 15, 0, 229, 0, .if_icmp .eq 5, 3), (479, 99, 0, 0, 0, .nop, 1), (480, 99, 0, 0, 0, .nop, 1), (481, 20, 1419, 0, 0, .goto 1783, 3), (484, 49, 1, 0, 0, .aload_n 1, 1), (485, 49, 0, 0, 0, .aload_n 0, 1), (486, 1, 4, 0, 0, .iload 4, 2), (488, 0, 1, 0, 0, .iconst 1, 1), (489, 4, 0, 0, 0, .iadd, 1), (490, 24, 0, 0, 0, .iaload, 1), (491, 49, 0, 0, 0, .aload_n 0, 1), (492, 1, 4, 0, 0, .iload 4, 2), (494, 0, 2, 0, 0, .iconst 2, 1), (495, 4, 0, 0, 0, .iadd, 1), (496, 24, 0, 0, 0, .iaload, 1), (497, 49, 3, 0, 0, .aload_n 3, 1), (498, 39, 49, 4, 607, .invokestatic 130, 3), (501, 2, 5, 0, 0, .istore 5, 2), (503, 49, 2, 0, 0, .aload_n 2, 1), (504, 49, 0, 0, 0, .aload_n 0, 1), (505, 1, 4, 0, 0, .iload 4, 2), (507, 0, 1, 0, 0, .iconst 1, 1), (508, 4, 0, 0, 0, .iadd, 1), (509, 24, 0, 0, 0, .iaload, 1), (510, 49, 0, 0, 0, .aload_n 0, 1), (511, 1, 4, 0, 0, .iload 4, 2), (513, 0, 2, 0, 0, .iconst 2, 1), (514, 4, 0, 0, 0, .iadd, 1), (515, 24, 0, 0, 0, .iaload, 1), (516, 35, 51, 322, 1234, .invokevirtual 132, 3), (519, 2, 6, 0, 0, .istore 6, 2), (521, 49, 2, 0, 0, .aload_n 2, 1), (522, 35, 20, 320, 1142, .invokevirtual 115, 3), (525, 1, 5, 0, 0, .iload 5, 2), (527, 15, 0, 263, 0, .if_icmp .eq 5, 3), (530, 99, 0, 0, 0, .nop, 1), (531, 99, 0, 0, 0, .nop, 1), (532, 1, 5, 0, 0, .iload 5, 2), (534, 14, 1, 274, 0, .ifCond .ne 15, 3), (537, 49, 3, 0, 0, .aload_n 3, 1), (538, 0, 0, 0, 0, .iconst 0, 1), (539, 26, 0, 0, 0, .laload, 1), (540, 1, 6, 0, 0, .iload 6, 2), (542, 45, 0, 0, 0, .i2l, 1), (543, 46, 0, 0, 0, .lcmp, 1), (544, 14, 0, 274, 0, .ifCond .eq 5, 3), (547, 99, 0, 0, 0, .nop, 1), (548, 99, 0, 0, 0, .nop, 1), (549, 20, 1419, 0, 0, .goto 1715, 3), (552, 49, 1, 0, 0, .aload_n 1, 1), (553, 49, 0, 0, 0, .aload_n 0, 1), (554, 1, 4, 0, 0, .iload 4, 2), (556, 0, 1, 0, 0, .iconst 1, 1), (557, 4, 0, 0, 0, .iadd, 1), (558, 24, 0, 0, 0, .iaload, 1), (559, 49, 0, 0, 0, .aload_n 0, 1), (560, 1, 4, 0, 0, .iload 4, 2), (562, 0, 2, 0, 0, .iconst 2, 1), (563, 4, 0, 0, 0, .iadd, 1), (564, 24, 0, 0, 0, .iaload, 1), (565, 49, 0, 0, 0, .aload_n 0, 1), (566, 1, 4, 0, 0, .iload 4, 2), (568, 0, 3, 0, 0, .iconst 3, 1), (569, 4, 0, 0, 0, .iadd, 1), (570, 24, 0, 0, 0, .iaload, 1), (571, 49, 0, 0, 0, .aload_n 0, 1), (572, 1, 4, 0, 0, .iload 4, 2), (574, 0, 4, 0, 0, .iconst 4, 1), (575, 4, 0, 0, 0, .iadd, 1), (576, 24, 0, 0, 0, .iaload, 1), (577, 49, 0, 0, 0, .aload_n 0, 1), (578, 1, 4, 0, 0, .iload 4, 2), (580, 0, 5, 0, 0, .iconst 5, 1), (581, 4, 0, 0, 0, .iadd, 1), (582, 24, 0, 0, 0, .iaload, 1), (583, 49, 0, 0, 0, .aload_n 0, 1), (584, 1, 4, 0, 0, .iload 4, 2), (586, 0, 6, 0, 0, .bipush 6, 2), (588, 4, 0, 0, 0, .iadd, 1), (589, 24, 0, 0, 0, .iaload, 1), (590, 49, 3, 0, 0, .aload_n 3, 1), (591, 39, 52, 8, 614, .invokestatic 133, 3), (594, 2, 5, 0, 0, .istore 5, 2), (596, 49, 2, 0, 0, .aload_n 2, 1), (597, 49, 0, 0, 0, .aload_n 0, 1), (598, 1, 4, 0, 0, .iload 4, 2), (600, 0, 1, 0, 0, .iconst 1, 1), (601, 4, 0, 0, 0, .iadd, 1), (602, 24, 0, 0, 0, .iaload, 1), (603, 49, 0, 0, 0, .aload_n 0, 1), (604, 1, 4, 0, 0, .iload 4, 2), (606, 0, 2, 0, 0, .iconst 2, 1), (607, 4, 0, 0, 0, .iadd, 1), (608, 24, 0, 0, 0, .iaload, 1), (609, 49, 0, 0, 0, .aload_n 0, 1), (610, 1, 4, 0, 0, .iload 4, 2), (612, 0, 3, 0, 0, .iconst 3, 1), (613, 4, 0, 0, 0, .iadd, 1), (614, 24, 0, 0, 0, .iaload, 1), (615, 49, 0, 0, 0, .aload_n 0, 1), (616, 1, 4, 0, 0, .iload 4, 2), (618, 0, 4, 0, 0, .iconst 4, 1), (619, 4, 0, 0, 0, .iadd, 1), (620, 24, 0, 0, 0, .iaload, 1), (621, 49, 0, 0, 0, .aload_n 0, 1), (622, 1, 4, 0, 0, .iload 4, 2), (624, 0, 5, 0, 0, .iconst 5, 1), (625, 4, 0, 0, 0, .iadd, 1), (626, 24, 0, 0, 0, .iaload, 1), (627, 49, 0, 0, 0, .aload_n 0, 1), (628, 1, 4, 0, 0, .iload 4, 2), (630, 0, 6, 0, 0, .bipush 6, 2), (632, 4, 0, 0, 0, .iadd, 1), (633, 24, 0, 0, 0, .iaload, 1), (634, 35, 54, 326, 1238, .invokevirtual 136, 3), (637, 2, 6, 0, 0, .istore 6, 2), (639, 49, 2, 0, 0, .aload_n 2, 1), (640, 35, 20, 320, 1142, .invokevirtual 115, 3), (643, 1, 5, 0, 0, .iload 5, 2), (645, 15, 0, 348, 0, .if_icmp .eq 5, 3), (648, 99, 0, 0, 0, .nop, 1), (649, 99, 0, 0, 0, .nop, 1), (650, 1, 5, 0, 0, .iload 5, 2), (652, 14, 1, 359, 0, .ifCond .ne 15, 3), (655, 99, 0, 0, 0, .nop, 1), (656, 99, 0, 0, 0, .nop, 1), (657, 99, 0, 0, 0, .nop, 1), (658, 99, 0, 0, 0, .nop, 1), (660, 99, 0, 0, 0, .nop, 1), (661, 99, 0, 0, 0, .nop, 1), (662, 99, 0, 0, 0, .nop, 1), (665, 99, 0, 0, 0, .nop, 1), (666, 99, 0, 0, 0, .nop, 1), (667, 20, 1419, 0, 0, .goto 1597, 3), (670, 49, 1, 0, 0, .aload_n 1, 1), (671, 49, 0, 0, 0, .aload_n 0, 1), (672, 1, 4, 0, 0, .iload 4, 2), (674, 0, 1, 0, 0, .iconst 1, 1), (675, 4, 0, 0, 0, .iadd, 1), (676, 24, 0, 0, 0, .iaload, 1), (677, 49, 0, 0, 0, .aload_n 0, 1), (678, 1, 4, 0, 0, .iload 4, 2), (680, 0, 2, 0, 0, .iconst 2, 1), (681, 4, 0, 0, 0, .iadd, 1), (682, 24, 0, 0, 0, .iaload, 1), (683, 49, 0, 0, 0, .aload_n 0, 1), (684, 1, 4, 0, 0, .iload 4, 2), (686, 0, 3, 0, 0, .iconst 3, 1), (687, 4, 0, 0, 0, .iadd, 1), (688, 24, 0, 0, 0, .iaload, 1), (689, 49, 0, 0, 0, .aload_n 0, 1), (690, 1, 4, 0, 0, .iload 4, 2), (692, 0, 4, 0, 0, .iconst 4, 1), (693, 4, 0, 0, 0, .iadd, 1), (694, 24, 0, 0, 0, .iaload, 1), (695, 49, 3, 0, 0, .aload_n 3, 1), (696, 39, 61, 6, 715, .invokestatic 137, 3), (699, 2, 5, 0, 0, .istore 5, 2), (701, 49, 2, 0, 0, .aload_n 2, 1), (702, 49, 0, 0, 0, .aload_n 0, 1), (703, 1, 4, 0, 0, .iload 4, 2), (705, 0, 1, 0, 0, .iconst 1, 1), (706, 4, 0, 0, 0, .iadd, 1), (707, 24, 0, 0, 0, .iaload, 1), (708, 49, 0, 0, 0, .aload_n 0, 1), (709, 1, 4, 0, 0, .iload 4, 2), (711, 0, 2, 0, 0, .iconst 2, 1), (712, 4, 0, 0, 0, .iadd, 1), (713, 24, 0, 0, 0, .iaload, 1), (714, 49, 0, 0, 0, .aload_n 0, 1), (715, 1, 4, 0, 0, .iload 4, 2), (717, 0, 3, 0, 0, .iconst 3, 1), (718, 4, 0, 0, 0, .iadd, 1), (719, 24, 0, 0, 0, .iaload, 1), (720, 49, 0, 0, 0, .aload_n 0, 1), (721, 1, 4, 0, 0, .iload 4, 2), (723, 0, 4, 0, 0, .iconst 4, 1), (724, 4, 0, 0, 0, .iadd, 1), (725, 24, 0, 0, 0, .iaload, 1), (726, 35, 63, 324, 1290, .invokevirtual 140, 3), (729, 2, 6, 0, 0, .istore 6, 2), (731, 49, 2, 0, 0, .aload_n 2, 1), (732, 35, 20, 320, 1142, .invokevirtual 115, 3), (735, 1, 5, 0, 0, .iload 5, 2), (737, 15, 0, 413, 0, .if_icmp .eq 5, 3), (740, 99, 0, 0, 0, .nop, 1), (741, 99, 0, 0, 0, .nop, 1), (742, 1, 5, 0, 0, .iload 5, 2), (744, 14, 1, 424, 0, .ifCond .ne 15, 3), (747, 99, 0, 0, 0, .nop, 1), (748, 99, 0, 0, 0, .nop, 1), (749, 99, 0, 0, 0, .nop, 1), (750, 99, 0, 0, 0, .nop, 1), (752, 99, 0, 0, 0, .nop, 1), (753, 99, 0, 0, 0, .nop, 1), (754, 99, 0, 0, 0, .nop, 1), (757, 99, 0, 0, 0, .nop, 1), (758, 99, 0, 0, 0, .nop, 1), (759, 20, 1419, 0, 0, .goto 1505, 3), (762, 49, 1, 0, 0, .aload_n 1, 1), (763, 49, 0, 0, 0, .aload_n 0, 1), (764, 1, 4, 0, 0, .iload 4, 2), (766, 0, 1, 0, 0, .iconst 1, 1), (767, 4, 0, 0, 0, .iadd, 1), (768, 24, 0, 0, 0, .iaload, 1), (769, 49, 0, 0, 0, .aload_n 0, 1), (770, 1, 4, 0, 0, .iload 4, 2), (772, 0, 2, 0, 0, .iconst 2, 1), (773, 4, 0, 0, 0, .iadd, 1), (774, 24, 0, 0, 0, .iaload, 1), (775, 49, 0, 0, 0, .aload_n 0, 1), (776, 1, 4, 0, 0, .iload 4, 2), (778, 0, 3, 0, 0, .iconst 3, 1), (779, 4, 0, 0, 0, .iadd, 1), (780, 24, 0, 0, 0, .iaload, 1), (781, 49, 0, 0, 0, .aload_n 0, 1), (782, 1, 4, 0, 0, .iload 4, 2), (784, 0, 4, 0, 0, .iconst 4, 1), (785, 4, 0, 0, 0, .iadd, 1), (786, 24, 0, 0, 0, .iaload, 1), (787, 49, 0, 0, 0, .aload_n 0, 1), (788, 1, 4, 0, 0, .iload 4, 2), (790, 0, 5, 0, 0, .iconst 5, 1), (791, 4, 0, 0, 0, .iadd, 1), (792, 24, 0, 0, 0, .iaload, 1), (793, 49, 0, 0, 0, .aload_n 0, 1), (794, 1, 4, 0, 0, .iload 4, 2), (796, 0, 6, 0, 0, .bipush 6, 2), (798, 4, 0, 0, 0, .iadd, 1), (799, 24, 0, 0, 0, .iaload, 1), (800, 49, 0, 0, 0, .aload_n 0, 1), (801, 1, 4, 0, 0, .iload 4, 2), (803, 0, 7, 0, 0, .bipush 7, 2), (805, 4, 0, 0, 0, .iadd, 1), (806, 24, 0, 0, 0, .iaload, 1), (807, 49, 3, 0, 0, .aload_n 3, 1), (808, 39, 64, 9, 735, .invokestatic 141, 3), (811, 2, 5, 0, 0, .istore 5, 2), (813, 49, 2, 0, 0, .aload_n 2, 1), (814, 49, 0, 0, 0, .aload_n 0, 1), (815, 1, 4, 0, 0, .iload 4, 2), (817, 0, 1, 0, 0, .iconst 1, 1), (818, 4, 0, 0, 0, .iadd, 1), (819, 24, 0, 0, 0, .iaload, 1), (820, 49, 0, 0, 0, .aload_n 0, 1), (821, 1, 4, 0, 0, .iload 4, 2), (823, 0, 2, 0, 0, .iconst 2, 1), (824, 4, 0, 0, 0, .iadd, 1), (825, 24, 0, 0, 0, .iaload, 1), (826, 49, 0, 0, 0, .aload_n 0, 1), (827, 1, 4, 0, 0, .iload 4, 2), (829, 0, 3, 0, 0, .iconst 3, 1), (830, 4, 0, 0, 0, .iadd, 1), (831, 24, 0, 0, 0, .iaload, 1), (832, 49, 0, 0, 0, .aload_n 0, 1), (833, 1, 4, 0, 0, .iload 4, 2), (835, 0, 4, 0, 0, .iconst 4, 1), (836, 4, 0, 0, 0, .iadd, 1), (837, 24, 0, 0, 0, .iaload, 1), (838, 49, 0, 0, 0, .aload_n 0, 1), (839, 1, 4, 0, 0, .iload 4, 2), (841, 0, 5, 0, 0, .iconst 5, 1), (842, 4, 0, 0, 0, .iadd, 1), (843, 24, 0, 0, 0, .iaload, 1), (844, 49, 0, 0, 0, .aload_n 0, 1), (845, 1, 4, 0, 0, .iload 4, 2), (847, 0, 6, 0, 0, .bipush 6, 2), (849, 4, 0, 0, 0, .iadd, 1), (850, 24, 0, 0, 0, .iaload, 1), (851, 49, 0, 0, 0, .aload_n 0, 1), (852, 1, 4, 0, 0, .iload 4, 2), (854, 0, 7, 0, 0, .bipush 7, 2), (856, 4, 0, 0, 0, .iadd, 1), (857, 24, 0, 0, 0, .iaload, 1), (858, 35, 67, 327, 1294, .invokevirtual 144, 3), (861, 2, 6, 0, 0, .istore 6, 2), (863, 49, 2, 0, 0, .aload_n 2, 1), (864, 35, 20, 320, 1142, .invokevirtual 115, 3), (867, 1, 5, 0, 0, .iload 5, 2), (869, 15, 0, 508, 0, .if_icmp .eq 5, 3), (872, 99, 0, 0, 0, .nop, 1), (873, 99, 0, 0, 0, .nop, 1), (874, 1, 5, 0, 0, .iload 5, 2), (876, 14, 1, 519, 0, .ifCond .ne 15, 3), (879, 99, 0, 0, 0, .nop, 1), (880, 99, 0, 0, 0, .nop, 1), (881, 99, 0, 0, 0, .nop, 1), (882, 99, 0, 0, 0, .nop, 1), (884, 99, 0, 0, 0, .nop, 1), (885, 99, 0, 0, 0, .nop, 1), (886, 99, 0, 0, 0, .nop, 1), (889, 99, 0, 0, 0, .nop, 1), (890, 99, 0, 0, 0, .nop, 1), (891, 20, 1419, 0, 0, .goto 1373, 3), (894, 49, 1, 0, 0, .aload_n 1, 1), (895, 49, 0, 0, 0, .aload_n 0, 1), (896, 1, 4, 0, 0, .iload 4, 2), (898, 0, 1, 0, 0, .iconst 1, 1), (899, 4, 0, 0, 0, .iadd, 1), (900, 24, 0, 0, 0, .iaload, 1), (901, 49, 0, 0, 0, .aload_n 0, 1), (902, 1, 4, 0, 0, .iload 4, 2), (904, 0, 2, 0, 0, .iconst 2, 1), (905, 4, 0, 0, 0, .iadd, 1), (906, 24, 0, 0, 0, .iaload, 1), (907, 49, 0, 0, 0, .aload_n 0, 1), (908, 1, 4, 0, 0, .iload 4, 2), (910, 0, 3, 0, 0, .iconst 3, 1), (911, 4, 0, 0, 0, .iadd, 1), (912, 24, 0, 0, 0, .iaload, 1), (913, 49, 0, 0, 0, .aload_n 0, 1), (914, 1, 4, 0, 0, .iload 4, 2), (916, 0, 4, 0, 0, .iconst 4, 1), (917, 4, 0, 0, 0, .iadd, 1), (918, 24, 0, 0, 0, .iaload, 1), (919, 49, 0, 0, 0, .aload_n 0, 1), (920, 1, 4, 0, 0, .iload 4, 2), (922, 0, 5, 0, 0, .iconst 5, 1), (923, 4, 0, 0, 0, .iadd, 1), (924, 24, 0, 0, 0, .iaload, 1), (925, 49, 0, 0, 0, .aload_n 0, 1), (926, 1, 4, 0, 0, .iload 4, 2), (928, 0, 6, 0, 0, .bipush 6, 2), (930, 4, 0, 0, 0, .iadd, 1), (931, 24, 0, 0, 0, .iaload, 1), (932, 49, 0, 0, 0, .aload_n 0, 1), (933, 1, 4, 0, 0, .iload 4, 2), (935, 0, 7, 0, 0, .bipush 7, 2), (937, 4, 0, 0, 0, .iadd, 1), (938, 24, 0, 0, 0, .iaload, 1), (939, 49, 3, 0, 0, .aload_n 3, 1), (940, 39, 70, 9, 763, .invokestatic 145, 3), (943, 2, 5, 0, 0, .istore 5, 2), (945, 49, 2, 0, 0, .aload_n 2, 1), (946, 49, 0, 0, 0, .aload_n 0, 1), (947, 1, 4, 0, 0, .iload 4, 2), (949, 0, 1, 0, 0, .iconst 1, 1), (950, 4, 0, 0, 0, .iadd, 1), (951, 24, 0, 0, 0, .iaload, 1), (952, 49, 0, 0, 0, .aload_n 0, 1), (953, 1, 4, 0, 0, .iload 4, 2), (955, 0, 2, 0, 0, .iconst 2, 1), (956, 4, 0, 0, 0, .iadd, 1), (957, 24, 0, 0, 0, .iaload, 1), (958, 49, 0, 0, 0, .aload_n 0, 1), (959, 1, 4, 0, 0, .iload 4, 2), (961, 0, 3, 0, 0, .iconst 3, 1), (962, 4, 0, 0, 0, .iadd, 1), (963, 24, 0, 0, 0, .iaload, 1), (964, 49, 0, 0, 0, .aload_n 0, 1), (965, 1, 4, 0, 0, .iload 4, 2), (967, 0, 4, 0, 0, .iconst 4, 1), (968, 4, 0, 0, 0, .iadd, 1), (969, 24, 0, 0, 0, .iaload, 1), (970, 49, 0, 0, 0, .aload_n 0, 1), (971, 1, 4, 0, 0, .iload 4, 2), (973, 0, 5, 0, 0, .iconst 5, 1), (974, 4, 0, 0, 0, .iadd, 1), (975, 24, 0, 0, 0, .iaload, 1), (976, 49, 0, 0, 0, .aload_n 0, 1), (977, 1, 4, 0, 0, .iload 4, 2), (979, 0, 6, 0, 0, .bipush 6, 2), (981, 4, 0, 0, 0, .iadd, 1), (982, 24, 0, 0, 0, .iaload, 1), (983, 49, 0, 0, 0, .aload_n 0, 1), (984, 1, 4, 0, 0, .iload 4, 2), (986, 0, 7, 0, 0, .bipush 7, 2), (988, 4, 0, 0, 0, .iadd, 1), (989, 24, 0, 0, 0, .iaload, 1), (990, 35, 72, 327, 1314, .invokevirtual 147, 3), (993, 2, 6, 0, 0, .istore 6, 2), (995, 49, 2, 0, 0, .aload_n 2, 1), (996, 35, 20, 320, 1142, .invokevirtual 115, 3), (999, 1, 5, 0, 0, .iload 5, 2), (1001, 15, 0, 603, 0, .if_icmp .eq 5, 3), (1004, 99, 0, 0, 0, .nop, 1), (1005, 99, 0, 0, 0, .nop, 1), (1006, 1, 5, 0, 0, .iload 5, 2), (1008, 14, 1, 617, 0, .ifCond .ne 22, 3), (1011, 99, 0, 0, 0, .nop, 1), (1012, 99, 0, 0, 0, .nop, 1), (1013, 99, 0, 0, 0, .nop, 1), (1014, 99, 0, 0, 0, .nop, 1), (1016, 99, 0, 0, 0, .nop, 1), (1019, 99, 0, 0, 0, .nop, 1), (1020, 99, 0, 0, 0, .nop, 1), (1023, 99, 0, 0, 0, .nop, 1), (1024, 99, 0, 0, 0, .nop, 1), (1025, 99, 0, 0, 0, .nop, 1), (1028, 99, 0, 0, 0, .nop, 1), (1029, 99, 0, 0, 0, .nop, 1), (1030, 20, 1419, 0, 0, .goto 1234, 3), (1033, 49, 1, 0, 0, .aload_n 1, 1), (1034, 49, 0, 0, 0, .aload_n 0, 1), (1035, 1, 4, 0, 0, .iload 4, 2), (1037, 0, 1, 0, 0, .iconst 1, 1), (1038, 4, 0, 0, 0, .iadd, 1), (1039, 24, 0, 0, 0, .iaload, 1), (1040, 49, 0, 0, 0, .aload_n 0, 1), (1041, 1, 4, 0, 0, .iload 4, 2), (1043, 0, 2, 0, 0, .iconst 2, 1), (1044, 4, 0, 0, 0, .iadd, 1), (1045, 24, 0, 0, 0, .iaload, 1), (1046, 49, 3, 0, 0, .aload_n 3, 1), (1047, 39, 73, 4, 788, .invokestatic 148, 3), (1050, 2, 5, 0, 0, .istore 5, 2), (1052, 49, 2, 0, 0, .aload_n 2, 1), (1053, 49, 0, 0, 0, .aload_n 0, 1), (1054, 1, 4, 0, 0, .iload 4, 2), (1056, 0, 1, 0, 0, .iconst 1, 1), (1057, 4, 0, 0, 0, .iadd, 1), (1058, 24, 0, 0, 0, .iaload, 1), (1059, 49, 0, 0, 0, .aload_n 0, 1), (1060, 1, 4, 0, 0, .iload 4, 2), (1062, 0, 2, 0, 0, .iconst 2, 1), (1063, 4, 0, 0, 0, .iadd, 1), (1064, 24, 0, 0, 0, .iaload, 1), (1065, 35, 75, 322, 1326, .invokevirtual 150, 3), (1068, 2, 6, 0, 0, .istore 6, 2), (1070, 49, 2, 0, 0, .aload_n 2, 1), (1071, 35, 20, 320, 1142, .invokevirtual 115, 3), (1074, 1, 5, 0, 0, .iload 5, 2), (1076, 15, 0, 651, 0, .if_icmp .eq 5, 3), (1079, 99, 0, 0, 0, .nop, 1), (1080, 99, 0, 0, 0, .nop, 1), (1081, 1, 5, 0, 0, .iload 5, 2), (1083, 14, 1, 662, 0, .ifCond .ne 15, 3), (1086, 99, 0, 0, 0, .nop, 1), (1087, 99, 0, 0, 0, .nop, 1), (1088, 99, 0, 0, 0, .nop, 1), (1089, 99, 0, 0, 0, .nop, 1), (1091, 99, 0, 0, 0, .nop, 1), (1092, 99, 0, 0, 0, .nop, 1), (1093, 99, 0, 0, 0, .nop, 1), (1096, 99, 0, 0, 0, .nop, 1), (1097, 99, 0, 0, 0, .nop, 1), (1098, 20, 1419, 0, 0, .goto 1166, 3), (1101, 49, 1, 0, 0, .aload_n 1, 1), (1102, 49, 0, 0, 0, .aload_n 0, 1), (1103, 1, 4, 0, 0, .iload 4, 2), (1105, 0, 1, 0, 0, .iconst 1, 1), (1106, 4, 0, 0, 0, .iadd, 1), (1107, 24, 0, 0, 0, .iaload, 1), (1108, 49, 0, 0, 0, .aload_n 0, 1), (1109, 1, 4, 0, 0, .iload 4, 2), (1111, 0, 2, 0, 0, .iconst 2, 1), (1112, 4, 0, 0, 0, .iadd, 1), (1113, 24, 0, 0, 0, .iaload, 1), (1114, 49, 0, 0, 0, .aload_n 0, 1), (1115, 1, 4, 0, 0, .iload 4, 2), (1117, 0, 3, 0, 0, .iconst 3, 1), (1118, 4, 0, 0, 0, .iadd, 1), (1119, 24, 0, 0, 0, .iaload, 1), (1120, 49, 3, 0, 0, .aload_n 3, 1), (1121, 39, 76, 5, 795, .invokestatic 151, 3), (1124, 2, 5, 0, 0, .istore 5, 2), (1126, 49, 2, 0, 0, .aload_n 2, 1), (1127, 49, 0, 0, 0, .aload_n 0, 1), (1128, 1, 4, 0, 0, .iload 4, 2), (1130, 0, 1, 0, 0, .iconst 1, 1), (1131, 4, 0, 0, 0, .iadd, 1), (1132, 24, 0, 0, 0, .iaload, 1), (1133, 49, 0, 0, 0, .aload_n 0, 1), (1134, 1, 4, 0, 0, .iload 4, 2), (1136, 0, 2, 0, 0, .iconst 2, 1), (1137, 4, 0, 0, 0, .iadd, 1), (1138, 24, 0, 0, 0, .iaload, 1), (1139, 49, 0, 0, 0, .aload_n 0, 1), (1140, 1, 4, 0, 0, .iload 4, 2), (1142, 0, 3, 0, 0, .iconst 3, 1), (1143, 4, 0, 0, 0, .iadd, 1), (1144, 24, 0, 0, 0, .iaload, 1), (1145, 35, 79, 323, 1334, .invokevirtual 153, 3), (1148, 2, 6, 0, 0, .istore 6, 2), (1150, 49, 2, 0, 0, .aload_n 2, 1), (1151, 35, 20, 320, 1142, .invokevirtual 115, 3), (1154, 1, 5, 0, 0, .iload 5, 2), (1156, 15, 0, 706, 0, .if_icmp .eq 5, 3), (1159, 99, 0, 0, 0, .nop, 1), (1160, 99, 0, 0, 0, .nop, 1), (1161, 1, 5, 0, 0, .iload 5, 2), (1163, 14, 1, 717, 0, .ifCond .ne 15, 3), (1166, 99, 0, 0, 0, .nop, 1), (1167, 99, 0, 0, 0, .nop, 1), (1168, 99, 0, 0, 0, .nop, 1), (1169, 99, 0, 0, 0, .nop, 1), (1171, 99, 0, 0, 0, .nop, 1), (1172, 99, 0, 0, 0, .nop, 1), (1173, 99, 0, 0, 0, .nop, 1), (1176, 99, 0, 0, 0, .nop, 1), (1177, 99, 0, 0, 0, .nop, 1), (1178, 20, 1419, 0, 0, .goto 1086, 3), (1181, 49, 1, 0, 0, .aload_n 1, 1), (1182, 49, 0, 0, 0, .aload_n 0, 1), (1183, 1, 4, 0, 0, .iload 4, 2), (1185, 0, 1, 0, 0, .iconst 1, 1), (1186, 4, 0, 0, 0, .iadd, 1), (1187, 24, 0, 0, 0, .iaload, 1), (1188, 49, 0, 0, 0, .aload_n 0, 1), (1189, 1, 4, 0, 0, .iload 4, 2), (1191, 0, 2, 0, 0, .iconst 2, 1), (1192, 4, 0, 0, 0, .iadd, 1), (1193, 24, 0, 0, 0, .iaload, 1), (1194, 49, 0, 0, 0, .aload_n 0, 1), (1195, 1, 4, 0, 0, .iload 4, 2), (1197, 0, 3, 0, 0, .iconst 3, 1), (1198, 4, 0, 0, 0, .iadd, 1), (1199, 24, 0, 0, 0, .iaload, 1), (1200, 49, 3, 0, 0, .aload_n 3, 1), (1201, 39, 80, 5, 810, .invokestatic 154, 3), (1204, 2, 5, 0, 0, .istore 5, 2), (1206, 49, 2, 0, 0, .aload_n 2, 1), (1207, 49, 0, 0, 0, .aload_n 0, 1), (1208, 1, 4, 0, 0, .iload 4, 2), (1210, 0, 1, 0, 0, .iconst 1, 1), (1211, 4, 0, 0, 0, .iadd, 1), (1212, 24, 0, 0, 0, .iaload, 1), (1213, 49, 0, 0, 0, .aload_n 0, 1), (1214, 1, 4, 0, 0, .iload 4, 2), (1216, 0, 2, 0, 0, .iconst 2, 1), (1217, 4, 0, 0, 0, .iadd, 1), (1218, 24, 0, 0, 0, .iaload, 1), (1219, 49, 0, 0, 0, .aload_n 0, 1), (1220, 1, 4, 0, 0, .iload 4, 2), (1222, 0, 3, 0, 0, .iconst 3, 1), (1223, 4, 0, 0, 0, .iadd, 1), (1224, 24, 0, 0, 0, .iaload, 1), (1225, 35, 82, 323, 1338, .invokevirtual 156, 3), (1228, 2, 6, 0, 0, .istore 6, 2), (1230, 49, 2, 0, 0, .aload_n 2, 1), (1231, 35, 20, 320, 1142, .invokevirtual 115, 3), (1234, 1, 5, 0, 0, .iload 5, 2), (1236, 15, 0, 761, 0, .if_icmp .eq 5, 3), (1239, 99, 0, 0, 0, .nop, 1), (1240, 99, 0, 0, 0, .nop, 1), (1241, 1, 5, 0, 0, .iload 5, 2), (1243, 14, 1, 772, 0, .ifCond .ne 15, 3), (1246, 99, 0, 0, 0, .nop, 1), (1247, 99, 0, 0, 0, .nop, 1), (1248, 99, 0, 0, 0, .nop, 1), (1249, 99, 0, 0, 0, .nop, 1), (1251, 99, 0, 0, 0, .nop, 1), (1252, 99, 0, 0, 0, .nop, 1), (1253, 99, 0, 0, 0, .nop, 1), (1256, 99, 0, 0, 0, .nop, 1), (1257, 99, 0, 0, 0, .nop, 1), (1258, 20, 1419, 0, 0, .goto 1006, 3), (1261, 49, 1, 0, 0, .aload_n 1, 1), (1262, 49, 0, 0, 0, .aload_n 0, 1), (1263, 1, 4, 0, 0, .iload 4, 2), (1265, 0, 1, 0, 0, .iconst 1, 1), (1266, 4, 0, 0, 0, .iadd, 1), (1267, 24, 0, 0, 0, .iaload, 1), (1268, 49, 0, 0, 0, .aload_n 0, 1), (1269, 1, 4, 0, 0, .iload 4, 2), (1271, 0, 2, 0, 0, .iconst 2, 1), (1272, 4, 0, 0, 0, .iadd, 1), (1273, 24, 0, 0, 0, .iaload, 1), (1274, 49, 0, 0, 0, .aload_n 0, 1), (1275, 1, 4, 0, 0, .iload 4, 2), (1277, 0, 3, 0, 0, .iconst 3, 1), (1278, 4, 0, 0, 0, .iadd, 1), (1279, 24, 0, 0, 0, .iaload, 1), (1280, 49, 3, 0, 0, .aload_n 3, 1), (1281, 39, 83, 5, 817, .invokestatic 157, 3), (1284, 2, 5, 0, 0, .istore 5, 2), (1286, 49, 2, 0, 0, .aload_n 2, 1), (1287, 49, 0, 0, 0, .aload_n 0, 1), (1288, 1, 4, 0, 0, .iload 4, 2), (1290, 0, 1, 0, 0, .iconst 1, 1), (1291, 4, 0, 0, 0, .iadd, 1), (1292, 24, 0, 0, 0, .iaload, 1), (1293, 49, 0, 0, 0, .aload_n 0, 1), (1294, 1, 4, 0, 0, .iload 4, 2), (1296, 0, 2, 0, 0, .iconst 2, 1), (1297, 4, 0, 0, 0, .iadd, 1), (1298, 24, 0, 0, 0, .iaload, 1), (1299, 49, 0, 0, 0, .aload_n 0, 1), (1300, 1, 4, 0, 0, .iload 4, 2), (1302, 0, 3, 0, 0, .iconst 3, 1), (1303, 4, 0, 0, 0, .iadd, 1), (1304, 24, 0, 0, 0, .iaload, 1), (1305, 35, 85, 323, 1342, .invokevirtual 159, 3), (1308, 2, 6, 0, 0, .istore 6, 2), (1310, 49, 2, 0, 0, .aload_n 2, 1), (1311, 35, 20, 320, 1142, .invokevirtual 115, 3), (1314, 1, 5, 0, 0, .iload 5, 2), (1316, 15, 0, 816, 0, .if_icmp .eq 5, 3), (1319, 99, 0, 0, 0, .nop, 1), (1320, 99, 0, 0, 0, .nop, 1), (1321, 1, 5, 0, 0, .iload 5, 2), (1323, 14, 1, 827, 0, .ifCond .ne 15, 3), (1326, 99, 0, 0, 0, .nop, 1), (1327, 99, 0, 0, 0, .nop, 1), (1328, 99, 0, 0, 0, .nop, 1), (1329, 99, 0, 0, 0, .nop, 1), (1331, 99, 0, 0, 0, .nop, 1), (1332, 99, 0, 0, 0, .nop, 1), (1333, 99, 0, 0, 0, .nop, 1), (1336, 99, 0, 0, 0, .nop, 1), (1337, 99, 0, 0, 0, .nop, 1), (1338, 20, 1419, 0, 0, .goto 926, 3), (1341, 49, 1, 0, 0, .aload_n 1, 1), (1342, 49, 0, 0, 0, .aload_n 0, 1), (1343, 1, 4, 0, 0, .iload 4, 2), (1345, 0, 1, 0, 0, .iconst 1, 1), (1346, 4, 0, 0, 0, .iadd, 1), (1347, 24, 0, 0, 0, .iaload, 1), (1348, 49, 0, 0, 0, .aload_n 0, 1), (1349, 1, 4, 0, 0, .iload 4, 2), (1351, 0, 2, 0, 0, .iconst 2, 1), (1352, 4, 0, 0, 0, .iadd, 1), (1353, 24, 0, 0, 0, .iaload, 1), (1354, 14, 0, 842, 0, .ifCond .eq 7, 3), (1357, 0, 1, 0, 0, .iconst 1, 1), (1358, 20, 843, 0, 0, .goto 4, 3), (1361, 0, 0, 0, 0, .iconst 0, 1), (1362, 49, 3, 0, 0, .aload_n 3, 1), (1363, 39, 86, 4, 829, .invokestatic 160, 3), (1366, 2, 5, 0, 0, .istore 5, 2), (1368, 49, 2, 0, 0, .aload_n 2, 1), (1369, 49, 0, 0, 0, .aload_n 0, 1), (1370, 1, 4, 0, 0, .iload 4, 2), (1372, 0, 1, 0, 0, .iconst 1, 1), (1373, 4, 0, 0, 0, .iadd, 1), (1374, 24, 0, 0, 0, .iaload, 1), (1375, 49, 0, 0, 0, .aload_n 0, 1), (1376, 1, 4, 0, 0, .iload 4, 2), (1378, 0, 2, 0, 0, .iconst 2, 1), (1379, 4, 0, 0, 0, .iadd, 1), (1380, 24, 0, 0, 0, .iaload, 1), (1381, 14, 0, 860, 0, .ifCond .eq 7, 3), (1384, 0, 1, 0, 0, .iconst 1, 1), (1385, 20, 861, 0, 0, .goto 4, 3), (1388, 0, 0, 0, 0, .iconst 0, 1), (1389, 35, 88, 322, 1346, .invokevirtual 163, 3), (1392, 2, 6, 0, 0, .istore 6, 2), (1394, 49, 2, 0, 0, .aload_n 2, 1), (1395, 35, 20, 320, 1142, .invokevirtual 115, 3), (1398, 1, 5, 0, 0, .iload 5, 2), (1400, 15, 0, 869, 0, .if_icmp .eq 5, 3), (1403, 99, 0, 0, 0, .nop, 1), (1404, 99, 0, 0, 0, .nop, 1), (1405, 1, 5, 0, 0, .iload 5, 2), (1407, 14, 1, 880, 0, .ifCond .ne 15, 3), (1410, 49, 3, 0, 0, .aload_n 3, 1), (1411, 0, 0, 0, 0, .iconst 0, 1), (1412, 26, 0, 0, 0, .laload, 1), (1413, 1, 6, 0, 0, .iload 6, 2), (1415, 45, 0, 0, 0, .i2l, 1), (1416, 46, 0, 0, 0, .lcmp, 1), (1417, 14, 0, 880, 0, .ifCond .eq 5, 3), (1420, 99, 0, 0, 0, .nop, 1), (1421, 99, 0, 0, 0, .nop, 1), (1422, 20, 1419, 0, 0, .goto 842, 3), (1425, 49, 1, 0, 0, .aload_n 1, 1), (1426, 49, 0, 0, 0, .aload_n 0, 1), (1427, 1, 4, 0, 0, .iload 4, 2), (1429, 0, 1, 0, 0, .iconst 1, 1), (1430, 4, 0, 0, 0, .iadd, 1), (1431, 24, 0, 0, 0, .iaload, 1), (1432, 49, 3, 0, 0, .aload_n 3, 1), (1433, 39, 93, 3, 840, .invokestatic 164, 3), (1436, 2, 5, 0, 0, .istore 5, 2), (1438, 49, 2, 0, 0, .aload_n 2, 1), (1439, 49, 0, 0, 0, .aload_n 0, 1), (1440, 1, 4, 0, 0, .iload 4, 2), (1442, 0, 1, 0, 0, .iconst 1, 1), (1443, 4, 0, 0, 0, .iadd, 1), (1444, 24, 0, 0, 0, .iaload, 1), (1445, 35, 95, 321, 1362, .invokevirtual 167, 3), (1448, 2, 6, 0, 0, .istore 6, 2), (1450, 49, 2, 0, 0, .aload_n 2, 1), (1451, 35, 20, 320, 1142, .invokevirtual 115, 3), (1454, 1, 5, 0, 0, .iload 5, 2), (1456, 15, 0, 904, 0, .if_icmp .eq 5, 3), (1459, 99, 0, 0, 0, .nop, 1), (1460, 99, 0, 0, 0, .nop, 1), (1461, 1, 5, 0, 0, .iload 5, 2), (1463, 14, 1, 915, 0, .ifCond .ne 15, 3), (1466, 99, 0, 0, 0, .nop, 1), (1467, 99, 0, 0, 0, .nop, 1), (1468, 99, 0, 0, 0, .nop, 1), (1469, 99, 0, 0, 0, .nop, 1), (1471, 99, 0, 0, 0, .nop, 1), (1472, 99, 0, 0, 0, .nop, 1), (1473, 99, 0, 0, 0, .nop, 1), (1476, 99, 0, 0, 0, .nop, 1), (1477, 99, 0, 0, 0, .nop, 1), (1478, 20, 1419, 0, 0, .goto 786, 3), (1481, 49, 1, 0, 0, .aload_n 1, 1), (1482, 49, 0, 0, 0, .aload_n 0, 1), (1483, 1, 4, 0, 0, .iload 4, 2), (1485, 0, 1, 0, 0, .iconst 1, 1), (1486, 4, 0, 0, 0, .iadd, 1), (1487, 24, 0, 0, 0, .iaload, 1), (1488, 49, 0, 0, 0, .aload_n 0, 1), (1489, 1, 4, 0, 0, .iload 4, 2), (1491, 0, 2, 0, 0, .iconst 2, 1), (1492, 4, 0, 0, 0, .iadd, 1), (1493, 24, 0, 0, 0, .iaload, 1), (1494, 49, 0, 0, 0, .aload_n 0, 1), (1495, 1, 4, 0, 0, .iload 4, 2), (1497, 0, 3, 0, 0, .iconst 3, 1), (1498, 4, 0, 0, 0, .iadd, 1), (1499, 24, 0, 0, 0, .iaload, 1), (1500, 39, 96, 4, 847, .invokestatic 168, 3), (1503, 2, 5, 0, 0, .istore 5, 2), (1505, 49, 2, 0, 0, .aload_n 2, 1), (1506, 49, 0, 0, 0, .aload_n 0, 1), (1507, 1, 4, 0, 0, .iload 4, 2), (1509, 0, 1, 0, 0, .iconst 1, 1), (1510, 4, 0, 0, 0, .iadd, 1), (1511, 24, 0, 0, 0, .iaload, 1), (1512, 49, 0, 0, 0, .aload_n 0, 1), (1513, 1, 4, 0, 0, .iload 4, 2), (1515, 0, 2, 0, 0, .iconst 2, 1), (1516, 4, 0, 0, 0, .iadd, 1), (1517, 24, 0, 0, 0, .iaload, 1), (1518, 49, 0, 0, 0, .aload_n 0, 1), (1519, 1, 4, 0, 0, .iload 4, 2), (1521, 0, 3, 0, 0, .iconst 3, 1), (1522, 4, 0, 0, 0, .iadd, 1), (1523, 24, 0, 0, 0, .iaload, 1), (1524, 35, 98, 323, 1366, .invokevirtual 171, 3), (1527, 49, 2, 0, 0, .aload_n 2, 1), (1528, 35, 20, 320, 1142, .invokevirtual 115, 3), (1531, 1, 5, 0, 0, .iload 5, 2), (1533, 15, 0, 957, 0, .if_icmp .eq 5, 3), (1536, 99, 0, 0, 0, .nop, 1), (1537, 99, 0, 0, 0, .nop, 1), (1538, 20, 1419, 0, 0, .goto 726, 3), (1541, 49, 1, 0, 0, .aload_n 1, 1), (1542, 49, 0, 0, 0, .aload_n 0, 1), (1543, 1, 4, 0, 0, .iload 4, 2), (1545, 0, 1, 0, 0, .iconst 1, 1), (1546, 4, 0, 0, 0, .iadd, 1), (1547, 24, 0, 0, 0, .iaload, 1), (1548, 49, 0, 0, 0, .aload_n 0, 1), (1549, 1, 4, 0, 0, .iload 4, 2), (1551, 0, 2, 0, 0, .iconst 2, 1), (1552, 4, 0, 0, 0, .iadd, 1), (1553, 24, 0, 0, 0, .iaload, 1), (1554, 49, 3, 0, 0, .aload_n 3, 1), (1555, 39, 99, 4, 854, .invokestatic 172, 3), (1558, 2, 5, 0, 0, .istore 5, 2), (1560, 49, 2, 0, 0, .aload_n 2, 1), (1561, 49, 0, 0, 0, .aload_n 0, 1), (1562, 1, 4, 0, 0, .iload 4, 2), (1564, 0, 1, 0, 0, .iconst 1, 1), (1565, 4, 0, 0, 0, .iadd, 1), (1566, 24, 0, 0, 0, .iaload, 1), (1567, 49, 0, 0, 0, .aload_n 0, 1), (1568, 1, 4, 0, 0, .iload 4, 2), (1570, 0, 2, 0, 0, .iconst 2, 1), (1571, 4, 0, 0, 0, .iadd, 1), (1572, 24, 0, 0, 0, .iaload, 1), (1573, 35, 101, 322, 1370, .invokevirtual 174, 3), (1576, 2, 6, 0, 0, .istore 6, 2), (1578, 49, 2, 0, 0, .aload_n 2, 1), (1579, 35, 20, 320, 1142, .invokevirtual 115, 3), (1582, 1, 5, 0, 0, .iload 5, 2), (1584, 15, 0, 991, 0, .if_icmp .eq 5, 3), (1587, 99, 0, 0, 0, .nop, 1), (1588, 99, 0, 0, 0, .nop, 1), (1589, 1, 5, 0, 0, .iload 5, 2), (1591, 14, 1, 1002, 0, .ifCond .ne 15, 3), (1594, 49, 3, 0, 0, .aload_n 3, 1), (1595, 0, 0, 0, 0, .iconst 0, 1), (1596, 26, 0, 0, 0, .laload, 1), (1597, 1, 6, 0, 0, .iload 6, 2), (1599, 45, 0, 0, 0, .i2l, 1), (1600, 46, 0, 0, 0, .lcmp, 1), (1601, 14, 0, 1002, 0, .ifCond .eq 5, 3), (1604, 99, 0, 0, 0, .nop, 1), (1605, 99, 0, 0, 0, .nop, 1), (1606, 20, 1419, 0, 0, .goto 658, 3), (1609, 49, 1, 0, 0, .aload_n 1, 1), (1610, 49, 0, 0, 0, .aload_n 0, 1), (1611, 1, 4, 0, 0, .iload 4, 2), (1613, 0, 1, 0, 0, .iconst 1, 1), (1614, 4, 0, 0, 0, .iadd, 1), (1615, 24, 0, 0, 0, .iaload, 1), (1616, 49, 0, 0, 0, .aload_n 0, 1), (1617, 1, 4, 0, 0, .iload 4, 2), (1619, 0, 2, 0, 0, .iconst 2, 1), (1620, 4, 0, 0, 0, .iadd, 1), (1621, 24, 0, 0, 0, .iaload, 1), (1622, 49, 3, 0, 0, .aload_n 3, 1), (1623, 39, 109, 4, 865, .invokestatic 175, 3), (1626, 2, 5, 0, 0, .istore 5, 2), (1628, 49, 2, 0, 0, .aload_n 2, 1), (1629, 49, 0, 0, 0, .aload_n 0, 1), (1630, 1, 4, 0, 0, .iload 4, 2), (1632, 0, 1, 0, 0, .iconst 1, 1), (1633, 4, 0, 0, 0, .iadd, 1), (1634, 24, 0, 0, 0, .iaload, 1), (1635, 49, 0, 0, 0, .aload_n 0, 1), (1636, 1, 4, 0, 0, .iload 4, 2), (1638, 0, 2, 0, 0, .iconst 2, 1), (1639, 4, 0, 0, 0, .iadd, 1), (1640, 24, 0, 0, 0, .iaload, 1), (1641, 35, 111, 322, 1374, .invokevirtual 177, 3), (1644, 2, 6, 0, 0, .istore 6, 2), (1646, 49, 2, 0, 0, .aload_n 2, 1), (1647, 35, 20, 320, 1142, .invokevirtual 115, 3), (1650, 1, 5, 0, 0, .iload 5, 2), (1652, 15, 0, 1036, 0, .if_icmp .eq 5, 3), (1655, 99, 0, 0, 0, .nop, 1), (1656, 99, 0, 0, 0, .nop, 1), (1657, 1, 5, 0, 0, .iload 5, 2), (1659, 14, 1, 1050, 0, .ifCond .ne 22, 3), (1662, 49, 3, 0, 0, .aload_n 3, 1), (1663, 0, 0, 0, 0, .iconst 0, 1), (1664, 26, 0, 0, 0, .laload, 1), (1665, 1, 6, 0, 0, .iload 6, 2), (1667, 14, 0, 1045, 0, .ifCond .eq 7, 3), (1670, 47, 1, 0, 0, .lconst 1, 1), (1671, 20, 1046, 0, 0, .goto 4, 3), (1674, 99, 0, 0, 0, .nop, 1), (1675, 46, 0, 0, 0, .lcmp, 1), (1676, 14, 0, 1050, 0, .ifCond .eq 5, 3), (1679, 99, 0, 0, 0, .nop, 1), (1680, 99, 0, 0, 0, .nop, 1), (1681, 20, 1419, 0, 0, .goto 583, 3), (1684, 49, 1, 0, 0, .aload_n 1, 1), (1685, 35, 112, 288, 347, .invokevirtual 178, 3), (1688, 49, 2, 0, 0, .aload_n 2, 1), (1689, 35, 117, 320, 1378, .invokevirtual 181, 3), (1692, 15, 0, 1419, 0, .if_icmp .eq 572, 3), (1695, 99, 0, 0, 0, .nop, 1), (1696, 99, 0, 0, 0, .nop, 1), (1697, 49, 1, 0, 0, .aload_n 1, 1), (1698, 49, 0, 0, 0, .aload_n 0, 1), (1699, 1, 4, 0, 0, .iload 4, 2), (1701, 0, 1, 0, 0, .iconst 1, 1), (1702, 4, 0, 0, 0, .iadd, 1), (1703, 24, 0, 0, 0, .iaload, 1), (1704, 49, 0, 0, 0, .aload_n 0, 1), (1705, 1, 4, 0, 0, .iload 4, 2), (1707, 0, 2, 0, 0, .iconst 2, 1), (1708, 4, 0, 0, 0, .iadd, 1), (1709, 24, 0, 0, 0, .iaload, 1), (1710, 49, 3, 0, 0, .aload_n 3, 1), (1711, 39, 122, 4, 877, .invokestatic 182, 3), (1714, 2, 5, 0, 0, .istore 5, 2), (1716, 49, 2, 0, 0, .aload_n 2, 1), (1717, 49, 0, 0, 0, .aload_n 0, 1), (1718, 1, 4, 0, 0, .iload 4, 2), (1720, 0, 1, 0, 0, .iconst 1, 1), (1721, 4, 0, 0, 0, .iadd, 1), (1722, 24, 0, 0, 0, .iaload, 1), (1723, 49, 0, 0, 0, .aload_n 0, 1), (1724, 1, 4, 0, 0, .iload 4, 2), (1726, 0, 2, 0, 0, .iconst 2, 1), (1727, 4, 0, 0, 0, .iadd, 1), (1728, 24, 0, 0, 0, .iaload, 1), (1729, 35, 124, 322, 1386, .invokevirtual 184, 3), (1732, 2, 6, 0, 0, .istore 6, 2), (1734, 49, 2, 0, 0, .aload_n 2, 1), (1735, 35, 20, 320, 1142, .invokevirtual 115, 3), (1738, 1, 5, 0, 0, .iload 5, 2), (1740, 15, 0, 1091, 0, .if_icmp .eq 5, 3), (1743, 99, 0, 0, 0, .nop, 1), (1744, 99, 0, 0, 0, .nop, 1), (1745, 1, 5, 0, 0, .iload 5, 2), (1747, 14, 1, 1102, 0, .ifCond .ne 15, 3), (1750, 99, 0, 0, 0, .nop, 1), (1751, 99, 0, 0, 0, .nop, 1), (1752, 99, 0, 0, 0, .nop, 1), (1753, 99, 0, 0, 0, .nop, 1), (1755, 99, 0, 0, 0, .nop, 1), (1756, 99, 0, 0, 0, .nop, 1), (1757, 99, 0, 0, 0, .nop, 1), (1760, 99, 0, 0, 0, .nop, 1), (1761, 99, 0, 0, 0, .nop, 1), (1762, 20, 1419, 0, 0, .goto 502, 3), (1765, 49, 1, 0, 0, .aload_n 1, 1), (1766, 35, 125, 288, 368, .invokevirtual 185, 3), (1769, 49, 2, 0, 0, .aload_n 2, 1), (1770, 35, 126, 320, 1390, .invokevirtual 188, 3), (1773, 15, 0, 1419, 0, .if_icmp .eq 491, 3), (1776, 99, 0, 0, 0, .nop, 1), (1777, 99, 0, 0, 0, .nop, 1), (1778, 49, 1, 0, 0, .aload_n 1, 1), (1779, 49, 0, 0, 0, .aload_n 0, 1), (1780, 1, 4, 0, 0, .iload 4, 2), (1782, 0, 1, 0, 0, .iconst 1, 1), (1783, 4, 0, 0, 0, .iadd, 1), (1784, 24, 0, 0, 0, .iaload, 1), (1785, 49, 0, 0, 0, .aload_n 0, 1), (1786, 1, 4, 0, 0, .iload 4, 2), (1788, 0, 2, 0, 0, .iconst 2, 1), (1789, 4, 0, 0, 0, .iadd, 1), (1790, 24, 0, 0, 0, .iaload, 1), (1791, 49, 3, 0, 0, .aload_n 3, 1), (1792, 39, 127, 4, 912, .invokestatic 189, 3), (1795, 2, 5, 0, 0, .istore 5, 2), (1797, 49, 2, 0, 0, .aload_n 2, 1), (1798, 49, 0, 0, 0, .aload_n 0, 1), (1799, 1, 4, 0, 0, .iload 4, 2), (1801, 0, 1, 0, 0, .iconst 1, 1), (1802, 4, 0, 0, 0, .iadd, 1), (1803, 24, 0, 0, 0, .iaload, 1), (1804, 49, 0, 0, 0, .aload_n 0, 1), (1805, 1, 4, 0, 0, .iload 4, 2), (1807, 0, 2, 0, 0, .iconst 2, 1), (1808, 4, 0, 0, 0, .iadd, 1), (1809, 24, 0, 0, 0, .iaload, 1), (1810, 35, 129, 322, 1402, .invokevirtual 191, 3), (1813, 2, 6, 0, 0, .istore 6, 2), (1815, 49, 2, 0, 0, .aload_n 2, 1), (1816, 35, 20, 320, 1142, .invokevirtual 115, 3), (1819, 1, 5, 0, 0, .iload 5, 2), (1821, 15, 0, 1143, 0, .if_icmp .eq 5, 3), (1824, 99, 0, 0, 0, .nop, 1), (1825, 99, 0, 0, 0, .nop, 1), (1826, 1, 5, 0, 0, .iload 5, 2), (1828, 14, 1, 1154, 0, .ifCond .ne 15, 3), (1831, 99, 0, 0, 0, .nop, 1), (1832, 99, 0, 0, 0, .nop, 1), (1833, 99, 0, 0, 0, .nop, 1), (1834, 99, 0, 0, 0, .nop, 1), (1836, 99, 0, 0, 0, .nop, 1), (1837, 99, 0, 0, 0, .nop, 1), (1838, 99, 0, 0, 0, .nop, 1), (1841, 99, 0, 0, 0, .nop, 1), (1842, 99, 0, 0, 0, .nop, 1), (1843, 20, 1419, 0, 0, .goto 421, 3), (1846, 49, 1, 0, 0, .aload_n 1, 1), (1847, 49, 0, 0, 0, .aload_n 0, 1), (1848, 1, 4, 0, 0, .iload 4, 2), (1850, 0, 1, 0, 0, .iconst 1, 1), (1851, 4, 0, 0, 0, .iadd, 1), (1852, 24, 0, 0, 0, .iaload, 1), (1853, 49, 3, 0, 0, .aload_n 3, 1), (1854, 39, 130, 3, 942, .invokestatic 192, 3), (1857, 2, 5, 0, 0, .istore 5, 2), (1859, 49, 2, 0, 0, .aload_n 2, 1), (1860, 49, 0, 0, 0, .aload_n 0, 1), (1861, 1, 4, 0, 0, .iload 4, 2), (1863, 0, 1, 0, 0, .iconst 1, 1), (1864, 4, 0, 0, 0, .iadd, 1), (1865, 24, 0, 0, 0, .iaload, 1), (1866, 35, 132, 321, 1418, .invokevirtual 194, 3), (1869, 2, 6, 0, 0, .istore 6, 2), (1871, 49, 2, 0, 0, .aload_n 2, 1), (1872, 35, 20, 320, 1142, .invokevirtual 115, 3), (1875, 1, 5, 0, 0, .iload 5, 2), (1877, 15, 0, 1178, 0, .if_icmp .eq 5, 3), (1880, 99, 0, 0, 0, .nop, 1), (1881, 99, 0, 0, 0, .nop, 1), (1882, 1, 5, 0, 0, .iload 5, 2), (1884, 14, 1, 1189, 0, .ifCond .ne 15, 3), (1887, 99, 0, 0, 0, .nop, 1), (1888, 99, 0, 0, 0, .nop, 1), (1889, 99, 0, 0, 0, .nop, 1), (1890, 99, 0, 0, 0, .nop, 1), (1892, 99, 0, 0, 0, .nop, 1), (1893, 99, 0, 0, 0, .nop, 1), (1894, 99, 0, 0, 0, .nop, 1), (1897, 99, 0, 0, 0, .nop, 1), (1898, 99, 0, 0, 0, .nop, 1), (1899, 20, 1419, 0, 0, .goto 365, 3), (1902, 49, 1, 0, 0, .aload_n 1, 1), (1903, 49, 0, 0, 0, .aload_n 0, 1), (1904, 1, 4, 0, 0, .iload 4, 2), (1906, 0, 1, 0, 0, .iconst 1, 1), (1907, 4, 0, 0, 0, .iadd, 1), (1908, 24, 0, 0, 0, .iaload, 1), (1909, 49, 3, 0, 0, .aload_n 3, 1), (1910, 39, 133, 3, 965, .invokestatic 195, 3), (1913, 2, 5, 0, 0, .istore 5, 2), (1915, 49, 2, 0, 0, .aload_n 2, 1), (1916, 49, 0, 0, 0, .aload_n 0, 1), (1917, 1, 4, 0, 0, .iload 4, 2), (1919, 0, 1, 0, 0, .iconst 1, 1), (1920, 4, 0, 0, 0, .iadd, 1), (1921, 24, 0, 0, 0, .iaload, 1), (1922, 35, 135, 321, 1430, .invokevirtual 197, 3), (1925, 2, 6, 0, 0, .istore 6, 2), (1927, 49, 2, 0, 0, .aload_n 2, 1), (1928, 35, 20, 320, 1142, .invokevirtual 115, 3), (1931, 1, 5, 0, 0, .iload 5, 2), (1933, 15, 0, 1213, 0, .if_icmp .eq 5, 3), (1936, 99, 0, 0, 0, .nop, 1), (1937, 99, 0, 0, 0, .nop, 1), (1938, 1, 5, 0, 0, .iload 5, 2), (1940, 14, 1, 1224, 0, .ifCond .ne 15, 3), (1943, 49, 3, 0, 0, .aload_n 3, 1), (1944, 0, 0, 0, 0, .iconst 0, 1), (1945, 26, 0, 0, 0, .laload, 1), (1946, 1, 6, 0, 0, .iload 6, 2), (1948, 45, 0, 0, 0, .i2l, 1), (1949, 46, 0, 0, 0, .lcmp, 1), (1950, 14, 0, 1224, 0, .ifCond .eq 5, 3), (1953, 99, 0, 0, 0, .nop, 1), (1954, 99, 0, 0, 0, .nop, 1), (1955, 20, 1419, 0, 0, .goto 309, 3), (1958, 49, 1, 0, 0, .aload_n 1, 1), (1959, 49, 0, 0, 0, .aload_n 0, 1), (1960, 1, 4, 0, 0, .iload 4, 2), (1962, 0, 1, 0, 0, .iconst 1, 1), (1963, 4, 0, 0, 0, .iadd, 1), (1964, 24, 0, 0, 0, .iaload, 1), (1965, 49, 3, 0, 0, .aload_n 3, 1), (1966, 39, 136, 3, 972, .invokestatic 198, 3), (1969, 2, 5, 0, 0, .istore 5, 2), (1971, 49, 2, 0, 0, .aload_n 2, 1), (1972, 49, 0, 0, 0, .aload_n 0, 1), (1973, 1, 4, 0, 0, .iload 4, 2), (1975, 0, 1, 0, 0, .iconst 1, 1), (1976, 4, 0, 0, 0, .iadd, 1), (1977, 24, 0, 0, 0, .iaload, 1), (1978, 35, 138, 321, 1434, .invokevirtual 200, 3), (1981, 2, 6, 0, 0, .istore 6, 2), (1983, 49, 2, 0, 0, .aload_n 2, 1), (1984, 35, 20, 320, 1142, .invokevirtual 115, 3), (1987, 1, 5, 0, 0, .iload 5, 2), (1989, 15, 0, 1248, 0, .if_icmp .eq 5, 3), (1992, 99, 0, 0, 0, .nop, 1), (1993, 99, 0, 0, 0, .nop, 1), (1994, 1, 5, 0, 0, .iload 5, 2), (1996, 14, 1, 1259, 0, .ifCond .ne 15, 3), (1999, 49, 3, 0, 0, .aload_n 3, 1), (2000, 0, 0, 0, 0, .iconst 0, 1), (2001, 26, 0, 0, 0, .laload, 1), (2002, 1, 6, 0, 0, .iload 6, 2), (2004, 45, 0, 0, 0, .i2l, 1), (2005, 46, 0, 0, 0, .lcmp, 1), (2006, 14, 0, 1259, 0, .ifCond .eq 5, 3), (2009, 99, 0, 0, 0, .nop, 1), (2010, 99, 0, 0, 0, .nop, 1), (2011, 20, 1419, 0, 0, .goto 253, 3), (2014, 49, 1, 0, 0, .aload_n 1, 1), (2015, 49, 0, 0, 0, .aload_n 0, 1), (2016, 1, 4, 0, 0, .iload 4, 2), (2018, 0, 1, 0, 0, .iconst 1, 1), (2019, 4, 0, 0, 0, .iadd, 1), (2020, 24, 0, 0, 0, .iaload, 1), (2021, 49, 0, 0, 0, .aload_n 0, 1), (2022, 1, 4, 0, 0, .iload 4, 2), (2024, 0, 2, 0, 0, .iconst 2, 1), (2025, 4, 0, 0, 0, .iadd, 1), (2026, 24, 0, 0, 0, .iaload, 1), (2027, 49, 0, 0, 0, .aload_n 0, 1), (2028, 1, 4, 0, 0, .iload 4, 2), (2030, 0, 3, 0, 0, .iconst 3, 1), (2031, 4, 0, 0, 0, .iadd, 1), (2032, 24, 0, 0, 0, .iaload, 1), (2033, 49, 0, 0, 0, .aload_n 0, 1), (2034, 1, 4, 0, 0, .iload 4, 2), (2036, 0, 4, 0, 0, .iconst 4, 1), (2037, 4, 0, 0, 0, .iadd, 1), (2038, 24, 0, 0, 0, .iaload, 1), (2039, 49, 3, 0, 0, .aload_n 3, 1), (2040, 39, 141, 6, 991, .invokestatic 201, 3), (2043, 2, 5, 0, 0, .istore 5, 2), (2045, 49, 2, 0, 0, .aload_n 2, 1), (2046, 49, 0, 0, 0, .aload_n 0, 1), (2047, 1, 4, 0, 0, .iload 4, 2), (2049, 0, 1, 0, 0, .iconst 1, 1), (2050, 4, 0, 0, 0, .iadd, 1), (2051, 24, 0, 0, 0, .iaload, 1), (2052, 49, 0, 0, 0, .aload_n 0, 1), (2053, 1, 4, 0, 0, .iload 4, 2), (2055, 0, 2, 0, 0, .iconst 2, 1), (2056, 4, 0, 0, 0, .iadd, 1), (2057, 24, 0, 0, 0, .iaload, 1), (2058, 49, 0, 0, 0, .aload_n 0, 1), (2059, 1, 4, 0, 0, .iload 4, 2), (2061, 0, 3, 0, 0, .iconst 3, 1), (2062, 4, 0, 0, 0, .iadd, 1), (2063, 24, 0, 0, 0, .iaload, 1), (2064, 49, 0, 0, 0, .aload_n 0, 1), (2065, 1, 4, 0, 0, .iload 4, 2), (2067, 0, 4, 0, 0, .iconst 4, 1), (2068, 4, 0, 0, 0, .iadd, 1), (2069, 24, 0, 0, 0, .iaload, 1), (2070, 35, 144, 324, 1442, .invokevirtual 203, 3), (2073, 2, 6, 0, 0, .istore 6, 2), (2075, 49, 2, 0, 0, .aload_n 2, 1), (2076, 35, 20, 320, 1142, .invokevirtual 115, 3), (2079, 1, 5, 0, 0, .iload 5, 2), (2081, 15, 0, 1313, 0, .if_icmp .eq 5, 3), (2084, 99, 0, 0, 0, .nop, 1), (2085, 99, 0, 0, 0, .nop, 1), (2086, 1, 5, 0, 0, .iload 5, 2), (2088, 14, 1, 1327, 0, .ifCond .ne 22, 3), (2091, 99, 0, 0, 0, .nop, 1), (2092, 99, 0, 0, 0, .nop, 1), (2093, 99, 0, 0, 0, .nop, 1), (2094, 99, 0, 0, 0, .nop, 1), (2096, 99, 0, 0, 0, .nop, 1), (2099, 99, 0, 0, 0, .nop, 1), (2100, 99, 0, 0, 0, .nop, 1), (2103, 99, 0, 0, 0, .nop, 1), (2104, 99, 0, 0, 0, .nop, 1), (2105, 99, 0, 0, 0, .nop, 1), (2108, 99, 0, 0, 0, .nop, 1), (2109, 99, 0, 0, 0, .nop, 1), (2110, 20, 1419, 0, 0, .goto 154, 3), (2113, 49, 1, 0, 0, .aload_n 1, 1), (2114, 35, 145, 288, 453, .invokevirtual 204, 3), (2117, 49, 2, 0, 0, .aload_n 2, 1), (2118, 35, 147, 320, 1446, .invokevirtual 207, 3), (2121, 15, 0, 1419, 0, .if_icmp .eq 143, 3), (2124, 99, 0, 0, 0, .nop, 1), (2125, 99, 0, 0, 0, .nop, 1), (2126, 49, 1, 0, 0, .aload_n 1, 1), (2127, 49, 0, 0, 0, .aload_n 0, 1), (2128, 1, 4, 0, 0, .iload 4, 2), (2130, 0, 1, 0, 0, .iconst 1, 1), (2131, 4, 0, 0, 0, .iadd, 1), (2132, 24, 0, 0, 0, .iaload, 1), (2133, 49, 3, 0, 0, .aload_n 3, 1), (2134, 39, 148, 3, 1005, .invokestatic 208, 3), (2137, 2, 5, 0, 0, .istore 5, 2), (2139, 49, 2, 0, 0, .aload_n 2, 1), (2140, 49, 0, 0, 0, .aload_n 0, 1), (2141, 1, 4, 0, 0, .iload 4, 2), (2143, 0, 1, 0, 0, .iconst 1, 1), (2144, 4, 0, 0, 0, .iadd, 1), (2145, 24, 0, 0, 0, .iaload, 1), (2146, 35, 150, 321, 1450, .invokevirtual 210, 3), (2149, 2, 6, 0, 0, .istore 6, 2), (2151, 49, 2, 0, 0, .aload_n 2, 1), (2152, 35, 20, 320, 1142, .invokevirtual 115, 3), (2155, 1, 5, 0, 0, .iload 5, 2), (2157, 15, 0, 1358, 0, .if_icmp .eq 5, 3), (2160, 99, 0, 0, 0, .nop, 1), (2161, 99, 0, 0, 0, .nop, 1), (2162, 1, 5, 0, 0, .iload 5, 2), (2164, 14, 1, 1369, 0, .ifCond .ne 15, 3), (2167, 49, 3, 0, 0, .aload_n 3, 1), (2168, 0, 0, 0, 0, .iconst 0, 1), (2169, 26, 0, 0, 0, .laload, 1), (2170, 1, 6, 0, 0, .iload 6, 2), (2172, 45, 0, 0, 0, .i2l, 1), (2173, 46, 0, 0, 0, .lcmp, 1), (2174, 14, 0, 1369, 0, .ifCond .eq 5, 3), (2177, 99, 0, 0, 0, .nop, 1), (2178, 99, 0, 0, 0, .nop, 1), (2179, 20, 1419, 0, 0, .goto 85, 3), (2182, 49, 1, 0, 0, .aload_n 1, 1), (2183, 49, 0, 0, 0, .aload_n 0, 1), (2184, 1, 4, 0, 0, .iload 4, 2), (2186, 0, 1, 0, 0, .iconst 1, 1), (2187, 4, 0, 0, 0, .iadd, 1), (2188, 24, 0, 0, 0, .iaload, 1), (2189, 49, 3, 0, 0, .aload_n 3, 1), (2190, 39, 152, 3, 1012, .invokestatic 211, 3), (2193, 2, 5, 0, 0, .istore 5, 2), (2195, 49, 2, 0, 0, .aload_n 2, 1), (2196, 49, 0, 0, 0, .aload_n 0, 1), (2197, 1, 4, 0, 0, .iload 4, 2), (2199, 0, 1, 0, 0, .iconst 1, 1), (2200, 4, 0, 0, 0, .iadd, 1), (2201, 24, 0, 0, 0, .iaload, 1), (2202, 35, 154, 321, 1454, .invokevirtual 213, 3), (2205, 2, 6, 0, 0, .istore 6, 2), (2207, 49, 2, 0, 0, .aload_n 2, 1), (2208, 35, 20, 320, 1142, .invokevirtual 115, 3), (2211, 1, 5, 0, 0, .iload 5, 2), (2213, 15, 0, 1393, 0, .if_icmp .eq 5, 3), (2216, 99, 0, 0, 0, .nop, 1), (2217, 99, 0, 0, 0, .nop, 1), (2218, 1, 5, 0, 0, .iload 5, 2), (2220, 14, 1, 1404, 0, .ifCond .ne 15, 3), (2223, 49, 3, 0, 0, .aload_n 3, 1), (2224, 0, 0, 0, 0, .iconst 0, 1), (2225, 26, 0, 0, 0, .laload, 1), (2226, 1, 6, 0, 0, .iload 6, 2), (2228, 45, 0, 0, 0, .i2l, 1), (2229, 46, 0, 0, 0, .lcmp, 1), (2230, 14, 0, 1404, 0, .ifCond .eq 5, 3), (2233, 99, 0, 0, 0, .nop, 1), (2234, 99, 0, 0, 0, .nop, 1), (2235, 20, 1419, 0, 0, .goto 29, 3), (2238, 49, 1, 0, 0, .aload_n 1, 1), (2239, 35, 156, 288, 471, .invokevirtual 214, 3), (2242, 49, 2, 0, 0, .aload_n 2, 1), (2243, 35, 157, 320, 1458, .invokevirtual 217, 3), (2246, 15, 0, 1419, 0, .if_icmp .eq 18, 3), (2249, 99, 0, 0, 0, .nop, 1), (2250, 99, 0, 0, 0, .nop, 1), (2251, 49, 1, 0, 0, .aload_n 1, 1), (2252, 35, 158, 288, 475, .invokevirtual 218, 3), (2255, 49, 2, 0, 0, .aload_n 2, 1), (2256, 35, 159, 320, 1462, .invokevirtual 221, 3), (2259, 15, 0, 1419, 0, .if_icmp .eq 5, 3), (2262, 99, 0, 0, 0, .nop, 1), (2263, 99, 0, 0, 0, .nop, 1), (2264, 3, 4, 8, 0, .iinc 4 8, 3), (2267, 20, 13, 0, 0, .goto (-2244), 3), (2270, 0, 1, 0, 0, .iconst 1, 1), (2271, 40, 1, 0, 0, .ireturn, 1)]
def q_sw : List Nat := [25, 70, 125, 170, 230, 275, 360, 425, 520, 618, 663, 718, 773, 828, 881, 916, 958, 1003, 1051, 1058, 1103, 1110, 1155, 1190, 1225, 1260, 1328, 1335, 1370, 1405, 1412]
def q_prog : List qM := [(1, q_m0, []), (2, q_m1, []), (1, q_m2, []), (2, q_m3, []), (1, q_m4, []), (1, q_m5, []), (1, q_m6, []), (1, q_m7, []), (1, q_m8, []), (2, q_m9, []), (2, q_m10, []), (2, q_m11, []), (5, q_m12, [(0, 10, 9, 0), (0, 10, 12, 2)]), (5, q_m13, []), (2, q_m14, []), (5, q_m15, []), (3, q_m16, []), (2, q_m17, []), (4, q_m18, []), (2, q_m19, []), (1, q_m20, []), (1, q_m21, []), (2, q_m22, []), (1, q_m23, []), (2, q_m24, []), (2, q_m25, []), (3, q_m26, []), (4, q_m27, []), (4, q_m28, []), (1, q_m29, []), (3, q_m30, []), (3, q_m31, []), (4, q_m32, []), (4, q_m33, []), (3, q_m34, []), (4, q_m35, []), (4, q_m36, []), (3, q_m37, []), (6, q_m38, [(0, 12, 10, 0), (0, 12, 13, 2)]), (7, q_m39, []), (5, q_m40, []), (2, q_m41, []), (3, q_m42, []), (5, q_m43, [(0, 10, 9, 0), (0, 10, 12, 2)]), (6, q_m44, []), (6, q_m45, []), (6, q_m46, [(0, 9, 7, 0), (0, 9, 10, 2)]), (9, q_m47, []), (9, q_m48, []), (5, q_m49, [(0, 10, 9, 0)]), (5, q_m50, []), (3, q_m51, []), (9, q_m52, [(0, 18, 13, 0), (0, 18, 16, 1), (0, 18, 19, 2)]), (10, q_m53, []), (13, q_m54, []), (3, q_m55, []), (3, q_m56, []), (1, q_m57, []), (2, q_m58, []), (1, q_m59, []), (1, q_m60, []), (7, q_m61, [(0, 14, 11, 0), (0, 14, 14, 1), (0, 14, 17, 2)]), (9, q_m62, []), (8, q_m63, []), (10, q_m64, [(0, 20, 14, 0), (0, 20, 17, 1), (0, 20, 20, 2)]), (12, q_m65, []), (8, q_m66, []), (9, q_m67, []), (9, q_m68, []), (7, q_m69, []), (10, q_m70, [(0, 27, 17, 0), (0, 27, 20, 1), (0, 27, 23, 2)]), (12, q_m71, []), (13, q_m72, []), (5, q_m73, [(0, 10, 9, 0), (0, 10, 12, 2)]), (6, q_m74, []), (9, q_m75, []), (6, q_m76, [(0, 12, 10, 0), (0, 12, 13, 2)]), (6, q_m77, []), (5, q_m78, []), (7, q_m79, []), (6, q_m80, [(0, 12, 10, 0), (0, 12, 13, 1), (0, 12, 16, 2)]), (6, q_m81, []), (8, q_m82, []), (6, q_m83, [(0, 12, 10, 0), (0, 12, 13, 2)]), (7, q_m84, []), (12, q_m85, []), (5, q_m86, [(0, 10, 9, 0), (0, 10, 12, 2)]), (5, q_m87, []), (4, q_m88, []), (2, q_m89, []), (3, q_m90, []), (2, q_m91, []), (6, q_m92, []), (4, q_m93, [(0, 9, 8, 0), (0, 9, 11, 2)]), (3, q_m94, []), (2, q_m95, []), (5, q_m96, [(0, 7, 6, 0), (0, 7, 9, 1)]), (5, q_m97, []), (4, q_m98, []), (5, q_m99, [(0, 10, 9, 0), (0, 10, 12, 1)]), (4, q_m100, []), (5, q_m101, []), (1, q_m102, []), (8, q_m103, []), (1, q_m104, []), (1, q_m105, []), (6, q_m106, []), (4, q_m107, []), (4, q_m108, []), (5, q_m109, [(0, 17, 12, 0)]), (8, q_m110, []), (9, q_m111, []), (1, q_m112, []), (2, q_m113, []), (2, q_m114, []), (4, q_m115, []), (3, q_m116, []), (1, q_m117, []), (2, q_m118, []), (1, q_m119, []), (4, q_m120, []), (2, q_m121, []), (5, q_m122, [(0, 10, 9, 0), (0, 10, 12, 2)]), (6, q_m123, []), (8, q_m124, []), (3, q_m125, []), (3, q_m126, []), (5, q_m127, [(0, 10, 9, 0), (0, 10, 12, 2)]), (7, q_m128, []), (9, q_m129, []), (4, q_m130, [(0, 9, 8, 0), (0, 9, 11, 2)]), (10, q_m131, []), (6, q_m132, []), (4, q_m133, [(0, 9, 8, 1)]), (3, q_m134, []), (3, q_m135, []), (4, q_m136, [(0, 9, 8, 1)]), (2, q_m137, []), (5, q_m138, []), (5, q_m139, []), (4, q_m140, []), (7, q_m141, [(0, 21, 14, 0), (0, 21, 17, 2)]), (6, q_m142, []), (1, q_m143, []), (9, q_m144, []), (1, q_m145, []), (4, q_m146, []), (3, q_m147, []), (4, q_m148, [(0, 9, 8, 0)]), (2, q_m149, []), (2, q_m150, []), (4, q_m151, []), (4, q_m152, [(0, 9, 8, 0)]), (6, q_m153, []), (2, q_m154, []), (6, q_m155, []), (1, q_m156, []), (1, q_m157, []), (1, q_m158, []), (1, q_m159, [])]
def q_info : List qInf := [(⟨"Treebark", "<init>", "()V"⟩, prog_1_method_1_code, none, [], 97, 96, 0, 75), (⟨"Treebark$Disks", "<init>", "()V"⟩, prog_2_method_1_code, none, [], 105, 104, 0, 76), (⟨"Treebark$Extent", "<init>", "()V"⟩, prog_3_method_1_code, none, [], 112, 111, 0, 77), (⟨"Treebark", "newTrees", "()[LTreebark$Tree;"⟩, prog_1_method_54_code, (some (FieldType.array (FieldType.object "Treebark$Tree"))), [], 171, 170, 0, 75), (⟨"Treebark$Tree", "<init>", "()V"⟩, prog_9_method_1_code, none, [], 177, 176, 0, 78), (⟨"Treebark$Stream", "<init>", "()V"⟩, prog_8_method_1_code, none, [], 202, 201, 0, 79), (⟨"Treebark$Places", "<init>", "()V"⟩, prog_6_method_1_code, none, [], 231, 230, 0, 80), (⟨"Treebark$Weight", "<init>", "()V"⟩, prog_10_method_1_code, none, [], 246, 245, 0, 81), (⟨"Treebark$Root", "<init>", "()V"⟩, prog_7_method_1_code, none, [], 261, 260, 0, 82), (⟨"Treebark$Tree", "take", "(LTreebark$Root;)V"⟩, prog_9_method_2_code, none, [], 277, 275, 276, 78), (⟨"Treebark$Tree", "becomeLike", "(LTreebark$Tree;)V"⟩, prog_9_method_3_code, none, [], 305, 303, 304, 78), (⟨"TreebarkModel", "<init>", "()V"⟩, prog_12_method_1_code, none, [], 1031, 1030, 0, 83), (⟨"TreebarkLaw", "create", "(LTreebark;II[J)I"⟩, method_3_code, (some FieldType.int), [(0, 10, 13, 13), (0, 10, 17, 15)], 481, 480, 0, 74), (⟨"Treebark", "create", "(II)I"⟩, prog_1_method_2_code, (some FieldType.int), [], 487, 485, 486, 75), (⟨"Treebark", "treeAt", "(I)LTreebark$Tree;"⟩, prog_1_method_33_code, (some (FieldType.object "Treebark$Tree")), [], 491, 490, 6, 75), (⟨"TreebarkModel", "create", "(II)I"⟩, prog_12_method_29_code, (some FieldType.int), [], 1149, 1147, 1148, 83), (⟨"TreebarkModel", "isName", "(II)Z"⟩, prog_12_method_6_code, (some FieldType.boolean), [], 1153, 1152, 25, 83), (⟨"TreebarkModel", "isTree", "(I)Z"⟩, prog_12_method_5_code, (some FieldType.boolean), [], 1157, 1156, 26, 83), (⟨"TreebarkModel", "in", "(III)Z"⟩, prog_12_method_4_code, (some FieldType.boolean), [], 1161, 1160, 27, 83), (⟨"TreebarkModel", "holds", "(I)Z"⟩, prog_12_method_3_code, (some FieldType.boolean), [], 1169, 1168, 29, 83), (⟨"TreebarkModel", "thrown", "()I"⟩, prog_12_method_2_code, (some FieldType.int), [], 1145, 1143, 1144, 83), (⟨"Treebark", "checkName", "(I)V"⟩, prog_1_method_35_code, none, [], 557, 556, 0, 75), (⟨"Treebark$Root", "nodeAt", "(I)LTreebark$Node;"⟩, prog_7_method_2_code, (some (FieldType.object "Treebark$Node")), [], 289, 287, 288, 82), (⟨"Treebark", "checkState", "(Z)V"⟩, prog_1_method_40_code, none, [], 561, 560, 0, 75), (⟨"Treebark$Node", "<init>", "(I)V"⟩, prog_5_method_1_code, none, [], 398, 397, 0, 89), (⟨"Treebark", "changeableRoot", "(LTreebark$Tree;)LTreebark$Root;"⟩, prog_1_method_45_code, (some (FieldType.object "Treebark$Root")), [], 379, 378, 4, 75), (⟨"Treebark$Root", "twin", "()LTreebark$Root;"⟩, prog_7_method_13_code, (some (FieldType.object "Treebark$Root")), [], 383, 381, 382, 82), (⟨"Treebark$Root", "give", "(ILTreebark$Node;)V"⟩, prog_7_method_10_code, none, [], 444, 442, 443, 82), (⟨"Treebark$Root", "namesOf", "(LTreebark$Node;)I"⟩, prog_7_method_4_code, (some FieldType.int), [], 448, 446, 447, 82), (⟨"Treebark$Node", "gainRoot", "()V"⟩, prog_5_method_4_code, none, [], 389, 387, 388, 89), (⟨"Treebark$Places", "countUses", "(I)V"⟩, prog_6_method_14_code, none, [], 301, 299, 300, 80), (⟨"TreebarkModel", "node", "(II)I"⟩, prog_12_method_8_code, (some FieldType.int), [], 1165, 1164, 28, 83), (⟨"TreebarkModel", "ownRoot", "(I)V"⟩, prog_12_method_24_code, none, [], 1173, 1172, 30, 83), (⟨"TreebarkModel", "isRootShared", "(I)Z"⟩, prog_12_method_18_code, (some FieldType.boolean), [], 1177, 1176, 31, 83), (⟨"TreebarkModel", "hasRoot", "(II)Z"⟩, prog_12_method_17_code, (some FieldType.boolean), [], 1181, 1180, 32, 83), (⟨"TreebarkModel", "freeRoot", "()I"⟩, prog_12_method_21_code, (some FieldType.int), [], 1185, 1184, 33, 83), (⟨"TreebarkModel", "newNode", "(I)I"⟩, prog_12_method_26_code, (some FieldType.int), [], 1189, 1188, 34, 83), (⟨"TreebarkModel", "freeNode", "()I"⟩, prog_12_method_22_code, (some FieldType.int), [], 1193, 1192, 35, 83), (⟨"TreebarkLaw", "link", "(LTreebark;III[J)I"⟩, method_4_code, (some FieldType.int), [(0, 12, 15, 13), (0, 12, 19, 15)], 580, 579, 0, 74), (⟨"Treebark", "link", "(III)I"⟩, prog_1_method_3_code, (some FieldType.int), [], 584, 582, 583, 75), (⟨"TreebarkModel", "link", "(III)I"⟩, prog_12_method_30_code, (some FieldType.int), [], 1197, 1195, 1196, 83), (⟨"Treebark", "changeableFile", "(LTreebark$Tree;I)LTreebark$Node;"⟩, prog_1_method_43_code, (some (FieldType.object "Treebark$Node")), [], 587, 586, 0, 75), (⟨"Treebark", "fileAt", "(LTreebark$Tree;I)LTreebark$Node;"⟩, prog_1_method_42_code, (some (FieldType.object "Treebark$Node")), [], 590, 589, 0, 75), (⟨"TreebarkLaw", "unlink", "(LTreebark;II[J)I"⟩, method_5_code, (some FieldType.int), [(0, 10, 13, 13), (0, 10, 17, 15)], 595, 594, 0, 74), (⟨"Treebark", "unlink", "(II)I"⟩, prog_1_method_4_code, (some FieldType.int), [], 599, 597, 598, 75), (⟨"TreebarkModel", "unlink", "(II)I"⟩, prog_12_method_31_code, (some FieldType.int), [], 1205, 1203, 1204, 83), (⟨"TreebarkLaw", "rename", "(LTreebark;IIIZ)I"⟩, method_6_code, (some FieldType.int), [(0, 9, 12, 13), (0, 9, 16, 15)], 602, 601, 0, 74), (⟨"Treebark", "rename", "(IIIZ)V"⟩, prog_1_method_5_code, none, [], 606, 604, 605, 75), (⟨"TreebarkModel", "rename", "(IIIZ)V"⟩, prog_12_method_32_code, none, [], 1233, 1231, 1232, 83), (⟨"TreebarkLaw", "file", "(LTreebark;II[J)I"⟩, method_7_code, (some FieldType.int), [(0, 10, 13, 13)], 609, 608, 0, 74), (⟨"Treebark", "file", "(II)I"⟩, prog_1_method_6_code, (some FieldType.int), [], 613, 611, 612, 75), (⟨"TreebarkModel", "file", "(II)I"⟩, prog_12_method_33_code, (some FieldType.int), [], 1237, 1235, 1236, 83), (⟨"TreebarkLaw", "write", "(LTreebark;IIIIII[J)I"⟩, method_8_code, (some FieldType.int), [(0, 18, 21, 13), (0, 18, 25, 35), (0, 18, 29, 15)], 616, 615, 0, 74), (⟨"Treebark", "write", "(IIIIII)I"⟩, prog_1_method_7_code, (some FieldType.int), [], 621, 619, 620, 75), (⟨"TreebarkModel", "write", "(IIIIII)I"⟩, prog_12_method_40_code, (some FieldType.int), [], 1241, 1239, 1240, 83), (⟨"TreebarkModel", "undo", "(I)V"⟩, prog_12_method_39_code, none, [], 1277, 1276, 51, 83), (⟨"Treebark", "checkRun", "(III)V"⟩, prog_1_method_37_code, none, [], 624, 623, 0, 75), (⟨"Treebark", "checkPlace", "(I)V"⟩, prog_1_method_36_code, none, [], 627, 626, 0, 75), (⟨"TreebarkModel", "isPlace", "(I)Z"⟩, prog_12_method_7_code, (some FieldType.boolean), [], 1245, 1244, 43, 83), (⟨"Treebark", "checkArgument", "(Z)V"⟩, prog_1_method_39_code, none, [], 630, 629, 0, 75), (⟨"Treebark", "isValue", "(I)Z"⟩, prog_1_method_41_code, (some FieldType.boolean), [], 648, 647, 0, 75), (⟨"TreebarkLaw", "punch", "(LTreebark;IIII[J)I"⟩, method_9_code, (some FieldType.int), [(0, 14, 17, 13), (0, 14, 21, 35), (0, 14, 25, 15)], 717, 716, 0, 74), (⟨"Treebark", "punch", "(IIII)I"⟩, prog_1_method_8_code, (some FieldType.int), [], 721, 719, 720, 75), (⟨"TreebarkModel", "punch", "(IIII)I"⟩, prog_12_method_41_code, (some FieldType.int), [], 1293, 1291, 1292, 83), (⟨"TreebarkLaw", "clone", "(LTreebark;IIIIIII[J)I"⟩, method_10_code, (some FieldType.int), [(0, 20, 23, 13), (0, 20, 27, 35), (0, 20, 31, 15)], 737, 736, 0, 74), (⟨"Treebark", "clone", "(IIIIIII)I"⟩, prog_1_method_9_code, (some FieldType.int), [], 741, 739, 740, 75), (⟨"Treebark", "checkBothRuns", "(IIIIIII)V"⟩, prog_1_method_38_code, none, [], 745, 744, 15, 75), (⟨"TreebarkModel", "clone", "(IIIIIII)I"⟩, prog_12_method_45_code, (some FieldType.int), [], 1297, 1295, 1296, 83), (⟨"TreebarkModel", "bars", "(IIIIIII)I"⟩, prog_12_method_43_code, (some FieldType.int), [], 1301, 1300, 55, 83), (⟨"TreebarkModel", "isPair", "(IIIIII)Z"⟩, prog_12_method_42_code, (some FieldType.boolean), [], 1305, 1304, 56, 83), (⟨"TreebarkLaw", "dedupe", "(LTreebark;IIIIIII[J)I"⟩, method_11_code, (some FieldType.int), [(0, 27, 30, 13), (0, 27, 34, 35), (0, 27, 38, 15)], 765, 764, 0, 74), (⟨"Treebark", "dedupe", "(IIIIIII)Z"⟩, prog_1_method_10_code, (some FieldType.boolean), [], 769, 767, 768, 75), (⟨"TreebarkModel", "dedupe", "(IIIIIII)Z"⟩, prog_12_method_47_code, (some FieldType.boolean), [], 1317, 1315, 1316, 83), (⟨"TreebarkLaw", "defragment", "(LTreebark;II[J)I"⟩, method_12_code, (some FieldType.int), [(0, 10, 13, 13), (0, 10, 17, 15)], 790, 789, 0, 74), (⟨"Treebark", "defragment", "(II)I"⟩, prog_1_method_11_code, (some FieldType.int), [], 794, 792, 793, 75), (⟨"TreebarkModel", "defragment", "(II)I"⟩, prog_12_method_49_code, (some FieldType.int), [], 1329, 1327, 1328, 83), (⟨"TreebarkLaw", "read", "(LTreebark;III[J)I"⟩, method_13_code, (some FieldType.int), [(0, 12, 15, 13), (0, 12, 19, 15)], 797, 796, 0, 74), (⟨"Treebark", "read", "(III)I"⟩, prog_1_method_12_code, (some FieldType.int), [], 801, 799, 800, 75), (⟨"Treebark", "fileWithPlace", "(III)LTreebark$Node;"⟩, prog_1_method_44_code, (some (FieldType.object "Treebark$Node")), [], 805, 804, 18, 75), (⟨"TreebarkModel", "read", "(III)I"⟩, prog_12_method_50_code, (some FieldType.int), [], 1337, 1335, 1336, 83), (⟨"TreebarkLaw", "ofFile", "(LTreebark;III[J)I"⟩, method_14_code, (some FieldType.int), [(0, 12, 15, 13), (0, 12, 19, 35), (0, 12, 23, 15)], 812, 811, 0, 74), (⟨"Treebark", "ofFile", "(III)I"⟩, prog_1_method_13_code, (some FieldType.int), [], 816, 814, 815, 75), (⟨"TreebarkModel", "ofFile", "(III)I"⟩, prog_12_method_51_code, (some FieldType.int), [], 1341, 1339, 1340, 83), (⟨"TreebarkLaw", "references", "(LTreebark;III[J)I"⟩, method_15_code, (some FieldType.int), [(0, 12, 15, 13), (0, 12, 19, 15)], 819, 818, 0, 74), (⟨"Treebark", "references", "(III)I"⟩, prog_1_method_14_code, (some FieldType.int), [], 823, 821, 822, 75), (⟨"TreebarkModel", "references", "(III)I"⟩, prog_12_method_52_code, (some FieldType.int), [], 1345, 1343, 1344, 83), (⟨"TreebarkLaw", "branch", "(LTreebark;IZ[J)I"⟩, method_16_code, (some FieldType.int), [(0, 10, 13, 13), (0, 10, 17, 15)], 831, 830, 0, 74), (⟨"Treebark", "branch", "(IZ)I"⟩, prog_1_method_15_code, (some FieldType.int), [], 835, 833, 834, 75), (⟨"TreebarkModel", "branch", "(IZ)I"⟩, prog_12_method_56_code, (some FieldType.int), [], 1349, 1347, 1348, 83), (⟨"Treebark", "freeTree", "()I"⟩, prog_1_method_55_code, (some FieldType.int), [], 839, 838, 19, 75), (⟨"TreebarkModel", "trees", "()I"⟩, prog_12_method_53_code, (some FieldType.int), [], 1353, 1352, 62, 83), (⟨"TreebarkModel", "freeTree", "()I"⟩, prog_12_method_54_code, (some FieldType.int), [], 1357, 1356, 63, 83), (⟨"TreebarkModel", "like", "(IIIII)V"⟩, prog_12_method_55_code, none, [], 1361, 1360, 64, 83), (⟨"TreebarkLaw", "drop", "(LTreebark;I[J)I"⟩, method_17_code, (some FieldType.int), [(0, 9, 12, 13), (0, 9, 15, 15)], 842, 841, 0, 74), (⟨"Treebark", "drop", "(I)I"⟩, prog_1_method_16_code, (some FieldType.int), [], 846, 844, 845, 75), (⟨"TreebarkModel", "drop", "(I)I"⟩, prog_12_method_57_code, (some FieldType.int), [], 1365, 1363, 1364, 83), (⟨"TreebarkLaw", "limits", "(LTreebark;III)I"⟩, method_18_code, (some FieldType.int), [(0, 7, 10, 13), (0, 7, 14, 35)], 849, 848, 0, 74), (⟨"Treebark", "limits", "(III)V"⟩, prog_1_method_17_code, none, [], 853, 851, 852, 75), (⟨"TreebarkModel", "limits", "(III)V"⟩, prog_12_method_58_code, none, [], 1369, 1367, 1368, 83), (⟨"TreebarkLaw", "ofTree", "(LTreebark;II[J)I"⟩, method_19_code, (some FieldType.int), [(0, 10, 13, 13), (0, 10, 17, 35)], 856, 855, 0, 74), (⟨"Treebark", "ofTree", "(II)I"⟩, prog_1_method_18_code, (some FieldType.int), [], 860, 858, 859, 75), (⟨"TreebarkModel", "ofTree", "(II)I"⟩, prog_12_method_59_code, (some FieldType.int), [], 1373, 1371, 1372, 83), (⟨"Treebark$Root", "names", "()I"⟩, prog_7_method_3_code, (some FieldType.int), [], 864, 862, 863, 82), (⟨"Treebark", "weigh", "(ILTreebark$Node;LTreebark$Weight;)V"⟩, prog_1_method_53_code, none, [], 685, 684, 13, 75), (⟨"Treebark$Disks", "nextWalk", "()I"⟩, prog_2_method_2_code, (some FieldType.int), [], 689, 687, 688, 76), (⟨"Treebark$Weight", "clear", "()V"⟩, prog_10_method_2_code, none, [], 701, 699, 700, 81), (⟨"TreebarkModel", "markAll", "(IIZ)V"⟩, prog_12_method_35_code, none, [], 1269, 1268, 49, 83), (⟨"TreebarkModel", "useTree", "(I[I)V"⟩, prog_12_method_10_code, none, [], 1225, 1224, 41, 83), (⟨"TreebarkModel", "refers", "(Z)I"⟩, prog_12_method_36_code, (some FieldType.int), [], 1273, 1272, 50, 83), (⟨"TreebarkLaw", "areAlike", "(LTreebark;II[J)I"⟩, method_20_code, (some FieldType.int), [(0, 17, 20, 13)], 867, 866, 0, 74), (⟨"Treebark", "areAlike", "(II)Z"⟩, prog_1_method_19_code, (some FieldType.boolean), [], 871, 869, 870, 75), (⟨"TreebarkModel", "areAlike", "(II)Z"⟩, prog_12_method_60_code, (some FieldType.boolean), [], 1377, 1375, 1376, 83), (⟨"Treebark", "commit", "()I"⟩, prog_1_method_20_code, (some FieldType.int), [], 350, 348, 349, 75), (⟨"Treebark", "keepAllTrees", "()V"⟩, prog_1_method_58_code, none, [], 354, 353, 0, 75), (⟨"Treebark$Root", "loseTree", "()V"⟩, prog_7_method_14_code, none, [], 281, 279, 280, 82), (⟨"Treebark$Disks", "sweep", "()V"⟩, prog_2_method_7_code, none, [], 359, 357, 358, 76), (⟨"Treebark", "treesThere", "()I"⟩, prog_1_method_56_code, (some FieldType.int), [], 367, 366, 2, 75), (⟨"TreebarkModel", "commit", "()I"⟩, prog_12_method_62_code, (some FieldType.int), [], 1381, 1379, 1380, 83), (⟨"TreebarkModel", "keep", "()V"⟩, prog_12_method_61_code, none, [], 1385, 1384, 65, 83), (⟨"TreebarkModel", "settle", "()V"⟩, prog_12_method_27_code, none, [], 1209, 1208, 37, 83), (⟨"TreebarkModel", "clear", "()V"⟩, prog_12_method_23_code, none, [], 1213, 1212, 38, 83), (⟨"TreebarkModel", "sweep", "()V"⟩, prog_12_method_11_code, none, [], 1221, 1220, 40, 83), (⟨"TreebarkLaw", "log", "(LTreebark;II[J)I"⟩, method_21_code, (some FieldType.int), [(0, 10, 13, 13), (0, 10, 17, 15)], 879, 878, 0, 74), (⟨"Treebark", "log", "(II)I"⟩, prog_1_method_21_code, (some FieldType.int), [], 883, 881, 882, 75), (⟨"TreebarkModel", "log", "(II)I"⟩, prog_12_method_63_code, (some FieldType.int), [], 1389, 1387, 1388, 83), (⟨"Treebark", "crash", "()I"⟩, prog_1_method_22_code, (some FieldType.int), [], 371, 369, 370, 75), (⟨"TreebarkModel", "crash", "()I"⟩, prog_12_method_66_code, (some FieldType.int), [], 1393, 1391, 1392, 83), (⟨"TreebarkLaw", "send", "(LTreebark;II[J)I"⟩, method_22_code, (some FieldType.int), [(0, 10, 13, 13), (0, 10, 17, 15)], 914, 913, 0, 74), (⟨"Treebark", "send", "(II)I"⟩, prog_1_method_23_code, (some FieldType.int), [], 918, 916, 917, 75), (⟨"TreebarkModel", "send", "(II)I"⟩, prog_12_method_70_code, (some FieldType.int), [], 1405, 1403, 1404, 83), (⟨"TreebarkLaw", "receive", "(LTreebark;I[J)I"⟩, method_23_code, (some FieldType.int), [(0, 9, 12, 13), (0, 9, 15, 15)], 944, 943, 0, 74), (⟨"Treebark", "receive", "(I)I"⟩, prog_1_method_24_code, (some FieldType.int), [], 948, 946, 947, 75), (⟨"TreebarkModel", "receive", "(I)I"⟩, prog_12_method_72_code, (some FieldType.int), [], 1421, 1419, 1420, 83), (⟨"TreebarkLaw", "profile", "(LTreebark;I[J)I"⟩, method_24_code, (some FieldType.int), [(0, 9, 12, 35)], 967, 966, 0, 74), (⟨"Treebark", "profile", "(I)I"⟩, prog_1_method_25_code, (some FieldType.int), [], 971, 969, 970, 75), (⟨"TreebarkModel", "profile", "(I)I"⟩, prog_12_method_74_code, (some FieldType.int), [], 1433, 1431, 1432, 83), (⟨"TreebarkLaw", "balance", "(LTreebark;I[J)I"⟩, method_25_code, (some FieldType.int), [(0, 9, 12, 35)], 974, 973, 0, 74), (⟨"Treebark", "balance", "(I)I"⟩, prog_1_method_26_code, (some FieldType.int), [], 978, 976, 977, 75), (⟨"TreebarkModel", "balance", "(I)I"⟩, prog_12_method_76_code, (some FieldType.int), [], 1437, 1435, 1436, 83), (⟨"Treebark$Disks", "layOut", "(I)I"⟩, prog_2_method_10_code, (some FieldType.int), [], 982, 980, 981, 76), (⟨"TreebarkModel", "later", "(I)I"⟩, prog_12_method_75_code, (some FieldType.int), [], 1441, 1440, 73, 83), (⟨"TreebarkLaw", "damage", "(LTreebark;IIII[J)I"⟩, method_26_code, (some FieldType.int), [(0, 21, 24, 13), (0, 21, 28, 15)], 993, 992, 0, 74), (⟨"Treebark", "damage", "(IIII)Z"⟩, prog_1_method_27_code, (some FieldType.boolean), [], 997, 995, 996, 75), (⟨"Treebark", "checkDisk", "(I)V"⟩, prog_1_method_34_code, none, [], 1000, 999, 0, 75), (⟨"TreebarkModel", "damage", "(IIII)Z"⟩, prog_12_method_77_code, (some FieldType.boolean), [], 1445, 1443, 1444, 83), (⟨"Treebark", "scrub", "()I"⟩, prog_1_method_28_code, (some FieldType.int), [], 456, 454, 455, 75), (⟨"Treebark$Disks", "mendAll", "()I"⟩, prog_2_method_9_code, (some FieldType.int), [], 460, 458, 459, 76), (⟨"TreebarkModel", "scrub", "()I"⟩, prog_12_method_78_code, (some FieldType.int), [], 1449, 1447, 1448, 83), (⟨"TreebarkLaw", "free", "(LTreebark;I[J)I"⟩, method_27_code, (some FieldType.int), [(0, 9, 12, 13)], 1007, 1006, 0, 74), (⟨"Treebark", "free", "(I)I"⟩, prog_1_method_29_code, (some FieldType.int), [], 1011, 1009, 1010, 75), (⟨"TreebarkModel", "free", "(I)I"⟩, prog_12_method_79_code, (some FieldType.int), [], 1453, 1451, 1452, 83), (⟨"TreebarkModel", "room", "(I)I"⟩, prog_12_method_13_code, (some FieldType.int), [], 1253, 1252, 45, 83), (⟨"TreebarkLaw", "freeAnew", "(LTreebark;I[J)I"⟩, method_28_code, (some FieldType.int), [(0, 9, 12, 13)], 1014, 1013, 0, 74), (⟨"Treebark", "freeAnew", "(I)I"⟩, prog_1_method_30_code, (some FieldType.int), [], 1018, 1016, 1017, 75), (⟨"TreebarkModel", "freeAnew", "(I)I"⟩, prog_12_method_80_code, (some FieldType.int), [], 1457, 1455, 1456, 83), (⟨"Treebark", "blocksOfTree", "(LTreebark$Tree;II)I"⟩, prog_1_method_57_code, (some FieldType.int), [], 1021, 1020, 0, 75), (⟨"Treebark", "copied", "()I"⟩, prog_1_method_31_code, (some FieldType.int), [], 474, 472, 473, 75), (⟨"TreebarkModel", "copied", "()I"⟩, prog_12_method_81_code, (some FieldType.int), [], 1461, 1459, 1460, 83), (⟨"Treebark", "mended", "()I"⟩, prog_1_method_32_code, (some FieldType.int), [], 478, 476, 477, 75), (⟨"TreebarkModel", "mended", "()I"⟩, prog_12_method_82_code, (some FieldType.int), [], 1465, 1463, 1464, 83)]
def q_js : List (List Nat) := [[], [], [], [], [], [], [], [], [], [], [], [], [482, 483], [], [], [], [], [], [], [], [], [], [], [], [], [], [], [], [], [], [], [], [], [], [], [], [], [], [482, 483], [], [], [], [], [482, 483], [], [], [482, 483], [], [], [482], [], [], [482, 617, 483], [], [], [], [], [], [], [], [], [482, 617, 483], [], [], [482, 617, 483], [], [], [], [], [], [482, 617, 483], [], [], [482, 483], [], [], [482, 483], [], [], [], [482, 617, 483], [], [], [482, 483], [], [], [482, 483], [], [], [], [], [], [], [482, 483], [], [], [482, 617], [], [], [482, 617], [], [], [], [], [], [], [], [], [], [482], [], [], [], [], [], [], [], [], [], [], [], [], [482, 483], [], [], [], [], [482, 483], [], [], [482, 483], [], [], [617], [], [], [617], [], [], [], [], [482, 483], [], [], [], [], [], [], [482], [], [], [], [482], [], [], [], [], [], [], []]
end
section
/-! THE CLAIM OUT OF ONE WALK OF THE LAW'S BODY. Your part is whole_start (and what it stands on); all else here is the same for every law, but numbers. -/
def R_law : String := "TreebarkLaw"
def lw_P (b : Addr) (xs : List Int32) (args : Array Value) (s : State) : Prop := args = #[.ref b] ∧ s.IntsAt b xs ∧ xs.length ≤ 8 ∧ (Jvm.Cond.and given_1 narrow_1).before args s = true
def lw_Q (_ : Array Value) (s : State) (o : Outcome) (t : State) : Prop := o = .returned (some (.int 1)) ∧ Framed s o t [] 600002 7302232
def lw_Z (below : List Frame) (a : Array Value) (s : State) : State → Prop := fun t => ∃ o, t.status = .running ∧ Ended t below o ∧ lw_Q a s o t
/-- the law's own end, with 1 on the stack, nothing written that was there before, its room as the claim has it -/
theorem lw_ret {p : Program} {l : Launch} {e : Env} {s : State} {m : MethodId} {below : List Frame} {meth : Method} {c : Code} {b : Nat} (hx : p.tables.exec = Jvm.exec) (hb : c.code = code) (hr : meth.sig.returnType = ret) (hlocks : meth.locks = false) {pc : Nat} {H : Heap} {ls : Array Slot} (hdg : decode code pc = .ok (.ireturn, 1)) : W p l e room_1 s m #[Value.ref b] below meth c H [] 600002 7302232 (lw_Z below #[Value.ref b] s) (F0 m pc ls [.int 1]) := by
  intro T hT X
  obtain ⟨fs, hret, hrun, hended, hW, hframe⟩ := X.leave (v := some (.int 1)) (hlocks := hlocks) (fun h => by rw [hr] at h; cases h)
  have hmeth' : T.vm.method? m = some meth := X.method'
  refine ⟨T.setFrames fs, ?_, .returned (some (.int 1)), hrun, hended, rfl, ⟨_, rfl⟩, hW, hframe⟩
  jvm_step X.here [X.here.top, hx, hb, hdg, hmeth', hr, ret, narrow_b1]
  (try refine ⟨rfl, ?_⟩); (try refine ⟨rfl, ?_⟩)
  first | (intro acts; rw [hret _ acts rfl rfl rfl]) | rw [hret _ _ rfl rfl rfl]
  exact Steps.refl _
/-- what holds at the law's entry: the machine, the code, the tables' words (any of lw_tbl by 'hts w (by decide +kernel)'), the script of L ints xs at the cell b, what the Statement gives of the start (any of its parts by flat_of_before) -/
def lw_At (p : Program) (s : State) (m : MethodId) (meth : Method) (c : Code) (b L : Nat) (xs : Nat → Int32) : Prop :=
  p.tables.exec = Jvm.exec ∧ c.code = code ∧ meth.sig.returnType = ret ∧ c.maxLocals = 7 ∧ s.vm.findClass R_law = some m.cls ∧ (∀ w ∈ lw_tbl, w.before #[Value.ref b] s = true) ∧ va_X b L xs s s.heap ∧ b < s.heap.size ∧ meth.locks = false ∧ (Jvm.Cond.and given_1 narrow_1).before #[Value.ref b] s = true
end
section
/-! THE PROGRAM KEEPS WHAT THE EVALUATOR NEEDS -/
noncomputable def q_mok (M : qM) (i : qInf) (js : List Nat) : Bool := q_w i.2.2.2.2.1 (q_code i.1 i.2.1 M.1 i.2.2.1 i.2.2.2.1) && (Nat.ble M.1 13 && (decide (i.1.cls ≠ "java/lang/invoke/MethodHandle") && (decide (i.1.cls ≠ "java/lang/invoke/VarHandle") && (q_roks q_prog q_info q_sw i.1.cls i.1.name i.2.1 M.1 i.2.2.1 M.2.1 M.2.1 && (q_hok i.1.cls M.2.1 M.2.2 i.2.2.2.1 js && (plainName i.1.cls && (match M.2.1 with
  | r :: _ => Nat.beq r.1 0
  | [] => false)))))))
noncomputable def q_moks (a n : Nat) : Bool := (List.range n).all fun k => match q_nth q_prog (a + k) with
  | some M => match q_nth q_info (a + k) with
    | some i => match q_nth q_js (a + k) with
      | some js => q_mok M i js
      | none => false
    | none => false
  | none => false
noncomputable def q_roksn (P : List qM) (I : List qInf) (sw : List Nat) (own nm : String) (cc : ByteArray) (nL : Nat) (ret : Option FieldType) (R : List qRow) : Nat → List qRow → Bool
  | 0, _ => true
  | _ + 1, [] => true
  | n + 1, r :: K => q_rok P I sw own nm cc nL ret R r K && q_roksn P I sw own nm cc nL ret R n K
theorem q_roks_cut {P : List qM} {I : List qInf} {sw : List Nat} {own nm : String} {cc : ByteArray} {nL : Nat} {ret : Option FieldType} {R : List qRow} : ∀ (n : Nat) (K : List qRow), q_roksn P I sw own nm cc nL ret R n K = true → q_roks P I sw own nm cc nL ret R (q_drop K n) = true → q_roks P I sw own nm cc nL ret R K = true
  | 0, K, _, h => by rwa [q_drop_eq, List.drop_zero] at h
  | n + 1, [], _, _ => rfl
  | n + 1, r :: K, h1, h2 => by
    simp only [q_roksn, Bool.and_eq_true] at h1
    have h2 : q_roks P I sw own nm cc nL ret R (q_drop K n) = true := h2
    show (q_rok P I sw own nm cc nL ret R r K && q_roks P I sw own nm cc nL ret R K) = true
    rw [h1.1, q_roks_cut n K h1.2 h2]
    rfl
noncomputable def q_K0 : List qRow := q_law
noncomputable def q_K1 : List qRow := q_drop q_K0 60
noncomputable def q_K2 : List qRow := q_drop q_K1 60
noncomputable def q_K3 : List qRow := q_drop q_K2 60
noncomputable def q_K4 : List qRow := q_drop q_K3 60
noncomputable def q_K5 : List qRow := q_drop q_K4 60
noncomputable def q_K6 : List qRow := q_drop q_K5 60
noncomputable def q_K7 : List qRow := q_drop q_K6 60
noncomputable def q_K8 : List qRow := q_drop q_K7 60
noncomputable def q_K9 : List qRow := q_drop q_K8 60
noncomputable def q_K10 : List qRow := q_drop q_K9 60
noncomputable def q_K11 : List qRow := q_drop q_K10 60
noncomputable def q_K12 : List qRow := q_drop q_K11 60
noncomputable def q_K13 : List qRow := q_drop q_K12 60
noncomputable def q_K14 : List qRow := q_drop q_K13 60
noncomputable def q_K15 : List qRow := q_drop q_K14 60
noncomputable def q_K16 : List qRow := q_drop q_K15 60
noncomputable def q_K17 : List qRow := q_drop q_K16 60
noncomputable def q_K18 : List qRow := q_drop q_K17 60
noncomputable def q_K19 : List qRow := q_drop q_K18 60
noncomputable def q_K20 : List qRow := q_drop q_K19 60
noncomputable def q_K21 : List qRow := q_drop q_K20 60
noncomputable def q_K22 : List qRow := q_drop q_K21 60
noncomputable def q_K23 : List qRow := q_drop q_K22 60
noncomputable def q_K24 : List qRow := q_drop q_K23 60
end
section
set_option maxRecDepth 100000 in
theorem q_mk0 : q_moks 0 4 = true := by decide +kernel
set_option maxRecDepth 100000 in
theorem q_mk4 : q_moks 4 4 = true := by decide +kernel
set_option maxRecDepth 100000 in
theorem q_mk8 : q_moks 8 4 = true := by decide +kernel
set_option maxRecDepth 100000 in
theorem q_mk12 : q_moks 12 4 = true := by decide +kernel
set_option maxRecDepth 100000 in
theorem q_mk16 : q_moks 16 4 = true := by decide +kernel
set_option maxRecDepth 100000 in
theorem q_mk20 : q_moks 20 4 = true := by decide +kernel
set_option maxRecDepth 100000 in
theorem q_mk24 : q_moks 24 4 = true := by decide +kernel
set_option maxRecDepth 100000 in
theorem q_mk28 : q_moks 28 4 = true := by decide +kernel
set_option maxRecDepth 100000 in
theorem q_mk32 : q_moks 32 4 = true := by decide +kernel
set_option maxRecDepth 100000 in
theorem q_mk36 : q_moks 36 4 = true := by decide +kernel
end
section
set_option maxRecDepth 100000 in
theorem q_mk40 : q_moks 40 4 = true := by decide +kernel
set_option maxRecDepth 100000 in
theorem q_mk44 : q_moks 44 4 = true := by decide +kernel
set_option maxRecDepth 100000 in
theorem q_mk48 : q_moks 48 4 = true := by decide +kernel
set_option maxRecDepth 100000 in
theorem q_mk52 : q_moks 52 4 = true := by decide +kernel
set_option maxRecDepth 100000 in
theorem q_mk56 : q_moks 56 4 = true := by decide +kernel
set_option maxRecDepth 100000 in
theorem q_mk60 : q_moks 60 4 = true := by decide +kernel
set_option maxRecDepth 100000 in
theorem q_mk64 : q_moks 64 4 = true := by decide +kernel
set_option maxRecDepth 100000 in
theorem q_mk68 : q_moks 68 4 = true := by decide +kernel
set_option maxRecDepth 100000 in
theorem q_mk72 : q_moks 72 4 = true := by decide +kernel
set_option maxRecDepth 100000 in
theorem q_mk76 : q_moks 76 4 = true := by decide +kernel
end
section
set_option maxRecDepth 100000 in
theorem q_mk80 : q_moks 80 4 = true := by decide +kernel
set_option maxRecDepth 100000 in
theorem q_mk84 : q_moks 84 4 = true := by decide +kernel
set_option maxRecDepth 100000 in
theorem q_mk88 : q_moks 88 4 = true := by decide +kernel
set_option maxRecDepth 100000 in
theorem q_mk92 : q_moks 92 4 = true := by decide +kernel
set_option maxRecDepth 100000 in
theorem q_mk96 : q_moks 96 4 = true := by decide +kernel
set_option maxRecDepth 100000 in
theorem q_mk100 : q_moks 100 4 = true := by decide +kernel
set_option maxRecDepth 100000 in
theorem q_mk104 : q_moks 104 4 = true := by decide +kernel
set_option maxRecDepth 100000 in
theorem q_mk108 : q_moks 108 4 = true := by decide +kernel
set_option maxRecDepth 100000 in
theorem q_mk112 : q_moks 112 4 = true := by decide +kernel
set_option maxRecDepth 100000 in
theorem q_mk116 : q_moks 116 4 = true := by decide +kernel
end
section
set_option maxRecDepth 100000 in
theorem q_mk120 : q_moks 120 4 = true := by decide +kernel
set_option maxRecDepth 100000 in
theorem q_mk124 : q_moks 124 4 = true := by decide +kernel
set_option maxRecDepth 100000 in
theorem q_mk128 : q_moks 128 4 = true := by decide +kernel
set_option maxRecDepth 100000 in
theorem q_mk132 : q_moks 132 4 = true := by decide +kernel
set_option maxRecDepth 100000 in
theorem q_mk136 : q_moks 136 4 = true := by decide +kernel
set_option maxRecDepth 100000 in
theorem q_mk140 : q_moks 140 4 = true := by decide +kernel
set_option maxRecDepth 100000 in
theorem q_mk144 : q_moks 144 4 = true := by decide +kernel
set_option maxRecDepth 100000 in
theorem q_mk148 : q_moks 148 4 = true := by decide +kernel
set_option maxRecDepth 100000 in
theorem q_mk152 : q_moks 152 4 = true := by decide +kernel
set_option maxRecDepth 100000 in
theorem q_mk156 : q_moks 156 4 = true := by decide +kernel
end
section
set_option maxRecDepth 100000 in
theorem q_lk0 : q_roksn q_prog q_info q_sw R_law "" code 7 ret q_law 60 q_K0 = true := by decide +kernel
set_option maxRecDepth 100000 in
theorem q_lk1 : q_roksn q_prog q_info q_sw R_law "" code 7 ret q_law 60 q_K1 = true := by decide +kernel
set_option maxRecDepth 100000 in
theorem q_lk2 : q_roksn q_prog q_info q_sw R_law "" code 7 ret q_law 60 q_K2 = true := by decide +kernel
set_option maxRecDepth 100000 in
theorem q_lk3 : q_roksn q_prog q_info q_sw R_law "" code 7 ret q_law 60 q_K3 = true := by decide +kernel
set_option maxRecDepth 100000 in
theorem q_lk4 : q_roksn q_prog q_info q_sw R_law "" code 7 ret q_law 60 q_K4 = true := by decide +kernel
set_option maxRecDepth 100000 in
theorem q_lk5 : q_roksn q_prog q_info q_sw R_law "" code 7 ret q_law 60 q_K5 = true := by decide +kernel
set_option maxRecDepth 100000 in
theorem q_lk6 : q_roksn q_prog q_info q_sw R_law "" code 7 ret q_law 60 q_K6 = true := by decide +kernel
set_option maxRecDepth 100000 in
theorem q_lk7 : q_roksn q_prog q_info q_sw R_law "" code 7 ret q_law 60 q_K7 = true := by decide +kernel
set_option maxRecDepth 100000 in
theorem q_lk8 : q_roksn q_prog q_info q_sw R_law "" code 7 ret q_law 60 q_K8 = true := by decide +kernel
set_option maxRecDepth 100000 in
theorem q_lk9 : q_roksn q_prog q_info q_sw R_law "" code 7 ret q_law 60 q_K9 = true := by decide +kernel
set_option maxRecDepth 100000 in
theorem q_lk10 : q_roksn q_prog q_info q_sw R_law "" code 7 ret q_law 60 q_K10 = true := by decide +kernel
set_option maxRecDepth 100000 in
theorem q_lk11 : q_roksn q_prog q_info q_sw R_law "" code 7 ret q_law 60 q_K11 = true := by decide +kernel
end
section
set_option maxRecDepth 100000 in
theorem q_lk12 : q_roksn q_prog q_info q_sw R_law "" code 7 ret q_law 60 q_K12 = true := by decide +kernel
set_option maxRecDepth 100000 in
theorem q_lk13 : q_roksn q_prog q_info q_sw R_law "" code 7 ret q_law 60 q_K13 = true := by decide +kernel
set_option maxRecDepth 100000 in
theorem q_lk14 : q_roksn q_prog q_info q_sw R_law "" code 7 ret q_law 60 q_K14 = true := by decide +kernel
set_option maxRecDepth 100000 in
theorem q_lk15 : q_roksn q_prog q_info q_sw R_law "" code 7 ret q_law 60 q_K15 = true := by decide +kernel
set_option maxRecDepth 100000 in
theorem q_lk16 : q_roksn q_prog q_info q_sw R_law "" code 7 ret q_law 60 q_K16 = true := by decide +kernel
set_option maxRecDepth 100000 in
theorem q_lk17 : q_roksn q_prog q_info q_sw R_law "" code 7 ret q_law 60 q_K17 = true := by decide +kernel
set_option maxRecDepth 100000 in
theorem q_lk18 : q_roksn q_prog q_info q_sw R_law "" code 7 ret q_law 60 q_K18 = true := by decide +kernel
set_option maxRecDepth 100000 in
theorem q_lk19 : q_roksn q_prog q_info q_sw R_law "" code 7 ret q_law 60 q_K19 = true := by decide +kernel
set_option maxRecDepth 100000 in
theorem q_lk20 : q_roksn q_prog q_info q_sw R_law "" code 7 ret q_law 60 q_K20 = true := by decide +kernel
set_option maxRecDepth 100000 in
theorem q_lk21 : q_roksn q_prog q_info q_sw R_law "" code 7 ret q_law 60 q_K21 = true := by decide +kernel
set_option maxRecDepth 100000 in
theorem q_lk22 : q_roksn q_prog q_info q_sw R_law "" code 7 ret q_law 60 q_K22 = true := by decide +kernel
set_option maxRecDepth 100000 in
theorem q_lk23 : q_roksn q_prog q_info q_sw R_law "" code 7 ret q_law 60 q_K23 = true := by decide +kernel
theorem q_lk24 : q_roks q_prog q_info q_sw R_law "" code 7 ret q_law q_K24 = true := by decide +kernel
end
section
theorem q_mok_at {k : Nat} (hk : k < 160) : ∃ a n, a ≤ k ∧ k < a + n ∧ q_moks a n = true := by
  rcases Nat.lt_or_ge k 4 with h | h
  · exact ⟨0, 4, by omega, by omega, q_mk0⟩
  rcases Nat.lt_or_ge k 8 with h | h
  · exact ⟨4, 4, by omega, by omega, q_mk4⟩
  rcases Nat.lt_or_ge k 12 with h | h
  · exact ⟨8, 4, by omega, by omega, q_mk8⟩
  rcases Nat.lt_or_ge k 16 with h | h
  · exact ⟨12, 4, by omega, by omega, q_mk12⟩
  rcases Nat.lt_or_ge k 20 with h | h
  · exact ⟨16, 4, by omega, by omega, q_mk16⟩
  rcases Nat.lt_or_ge k 24 with h | h
  · exact ⟨20, 4, by omega, by omega, q_mk20⟩
  rcases Nat.lt_or_ge k 28 with h | h
  · exact ⟨24, 4, by omega, by omega, q_mk24⟩
  rcases Nat.lt_or_ge k 32 with h | h
  · exact ⟨28, 4, by omega, by omega, q_mk28⟩
  rcases Nat.lt_or_ge k 36 with h | h
  · exact ⟨32, 4, by omega, by omega, q_mk32⟩
  rcases Nat.lt_or_ge k 40 with h | h
  · exact ⟨36, 4, by omega, by omega, q_mk36⟩
  rcases Nat.lt_or_ge k 44 with h | h
  · exact ⟨40, 4, by omega, by omega, q_mk40⟩
  rcases Nat.lt_or_ge k 48 with h | h
  · exact ⟨44, 4, by omega, by omega, q_mk44⟩
  rcases Nat.lt_or_ge k 52 with h | h
  · exact ⟨48, 4, by omega, by omega, q_mk48⟩
  rcases Nat.lt_or_ge k 56 with h | h
  · exact ⟨52, 4, by omega, by omega, q_mk52⟩
  rcases Nat.lt_or_ge k 60 with h | h
  · exact ⟨56, 4, by omega, by omega, q_mk56⟩
  rcases Nat.lt_or_ge k 64 with h | h
  · exact ⟨60, 4, by omega, by omega, q_mk60⟩
  rcases Nat.lt_or_ge k 68 with h | h
  · exact ⟨64, 4, by omega, by omega, q_mk64⟩
  rcases Nat.lt_or_ge k 72 with h | h
  · exact ⟨68, 4, by omega, by omega, q_mk68⟩
  rcases Nat.lt_or_ge k 76 with h | h
  · exact ⟨72, 4, by omega, by omega, q_mk72⟩
  rcases Nat.lt_or_ge k 80 with h | h
  · exact ⟨76, 4, by omega, by omega, q_mk76⟩
  rcases Nat.lt_or_ge k 84 with h | h
  · exact ⟨80, 4, by omega, by omega, q_mk80⟩
  rcases Nat.lt_or_ge k 88 with h | h
  · exact ⟨84, 4, by omega, by omega, q_mk84⟩
  rcases Nat.lt_or_ge k 92 with h | h
  · exact ⟨88, 4, by omega, by omega, q_mk88⟩
  rcases Nat.lt_or_ge k 96 with h | h
  · exact ⟨92, 4, by omega, by omega, q_mk92⟩
  rcases Nat.lt_or_ge k 100 with h | h
  · exact ⟨96, 4, by omega, by omega, q_mk96⟩
  rcases Nat.lt_or_ge k 104 with h | h
  · exact ⟨100, 4, by omega, by omega, q_mk100⟩
  rcases Nat.lt_or_ge k 108 with h | h
  · exact ⟨104, 4, by omega, by omega, q_mk104⟩
  rcases Nat.lt_or_ge k 112 with h | h
  · exact ⟨108, 4, by omega, by omega, q_mk108⟩
  rcases Nat.lt_or_ge k 116 with h | h
  · exact ⟨112, 4, by omega, by omega, q_mk112⟩
  rcases Nat.lt_or_ge k 120 with h | h
  · exact ⟨116, 4, by omega, by omega, q_mk116⟩
  rcases Nat.lt_or_ge k 124 with h | h
  · exact ⟨120, 4, by omega, by omega, q_mk120⟩
  rcases Nat.lt_or_ge k 128 with h | h
  · exact ⟨124, 4, by omega, by omega, q_mk124⟩
  rcases Nat.lt_or_ge k 132 with h | h
  · exact ⟨128, 4, by omega, by omega, q_mk128⟩
  rcases Nat.lt_or_ge k 136 with h | h
  · exact ⟨132, 4, by omega, by omega, q_mk132⟩
  rcases Nat.lt_or_ge k 140 with h | h
  · exact ⟨136, 4, by omega, by omega, q_mk136⟩
  rcases Nat.lt_or_ge k 144 with h | h
  · exact ⟨140, 4, by omega, by omega, q_mk140⟩
  rcases Nat.lt_or_ge k 148 with h | h
  · exact ⟨144, 4, by omega, by omega, q_mk144⟩
  rcases Nat.lt_or_ge k 152 with h | h
  · exact ⟨148, 4, by omega, by omega, q_mk148⟩
  rcases Nat.lt_or_ge k 156 with h | h
  · exact ⟨152, 4, by omega, by omega, q_mk152⟩
  rcases Nat.lt_or_ge k 160 with h | h
  · exact ⟨156, 4, by omega, by omega, q_mk156⟩
  omega
theorem q_facts : qFacts q_prog q_info q_sw := by
  intro k M i hM hi
  have hk : k < 160 := (List.getElem?_eq_some_iff.mp hM).1
  obtain ⟨a, n, h1, h2, h3⟩ := q_mok_at hk
  have h4 := List.all_eq_true.mp h3 (k - a) (List.mem_range.mpr (by omega))
  rw [show a + (k - a) = k by omega] at h4
  simp only [q_nth_eq, hM, hi] at h4
  split at h4
  · next js _ =>
    simp only [q_mok, Bool.and_eq_true, decide_eq_true_eq] at h4
    obtain ⟨g1, g2, g3, g4, g5, g6, g7, g8⟩ := h4
    refine ⟨⟨(q_w_in g1).1, Nat.le_of_ble_eq_true g2, g3, g4⟩, g5, ⟨js, g6⟩, g7, ?_⟩
    split at g8
    · next r K hr => exact ⟨r, K, hr, Nat.eq_of_beq_eq_true g8⟩
    · cases g8
  · cases h4
theorem q_lawok : q_roks q_prog q_info q_sw R_law "" code 7 ret q_law q_law = true := q_roks_cut 60 q_K0 q_lk0 (q_roks_cut 60 q_K1 q_lk1 (q_roks_cut 60 q_K2 q_lk2 (q_roks_cut 60 q_K3 q_lk3 (q_roks_cut 60 q_K4 q_lk4 (q_roks_cut 60 q_K5 q_lk5 (q_roks_cut 60 q_K6 q_lk6 (q_roks_cut 60 q_K7 q_lk7 (q_roks_cut 60 q_K8 q_lk8 (q_roks_cut 60 q_K9 q_lk9 (q_roks_cut 60 q_K10 q_lk10 (q_roks_cut 60 q_K11 q_lk11 (q_roks_cut 60 q_K12 q_lk12 (q_roks_cut 60 q_K13 q_lk13 (q_roks_cut 60 q_K14 q_lk14 (q_roks_cut 60 q_K15 q_lk15 (q_roks_cut 60 q_K16 q_lk16 (q_roks_cut 60 q_K17 q_lk17 (q_roks_cut 60 q_K18 q_lk18 (q_roks_cut 60 q_K19 q_lk19 (q_roks_cut 60 q_K20 q_lk20 (q_roks_cut 60 q_K21 q_lk21 (q_roks_cut 60 q_K22 q_lk22 (q_roks_cut 60 q_K23 q_lk23 q_lk24)))))))))))))))))))))))
end
section
/-! THE RUNS -/
def q_N : Nat := 20000
def q_L1 : qL := [some (.inr (.inl (some 0))), some (.inr (.inl (some 1))), some (.inr (.inl (some 216))), some (.inr (.inl (some 244))), some (.inl (0, [])), none, none]
def q_h1 : qHp := (true, [.inr (9, [.inr (.inl (some 2)), .inr (.inl (some 165)), .inr (.inl (some 172)), .inr (.inl (some 179)), .inl (0, []), .inr (.inl (some 180)), .inr (.inl (some 194)), .inl (0, []), .inl (0, []), .inr (.inl (some 208)), .inr (.inl (some 211)), .inr (.inl (some 212)), .inr (.inl (some 213))]), .inr (0, [.inr (.inl (some 3)), .inr (.inl (some 4)), .inl (0, []), .inl (0, []), .inl (0, []), .inl (0, [])]), .inl (2, .inr (.inr ([(some 5)] ++ ([(some 7)] ++ ([(some 9)] ++ ([(some 11)] ++ ([(some 13)] ++ ([(some 15)] ++ ([(some 17)] ++ ([(some 19)] ++ ([(some 21)] ++ ([(some 23)] ++ ([(some 25)] ++ ([(some 27)] ++ ([(some 29)] ++ ([(some 31)] ++ ([(some 33)] ++ ([(some 35)] ++ ([(some 37)] ++ ([(some 39)] ++ ([(some 41)] ++ ([(some 43)] ++ ([(some 45)] ++ ([(some 47)] ++ ([(some 49)] ++ ([(some 51)] ++ ([(some 53)] ++ ([(some 55)] ++ ([(some 57)] ++ ([(some 59)] ++ ([(some 61)] ++ ([(some 63)] ++ ([(some 65)] ++ ([(some 67)] ++ ([(some 69)] ++ ([(some 71)] ++ ([(some 73)] ++ ([(some 75)] ++ ([(some 77)] ++ ([(some 79)] ++ ([(some 81)] ++ ([(some 83)] ++ ([(some 85)] ++ ([(some 87)] ++ ([(some 89)] ++ ([(some 91)] ++ ([(some 93)] ++ ([(some 95)] ++ ([(some 97)] ++ ([(some 99)] ++ ([(some 101)] ++ ([(some 103)] ++ ([(some 105)] ++ ([(some 107)] ++ ([(some 109)] ++ ([(some 111)] ++ ([(some 113)] ++ ([(some 115)] ++ ([(some 117)] ++ ([(some 119)] ++ ([(some 121)] ++ ([(some 123)] ++ ([(some 125)] ++ ([(some 127)] ++ ([(some 129)] ++ ([(some 131)] ++ ([(some 133)] ++ ([(some 135)] ++ ([(some 137)] ++ ([(some 139)] ++ ([(some 141)] ++ ([(some 143)] ++ ([(some 145)] ++ ([(some 147)] ++ ([(some 149)] ++ ([(some 151)] ++ ([(some 153)] ++ ([(some 155)] ++ ([(some 157)] ++ ([(some 159)] ++ ([(some 161)] ++ ([(some 163)])))))))))))))))))))))))))))))))))))))))))))))))))))))))))))))))))))))))))))))))))), .inl (0, .inl ([(40, []), (40, [])])), .inr (1, [.inr (.inl (some 6)), .inl (0, []), .inl (0, []), .inl (0, []), .inl (0, []), .inl (0, []), .inl (0, [])]), .inl (0, .inl ([(0, []), (0, []), (0, []), (0, [])])), .inr (1, [.inr (.inl (some 8)), .inl (0, []), .inl (0, []), .inl (0, []), .inl (0, []), .inl (0, []), .inl (0, [])]), .inl (0, .inl ([(0, []), (0, []), (0, []), (0, [])])), .inr (1, [.inr (.inl (some 10)), .inl (0, []), .inl (0, []), .inl (0, []), .inl (0, []), .inl (0, []), .inl (0, [])]), .inl (0, .inl ([(0, []), (0, []), (0, []), (0, [])])), .inr (1, [.inr (.inl (some 12)), .inl (0, []), .inl (0, []), .inl (0, []), .inl (0, []), .inl (0, []), .inl (0, [])]), .inl (0, .inl ([(0, []), (0, []), (0, []), (0, [])])), .inr (1, [.inr (.inl (some 14)), .inl (0, []), .inl (0, []), .inl (0, []), .inl (0, []), .inl (0, []), .inl (0, [])]), .inl (0, .inl ([(0, []), (0, []), (0, []), (0, [])])), .inr (1, [.inr (.inl (some 16)), .inl (0, []), .inl (0, []), .inl (0, []), .inl (0, []), .inl (0, []), .inl (0, [])]), .inl (0, .inl ([(0, []), (0, []), (0, []), (0, [])])), .inr (1, [.inr (.inl (some 18)), .inl (0, []), .inl (0, []), .inl (0, []), .inl (0, []), .inl (0, []), .inl (0, [])]), .inl (0, .inl ([(0, []), (0, []), (0, []), (0, [])])), .inr (1, [.inr (.inl (some 20)), .inl (0, []), .inl (0, []), .inl (0, []), .inl (0, []), .inl (0, []), .inl (0, [])]), .inl (0, .inl ([(0, []), (0, []), (0, []), (0, [])])), .inr (1, [.inr (.inl (some 22)), .inl (0, []), .inl (0, []), .inl (0, []), .inl (0, []), .inl (0, []), .inl (0, [])]), .inl (0, .inl ([(0, []), (0, []), (0, []), (0, [])])), .inr (1, [.inr (.inl (some 24)), .inl (0, []), .inl (0, []), .inl (0, []), .inl (0, []), .inl (0, []), .inl (0, [])]), .inl (0, .inl ([(0, []), (0, []), (0, []), (0, [])])), .inr (1, [.inr (.inl (some 26)), .inl (0, []), .inl (0, []), .inl (0, []), .inl (0, []), .inl (0, []), .inl (0, [])]), .inl (0, .inl ([(0, []), (0, []), (0, []), (0, [])])), .inr (1, [.inr (.inl (some 28)), .inl (0, []), .inl (0, []), .inl (0, []), .inl (0, []), .inl (0, []), .inl (0, [])]), .inl (0, .inl ([(0, []), (0, []), (0, []), (0, [])])), .inr (1, [.inr (.inl (some 30)), .inl (0, []), .inl (0, []), .inl (0, []), .inl (0, []), .inl (0, []), .inl (0, [])]), .inl (0, .inl ([(0, []), (0, []), (0, []), (0, [])])), .inr (1, [.inr (.inl (some 32)), .inl (0, []), .inl (0, []), .inl (0, []), .inl (0, []), .inl (0, []), .inl (0, [])]), .inl (0, .inl ([(0, []), (0, []), (0, []), (0, [])])), .inr (1, [.inr (.inl (some 34)), .inl (0, []), .inl (0, []), .inl (0, []), .inl (0, []), .inl (0, []), .inl (0, [])]), .inl (0, .inl ([(0, []), (0, []), (0, []), (0, [])])), .inr (1, [.inr (.inl (some 36)), .inl (0, []), .inl (0, []), .inl (0, []), .inl (0, []), .inl (0, []), .inl (0, [])]), .inl (0, .inl ([(0, []), (0, []), (0, []), (0, [])])), .inr (1, [.inr (.inl (some 38)), .inl (0, []), .inl (0, []), .inl (0, []), .inl (0, []), .inl (0, []), .inl (0, [])]), .inl (0, .inl ([(0, []), (0, []), (0, []), (0, [])])), .inr (1, [.inr (.inl (some 40)), .inl (0, []), .inl (0, []), .inl (0, []), .inl (0, []), .inl (0, []), .inl (0, [])]), .inl (0, .inl ([(0, []), (0, []), (0, []), (0, [])])), .inr (1, [.inr (.inl (some 42)), .inl (0, []), .inl (0, []), .inl (0, []), .inl (0, []), .inl (0, []), .inl (0, [])]), .inl (0, .inl ([(0, []), (0, []), (0, []), (0, [])])), .inr (1, [.inr (.inl (some 44)), .inl (0, []), .inl (0, []), .inl (0, []), .inl (0, []), .inl (0, []), .inl (0, [])]), .inl (0, .inl ([(0, []), (0, []), (0, []), (0, [])])), .inr (1, [.inr (.inl (some 46)), .inl (0, []), .inl (0, []), .inl (0, []), .inl (0, []), .inl (0, []), .inl (0, [])]), .inl (0, .inl ([(0, []), (0, []), (0, []), (0, [])])), .inr (1, [.inr (.inl (some 48)), .inl (0, []), .inl (0, []), .inl (0, []), .inl (0, []), .inl (0, []), .inl (0, [])]), .inl (0, .inl ([(0, []), (0, []), (0, []), (0, [])])), .inr (1, [.inr (.inl (some 50)), .inl (0, []), .inl (0, []), .inl (0, []), .inl (0, []), .inl (0, []), .inl (0, [])]), .inl (0, .inl ([(0, []), (0, []), (0, []), (0, [])])), .inr (1, [.inr (.inl (some 52)), .inl (0, []), .inl (0, []), .inl (0, []), .inl (0, []), .inl (0, []), .inl (0, [])]), .inl (0, .inl ([(0, []), (0, []), (0, []), (0, [])])), .inr (1, [.inr (.inl (some 54)), .inl (0, []), .inl (0, []), .inl (0, []), .inl (0, []), .inl (0, []), .inl (0, [])]), .inl (0, .inl ([(0, []), (0, []), (0, []), (0, [])])), .inr (1, [.inr (.inl (some 56)), .inl (0, []), .inl (0, []), .inl (0, []), .inl (0, []), .inl (0, []), .inl (0, [])]), .inl (0, .inl ([(0, []), (0, []), (0, []), (0, [])])), .inr (1, [.inr (.inl (some 58)), .inl (0, []), .inl (0, []), .inl (0, []), .inl (0, []), .inl (0, []), .inl (0, [])]), .inl (0, .inl ([(0, []), (0, []), (0, []), (0, [])])), .inr (1, [.inr (.inl (some 60)), .inl (0, []), .inl (0, []), .inl (0, []), .inl (0, []), .inl (0, []), .inl (0, [])]), .inl (0, .inl ([(0, []), (0, []), (0, []), (0, [])])), .inr (1, [.inr (.inl (some 62)), .inl (0, []), .inl (0, []), .inl (0, []), .inl (0, []), .inl (0, []), .inl (0, [])]), .inl (0, .inl ([(0, []), (0, []), (0, []), (0, [])])), .inr (1, [.inr (.inl (some 64)), .inl (0, []), .inl (0, []), .inl (0, []), .inl (0, []), .inl (0, []), .inl (0, [])]), .inl (0, .inl ([(0, []), (0, []), (0, []), (0, [])])), .inr (1, [.inr (.inl (some 66)), .inl (0, []), .inl (0, []), .inl (0, []), .inl (0, []), .inl (0, []), .inl (0, [])]), .inl (0, .inl ([(0, []), (0, []), (0, []), (0, [])])), .inr (1, [.inr (.inl (some 68)), .inl (0, []), .inl (0, []), .inl (0, []), .inl (0, []), .inl (0, []), .inl (0, [])]), .inl (0, .inl ([(0, []), (0, []), (0, []), (0, [])])), .inr (1, [.inr (.inl (some 70)), .inl (0, []), .inl (0, []), .inl (0, []), .inl (0, []), .inl (0, []), .inl (0, [])]), .inl (0, .inl ([(0, []), (0, []), (0, []), (0, [])])), .inr (1, [.inr (.inl (some 72)), .inl (0, []), .inl (0, []), .inl (0, []), .inl (0, []), .inl (0, []), .inl (0, [])]), .inl (0, .inl ([(0, []), (0, []), (0, []), (0, [])])), .inr (1, [.inr (.inl (some 74)), .inl (0, []), .inl (0, []), .inl (0, []), .inl (0, []), .inl (0, []), .inl (0, [])]), .inl (0, .inl ([(0, []), (0, []), (0, []), (0, [])])), .inr (1, [.inr (.inl (some 76)), .inl (0, []), .inl (0, []), .inl (0, []), .inl (0, []), .inl (0, []), .inl (0, [])]), .inl (0, .inl ([(0, []), (0, []), (0, []), (0, [])])), .inr (1, [.inr (.inl (some 78)), .inl (0, []), .inl (0, []), .inl (0, []), .inl (0, []), .inl (0, []), .inl (0, [])]), .inl (0, .inl ([(0, []), (0, []), (0, []), (0, [])])), .inr (1, [.inr (.inl (some 80)), .inl (0, []), .inl (0, []), .inl (0, []), .inl (0, []), .inl (0, []), .inl (0, [])]), .inl (0, .inl ([(0, []), (0, []), (0, []), (0, [])])), .inr (1, [.inr (.inl (some 82)), .inl (0, []), .inl (0, []), .inl (0, []), .inl (0, []), .inl (0, []), .inl (0, [])]), .inl (0, .inl ([(0, []), (0, []), (0, []), (0, [])])), .inr (1, [.inr (.inl (some 84)), .inl (0, []), .inl (0, []), .inl (0, []), .inl (0, []), .inl (0, []), .inl (0, [])]), .inl (0, .inl ([(0, []), (0, []), (0, []), (0, [])])), .inr (1, [.inr (.inl (some 86)), .inl (0, []), .inl (0, []), .inl (0, []), .inl (0, []), .inl (0, []), .inl (0, [])]), .inl (0, .inl ([(0, []), (0, []), (0, []), (0, [])])), .inr (1, [.inr (.inl (some 88)), .inl (0, []), .inl (0, []), .inl (0, []), .inl (0, []), .inl (0, []), .inl (0, [])]), .inl (0, .inl ([(0, []), (0, []), (0, []), (0, [])])), .inr (1, [.inr (.inl (some 90)), .inl (0, []), .inl (0, []), .inl (0, []), .inl (0, []), .inl (0, []), .inl (0, [])]), .inl (0, .inl ([(0, []), (0, []), (0, []), (0, [])])), .inr (1, [.inr (.inl (some 92)), .inl (0, []), .inl (0, []), .inl (0, []), .inl (0, []), .inl (0, []), .inl (0, [])]), .inl (0, .inl ([(0, []), (0, []), (0, []), (0, [])])), .inr (1, [.inr (.inl (some 94)), .inl (0, []), .inl (0, []), .inl (0, []), .inl (0, []), .inl (0, []), .inl (0, [])]), .inl (0, .inl ([(0, []), (0, []), (0, []), (0, [])])), .inr (1, [.inr (.inl (some 96)), .inl (0, []), .inl (0, []), .inl (0, []), .inl (0, []), .inl (0, []), .inl (0, [])]), .inl (0, .inl ([(0, []), (0, []), (0, []), (0, [])])), .inr (1, [.inr (.inl (some 98)), .inl (0, []), .inl (0, []), .inl (0, []), .inl (0, []), .inl (0, []), .inl (0, [])]), .inl (0, .inl ([(0, []), (0, []), (0, []), (0, [])])), .inr (1, [.inr (.inl (some 100)), .inl (0, []), .inl (0, []), .inl (0, []), .inl (0, []), .inl (0, []), .inl (0, [])]), .inl (0, .inl ([(0, []), (0, []), (0, []), (0, [])])), .inr (1, [.inr (.inl (some 102)), .inl (0, []), .inl (0, []), .inl (0, []), .inl (0, []), .inl (0, []), .inl (0, [])]), .inl (0, .inl ([(0, []), (0, []), (0, []), (0, [])])), .inr (1, [.inr (.inl (some 104)), .inl (0, []), .inl (0, []), .inl (0, []), .inl (0, []), .inl (0, []), .inl (0, [])]), .inl (0, .inl ([(0, []), (0, []), (0, []), (0, [])])), .inr (1, [.inr (.inl (some 106)), .inl (0, []), .inl (0, []), .inl (0, []), .inl (0, []), .inl (0, []), .inl (0, [])]), .inl (0, .inl ([(0, []), (0, []), (0, []), (0, [])])), .inr (1, [.inr (.inl (some 108)), .inl (0, []), .inl (0, []), .inl (0, []), .inl (0, []), .inl (0, []), .inl (0, [])]), .inl (0, .inl ([(0, []), (0, []), (0, []), (0, [])])), .inr (1, [.inr (.inl (some 110)), .inl (0, []), .inl (0, []), .inl (0, []), .inl (0, []), .inl (0, []), .inl (0, [])]), .inl (0, .inl ([(0, []), (0, []), (0, []), (0, [])])), .inr (1, [.inr (.inl (some 112)), .inl (0, []), .inl (0, []), .inl (0, []), .inl (0, []), .inl (0, []), .inl (0, [])]), .inl (0, .inl ([(0, []), (0, []), (0, []), (0, [])])), .inr (1, [.inr (.inl (some 114)), .inl (0, []), .inl (0, []), .inl (0, []), .inl (0, []), .inl (0, []), .inl (0, [])]), .inl (0, .inl ([(0, []), (0, []), (0, []), (0, [])])), .inr (1, [.inr (.inl (some 116)), .inl (0, []), .inl (0, []), .inl (0, []), .inl (0, []), .inl (0, []), .inl (0, [])]), .inl (0, .inl ([(0, []), (0, []), (0, []), (0, [])])), .inr (1, [.inr (.inl (some 118)), .inl (0, []), .inl (0, []), .inl (0, []), .inl (0, []), .inl (0, []), .inl (0, [])]), .inl (0, .inl ([(0, []), (0, []), (0, []), (0, [])])), .inr (1, [.inr (.inl (some 120)), .inl (0, []), .inl (0, []), .inl (0, []), .inl (0, []), .inl (0, []), .inl (0, [])]), .inl (0, .inl ([(0, []), (0, []), (0, []), (0, [])])), .inr (1, [.inr (.inl (some 122)), .inl (0, []), .inl (0, []), .inl (0, []), .inl (0, []), .inl (0, []), .inl (0, [])]), .inl (0, .inl ([(0, []), (0, []), (0, []), (0, [])])), .inr (1, [.inr (.inl (some 124)), .inl (0, []), .inl (0, []), .inl (0, []), .inl (0, []), .inl (0, []), .inl (0, [])]), .inl (0, .inl ([(0, []), (0, []), (0, []), (0, [])])), .inr (1, [.inr (.inl (some 126)), .inl (0, []), .inl (0, []), .inl (0, []), .inl (0, []), .inl (0, []), .inl (0, [])]), .inl (0, .inl ([(0, []), (0, []), (0, []), (0, [])])), .inr (1, [.inr (.inl (some 128)), .inl (0, []), .inl (0, []), .inl (0, []), .inl (0, []), .inl (0, []), .inl (0, [])]), .inl (0, .inl ([(0, []), (0, []), (0, []), (0, [])])), .inr (1, [.inr (.inl (some 130)), .inl (0, []), .inl (0, []), .inl (0, []), .inl (0, []), .inl (0, []), .inl (0, [])]), .inl (0, .inl ([(0, []), (0, []), (0, []), (0, [])])), .inr (1, [.inr (.inl (some 132)), .inl (0, []), .inl (0, []), .inl (0, []), .inl (0, []), .inl (0, []), .inl (0, [])]), .inl (0, .inl ([(0, []), (0, []), (0, []), (0, [])])), .inr (1, [.inr (.inl (some 134)), .inl (0, []), .inl (0, []), .inl (0, []), .inl (0, []), .inl (0, []), .inl (0, [])]), .inl (0, .inl ([(0, []), (0, []), (0, []), (0, [])])), .inr (1, [.inr (.inl (some 136)), .inl (0, []), .inl (0, []), .inl (0, []), .inl (0, []), .inl (0, []), .inl (0, [])]), .inl (0, .inl ([(0, []), (0, []), (0, []), (0, [])])), .inr (1, [.inr (.inl (some 138)), .inl (0, []), .inl (0, []), .inl (0, []), .inl (0, []), .inl (0, []), .inl (0, [])]), .inl (0, .inl ([(0, []), (0, []), (0, []), (0, [])])), .inr (1, [.inr (.inl (some 140)), .inl (0, []), .inl (0, []), .inl (0, []), .inl (0, []), .inl (0, []), .inl (0, [])]), .inl (0, .inl ([(0, []), (0, []), (0, []), (0, [])])), .inr (1, [.inr (.inl (some 142)), .inl (0, []), .inl (0, []), .inl (0, []), .inl (0, []), .inl (0, []), .inl (0, [])]), .inl (0, .inl ([(0, []), (0, []), (0, []), (0, [])])), .inr (1, [.inr (.inl (some 144)), .inl (0, []), .inl (0, []), .inl (0, []), .inl (0, []), .inl (0, []), .inl (0, [])]), .inl (0, .inl ([(0, []), (0, []), (0, []), (0, [])])), .inr (1, [.inr (.inl (some 146)), .inl (0, []), .inl (0, []), .inl (0, []), .inl (0, []), .inl (0, []), .inl (0, [])]), .inl (0, .inl ([(0, []), (0, []), (0, []), (0, [])])), .inr (1, [.inr (.inl (some 148)), .inl (0, []), .inl (0, []), .inl (0, []), .inl (0, []), .inl (0, []), .inl (0, [])]), .inl (0, .inl ([(0, []), (0, []), (0, []), (0, [])])), .inr (1, [.inr (.inl (some 150)), .inl (0, []), .inl (0, []), .inl (0, []), .inl (0, []), .inl (0, []), .inl (0, [])]), .inl (0, .inl ([(0, []), (0, []), (0, []), (0, [])])), .inr (1, [.inr (.inl (some 152)), .inl (0, []), .inl (0, []), .inl (0, []), .inl (0, []), .inl (0, []), .inl (0, [])]), .inl (0, .inl ([(0, []), (0, []), (0, []), (0, [])])), .inr (1, [.inr (.inl (some 154)), .inl (0, []), .inl (0, []), .inl (0, []), .inl (0, []), .inl (0, []), .inl (0, [])]), .inl (0, .inl ([(0, []), (0, []), (0, []), (0, [])])), .inr (1, [.inr (.inl (some 156)), .inl (0, []), .inl (0, []), .inl (0, []), .inl (0, []), .inl (0, []), .inl (0, [])]), .inl (0, .inl ([(0, []), (0, []), (0, []), (0, [])])), .inr (1, [.inr (.inl (some 158)), .inl (0, []), .inl (0, []), .inl (0, []), .inl (0, []), .inl (0, []), .inl (0, [])]), .inl (0, .inl ([(0, []), (0, []), (0, []), (0, [])])), .inr (1, [.inr (.inl (some 160)), .inl (0, []), .inl (0, []), .inl (0, []), .inl (0, []), .inl (0, []), .inl (0, [])]), .inl (0, .inl ([(0, []), (0, []), (0, []), (0, [])])), .inr (1, [.inr (.inl (some 162)), .inl (0, []), .inl (0, []), .inl (0, []), .inl (0, []), .inl (0, []), .inl (0, [])]), .inl (0, .inl ([(0, []), (0, []), (0, []), (0, [])])), .inr (1, [.inr (.inl (some 164)), .inl (0, []), .inl (0, []), .inl (0, []), .inl (0, []), .inl (0, []), .inl (0, [])]), .inl (0, .inl ([(0, []), (0, []), (0, []), (0, [])])), .inl (3, .inr (.inr ([(some 166)] ++ ([(some 167)] ++ ([(some 168)] ++ ([(some 169)] ++ ([(some 170)] ++ ([(some 171)])))))))), .inr (7, [.inr (.inl (some 214)), .inl (0, []), .inl (1000, []), .inl (1000, [])]), .inr (7, [.inr (.inl none), .inl (0, []), .inl (1000, []), .inl (1000, [])]), .inr (7, [.inr (.inl none), .inl (0, []), .inl (1000, []), .inl (1000, [])]), .inr (7, [.inr (.inl none), .inl (0, []), .inl (1000, []), .inl (1000, [])]), .inr (7, [.inr (.inl none), .inl (0, []), .inl (1000, []), .inl (1000, [])]), .inr (7, [.inr (.inl none), .inl (0, []), .inl (1000, []), .inl (1000, [])]), .inl (3, .inr (.inr ([(some 173)] ++ ([(some 174)] ++ ([(some 175)] ++ ([(some 176)] ++ ([(some 177)] ++ ([(some 178)])))))))), .inr (7, [.inr (.inl (some 214)), .inl (0, []), .inl (1000, []), .inl (1000, [])]), .inr (7, [.inr (.inl none), .inl (0, []), .inl (1000, []), .inl (1000, [])]), .inr (7, [.inr (.inl none), .inl (0, []), .inl (1000, []), .inl (1000, [])]), .inr (7, [.inr (.inl none), .inl (0, []), .inl (1000, []), .inl (1000, [])]), .inr (7, [.inr (.inl none), .inl (0, []), .inl (1000, []), .inl (1000, [])]), .inr (7, [.inr (.inl none), .inl (0, []), .inl (1000, []), .inl (1000, [])]), .inl (4, .inr (.inr (List.replicate 512 none))), .inr (6, [.inr (.inl (some 181)), .inr (.inl (some 182)), .inr (.inl (some 183)), .inl (0, []), .inl (0, [])]), .inl (0, .inl (List.replicate 10 (0, []))), .inl (0, .inl (List.replicate 10 (0, []))), .inl (6, .inr (.inr ([(some 184)] ++ ([(some 185)] ++ ([(some 186)] ++ ([(some 187)] ++ ([(some 188)] ++ ([(some 189)] ++ ([(some 190)] ++ ([(some 191)] ++ ([(some 192)] ++ ([(some 193)])))))))))))), .inl (0, .inl (List.replicate 16 (0, []))), .inl (0, .inl (List.replicate 16 (0, []))), .inl (0, .inl (List.replicate 16 (0, []))), .inl (0, .inl (List.replicate 16 (0, []))), .inl (0, .inl (List.replicate 16 (0, []))), .inl (0, .inl (List.replicate 16 (0, []))), .inl (0, .inl (List.replicate 16 (0, []))), .inl (0, .inl (List.replicate 16 (0, []))), .inl (0, .inl (List.replicate 16 (0, []))), .inl (0, .inl (List.replicate 16 (0, []))), .inr (6, [.inr (.inl (some 195)), .inr (.inl (some 196)), .inr (.inl (some 197)), .inl (0, []), .inl (0, [])]), .inl (0, .inl (List.replicate 10 (0, []))), .inl (0, .inl (List.replicate 10 (0, []))), .inl (6, .inr (.inr ([(some 198)] ++ ([(some 199)] ++ ([(some 200)] ++ ([(some 201)] ++ ([(some 202)] ++ ([(some 203)] ++ ([(some 204)] ++ ([(some 205)] ++ ([(some 206)] ++ ([(some 207)])))))))))))), .inl (0, .inl (List.replicate 16 (0, []))), .inl (0, .inl (List.replicate 16 (0, []))), .inl (0, .inl (List.replicate 16 (0, []))), .inl (0, .inl (List.replicate 16 (0, []))), .inl (0, .inl (List.replicate 16 (0, []))), .inl (0, .inl (List.replicate 16 (0, []))), .inl (0, .inl (List.replicate 16 (0, []))), .inl (0, .inl (List.replicate 16 (0, []))), .inl (0, .inl (List.replicate 16 (0, []))), .inl (0, .inl (List.replicate 16 (0, []))), .inr (4, [.inr (.inl (some 209)), .inr (.inl (some 210))]), .inl (2, .inr (.inr (List.replicate 16 none))), .inl (0, .inl (List.replicate 16 (0, []))), .inl (0, .inl (List.replicate 16 (0, []))), .inr (8, [.inl (0, []), .inl (0, [])]), .inr (8, [.inl (0, []), .inl (0, [])]), .inr (5, [.inr (.inl (some 215)), .inl (2, [])]), .inl (5, .inr (.inr (List.replicate 10 none))), .inr (10, [.inr (.inl (some 217)), .inr (.inl (some 218)), .inr (.inl (some 219)), .inr (.inl (some 220)), .inr (.inl (some 221)), .inl (0, []), .inr (.inl (some 222)), .inr (.inl (some 223)), .inl (0, []), .inr (.inl (some 224)), .inr (.inl (some 225)), .inr (.inl (some 226)), .inr (.inl (some 227)), .inr (.inl (some 228)), .inr (.inl (some 229)), .inr (.inl (some 230)), .inr (.inl (some 231)), .inr (.inl (some 232)), .inl (0, []), .inl (0, []), .inr (.inl (some 233)), .inr (.inl (some 234)), .inr (.inl (some 235)), .inl (0, []), .inl (0, []), .inl (0, []), .inl (0, []), .inr (.inl (some 236)), .inr (.inl (some 237)), .inr (.inl (some 238)), .inl (0, []), .inr (.inl (some 239)), .inr (.inl (some 240)), .inr (.inl (some 241)), .inr (.inl (some 242)), .inr (.inl (some 243))]), .inl (0, .inl (List.replicate 800 (0, []))), .inl (0, .inl (List.replicate 200 (0, []))), .inl (0, .inl (List.replicate 200 (0, []))), .inl (0, .inl (List.replicate 200 (0, []))), .inl (0, .inl (List.replicate 200 (0, []))), .inl (0, .inl (List.replicate 200 (4294967295, []))), .inl (0, .inl (List.replicate 3200 (0, []))), .inl (0, .inl (List.replicate 200 (0, []))), .inl (0, .inl ([(0, [])] ++ ([(4294967295, []), (4294967295, []), (4294967295, []), (4294967295, []), (4294967295, [])] ++ ([(0, [])] ++ ([(4294967295, []), (4294967295, []), (4294967295, []), (4294967295, []), (4294967295, [])]))))), .inl (0, .inl (List.replicate 12 (0, []))), .inl (0, .inl (List.replicate 12 (1000, []))), .inl (0, .inl (List.replicate 12 (1000, []))), .inl (0, .inl (List.replicate 61 (0, []))), .inl (0, .inl (List.replicate 61 (0, []))), .inl (0, .inl (List.replicate 61 (0, []))), .inl (0, .inl (List.replicate 976 (0, []))), .inl (0, .inl (List.replicate 10 (0, []))), .inl (0, .inl (List.replicate 10 (0, []))), .inl (0, .inl (List.replicate 160 (0, []))), .inl (0, .inl (List.replicate 200 (0, []))), .inl (0, .inl (List.replicate 200 (0, []))), .inl (0, .inl (List.replicate 16 (0, []))), .inl (0, .inl (List.replicate 16 (0, []))), .inl (0, .inl (List.replicate 200 (0, []))), .inl (0, .inl (List.replicate 16 (0, []))), .inl (0, .inl (List.replicate 160 (0, []))), .inl (0, .inl (List.replicate 10 (0, []))), .inl (1, .inr (.inl ([0])))])
noncomputable def q_leaf (E : qEnv) : qRes := qRun q_sw q_prog E q_N 14 q_law [] (q_drop q_law 13) q_L1 [] q_h1
noncomputable def q_gz (ih : qEnv → Bool) (E : qEnv) (z : qRes) : Bool := match z with
  | .inl (some (.inl (v, [])), _, mc, ms) => Nat.beq v 1 && (Nat.ble mc 500000 && Nat.ble ms 7000000)
  | .inr (.inr (some (t, u))) => q_fz (q_base E t).1 fun lo => q_fz (q_base E t).2 fun hi => q_fz u fun u => q_fz (u - 1) fun w => Nat.blt 0 u && (ih ((t, lo, w) :: q_er t E) && ih ((t, u, hi) :: q_er t E))
  | _ => false
theorem q_gz_ok {ih : qEnv → Bool} {E : qEnv} {z : qRes} (h : q_gz ih E z = true) : (∃ (h' : qHp) (mc ms : Nat), z = .inl (some (.inl (1, [])), h', mc, ms) ∧ mc ≤ 500000 ∧ ms ≤ 7000000) ∨ ∃ (t : qT) (u : Nat), 0 < u ∧ ih ((t, (q_base E t).1, u - 1) :: q_er t E) = true ∧ ih ((t, u, (q_base E t).2) :: q_er t E) = true := by
  unfold q_gz at h
  simp only [q_fz_eq] at h
  split at h
  · next v h' mc ms =>
    simp only [Bool.and_eq_true] at h
    obtain ⟨h1, h2, h3⟩ := h
    have h1 := Nat.eq_of_beq_eq_true h1
    subst h1
    exact Or.inl ⟨h', mc, ms, rfl, Nat.le_of_ble_eq_true h2, Nat.le_of_ble_eq_true h3⟩
  · next t u =>
    simp only [Bool.and_eq_true] at h
    obtain ⟨h0, h1, h2⟩ := h
    exact Or.inr ⟨t, u, Nat.blt_eq.mp h0, h1, h2⟩
  · cases h
noncomputable def q_go (n : Nat) : qEnv → Bool := Nat.rec (motive := fun _ => qEnv → Bool) (fun _ => false) (fun _ ih E => q_gz ih E (q_leaf E)) n
def q_wo (E : qEnv) : Prop := ∀ rho : Nat → Nat, qEok E rho → ∃ (E2 : qEnv) (h : qHp) (mc ms : Nat), qEok E2 rho ∧ q_leaf E2 = .inl (some (.inl (1, [])), h, mc, ms) ∧ mc ≤ 500000 ∧ ms ≤ 7000000
theorem q_go_ok (n : Nat) : ∀ (E : qEnv), q_go n E = true → q_wo E := by
  induction n with
  | zero => exact fun E h => absurd (show false = true from h) (by decide)
  | succ n ih =>
    intro E h rho hE
    have h : q_gz (q_go n) E (q_leaf E) = true := by
      unfold q_go at h ⊢
      exact h
    have hb := q_base_ok hE
    rcases q_gz_ok h with ⟨h', mc, ms, he, g1, g2⟩ | ⟨t, u, h0, h1, h2⟩
    · exact ⟨E, h', mc, ms, hE, he, g1, g2⟩
    · rcases Nat.lt_or_ge (q_bz (q_ev rho t)) u with hlt | hge
      · refine ih _ h1 rho (fun x hx => ?_)
        rcases List.mem_cons.mp hx with rfl | hx
        · exact ⟨(hb t).1, by dsimp only; omega⟩
        · exact hE x (q_er_sub hx)
      · refine ih _ h2 rho (fun x hx => ?_)
        rcases List.mem_cons.mp hx with rfl | hx
        · exact ⟨hge, (hb t).2⟩
        · exact hE x (q_er_sub hx)
/-- one case cut in two -/
theorem q_cut (t : qT) (u lo hi : Nat) {E : qEnv} (hq : q_base E t = (lo, hi)) (h1 : q_wo ((t, lo, u) :: q_er t E)) (h2 : q_wo ((t, u + 1, hi) :: q_er t E)) : q_wo E := by
  intro rho hE
  have hb := q_base_ok hE t
  rw [hq] at hb
  rcases Nat.lt_or_ge u (q_bz (q_ev rho t)) with hlt | hge
  · refine h2 rho (fun x hx => ?_)
    rcases List.mem_cons.mp hx with rfl | hx
    · exact ⟨hlt, hb.2⟩
    · exact hE x (q_er_sub hx)
  · refine h1 rho (fun x hx => ?_)
    rcases List.mem_cons.mp hx with rfl | hx
    · exact ⟨hb.1, hge⟩
    · exact hE x (q_er_sub hx)
def q_E0 : qEnv := [([(0, 1)], 2147483648, 2147483655)]
def q_Ek (k : Nat) : qEnv := [([(9, 1)], 2147483648 + k, 2147483648 + k), ([(0, 1)], 2147483656, 2147483656)]
def q_r1 : qRes := .inl (some (.inl (1, [])), (false, []), 500000, 7000000)
def q_dT : DecidableEq qT := inferInstance
def q_dI : DecidableEq qI := (fun (_ : DecidableEq qT) => (inferInstance : DecidableEq (Nat × qT))) q_dT
def q_dV : DecidableEq qV := (fun (_ : DecidableEq qI) => (inferInstance : DecidableEq (qI ⊕ (Option Nat ⊕ Nat)))) q_dI
def q_dA : DecidableEq qA := (fun (_ : DecidableEq qI) => (inferInstance : DecidableEq (Nat × (List qI ⊕ (List Nat ⊕ List (Option Nat)))))) q_dI
def q_dO : DecidableEq (Nat × List qV) := (fun (_ : DecidableEq qV) => (inferInstance : DecidableEq (Nat × List qV))) q_dV
def q_dC : DecidableEq qC := (fun (_ : DecidableEq qA) (_ : DecidableEq (Nat × List qV)) => (inferInstance : DecidableEq (qA ⊕ (Nat × List qV)))) q_dA q_dO
def q_dH : DecidableEq qHp := (fun (_ : DecidableEq qC) => (inferInstance : DecidableEq (Bool × List qC))) q_dC
def q_dS : DecidableEq (List qV) := (fun (_ : DecidableEq qV) => (inferInstance : DecidableEq (List qV))) q_dV
def q_dL : DecidableEq qL := (fun (_ : DecidableEq qV) => (inferInstance : DecidableEq (List (Option qV)))) q_dV
noncomputable def q_kf : qKk := fun K L S h => match K with
  | [] => q_no
  | r :: _ => match Nat.beq r.1 23 && @decide (L = q_L1 ∧ S = [] ∧ h = q_h1) (@instDecidableAnd (L = q_L1) (S = [] ∧ h = q_h1) (q_dL L q_L1) (@instDecidableAnd (S = []) (h = q_h1) (q_dS S []) (q_dH h q_h1))) with
    | true => q_r1
    | false => q_no
noncomputable def q_pre (n : Nat) : qKk := Nat.rec (motive := fun _ => qKk) q_kf (fun _ kk K L S h => match K with
  | [] => q_no
  | r :: K' => q_step q_sw r.2.1 q_prog [] (qRun q_sw q_prog [] q_N) kk 14 q_law [] r.1 r.2.2.1 r.2.2.2.1 r.2.2.2.2.1 K' L S h) n
def q_isR : qRes → Bool
  | .inl (some (.inl (v, [])), _, mc, ms) => Nat.beq v 1 && (Nat.ble mc 600000 && Nat.ble ms 7300000)
  | _ => false
end
section
set_option maxRecDepth 100000 in
theorem q_prefix : q_isR (q_pre 13 q_law (q_loc 7 [.inr (.inl (some 0))]) [] (true, [])) = true := by decide +kernel
set_option maxRecDepth 100000 in
theorem q_g0 : q_go 60 q_E0 = true := by decide +kernel
end
section
set_option maxRecDepth 100000 in
theorem q_gw16baa : q_wo [([(2, 1)], 2147483648, 2147483648), ([(9, 1)], 2147483664, 2147483664), ([(0, 1)], 2147483656, 2147483656)] := q_go_ok 200 _ (by decide +kernel)
set_option maxRecDepth 100000 in
theorem q_gw8baababababbba : q_wo [([(5, 1)], 2147483652, 2147483652), ([(4, 1)], 2147483648, 2147483663), ([(3, 1)], 2147483648, 2147483657), ([(2, 1)], 2147483648, 2147483648), ([(9, 1)], 2147483656, 2147483656), ([(0, 1)], 2147483656, 2147483656)] := q_go_ok 200 _ (by decide +kernel)
set_option maxRecDepth 100000 in
theorem q_gw8baababababbbbbbbbbbbbbba : q_wo [([(5, 1)], 2147483663, 2147483663), ([(4, 1)], 2147483648, 2147483663), ([(3, 1)], 2147483648, 2147483657), ([(2, 1)], 2147483648, 2147483648), ([(9, 1)], 2147483656, 2147483656), ([(0, 1)], 2147483656, 2147483656)] := q_go_ok 200 _ (by decide +kernel)
set_option maxRecDepth 100000 in
theorem q_gw5babababababba : q_wo [([(5, 1)], 2147483651, 2147483651), ([(7, 1)], 2147482649, 2147484647), ([(6, 1)], 2147483648, 2147484647), ([(2, 1)], 2147483649, 2147483649), ([(9, 1)], 2147483653, 2147483653), ([(0, 1)], 2147483656, 2147483656)] := q_go_ok 200 _ (by decide +kernel)
set_option maxRecDepth 100000 in
theorem q_gw5babbbbababababba : q_wo [([(5, 1)], 2147483651, 2147483651), ([(7, 1)], 2147482649, 2147484647), ([(6, 1)], 2147483648, 2147484647), ([(2, 1)], 2147483652, 2147483652), ([(9, 1)], 2147483653, 2147483653), ([(0, 1)], 2147483656, 2147483656)] := q_go_ok 200 _ (by decide +kernel)
set_option maxRecDepth 100000 in
theorem q_gw7baababababbba : q_wo [([(5, 1)], 2147483652, 2147483652), ([(4, 1)], 2147483648, 2147483663), ([(3, 1)], 2147483648, 2147483657), ([(2, 1)], 2147483648, 2147483648), ([(9, 1)], 2147483655, 2147483655), ([(0, 1)], 2147483656, 2147483656)] := q_go_ok 200 _ (by decide +kernel)
set_option maxRecDepth 100000 in
theorem q_gw7baababababbbbbbbbbbbbbbb : q_wo [([(5, 1)], 2147483664, 2147483664), ([(4, 1)], 2147483648, 2147483663), ([(3, 1)], 2147483648, 2147483657), ([(2, 1)], 2147483648, 2147483648), ([(9, 1)], 2147483655, 2147483655), ([(0, 1)], 2147483656, 2147483656)] := q_go_ok 200 _ (by decide +kernel)
set_option maxRecDepth 100000 in
theorem q_gw8baababaa : q_wo [([(5, 1)], 0, 2147483648), ([(4, 1)], 2147483648, 2147483663), ([(3, 1)], 2147483648, 2147483657), ([(2, 1)], 2147483648, 2147483648), ([(9, 1)], 2147483656, 2147483656), ([(0, 1)], 2147483656, 2147483656)] := q_go_ok 200 _ (by decide +kernel)
set_option maxRecDepth 100000 in
theorem q_gw13 : q_wo [([(9, 1)], 2147483661, 2147483661), ([(0, 1)], 2147483656, 2147483656)] := q_go_ok 200 _ (by decide +kernel)
set_option maxRecDepth 100000 in
theorem q_gw5baababababbbaa : q_wo [([(6, 1)], 0, 2147483647), ([(4, 1)], 2147483648, 2147483660), ([(5, 1)], 2147483652, 2147483652), ([(3, 1)], 2147483648, 2147483657), ([(2, 1)], 2147483648, 2147483648), ([(9, 1)], 2147483653, 2147483653), ([(0, 1)], 2147483656, 2147483656)] := q_go_ok 200 _ (by decide +kernel)
set_option maxRecDepth 100000 in
theorem q_gw5baababbbabaa : q_wo [([(7, 1)], 0, 2147482648), ([(6, 1)], 2147483648, 2147484647), ([(5, 1)], 2147483649, 2147483652), ([(4, 1)], 2147483664, 4294967295), ([(3, 1)], 2147483648, 2147483657), ([(2, 1)], 2147483648, 2147483648), ([(9, 1)], 2147483653, 2147483653), ([(0, 1)], 2147483656, 2147483656)] := q_go_ok 200 _ (by decide +kernel)
set_option maxRecDepth 100000 in
theorem q_gw5baabbbabaa : q_wo [([(7, 1)], 0, 2147482648), ([(6, 1)], 2147483648, 2147484647), ([(5, 1)], 2147483649, 2147483652), ([(3, 1)], 2147483658, 4294967295), ([(2, 1)], 2147483648, 2147483648), ([(9, 1)], 2147483653, 2147483653), ([(0, 1)], 2147483656, 2147483656)] := q_go_ok 200 _ (by decide +kernel)
set_option maxRecDepth 100000 in
theorem q_gw5babbbbabababb : q_wo [([(7, 1)], 2147484648, 4294967295), ([(6, 1)], 2147483648, 2147484647), ([(5, 1)], 2147483649, 2147483652), ([(2, 1)], 2147483652, 2147483652), ([(9, 1)], 2147483653, 2147483653), ([(0, 1)], 2147483656, 2147483656)] := q_go_ok 200 _ (by decide +kernel)
set_option maxRecDepth 100000 in
theorem q_gw5bbbababb : q_wo [([(7, 1)], 2147484648, 4294967295), ([(6, 1)], 2147483648, 2147484647), ([(5, 1)], 2147483649, 2147483652), ([(2, 1)], 2147483654, 4294967295), ([(9, 1)], 2147483653, 2147483653), ([(0, 1)], 2147483656, 2147483656)] := q_go_ok 200 _ (by decide +kernel)
set_option maxRecDepth 100000 in
theorem q_gw5babbbbbbaa : q_wo [([(6, 1)], 0, 2147483647), ([(5, 1)], 2147483649, 2147483652), ([(2, 1)], 2147483653, 2147483653), ([(9, 1)], 2147483653, 2147483653), ([(0, 1)], 2147483656, 2147483656)] := q_go_ok 200 _ (by decide +kernel)
set_option maxRecDepth 100000 in
theorem q_gw5babbbaa : q_wo [([(5, 1)], 0, 2147483648), ([(2, 1)], 2147483651, 2147483651), ([(9, 1)], 2147483653, 2147483653), ([(0, 1)], 2147483656, 2147483656)] := q_go_ok 200 _ (by decide +kernel)
set_option maxRecDepth 100000 in
theorem q_gw22a : q_wo [([(2, 1)], 0, 2147483647), ([(9, 1)], 2147483670, 2147483670), ([(0, 1)], 2147483656, 2147483656)] := q_go_ok 200 _ (by decide +kernel)
set_option maxRecDepth 100000 in
theorem q_gw4 : q_wo [([(9, 1)], 2147483652, 2147483652), ([(0, 1)], 2147483656, 2147483656)] := q_go_ok 200 _ (by decide +kernel)
set_option maxRecDepth 100000 in
theorem q_gw7baababb : q_wo [([(4, 1)], 2147483664, 4294967295), ([(3, 1)], 2147483648, 2147483657), ([(2, 1)], 2147483648, 2147483648), ([(9, 1)], 2147483655, 2147483655), ([(0, 1)], 2147483656, 2147483656)] := q_go_ok 200 _ (by decide +kernel)
set_option maxRecDepth 100000 in
theorem q_gw0baaa : q_wo [([(3, 1)], 0, 2147483647), ([(2, 1)], 2147483648, 2147483648), ([(9, 1)], 2147483648, 2147483648), ([(0, 1)], 2147483656, 2147483656)] := q_go_ok 200 _ (by decide +kernel)
end
section
set_option maxRecDepth 100000 in
theorem q_gw9bab : q_wo [([(2, 1)], 2147483649, 2147483653), ([(9, 1)], 2147483657, 2147483657), ([(0, 1)], 2147483656, 2147483656)] := q_go_ok 200 _ (by decide +kernel)
set_option maxRecDepth 100000 in
theorem q_gw8baababababba : q_wo [([(5, 1)], 2147483651, 2147483651), ([(4, 1)], 2147483648, 2147483663), ([(3, 1)], 2147483648, 2147483657), ([(2, 1)], 2147483648, 2147483648), ([(9, 1)], 2147483656, 2147483656), ([(0, 1)], 2147483656, 2147483656)] := q_go_ok 200 _ (by decide +kernel)
set_option maxRecDepth 100000 in
theorem q_gw8baababababbbbbbbbbbbbba : q_wo [([(5, 1)], 2147483662, 2147483662), ([(4, 1)], 2147483648, 2147483663), ([(3, 1)], 2147483648, 2147483657), ([(2, 1)], 2147483648, 2147483648), ([(9, 1)], 2147483656, 2147483656), ([(0, 1)], 2147483656, 2147483656)] := q_go_ok 200 _ (by decide +kernel)
set_option maxRecDepth 100000 in
theorem q_gw5babababababa : q_wo [([(5, 1)], 2147483650, 2147483650), ([(7, 1)], 2147482649, 2147484647), ([(6, 1)], 2147483648, 2147484647), ([(2, 1)], 2147483649, 2147483649), ([(9, 1)], 2147483653, 2147483653), ([(0, 1)], 2147483656, 2147483656)] := q_go_ok 200 _ (by decide +kernel)
set_option maxRecDepth 100000 in
theorem q_gw5babbbbababababa : q_wo [([(5, 1)], 2147483650, 2147483650), ([(7, 1)], 2147482649, 2147484647), ([(6, 1)], 2147483648, 2147484647), ([(2, 1)], 2147483652, 2147483652), ([(9, 1)], 2147483653, 2147483653), ([(0, 1)], 2147483656, 2147483656)] := q_go_ok 200 _ (by decide +kernel)
set_option maxRecDepth 100000 in
theorem q_gw7baababababba : q_wo [([(5, 1)], 2147483651, 2147483651), ([(4, 1)], 2147483648, 2147483663), ([(3, 1)], 2147483648, 2147483657), ([(2, 1)], 2147483648, 2147483648), ([(9, 1)], 2147483655, 2147483655), ([(0, 1)], 2147483656, 2147483656)] := q_go_ok 200 _ (by decide +kernel)
set_option maxRecDepth 100000 in
theorem q_gw7baababababbbbbbbbbbbbbba : q_wo [([(5, 1)], 2147483663, 2147483663), ([(4, 1)], 2147483648, 2147483663), ([(3, 1)], 2147483648, 2147483657), ([(2, 1)], 2147483648, 2147483648), ([(9, 1)], 2147483655, 2147483655), ([(0, 1)], 2147483656, 2147483656)] := q_go_ok 200 _ (by decide +kernel)
set_option maxRecDepth 100000 in
theorem q_gw8baabababb : q_wo [([(5, 1)], 2147483665, 4294967295), ([(4, 1)], 2147483648, 2147483663), ([(3, 1)], 2147483648, 2147483657), ([(2, 1)], 2147483648, 2147483648), ([(9, 1)], 2147483656, 2147483656), ([(0, 1)], 2147483656, 2147483656)] := q_go_ok 200 _ (by decide +kernel)
set_option maxRecDepth 100000 in
theorem q_gw17 : q_wo [([(9, 1)], 2147483665, 2147483665), ([(0, 1)], 2147483656, 2147483656)] := q_go_ok 200 _ (by decide +kernel)
set_option maxRecDepth 100000 in
theorem q_gw5baabababaaa : q_wo [([(6, 1)], 0, 2147483647), ([(5, 1)], 2147483649, 2147483649), ([(4, 1)], 2147483648, 2147483663), ([(3, 1)], 2147483648, 2147483657), ([(2, 1)], 2147483648, 2147483648), ([(9, 1)], 2147483653, 2147483653), ([(0, 1)], 2147483656, 2147483656)] := q_go_ok 200 _ (by decide +kernel)
set_option maxRecDepth 100000 in
theorem q_gw5baababababbbba : q_wo [([(6, 1)], 0, 2147483647), ([(4, 1)], 2147483661, 2147483663), ([(5, 1)], 2147483652, 2147483652), ([(3, 1)], 2147483648, 2147483657), ([(2, 1)], 2147483648, 2147483648), ([(9, 1)], 2147483653, 2147483653), ([(0, 1)], 2147483656, 2147483656)] := q_go_ok 200 _ (by decide +kernel)
set_option maxRecDepth 100000 in
theorem q_gw5baababbbb : q_wo [([(5, 1)], 2147483653, 4294967295), ([(4, 1)], 2147483664, 4294967295), ([(3, 1)], 2147483648, 2147483657), ([(2, 1)], 2147483648, 2147483648), ([(9, 1)], 2147483653, 2147483653), ([(0, 1)], 2147483656, 2147483656)] := q_go_ok 200 _ (by decide +kernel)
set_option maxRecDepth 100000 in
theorem q_gw5bababababb : q_wo [([(7, 1)], 2147484648, 4294967295), ([(6, 1)], 2147483648, 2147484647), ([(5, 1)], 2147483649, 2147483652), ([(2, 1)], 2147483649, 2147483649), ([(9, 1)], 2147483653, 2147483653), ([(0, 1)], 2147483656, 2147483656)] := q_go_ok 200 _ (by decide +kernel)
set_option maxRecDepth 100000 in
theorem q_gw5baabba : q_wo [([(5, 1)], 0, 2147483648), ([(3, 1)], 2147483658, 4294967295), ([(2, 1)], 2147483648, 2147483648), ([(9, 1)], 2147483653, 2147483653), ([(0, 1)], 2147483656, 2147483656)] := q_go_ok 200 _ (by decide +kernel)
set_option maxRecDepth 100000 in
theorem q_gw5babbabaa : q_wo [([(6, 1)], 0, 2147483647), ([(5, 1)], 2147483649, 2147483652), ([(2, 1)], 2147483650, 2147483650), ([(9, 1)], 2147483653, 2147483653), ([(0, 1)], 2147483656, 2147483656)] := q_go_ok 200 _ (by decide +kernel)
set_option maxRecDepth 100000 in
theorem q_gw5ababb : q_wo [([(6, 1)], 2147484648, 4294967295), ([(5, 1)], 2147483649, 2147483652), ([(2, 1)], 0, 2147483647), ([(9, 1)], 2147483653, 2147483653), ([(0, 1)], 2147483656, 2147483656)] := q_go_ok 200 _ (by decide +kernel)
set_option maxRecDepth 100000 in
theorem q_gw9bb : q_wo [([(2, 1)], 2147483654, 4294967295), ([(9, 1)], 2147483657, 2147483657), ([(0, 1)], 2147483656, 2147483656)] := q_go_ok 200 _ (by decide +kernel)
set_option maxRecDepth 100000 in
theorem q_gw0baababa : q_wo [([(3, 1)], 2147483649, 2147483649), ([(2, 1)], 2147483648, 2147483648), ([(9, 1)], 2147483648, 2147483648), ([(0, 1)], 2147483656, 2147483656)] := q_go_ok 200 _ (by decide +kernel)
set_option maxRecDepth 100000 in
theorem q_gw8baabb : q_wo [([(3, 1)], 2147483658, 4294967295), ([(2, 1)], 2147483648, 2147483648), ([(9, 1)], 2147483656, 2147483656), ([(0, 1)], 2147483656, 2147483656)] := q_go_ok 200 _ (by decide +kernel)
set_option maxRecDepth 100000 in
theorem q_gw30 : q_wo [([(9, 1)], 2147483678, 2147483678), ([(0, 1)], 2147483656, 2147483656)] := q_go_ok 200 _ (by decide +kernel)
end
section
set_option maxRecDepth 100000 in
theorem q_gw22bab : q_wo [([(2, 1)], 2147483649, 2147483653), ([(9, 1)], 2147483670, 2147483670), ([(0, 1)], 2147483656, 2147483656)] := q_go_ok 200 _ (by decide +kernel)
set_option maxRecDepth 100000 in
theorem q_gw8baababababa : q_wo [([(5, 1)], 2147483650, 2147483650), ([(4, 1)], 2147483648, 2147483663), ([(3, 1)], 2147483648, 2147483657), ([(2, 1)], 2147483648, 2147483648), ([(9, 1)], 2147483656, 2147483656), ([(0, 1)], 2147483656, 2147483656)] := q_go_ok 200 _ (by decide +kernel)
set_option maxRecDepth 100000 in
theorem q_gw8baababababbbbbbbbbbbba : q_wo [([(5, 1)], 2147483661, 2147483661), ([(4, 1)], 2147483648, 2147483663), ([(3, 1)], 2147483648, 2147483657), ([(2, 1)], 2147483648, 2147483648), ([(9, 1)], 2147483656, 2147483656), ([(0, 1)], 2147483656, 2147483656)] := q_go_ok 200 _ (by decide +kernel)
set_option maxRecDepth 100000 in
theorem q_gw5bababababaa : q_wo [([(5, 1)], 2147483649, 2147483649), ([(7, 1)], 2147482649, 2147484647), ([(6, 1)], 2147483648, 2147484647), ([(2, 1)], 2147483649, 2147483649), ([(9, 1)], 2147483653, 2147483653), ([(0, 1)], 2147483656, 2147483656)] := q_go_ok 200 _ (by decide +kernel)
set_option maxRecDepth 100000 in
theorem q_gw5babbbbabababaa : q_wo [([(5, 1)], 2147483649, 2147483649), ([(7, 1)], 2147482649, 2147484647), ([(6, 1)], 2147483648, 2147484647), ([(2, 1)], 2147483652, 2147483652), ([(9, 1)], 2147483653, 2147483653), ([(0, 1)], 2147483656, 2147483656)] := q_go_ok 200 _ (by decide +kernel)
set_option maxRecDepth 100000 in
theorem q_gw7baababababa : q_wo [([(5, 1)], 2147483650, 2147483650), ([(4, 1)], 2147483648, 2147483663), ([(3, 1)], 2147483648, 2147483657), ([(2, 1)], 2147483648, 2147483648), ([(9, 1)], 2147483655, 2147483655), ([(0, 1)], 2147483656, 2147483656)] := q_go_ok 200 _ (by decide +kernel)
set_option maxRecDepth 100000 in
theorem q_gw7baababababbbbbbbbbbbbba : q_wo [([(5, 1)], 2147483662, 2147483662), ([(4, 1)], 2147483648, 2147483663), ([(3, 1)], 2147483648, 2147483657), ([(2, 1)], 2147483648, 2147483648), ([(9, 1)], 2147483655, 2147483655), ([(0, 1)], 2147483656, 2147483656)] := q_go_ok 200 _ (by decide +kernel)
set_option maxRecDepth 100000 in
theorem q_gw7baabababaa : q_wo [([(5, 1)], 2147483649, 2147483649), ([(4, 1)], 2147483648, 2147483663), ([(3, 1)], 2147483648, 2147483657), ([(2, 1)], 2147483648, 2147483648), ([(9, 1)], 2147483655, 2147483655), ([(0, 1)], 2147483656, 2147483656)] := q_go_ok 200 _ (by decide +kernel)
set_option maxRecDepth 100000 in
theorem q_gw24 : q_wo [([(9, 1)], 2147483672, 2147483672), ([(0, 1)], 2147483656, 2147483656)] := q_go_ok 200 _ (by decide +kernel)
set_option maxRecDepth 100000 in
theorem q_gw5baababababbabbaa : q_wo [([(7, 1)], 0, 2147482648), ([(6, 1)], 2147483648, 2147484647), ([(4, 1)], 2147483662, 2147483663), ([(5, 1)], 2147483651, 2147483651), ([(3, 1)], 2147483648, 2147483657), ([(2, 1)], 2147483648, 2147483648), ([(9, 1)], 2147483653, 2147483653), ([(0, 1)], 2147483656, 2147483656)] := q_go_ok 200 _ (by decide +kernel)
set_option maxRecDepth 100000 in
theorem q_gw5baababaa : q_wo [([(5, 1)], 0, 2147483648), ([(4, 1)], 2147483648, 2147483663), ([(3, 1)], 2147483648, 2147483657), ([(2, 1)], 2147483648, 2147483648), ([(9, 1)], 2147483653, 2147483653), ([(0, 1)], 2147483656, 2147483656)] := q_go_ok 200 _ (by decide +kernel)
set_option maxRecDepth 100000 in
theorem q_gw5baaabababb : q_wo [([(7, 1)], 2147484648, 4294967295), ([(6, 1)], 2147483648, 2147484647), ([(5, 1)], 2147483649, 2147483652), ([(3, 1)], 0, 2147483647), ([(2, 1)], 2147483648, 2147483648), ([(9, 1)], 2147483653, 2147483653), ([(0, 1)], 2147483656, 2147483656)] := q_go_ok 200 _ (by decide +kernel)
set_option maxRecDepth 100000 in
theorem q_gw8bab : q_wo [([(2, 1)], 2147483649, 2147483653), ([(9, 1)], 2147483656, 2147483656), ([(0, 1)], 2147483656, 2147483656)] := q_go_ok 200 _ (by decide +kernel)
set_option maxRecDepth 100000 in
theorem q_gw5babbababb : q_wo [([(6, 1)], 2147484648, 4294967295), ([(5, 1)], 2147483649, 2147483652), ([(2, 1)], 2147483650, 2147483650), ([(9, 1)], 2147483653, 2147483653), ([(0, 1)], 2147483656, 2147483656)] := q_go_ok 200 _ (by decide +kernel)
set_option maxRecDepth 100000 in
theorem q_gw5bbbabb : q_wo [([(6, 1)], 2147484648, 4294967295), ([(5, 1)], 2147483649, 2147483652), ([(2, 1)], 2147483654, 4294967295), ([(9, 1)], 2147483653, 2147483653), ([(0, 1)], 2147483656, 2147483656)] := q_go_ok 200 _ (by decide +kernel)
set_option maxRecDepth 100000 in
theorem q_gw5babbbbba : q_wo [([(5, 1)], 0, 2147483648), ([(2, 1)], 2147483653, 2147483653), ([(9, 1)], 2147483653, 2147483653), ([(0, 1)], 2147483656, 2147483656)] := q_go_ok 200 _ (by decide +kernel)
set_option maxRecDepth 100000 in
theorem q_gw27 : q_wo [([(9, 1)], 2147483675, 2147483675), ([(0, 1)], 2147483656, 2147483656)] := q_go_ok 200 _ (by decide +kernel)
set_option maxRecDepth 100000 in
theorem q_gw0baababba : q_wo [([(3, 1)], 2147483650, 2147483650), ([(2, 1)], 2147483648, 2147483648), ([(9, 1)], 2147483648, 2147483648), ([(0, 1)], 2147483656, 2147483656)] := q_go_ok 200 _ (by decide +kernel)
set_option maxRecDepth 100000 in
theorem q_gw8a : q_wo [([(2, 1)], 0, 2147483647), ([(9, 1)], 2147483656, 2147483656), ([(0, 1)], 2147483656, 2147483656)] := q_go_ok 200 _ (by decide +kernel)
set_option maxRecDepth 100000 in
theorem q_gw0a : q_wo [([(2, 1)], 0, 2147483647), ([(9, 1)], 2147483648, 2147483648), ([(0, 1)], 2147483656, 2147483656)] := q_go_ok 200 _ (by decide +kernel)
end
section
set_option maxRecDepth 100000 in
theorem q_gw0baababbb : q_wo [([(3, 1)], 2147483651, 2147483657), ([(2, 1)], 2147483648, 2147483648), ([(9, 1)], 2147483648, 2147483648), ([(0, 1)], 2147483656, 2147483656)] := q_go_ok 200 _ (by decide +kernel)
set_option maxRecDepth 100000 in
theorem q_gw5baabaababababbb : q_wo [([(5, 1)], 2147483652, 2147483652), ([(7, 1)], 2147482649, 2147484647), ([(6, 1)], 2147483648, 2147484647), ([(4, 1)], 0, 2147483647), ([(3, 1)], 2147483648, 2147483657), ([(2, 1)], 2147483648, 2147483648), ([(9, 1)], 2147483653, 2147483653), ([(0, 1)], 2147483656, 2147483656)] := q_go_ok 200 _ (by decide +kernel)
set_option maxRecDepth 100000 in
theorem q_gw8baababababbbbbbbbbbba : q_wo [([(5, 1)], 2147483660, 2147483660), ([(4, 1)], 2147483648, 2147483663), ([(3, 1)], 2147483648, 2147483657), ([(2, 1)], 2147483648, 2147483648), ([(9, 1)], 2147483656, 2147483656), ([(0, 1)], 2147483656, 2147483656)] := q_go_ok 200 _ (by decide +kernel)
set_option maxRecDepth 100000 in
theorem q_gw5baaababababbb : q_wo [([(5, 1)], 2147483652, 2147483652), ([(7, 1)], 2147482649, 2147484647), ([(6, 1)], 2147483648, 2147484647), ([(3, 1)], 0, 2147483647), ([(2, 1)], 2147483648, 2147483648), ([(9, 1)], 2147483653, 2147483653), ([(0, 1)], 2147483656, 2147483656)] := q_go_ok 200 _ (by decide +kernel)
set_option maxRecDepth 100000 in
theorem q_gw5babbbababababbb : q_wo [([(5, 1)], 2147483652, 2147483652), ([(7, 1)], 2147482649, 2147484647), ([(6, 1)], 2147483648, 2147484647), ([(2, 1)], 2147483651, 2147483651), ([(9, 1)], 2147483653, 2147483653), ([(0, 1)], 2147483656, 2147483656)] := q_go_ok 200 _ (by decide +kernel)
set_option maxRecDepth 100000 in
theorem q_gw5bbbabababbb : q_wo [([(5, 1)], 2147483652, 2147483652), ([(7, 1)], 2147482649, 2147484647), ([(6, 1)], 2147483648, 2147484647), ([(2, 1)], 2147483654, 4294967295), ([(9, 1)], 2147483653, 2147483653), ([(0, 1)], 2147483656, 2147483656)] := q_go_ok 200 _ (by decide +kernel)
set_option maxRecDepth 100000 in
theorem q_gw7baababababbbbbbbbbbbba : q_wo [([(5, 1)], 2147483661, 2147483661), ([(4, 1)], 2147483648, 2147483663), ([(3, 1)], 2147483648, 2147483657), ([(2, 1)], 2147483648, 2147483648), ([(9, 1)], 2147483655, 2147483655), ([(0, 1)], 2147483656, 2147483656)] := q_go_ok 200 _ (by decide +kernel)
set_option maxRecDepth 100000 in
theorem q_gw8baabababaa : q_wo [([(5, 1)], 2147483649, 2147483649), ([(4, 1)], 2147483648, 2147483663), ([(3, 1)], 2147483648, 2147483657), ([(2, 1)], 2147483648, 2147483648), ([(9, 1)], 2147483656, 2147483656), ([(0, 1)], 2147483656, 2147483656)] := q_go_ok 200 _ (by decide +kernel)
set_option maxRecDepth 100000 in
theorem q_gw7baababaa : q_wo [([(5, 1)], 0, 2147483648), ([(4, 1)], 2147483648, 2147483663), ([(3, 1)], 2147483648, 2147483657), ([(2, 1)], 2147483648, 2147483648), ([(9, 1)], 2147483655, 2147483655), ([(0, 1)], 2147483656, 2147483656)] := q_go_ok 200 _ (by decide +kernel)
set_option maxRecDepth 100000 in
theorem q_gw5baababababaaa : q_wo [([(6, 1)], 0, 2147483647), ([(4, 1)], 2147483648, 2147483662), ([(5, 1)], 2147483650, 2147483650), ([(3, 1)], 2147483648, 2147483657), ([(2, 1)], 2147483648, 2147483648), ([(9, 1)], 2147483653, 2147483653), ([(0, 1)], 2147483656, 2147483656)] := q_go_ok 200 _ (by decide +kernel)
set_option maxRecDepth 100000 in
theorem q_gw5baabababb : q_wo [([(5, 1)], 2147483653, 4294967295), ([(4, 1)], 2147483648, 2147483663), ([(3, 1)], 2147483648, 2147483657), ([(2, 1)], 2147483648, 2147483648), ([(9, 1)], 2147483653, 2147483653), ([(0, 1)], 2147483656, 2147483656)] := q_go_ok 200 _ (by decide +kernel)
set_option maxRecDepth 100000 in
theorem q_gw5baabbbababb : q_wo [([(7, 1)], 2147484648, 4294967295), ([(6, 1)], 2147483648, 2147484647), ([(5, 1)], 2147483649, 2147483652), ([(3, 1)], 2147483658, 4294967295), ([(2, 1)], 2147483648, 2147483648), ([(9, 1)], 2147483653, 2147483653), ([(0, 1)], 2147483656, 2147483656)] := q_go_ok 200 _ (by decide +kernel)
set_option maxRecDepth 100000 in
theorem q_gw5babbabababb : q_wo [([(7, 1)], 2147484648, 4294967295), ([(6, 1)], 2147483648, 2147484647), ([(5, 1)], 2147483649, 2147483652), ([(2, 1)], 2147483650, 2147483650), ([(9, 1)], 2147483653, 2147483653), ([(0, 1)], 2147483656, 2147483656)] := q_go_ok 200 _ (by decide +kernel)
set_option maxRecDepth 100000 in
theorem q_gw5baaabb : q_wo [([(5, 1)], 2147483653, 4294967295), ([(3, 1)], 0, 2147483647), ([(2, 1)], 2147483648, 2147483648), ([(9, 1)], 2147483653, 2147483653), ([(0, 1)], 2147483656, 2147483656)] := q_go_ok 200 _ (by decide +kernel)
set_option maxRecDepth 100000 in
theorem q_gw5babbbabaa : q_wo [([(6, 1)], 0, 2147483647), ([(5, 1)], 2147483649, 2147483652), ([(2, 1)], 2147483651, 2147483651), ([(9, 1)], 2147483653, 2147483653), ([(0, 1)], 2147483656, 2147483656)] := q_go_ok 200 _ (by decide +kernel)
set_option maxRecDepth 100000 in
theorem q_gw5babaa : q_wo [([(5, 1)], 0, 2147483648), ([(2, 1)], 2147483649, 2147483649), ([(9, 1)], 2147483653, 2147483653), ([(0, 1)], 2147483656, 2147483656)] := q_go_ok 200 _ (by decide +kernel)
set_option maxRecDepth 100000 in
theorem q_gw9a : q_wo [([(2, 1)], 0, 2147483647), ([(9, 1)], 2147483657, 2147483657), ([(0, 1)], 2147483656, 2147483656)] := q_go_ok 200 _ (by decide +kernel)
set_option maxRecDepth 100000 in
theorem q_gw2 : q_wo [([(9, 1)], 2147483650, 2147483650), ([(0, 1)], 2147483656, 2147483656)] := q_go_ok 200 _ (by decide +kernel)
set_option maxRecDepth 100000 in
theorem q_gw8baaa : q_wo [([(3, 1)], 0, 2147483647), ([(2, 1)], 2147483648, 2147483648), ([(9, 1)], 2147483656, 2147483656), ([(0, 1)], 2147483656, 2147483656)] := q_go_ok 200 _ (by decide +kernel)
end
section
set_option maxRecDepth 100000 in
theorem q_gw5baabababababbab : q_wo [([(7, 1)], 2147482649, 4294967295), ([(6, 1)], 2147483648, 2147484647), ([(4, 1)], 2147483663, 2147483663), ([(5, 1)], 2147483650, 2147483650), ([(3, 1)], 2147483648, 2147483657), ([(2, 1)], 2147483648, 2147483648), ([(9, 1)], 2147483653, 2147483653), ([(0, 1)], 2147483656, 2147483656)] := q_go_ok 200 _ (by decide +kernel)
set_option maxRecDepth 100000 in
theorem q_gw5baabaabababaa : q_wo [([(5, 1)], 2147483649, 2147483649), ([(7, 1)], 2147482649, 2147484647), ([(6, 1)], 2147483648, 2147484647), ([(4, 1)], 0, 2147483647), ([(3, 1)], 2147483648, 2147483657), ([(2, 1)], 2147483648, 2147483648), ([(9, 1)], 2147483653, 2147483653), ([(0, 1)], 2147483656, 2147483656)] := q_go_ok 200 _ (by decide +kernel)
set_option maxRecDepth 100000 in
theorem q_gw8baababababbbbbbbba : q_wo [([(5, 1)], 2147483657, 2147483657), ([(4, 1)], 2147483648, 2147483663), ([(3, 1)], 2147483648, 2147483657), ([(2, 1)], 2147483648, 2147483648), ([(9, 1)], 2147483656, 2147483656), ([(0, 1)], 2147483656, 2147483656)] := q_go_ok 200 _ (by decide +kernel)
set_option maxRecDepth 100000 in
theorem q_gw5baaabababaa : q_wo [([(5, 1)], 2147483649, 2147483649), ([(7, 1)], 2147482649, 2147484647), ([(6, 1)], 2147483648, 2147484647), ([(3, 1)], 0, 2147483647), ([(2, 1)], 2147483648, 2147483648), ([(9, 1)], 2147483653, 2147483653), ([(0, 1)], 2147483656, 2147483656)] := q_go_ok 200 _ (by decide +kernel)
set_option maxRecDepth 100000 in
theorem q_gw5babbbabababaa : q_wo [([(5, 1)], 2147483649, 2147483649), ([(7, 1)], 2147482649, 2147484647), ([(6, 1)], 2147483648, 2147484647), ([(2, 1)], 2147483651, 2147483651), ([(9, 1)], 2147483653, 2147483653), ([(0, 1)], 2147483656, 2147483656)] := q_go_ok 200 _ (by decide +kernel)
set_option maxRecDepth 100000 in
theorem q_gw5bbbababaa : q_wo [([(5, 1)], 2147483649, 2147483649), ([(7, 1)], 2147482649, 2147484647), ([(6, 1)], 2147483648, 2147484647), ([(2, 1)], 2147483654, 4294967295), ([(9, 1)], 2147483653, 2147483653), ([(0, 1)], 2147483656, 2147483656)] := q_go_ok 200 _ (by decide +kernel)
set_option maxRecDepth 100000 in
theorem q_gw7baababababbbbbbbbba : q_wo [([(5, 1)], 2147483658, 2147483658), ([(4, 1)], 2147483648, 2147483663), ([(3, 1)], 2147483648, 2147483657), ([(2, 1)], 2147483648, 2147483648), ([(9, 1)], 2147483655, 2147483655), ([(0, 1)], 2147483656, 2147483656)] := q_go_ok 200 _ (by decide +kernel)
set_option maxRecDepth 100000 in
theorem q_gw9baa : q_wo [([(2, 1)], 2147483648, 2147483648), ([(9, 1)], 2147483657, 2147483657), ([(0, 1)], 2147483656, 2147483656)] := q_go_ok 200 _ (by decide +kernel)
set_option maxRecDepth 100000 in
theorem q_gw5baababababbbabaa : q_wo [([(7, 1)], 0, 2147482648), ([(6, 1)], 2147483648, 2147484647), ([(4, 1)], 2147483648, 2147483660), ([(5, 1)], 2147483652, 2147483652), ([(3, 1)], 2147483648, 2147483657), ([(2, 1)], 2147483648, 2147483648), ([(9, 1)], 2147483653, 2147483653), ([(0, 1)], 2147483656, 2147483656)] := q_go_ok 200 _ (by decide +kernel)
set_option maxRecDepth 100000 in
theorem q_gw5baabababababbb : q_wo [([(6, 1)], 2147484648, 4294967295), ([(4, 1)], 2147483663, 2147483663), ([(5, 1)], 2147483650, 2147483650), ([(3, 1)], 2147483648, 2147483657), ([(2, 1)], 2147483648, 2147483648), ([(9, 1)], 2147483653, 2147483653), ([(0, 1)], 2147483656, 2147483656)] := q_go_ok 200 _ (by decide +kernel)
set_option maxRecDepth 100000 in
theorem q_gw5baabaababaa : q_wo [([(7, 1)], 0, 2147482648), ([(6, 1)], 2147483648, 2147484647), ([(5, 1)], 2147483649, 2147483652), ([(4, 1)], 0, 2147483647), ([(3, 1)], 2147483648, 2147483657), ([(2, 1)], 2147483648, 2147483648), ([(9, 1)], 2147483653, 2147483653), ([(0, 1)], 2147483656, 2147483656)] := q_go_ok 200 _ (by decide +kernel)
set_option maxRecDepth 100000 in
theorem q_gw5baaababaa : q_wo [([(7, 1)], 0, 2147482648), ([(6, 1)], 2147483648, 2147484647), ([(5, 1)], 2147483649, 2147483652), ([(3, 1)], 0, 2147483647), ([(2, 1)], 2147483648, 2147483648), ([(9, 1)], 2147483653, 2147483653), ([(0, 1)], 2147483656, 2147483656)] := q_go_ok 200 _ (by decide +kernel)
set_option maxRecDepth 100000 in
theorem q_gw5babababaa : q_wo [([(7, 1)], 0, 2147482648), ([(6, 1)], 2147483648, 2147484647), ([(5, 1)], 2147483649, 2147483652), ([(2, 1)], 2147483649, 2147483649), ([(9, 1)], 2147483653, 2147483653), ([(0, 1)], 2147483656, 2147483656)] := q_go_ok 200 _ (by decide +kernel)
set_option maxRecDepth 100000 in
theorem q_gw5babbbbababb : q_wo [([(6, 1)], 2147484648, 4294967295), ([(5, 1)], 2147483649, 2147483652), ([(2, 1)], 2147483652, 2147483652), ([(9, 1)], 2147483653, 2147483653), ([(0, 1)], 2147483656, 2147483656)] := q_go_ok 200 _ (by decide +kernel)
set_option maxRecDepth 100000 in
theorem q_gw5babbabb : q_wo [([(5, 1)], 2147483653, 4294967295), ([(2, 1)], 2147483650, 2147483650), ([(9, 1)], 2147483653, 2147483653), ([(0, 1)], 2147483656, 2147483656)] := q_go_ok 200 _ (by decide +kernel)
set_option maxRecDepth 100000 in
theorem q_gw5bbbb : q_wo [([(5, 1)], 2147483653, 4294967295), ([(2, 1)], 2147483654, 4294967295), ([(9, 1)], 2147483653, 2147483653), ([(0, 1)], 2147483656, 2147483656)] := q_go_ok 200 _ (by decide +kernel)
set_option maxRecDepth 100000 in
theorem q_gw12 : q_wo [([(9, 1)], 2147483660, 2147483660), ([(0, 1)], 2147483656, 2147483656)] := q_go_ok 200 _ (by decide +kernel)
set_option maxRecDepth 100000 in
theorem q_gw16bab : q_wo [([(2, 1)], 2147483649, 2147483653), ([(9, 1)], 2147483664, 2147483664), ([(0, 1)], 2147483656, 2147483656)] := q_go_ok 200 _ (by decide +kernel)
set_option maxRecDepth 100000 in
theorem q_gw7baabb : q_wo [([(3, 1)], 2147483658, 4294967295), ([(2, 1)], 2147483648, 2147483648), ([(9, 1)], 2147483655, 2147483655), ([(0, 1)], 2147483656, 2147483656)] := q_go_ok 200 _ (by decide +kernel)
set_option maxRecDepth 100000 in
theorem q_gw16bb : q_wo [([(2, 1)], 2147483654, 4294967295), ([(9, 1)], 2147483664, 2147483664), ([(0, 1)], 2147483656, 2147483656)] := q_go_ok 200 _ (by decide +kernel)
end
section
set_option maxRecDepth 100000 in
theorem q_gw5baababababbabbab : q_wo [([(7, 1)], 2147482649, 4294967295), ([(6, 1)], 2147483648, 2147484647), ([(4, 1)], 2147483662, 2147483663), ([(5, 1)], 2147483651, 2147483651), ([(3, 1)], 2147483648, 2147483657), ([(2, 1)], 2147483648, 2147483648), ([(9, 1)], 2147483653, 2147483653), ([(0, 1)], 2147483656, 2147483656)] := q_go_ok 200 _ (by decide +kernel)
set_option maxRecDepth 100000 in
theorem q_gw5baabaababababa : q_wo [([(5, 1)], 2147483650, 2147483650), ([(7, 1)], 2147482649, 2147484647), ([(6, 1)], 2147483648, 2147484647), ([(4, 1)], 0, 2147483647), ([(3, 1)], 2147483648, 2147483657), ([(2, 1)], 2147483648, 2147483648), ([(9, 1)], 2147483653, 2147483653), ([(0, 1)], 2147483656, 2147483656)] := q_go_ok 200 _ (by decide +kernel)
set_option maxRecDepth 100000 in
theorem q_gw8baababababbbbbbbbba : q_wo [([(5, 1)], 2147483658, 2147483658), ([(4, 1)], 2147483648, 2147483663), ([(3, 1)], 2147483648, 2147483657), ([(2, 1)], 2147483648, 2147483648), ([(9, 1)], 2147483656, 2147483656), ([(0, 1)], 2147483656, 2147483656)] := q_go_ok 200 _ (by decide +kernel)
set_option maxRecDepth 100000 in
theorem q_gw5baaababababa : q_wo [([(5, 1)], 2147483650, 2147483650), ([(7, 1)], 2147482649, 2147484647), ([(6, 1)], 2147483648, 2147484647), ([(3, 1)], 0, 2147483647), ([(2, 1)], 2147483648, 2147483648), ([(9, 1)], 2147483653, 2147483653), ([(0, 1)], 2147483656, 2147483656)] := q_go_ok 200 _ (by decide +kernel)
set_option maxRecDepth 100000 in
theorem q_gw5babbbababababa : q_wo [([(5, 1)], 2147483650, 2147483650), ([(7, 1)], 2147482649, 2147484647), ([(6, 1)], 2147483648, 2147484647), ([(2, 1)], 2147483651, 2147483651), ([(9, 1)], 2147483653, 2147483653), ([(0, 1)], 2147483656, 2147483656)] := q_go_ok 200 _ (by decide +kernel)
set_option maxRecDepth 100000 in
theorem q_gw5bbbabababa : q_wo [([(5, 1)], 2147483650, 2147483650), ([(7, 1)], 2147482649, 2147484647), ([(6, 1)], 2147483648, 2147484647), ([(2, 1)], 2147483654, 4294967295), ([(9, 1)], 2147483653, 2147483653), ([(0, 1)], 2147483656, 2147483656)] := q_go_ok 200 _ (by decide +kernel)
set_option maxRecDepth 100000 in
theorem q_gw7baababababbbbbbbbbba : q_wo [([(5, 1)], 2147483659, 2147483659), ([(4, 1)], 2147483648, 2147483663), ([(3, 1)], 2147483648, 2147483657), ([(2, 1)], 2147483648, 2147483648), ([(9, 1)], 2147483655, 2147483655), ([(0, 1)], 2147483656, 2147483656)] := q_go_ok 200 _ (by decide +kernel)
set_option maxRecDepth 100000 in
theorem q_gw18 : q_wo [([(9, 1)], 2147483666, 2147483666), ([(0, 1)], 2147483656, 2147483656)] := q_go_ok 200 _ (by decide +kernel)
set_option maxRecDepth 100000 in
theorem q_gw5baababababbaabaa : q_wo [([(7, 1)], 0, 2147482648), ([(6, 1)], 2147483648, 2147484647), ([(4, 1)], 2147483648, 2147483661), ([(5, 1)], 2147483651, 2147483651), ([(3, 1)], 2147483648, 2147483657), ([(2, 1)], 2147483648, 2147483648), ([(9, 1)], 2147483653, 2147483653), ([(0, 1)], 2147483656, 2147483656)] := q_go_ok 200 _ (by decide +kernel)
set_option maxRecDepth 100000 in
theorem q_gw5baababababbbbbaa : q_wo [([(7, 1)], 0, 2147482648), ([(6, 1)], 2147483648, 2147484647), ([(4, 1)], 2147483661, 2147483663), ([(5, 1)], 2147483652, 2147483652), ([(3, 1)], 2147483648, 2147483657), ([(2, 1)], 2147483648, 2147483648), ([(9, 1)], 2147483653, 2147483653), ([(0, 1)], 2147483656, 2147483656)] := q_go_ok 200 _ (by decide +kernel)
set_option maxRecDepth 100000 in
theorem q_gw25 : q_wo [([(9, 1)], 2147483673, 2147483673), ([(0, 1)], 2147483656, 2147483656)] := q_go_ok 200 _ (by decide +kernel)
set_option maxRecDepth 100000 in
theorem q_gw5baabaaa : q_wo [([(5, 1)], 0, 2147483648), ([(4, 1)], 0, 2147483647), ([(3, 1)], 2147483648, 2147483657), ([(2, 1)], 2147483648, 2147483648), ([(9, 1)], 2147483653, 2147483653), ([(0, 1)], 2147483656, 2147483656)] := q_go_ok 200 _ (by decide +kernel)
set_option maxRecDepth 100000 in
theorem q_gw5baabbbb : q_wo [([(5, 1)], 2147483653, 4294967295), ([(3, 1)], 2147483658, 4294967295), ([(2, 1)], 2147483648, 2147483648), ([(9, 1)], 2147483653, 2147483653), ([(0, 1)], 2147483656, 2147483656)] := q_go_ok 200 _ (by decide +kernel)
set_option maxRecDepth 100000 in
theorem q_gw5babbbababb : q_wo [([(6, 1)], 2147484648, 4294967295), ([(5, 1)], 2147483649, 2147483652), ([(2, 1)], 2147483651, 2147483651), ([(9, 1)], 2147483653, 2147483653), ([(0, 1)], 2147483656, 2147483656)] := q_go_ok 200 _ (by decide +kernel)
set_option maxRecDepth 100000 in
theorem q_gw5bababb : q_wo [([(5, 1)], 2147483653, 4294967295), ([(2, 1)], 2147483649, 2147483649), ([(9, 1)], 2147483653, 2147483653), ([(0, 1)], 2147483656, 2147483656)] := q_go_ok 200 _ (by decide +kernel)
set_option maxRecDepth 100000 in
theorem q_gw5abaa : q_wo [([(6, 1)], 0, 2147483647), ([(5, 1)], 2147483649, 2147483652), ([(2, 1)], 0, 2147483647), ([(9, 1)], 2147483653, 2147483653), ([(0, 1)], 2147483656, 2147483656)] := q_go_ok 200 _ (by decide +kernel)
set_option maxRecDepth 100000 in
theorem q_gw10 : q_wo [([(9, 1)], 2147483658, 2147483658), ([(0, 1)], 2147483656, 2147483656)] := q_go_ok 200 _ (by decide +kernel)
set_option maxRecDepth 100000 in
theorem q_gw14 : q_wo [([(9, 1)], 2147483662, 2147483662), ([(0, 1)], 2147483656, 2147483656)] := q_go_ok 200 _ (by decide +kernel)
set_option maxRecDepth 100000 in
theorem q_gw0baabb : q_wo [([(3, 1)], 2147483658, 4294967295), ([(2, 1)], 2147483648, 2147483648), ([(9, 1)], 2147483648, 2147483648), ([(0, 1)], 2147483656, 2147483656)] := q_go_ok 200 _ (by decide +kernel)
end
section
set_option maxRecDepth 100000 in
theorem q_gw5baababababbbbbab : q_wo [([(7, 1)], 2147482649, 4294967295), ([(6, 1)], 2147483648, 2147484647), ([(4, 1)], 2147483661, 2147483663), ([(5, 1)], 2147483652, 2147483652), ([(3, 1)], 2147483648, 2147483657), ([(2, 1)], 2147483648, 2147483648), ([(9, 1)], 2147483653, 2147483653), ([(0, 1)], 2147483656, 2147483656)] := q_go_ok 200 _ (by decide +kernel)
set_option maxRecDepth 100000 in
theorem q_gw5baabaababababba : q_wo [([(5, 1)], 2147483651, 2147483651), ([(7, 1)], 2147482649, 2147484647), ([(6, 1)], 2147483648, 2147484647), ([(4, 1)], 0, 2147483647), ([(3, 1)], 2147483648, 2147483657), ([(2, 1)], 2147483648, 2147483648), ([(9, 1)], 2147483653, 2147483653), ([(0, 1)], 2147483656, 2147483656)] := q_go_ok 200 _ (by decide +kernel)
set_option maxRecDepth 100000 in
theorem q_gw8baababababbbbbbbbbba : q_wo [([(5, 1)], 2147483659, 2147483659), ([(4, 1)], 2147483648, 2147483663), ([(3, 1)], 2147483648, 2147483657), ([(2, 1)], 2147483648, 2147483648), ([(9, 1)], 2147483656, 2147483656), ([(0, 1)], 2147483656, 2147483656)] := q_go_ok 200 _ (by decide +kernel)
set_option maxRecDepth 100000 in
theorem q_gw5baaababababba : q_wo [([(5, 1)], 2147483651, 2147483651), ([(7, 1)], 2147482649, 2147484647), ([(6, 1)], 2147483648, 2147484647), ([(3, 1)], 0, 2147483647), ([(2, 1)], 2147483648, 2147483648), ([(9, 1)], 2147483653, 2147483653), ([(0, 1)], 2147483656, 2147483656)] := q_go_ok 200 _ (by decide +kernel)
set_option maxRecDepth 100000 in
theorem q_gw5babbbababababba : q_wo [([(5, 1)], 2147483651, 2147483651), ([(7, 1)], 2147482649, 2147484647), ([(6, 1)], 2147483648, 2147484647), ([(2, 1)], 2147483651, 2147483651), ([(9, 1)], 2147483653, 2147483653), ([(0, 1)], 2147483656, 2147483656)] := q_go_ok 200 _ (by decide +kernel)
set_option maxRecDepth 100000 in
theorem q_gw5bbbabababba : q_wo [([(5, 1)], 2147483651, 2147483651), ([(7, 1)], 2147482649, 2147484647), ([(6, 1)], 2147483648, 2147484647), ([(2, 1)], 2147483654, 4294967295), ([(9, 1)], 2147483653, 2147483653), ([(0, 1)], 2147483656, 2147483656)] := q_go_ok 200 _ (by decide +kernel)
set_option maxRecDepth 100000 in
theorem q_gw7baababababbbbbbbbbbba : q_wo [([(5, 1)], 2147483660, 2147483660), ([(4, 1)], 2147483648, 2147483663), ([(3, 1)], 2147483648, 2147483657), ([(2, 1)], 2147483648, 2147483648), ([(9, 1)], 2147483655, 2147483655), ([(0, 1)], 2147483656, 2147483656)] := q_go_ok 200 _ (by decide +kernel)
set_option maxRecDepth 100000 in
theorem q_gw3 : q_wo [([(9, 1)], 2147483651, 2147483651), ([(0, 1)], 2147483656, 2147483656)] := q_go_ok 200 _ (by decide +kernel)
set_option maxRecDepth 100000 in
theorem q_gw5baabababaabaa : q_wo [([(7, 1)], 0, 2147482648), ([(6, 1)], 2147483648, 2147484647), ([(5, 1)], 2147483649, 2147483649), ([(4, 1)], 2147483648, 2147483663), ([(3, 1)], 2147483648, 2147483657), ([(2, 1)], 2147483648, 2147483648), ([(9, 1)], 2147483653, 2147483653), ([(0, 1)], 2147483656, 2147483656)] := q_go_ok 200 _ (by decide +kernel)
set_option maxRecDepth 100000 in
theorem q_gw5baababababbaaa : q_wo [([(6, 1)], 0, 2147483647), ([(4, 1)], 2147483648, 2147483661), ([(5, 1)], 2147483651, 2147483651), ([(3, 1)], 2147483648, 2147483657), ([(2, 1)], 2147483648, 2147483648), ([(9, 1)], 2147483653, 2147483653), ([(0, 1)], 2147483656, 2147483656)] := q_go_ok 200 _ (by decide +kernel)
set_option maxRecDepth 100000 in
theorem q_gw5baababbbababb : q_wo [([(7, 1)], 2147484648, 4294967295), ([(6, 1)], 2147483648, 2147484647), ([(5, 1)], 2147483649, 2147483652), ([(4, 1)], 2147483664, 4294967295), ([(3, 1)], 2147483648, 2147483657), ([(2, 1)], 2147483648, 2147483648), ([(9, 1)], 2147483653, 2147483653), ([(0, 1)], 2147483656, 2147483656)] := q_go_ok 200 _ (by decide +kernel)
set_option maxRecDepth 100000 in
theorem q_gw5baababba : q_wo [([(5, 1)], 0, 2147483648), ([(4, 1)], 2147483664, 4294967295), ([(3, 1)], 2147483648, 2147483657), ([(2, 1)], 2147483648, 2147483648), ([(9, 1)], 2147483653, 2147483653), ([(0, 1)], 2147483656, 2147483656)] := q_go_ok 200 _ (by decide +kernel)
set_option maxRecDepth 100000 in
theorem q_gw5babbbabababb : q_wo [([(7, 1)], 2147484648, 4294967295), ([(6, 1)], 2147483648, 2147484647), ([(5, 1)], 2147483649, 2147483652), ([(2, 1)], 2147483651, 2147483651), ([(9, 1)], 2147483653, 2147483653), ([(0, 1)], 2147483656, 2147483656)] := q_go_ok 200 _ (by decide +kernel)
set_option maxRecDepth 100000 in
theorem q_gw5baaaa : q_wo [([(5, 1)], 0, 2147483648), ([(3, 1)], 0, 2147483647), ([(2, 1)], 2147483648, 2147483648), ([(9, 1)], 2147483653, 2147483653), ([(0, 1)], 2147483656, 2147483656)] := q_go_ok 200 _ (by decide +kernel)
set_option maxRecDepth 100000 in
theorem q_gw5babbbbabaa : q_wo [([(6, 1)], 0, 2147483647), ([(5, 1)], 2147483649, 2147483652), ([(2, 1)], 2147483652, 2147483652), ([(9, 1)], 2147483653, 2147483653), ([(0, 1)], 2147483656, 2147483656)] := q_go_ok 200 _ (by decide +kernel)
set_option maxRecDepth 100000 in
theorem q_gw5babbaa : q_wo [([(5, 1)], 0, 2147483648), ([(2, 1)], 2147483650, 2147483650), ([(9, 1)], 2147483653, 2147483653), ([(0, 1)], 2147483656, 2147483656)] := q_go_ok 200 _ (by decide +kernel)
set_option maxRecDepth 100000 in
theorem q_gw22bb : q_wo [([(2, 1)], 2147483654, 4294967295), ([(9, 1)], 2147483670, 2147483670), ([(0, 1)], 2147483656, 2147483656)] := q_go_ok 200 _ (by decide +kernel)
set_option maxRecDepth 100000 in
theorem q_gw19 : q_wo [([(9, 1)], 2147483667, 2147483667), ([(0, 1)], 2147483656, 2147483656)] := q_go_ok 200 _ (by decide +kernel)
set_option maxRecDepth 100000 in
theorem q_gw23 : q_wo [([(9, 1)], 2147483671, 2147483671), ([(0, 1)], 2147483656, 2147483656)] := q_go_ok 200 _ (by decide +kernel)
set_option maxRecDepth 100000 in
theorem q_gw31 : q_wo [([(9, 1)], 2147483679, 2147483679), ([(0, 1)], 2147483656, 2147483656)] := q_go_ok 200 _ (by decide +kernel)
end
section
set_option maxRecDepth 100000 in
theorem q_gw5baabababaabab : q_wo [([(7, 1)], 2147482649, 4294967295), ([(6, 1)], 2147483648, 2147484647), ([(5, 1)], 2147483649, 2147483649), ([(4, 1)], 2147483648, 2147483663), ([(3, 1)], 2147483648, 2147483657), ([(2, 1)], 2147483648, 2147483648), ([(9, 1)], 2147483653, 2147483653), ([(0, 1)], 2147483656, 2147483656)] := q_go_ok 200 _ (by decide +kernel)
set_option maxRecDepth 100000 in
theorem q_gw5baababbbababaa : q_wo [([(5, 1)], 2147483649, 2147483649), ([(7, 1)], 2147482649, 2147484647), ([(6, 1)], 2147483648, 2147484647), ([(4, 1)], 2147483664, 4294967295), ([(3, 1)], 2147483648, 2147483657), ([(2, 1)], 2147483648, 2147483648), ([(9, 1)], 2147483653, 2147483653), ([(0, 1)], 2147483656, 2147483656)] := q_go_ok 200 _ (by decide +kernel)
set_option maxRecDepth 100000 in
theorem q_gw8baababababbbba : q_wo [([(5, 1)], 2147483653, 2147483653), ([(4, 1)], 2147483648, 2147483663), ([(3, 1)], 2147483648, 2147483657), ([(2, 1)], 2147483648, 2147483648), ([(9, 1)], 2147483656, 2147483656), ([(0, 1)], 2147483656, 2147483656)] := q_go_ok 200 _ (by decide +kernel)
set_option maxRecDepth 100000 in
theorem q_gw5baabbbababaa : q_wo [([(5, 1)], 2147483649, 2147483649), ([(7, 1)], 2147482649, 2147484647), ([(6, 1)], 2147483648, 2147484647), ([(3, 1)], 2147483658, 4294967295), ([(2, 1)], 2147483648, 2147483648), ([(9, 1)], 2147483653, 2147483653), ([(0, 1)], 2147483656, 2147483656)] := q_go_ok 200 _ (by decide +kernel)
set_option maxRecDepth 100000 in
theorem q_gw5babbabababaa : q_wo [([(5, 1)], 2147483649, 2147483649), ([(7, 1)], 2147482649, 2147484647), ([(6, 1)], 2147483648, 2147484647), ([(2, 1)], 2147483650, 2147483650), ([(9, 1)], 2147483653, 2147483653), ([(0, 1)], 2147483656, 2147483656)] := q_go_ok 200 _ (by decide +kernel)
set_option maxRecDepth 100000 in
theorem q_gw5babbbbbbababaa : q_wo [([(5, 1)], 2147483649, 2147483649), ([(7, 1)], 2147482649, 2147484647), ([(6, 1)], 2147483648, 2147484647), ([(2, 1)], 2147483653, 2147483653), ([(9, 1)], 2147483653, 2147483653), ([(0, 1)], 2147483656, 2147483656)] := q_go_ok 200 _ (by decide +kernel)
set_option maxRecDepth 100000 in
theorem q_gw7baababababbbbba : q_wo [([(5, 1)], 2147483654, 2147483654), ([(4, 1)], 2147483648, 2147483663), ([(3, 1)], 2147483648, 2147483657), ([(2, 1)], 2147483648, 2147483648), ([(9, 1)], 2147483655, 2147483655), ([(0, 1)], 2147483656, 2147483656)] := q_go_ok 200 _ (by decide +kernel)
set_option maxRecDepth 100000 in
theorem q_gw5ababababa : q_wo [([(5, 1)], 2147483650, 2147483650), ([(7, 1)], 2147482649, 2147484647), ([(6, 1)], 2147483648, 2147484647), ([(2, 1)], 0, 2147483647), ([(9, 1)], 2147483653, 2147483653), ([(0, 1)], 2147483656, 2147483656)] := q_go_ok 200 _ (by decide +kernel)
set_option maxRecDepth 100000 in
theorem q_gw5baababababaabb : q_wo [([(6, 1)], 2147484648, 4294967295), ([(4, 1)], 2147483648, 2147483662), ([(5, 1)], 2147483650, 2147483650), ([(3, 1)], 2147483648, 2147483657), ([(2, 1)], 2147483648, 2147483648), ([(9, 1)], 2147483653, 2147483653), ([(0, 1)], 2147483656, 2147483656)] := q_go_ok 200 _ (by decide +kernel)
set_option maxRecDepth 100000 in
theorem q_gw5baababababbbbbb : q_wo [([(6, 1)], 2147484648, 4294967295), ([(4, 1)], 2147483661, 2147483663), ([(5, 1)], 2147483652, 2147483652), ([(3, 1)], 2147483648, 2147483657), ([(2, 1)], 2147483648, 2147483648), ([(9, 1)], 2147483653, 2147483653), ([(0, 1)], 2147483656, 2147483656)] := q_go_ok 200 _ (by decide +kernel)
set_option maxRecDepth 100000 in
theorem q_gw5baabaabaa : q_wo [([(6, 1)], 0, 2147483647), ([(5, 1)], 2147483649, 2147483652), ([(4, 1)], 0, 2147483647), ([(3, 1)], 2147483648, 2147483657), ([(2, 1)], 2147483648, 2147483648), ([(9, 1)], 2147483653, 2147483653), ([(0, 1)], 2147483656, 2147483656)] := q_go_ok 200 _ (by decide +kernel)
set_option maxRecDepth 100000 in
theorem q_gw5baabbbaa : q_wo [([(6, 1)], 0, 2147483647), ([(5, 1)], 2147483649, 2147483652), ([(3, 1)], 2147483658, 4294967295), ([(2, 1)], 2147483648, 2147483648), ([(9, 1)], 2147483653, 2147483653), ([(0, 1)], 2147483656, 2147483656)] := q_go_ok 200 _ (by decide +kernel)
set_option maxRecDepth 100000 in
theorem q_gw5babbbbbbabaa : q_wo [([(7, 1)], 0, 2147482648), ([(6, 1)], 2147483648, 2147484647), ([(5, 1)], 2147483649, 2147483652), ([(2, 1)], 2147483653, 2147483653), ([(9, 1)], 2147483653, 2147483653), ([(0, 1)], 2147483656, 2147483656)] := q_go_ok 200 _ (by decide +kernel)
set_option maxRecDepth 100000 in
theorem q_gw5bababaa : q_wo [([(6, 1)], 0, 2147483647), ([(5, 1)], 2147483649, 2147483652), ([(2, 1)], 2147483649, 2147483649), ([(9, 1)], 2147483653, 2147483653), ([(0, 1)], 2147483656, 2147483656)] := q_go_ok 200 _ (by decide +kernel)
set_option maxRecDepth 100000 in
theorem q_gw5babbbbbbb : q_wo [([(5, 1)], 2147483653, 4294967295), ([(2, 1)], 2147483653, 2147483653), ([(9, 1)], 2147483653, 2147483653), ([(0, 1)], 2147483656, 2147483656)] := q_go_ok 200 _ (by decide +kernel)
set_option maxRecDepth 100000 in
theorem q_gw5aa : q_wo [([(5, 1)], 0, 2147483648), ([(2, 1)], 0, 2147483647), ([(9, 1)], 2147483653, 2147483653), ([(0, 1)], 2147483656, 2147483656)] := q_go_ok 200 _ (by decide +kernel)
set_option maxRecDepth 100000 in
theorem q_gw15 : q_wo [([(9, 1)], 2147483663, 2147483663), ([(0, 1)], 2147483656, 2147483656)] := q_go_ok 200 _ (by decide +kernel)
set_option maxRecDepth 100000 in
theorem q_gw0bab : q_wo [([(2, 1)], 2147483649, 2147483653), ([(9, 1)], 2147483648, 2147483648), ([(0, 1)], 2147483656, 2147483656)] := q_go_ok 200 _ (by decide +kernel)
set_option maxRecDepth 100000 in
theorem q_gw7baabaa : q_wo [([(4, 1)], 0, 2147483647), ([(3, 1)], 2147483648, 2147483657), ([(2, 1)], 2147483648, 2147483648), ([(9, 1)], 2147483655, 2147483655), ([(0, 1)], 2147483656, 2147483656)] := q_go_ok 200 _ (by decide +kernel)
set_option maxRecDepth 100000 in
theorem q_gw16a : q_wo [([(2, 1)], 0, 2147483647), ([(9, 1)], 2147483664, 2147483664), ([(0, 1)], 2147483656, 2147483656)] := q_go_ok 200 _ (by decide +kernel)
end
section
set_option maxRecDepth 100000 in
theorem q_gw5baababababaabab : q_wo [([(7, 1)], 2147482649, 4294967295), ([(6, 1)], 2147483648, 2147484647), ([(4, 1)], 2147483648, 2147483662), ([(5, 1)], 2147483650, 2147483650), ([(3, 1)], 2147483648, 2147483657), ([(2, 1)], 2147483648, 2147483648), ([(9, 1)], 2147483653, 2147483653), ([(0, 1)], 2147483656, 2147483656)] := q_go_ok 200 _ (by decide +kernel)
set_option maxRecDepth 100000 in
theorem q_gw5baababbbabababa : q_wo [([(5, 1)], 2147483650, 2147483650), ([(7, 1)], 2147482649, 2147484647), ([(6, 1)], 2147483648, 2147484647), ([(4, 1)], 2147483664, 4294967295), ([(3, 1)], 2147483648, 2147483657), ([(2, 1)], 2147483648, 2147483648), ([(9, 1)], 2147483653, 2147483653), ([(0, 1)], 2147483656, 2147483656)] := q_go_ok 200 _ (by decide +kernel)
set_option maxRecDepth 100000 in
theorem q_gw8baababababbbbba : q_wo [([(5, 1)], 2147483654, 2147483654), ([(4, 1)], 2147483648, 2147483663), ([(3, 1)], 2147483648, 2147483657), ([(2, 1)], 2147483648, 2147483648), ([(9, 1)], 2147483656, 2147483656), ([(0, 1)], 2147483656, 2147483656)] := q_go_ok 200 _ (by decide +kernel)
set_option maxRecDepth 100000 in
theorem q_gw5baabbbabababa : q_wo [([(5, 1)], 2147483650, 2147483650), ([(7, 1)], 2147482649, 2147484647), ([(6, 1)], 2147483648, 2147484647), ([(3, 1)], 2147483658, 4294967295), ([(2, 1)], 2147483648, 2147483648), ([(9, 1)], 2147483653, 2147483653), ([(0, 1)], 2147483656, 2147483656)] := q_go_ok 200 _ (by decide +kernel)
set_option maxRecDepth 100000 in
theorem q_gw5babbababababa : q_wo [([(5, 1)], 2147483650, 2147483650), ([(7, 1)], 2147482649, 2147484647), ([(6, 1)], 2147483648, 2147484647), ([(2, 1)], 2147483650, 2147483650), ([(9, 1)], 2147483653, 2147483653), ([(0, 1)], 2147483656, 2147483656)] := q_go_ok 200 _ (by decide +kernel)
set_option maxRecDepth 100000 in
theorem q_gw5babbbbbbabababa : q_wo [([(5, 1)], 2147483650, 2147483650), ([(7, 1)], 2147482649, 2147484647), ([(6, 1)], 2147483648, 2147484647), ([(2, 1)], 2147483653, 2147483653), ([(9, 1)], 2147483653, 2147483653), ([(0, 1)], 2147483656, 2147483656)] := q_go_ok 200 _ (by decide +kernel)
set_option maxRecDepth 100000 in
theorem q_gw7baababababbbbbba : q_wo [([(5, 1)], 2147483655, 2147483655), ([(4, 1)], 2147483648, 2147483663), ([(3, 1)], 2147483648, 2147483657), ([(2, 1)], 2147483648, 2147483648), ([(9, 1)], 2147483655, 2147483655), ([(0, 1)], 2147483656, 2147483656)] := q_go_ok 200 _ (by decide +kernel)
set_option maxRecDepth 100000 in
theorem q_gw5ababababba : q_wo [([(5, 1)], 2147483651, 2147483651), ([(7, 1)], 2147482649, 2147484647), ([(6, 1)], 2147483648, 2147484647), ([(2, 1)], 0, 2147483647), ([(9, 1)], 2147483653, 2147483653), ([(0, 1)], 2147483656, 2147483656)] := q_go_ok 200 _ (by decide +kernel)
set_option maxRecDepth 100000 in
theorem q_gw5baababababbaabb : q_wo [([(6, 1)], 2147484648, 4294967295), ([(4, 1)], 2147483648, 2147483661), ([(5, 1)], 2147483651, 2147483651), ([(3, 1)], 2147483648, 2147483657), ([(2, 1)], 2147483648, 2147483648), ([(9, 1)], 2147483653, 2147483653), ([(0, 1)], 2147483656, 2147483656)] := q_go_ok 200 _ (by decide +kernel)
set_option maxRecDepth 100000 in
theorem q_gw5baabababababa : q_wo [([(6, 1)], 0, 2147483647), ([(4, 1)], 2147483663, 2147483663), ([(5, 1)], 2147483650, 2147483650), ([(3, 1)], 2147483648, 2147483657), ([(2, 1)], 2147483648, 2147483648), ([(9, 1)], 2147483653, 2147483653), ([(0, 1)], 2147483656, 2147483656)] := q_go_ok 200 _ (by decide +kernel)
set_option maxRecDepth 100000 in
theorem q_gw5baababbbaa : q_wo [([(6, 1)], 0, 2147483647), ([(5, 1)], 2147483649, 2147483652), ([(4, 1)], 2147483664, 4294967295), ([(3, 1)], 2147483648, 2147483657), ([(2, 1)], 2147483648, 2147483648), ([(9, 1)], 2147483653, 2147483653), ([(0, 1)], 2147483656, 2147483656)] := q_go_ok 200 _ (by decide +kernel)
set_option maxRecDepth 100000 in
theorem q_gw5baaabaa : q_wo [([(6, 1)], 0, 2147483647), ([(5, 1)], 2147483649, 2147483652), ([(3, 1)], 0, 2147483647), ([(2, 1)], 2147483648, 2147483648), ([(9, 1)], 2147483653, 2147483653), ([(0, 1)], 2147483656, 2147483656)] := q_go_ok 200 _ (by decide +kernel)
set_option maxRecDepth 100000 in
theorem q_gw5babbbababaa : q_wo [([(7, 1)], 0, 2147482648), ([(6, 1)], 2147483648, 2147484647), ([(5, 1)], 2147483649, 2147483652), ([(2, 1)], 2147483651, 2147483651), ([(9, 1)], 2147483653, 2147483653), ([(0, 1)], 2147483656, 2147483656)] := q_go_ok 200 _ (by decide +kernel)
set_option maxRecDepth 100000 in
theorem q_gw5bbbabaa : q_wo [([(7, 1)], 0, 2147482648), ([(6, 1)], 2147483648, 2147484647), ([(5, 1)], 2147483649, 2147483652), ([(2, 1)], 2147483654, 4294967295), ([(9, 1)], 2147483653, 2147483653), ([(0, 1)], 2147483656, 2147483656)] := q_go_ok 200 _ (by decide +kernel)
set_option maxRecDepth 100000 in
theorem q_gw5bbbaa : q_wo [([(6, 1)], 0, 2147483647), ([(5, 1)], 2147483649, 2147483652), ([(2, 1)], 2147483654, 4294967295), ([(9, 1)], 2147483653, 2147483653), ([(0, 1)], 2147483656, 2147483656)] := q_go_ok 200 _ (by decide +kernel)
set_option maxRecDepth 100000 in
theorem q_gw22baa : q_wo [([(2, 1)], 2147483648, 2147483648), ([(9, 1)], 2147483670, 2147483670), ([(0, 1)], 2147483656, 2147483656)] := q_go_ok 200 _ (by decide +kernel)
set_option maxRecDepth 100000 in
theorem q_gw11 : q_wo [([(9, 1)], 2147483659, 2147483659), ([(0, 1)], 2147483656, 2147483656)] := q_go_ok 200 _ (by decide +kernel)
set_option maxRecDepth 100000 in
theorem q_gw8baabaa : q_wo [([(4, 1)], 0, 2147483647), ([(3, 1)], 2147483648, 2147483657), ([(2, 1)], 2147483648, 2147483648), ([(9, 1)], 2147483656, 2147483656), ([(0, 1)], 2147483656, 2147483656)] := q_go_ok 200 _ (by decide +kernel)
set_option maxRecDepth 100000 in
theorem q_gw7bb : q_wo [([(2, 1)], 2147483654, 4294967295), ([(9, 1)], 2147483655, 2147483655), ([(0, 1)], 2147483656, 2147483656)] := q_go_ok 200 _ (by decide +kernel)
end
section
set_option maxRecDepth 100000 in
theorem q_gw5baababababbaabab : q_wo [([(7, 1)], 2147482649, 4294967295), ([(6, 1)], 2147483648, 2147484647), ([(4, 1)], 2147483648, 2147483661), ([(5, 1)], 2147483651, 2147483651), ([(3, 1)], 2147483648, 2147483657), ([(2, 1)], 2147483648, 2147483648), ([(9, 1)], 2147483653, 2147483653), ([(0, 1)], 2147483656, 2147483656)] := q_go_ok 200 _ (by decide +kernel)
set_option maxRecDepth 100000 in
theorem q_gw5baababbbabababba : q_wo [([(5, 1)], 2147483651, 2147483651), ([(7, 1)], 2147482649, 2147484647), ([(6, 1)], 2147483648, 2147484647), ([(4, 1)], 2147483664, 4294967295), ([(3, 1)], 2147483648, 2147483657), ([(2, 1)], 2147483648, 2147483648), ([(9, 1)], 2147483653, 2147483653), ([(0, 1)], 2147483656, 2147483656)] := q_go_ok 200 _ (by decide +kernel)
set_option maxRecDepth 100000 in
theorem q_gw8baababababbbbbba : q_wo [([(5, 1)], 2147483655, 2147483655), ([(4, 1)], 2147483648, 2147483663), ([(3, 1)], 2147483648, 2147483657), ([(2, 1)], 2147483648, 2147483648), ([(9, 1)], 2147483656, 2147483656), ([(0, 1)], 2147483656, 2147483656)] := q_go_ok 200 _ (by decide +kernel)
set_option maxRecDepth 100000 in
theorem q_gw5baabbbabababba : q_wo [([(5, 1)], 2147483651, 2147483651), ([(7, 1)], 2147482649, 2147484647), ([(6, 1)], 2147483648, 2147484647), ([(3, 1)], 2147483658, 4294967295), ([(2, 1)], 2147483648, 2147483648), ([(9, 1)], 2147483653, 2147483653), ([(0, 1)], 2147483656, 2147483656)] := q_go_ok 200 _ (by decide +kernel)
set_option maxRecDepth 100000 in
theorem q_gw5babbababababba : q_wo [([(5, 1)], 2147483651, 2147483651), ([(7, 1)], 2147482649, 2147484647), ([(6, 1)], 2147483648, 2147484647), ([(2, 1)], 2147483650, 2147483650), ([(9, 1)], 2147483653, 2147483653), ([(0, 1)], 2147483656, 2147483656)] := q_go_ok 200 _ (by decide +kernel)
set_option maxRecDepth 100000 in
theorem q_gw5babbbbbbabababba : q_wo [([(5, 1)], 2147483651, 2147483651), ([(7, 1)], 2147482649, 2147484647), ([(6, 1)], 2147483648, 2147484647), ([(2, 1)], 2147483653, 2147483653), ([(9, 1)], 2147483653, 2147483653), ([(0, 1)], 2147483656, 2147483656)] := q_go_ok 200 _ (by decide +kernel)
set_option maxRecDepth 100000 in
theorem q_gw7baababababbbbbbba : q_wo [([(5, 1)], 2147483656, 2147483656), ([(4, 1)], 2147483648, 2147483663), ([(3, 1)], 2147483648, 2147483657), ([(2, 1)], 2147483648, 2147483648), ([(9, 1)], 2147483655, 2147483655), ([(0, 1)], 2147483656, 2147483656)] := q_go_ok 200 _ (by decide +kernel)
set_option maxRecDepth 100000 in
theorem q_gw5ababababbb : q_wo [([(5, 1)], 2147483652, 2147483652), ([(7, 1)], 2147482649, 2147484647), ([(6, 1)], 2147483648, 2147484647), ([(2, 1)], 0, 2147483647), ([(9, 1)], 2147483653, 2147483653), ([(0, 1)], 2147483656, 2147483656)] := q_go_ok 200 _ (by decide +kernel)
set_option maxRecDepth 100000 in
theorem q_gw5baababababbbabb : q_wo [([(6, 1)], 2147484648, 4294967295), ([(4, 1)], 2147483648, 2147483660), ([(5, 1)], 2147483652, 2147483652), ([(3, 1)], 2147483648, 2147483657), ([(2, 1)], 2147483648, 2147483648), ([(9, 1)], 2147483653, 2147483653), ([(0, 1)], 2147483656, 2147483656)] := q_go_ok 200 _ (by decide +kernel)
set_option maxRecDepth 100000 in
theorem q_gw5baababababbaba : q_wo [([(6, 1)], 0, 2147483647), ([(4, 1)], 2147483662, 2147483663), ([(5, 1)], 2147483651, 2147483651), ([(3, 1)], 2147483648, 2147483657), ([(2, 1)], 2147483648, 2147483648), ([(9, 1)], 2147483653, 2147483653), ([(0, 1)], 2147483656, 2147483656)] := q_go_ok 200 _ (by decide +kernel)
set_option maxRecDepth 100000 in
theorem q_gw5baabaababb : q_wo [([(6, 1)], 2147484648, 4294967295), ([(5, 1)], 2147483649, 2147483652), ([(4, 1)], 0, 2147483647), ([(3, 1)], 2147483648, 2147483657), ([(2, 1)], 2147483648, 2147483648), ([(9, 1)], 2147483653, 2147483653), ([(0, 1)], 2147483656, 2147483656)] := q_go_ok 200 _ (by decide +kernel)
set_option maxRecDepth 100000 in
theorem q_gw5baaababb : q_wo [([(6, 1)], 2147484648, 4294967295), ([(5, 1)], 2147483649, 2147483652), ([(3, 1)], 0, 2147483647), ([(2, 1)], 2147483648, 2147483648), ([(9, 1)], 2147483653, 2147483653), ([(0, 1)], 2147483656, 2147483656)] := q_go_ok 200 _ (by decide +kernel)
set_option maxRecDepth 100000 in
theorem q_gw5babbbbababaa : q_wo [([(7, 1)], 0, 2147482648), ([(6, 1)], 2147483648, 2147484647), ([(5, 1)], 2147483649, 2147483652), ([(2, 1)], 2147483652, 2147483652), ([(9, 1)], 2147483653, 2147483653), ([(0, 1)], 2147483656, 2147483656)] := q_go_ok 200 _ (by decide +kernel)
set_option maxRecDepth 100000 in
theorem q_gw5abababb : q_wo [([(7, 1)], 2147484648, 4294967295), ([(6, 1)], 2147483648, 2147484647), ([(5, 1)], 2147483649, 2147483652), ([(2, 1)], 0, 2147483647), ([(9, 1)], 2147483653, 2147483653), ([(0, 1)], 2147483656, 2147483656)] := q_go_ok 200 _ (by decide +kernel)
set_option maxRecDepth 100000 in
theorem q_gw5babbbbabb : q_wo [([(5, 1)], 2147483653, 4294967295), ([(2, 1)], 2147483652, 2147483652), ([(9, 1)], 2147483653, 2147483653), ([(0, 1)], 2147483656, 2147483656)] := q_go_ok 200 _ (by decide +kernel)
set_option maxRecDepth 100000 in
theorem q_gw5abb : q_wo [([(5, 1)], 2147483653, 4294967295), ([(2, 1)], 0, 2147483647), ([(9, 1)], 2147483653, 2147483653), ([(0, 1)], 2147483656, 2147483656)] := q_go_ok 200 _ (by decide +kernel)
set_option maxRecDepth 100000 in
theorem q_gw0baabaa : q_wo [([(3, 1)], 2147483648, 2147483648), ([(2, 1)], 2147483648, 2147483648), ([(9, 1)], 2147483648, 2147483648), ([(0, 1)], 2147483656, 2147483656)] := q_go_ok 200 _ (by decide +kernel)
set_option maxRecDepth 100000 in
theorem q_gw7bab : q_wo [([(2, 1)], 2147483649, 2147483653), ([(9, 1)], 2147483655, 2147483655), ([(0, 1)], 2147483656, 2147483656)] := q_go_ok 200 _ (by decide +kernel)
set_option maxRecDepth 100000 in
theorem q_gw7a : q_wo [([(2, 1)], 0, 2147483647), ([(9, 1)], 2147483655, 2147483655), ([(0, 1)], 2147483656, 2147483656)] := q_go_ok 200 _ (by decide +kernel)
end
section
set_option maxRecDepth 100000 in
theorem q_gw5baababababbbabab : q_wo [([(7, 1)], 2147482649, 4294967295), ([(6, 1)], 2147483648, 2147484647), ([(4, 1)], 2147483648, 2147483660), ([(5, 1)], 2147483652, 2147483652), ([(3, 1)], 2147483648, 2147483657), ([(2, 1)], 2147483648, 2147483648), ([(9, 1)], 2147483653, 2147483653), ([(0, 1)], 2147483656, 2147483656)] := q_go_ok 200 _ (by decide +kernel)
set_option maxRecDepth 100000 in
theorem q_gw5baababbbabababbb : q_wo [([(5, 1)], 2147483652, 2147483652), ([(7, 1)], 2147482649, 2147484647), ([(6, 1)], 2147483648, 2147484647), ([(4, 1)], 2147483664, 4294967295), ([(3, 1)], 2147483648, 2147483657), ([(2, 1)], 2147483648, 2147483648), ([(9, 1)], 2147483653, 2147483653), ([(0, 1)], 2147483656, 2147483656)] := q_go_ok 200 _ (by decide +kernel)
set_option maxRecDepth 100000 in
theorem q_gw8baababababbbbbbba : q_wo [([(5, 1)], 2147483656, 2147483656), ([(4, 1)], 2147483648, 2147483663), ([(3, 1)], 2147483648, 2147483657), ([(2, 1)], 2147483648, 2147483648), ([(9, 1)], 2147483656, 2147483656), ([(0, 1)], 2147483656, 2147483656)] := q_go_ok 200 _ (by decide +kernel)
set_option maxRecDepth 100000 in
theorem q_gw5baabbbabababbb : q_wo [([(5, 1)], 2147483652, 2147483652), ([(7, 1)], 2147482649, 2147484647), ([(6, 1)], 2147483648, 2147484647), ([(3, 1)], 2147483658, 4294967295), ([(2, 1)], 2147483648, 2147483648), ([(9, 1)], 2147483653, 2147483653), ([(0, 1)], 2147483656, 2147483656)] := q_go_ok 200 _ (by decide +kernel)
set_option maxRecDepth 100000 in
theorem q_gw5babbababababbb : q_wo [([(5, 1)], 2147483652, 2147483652), ([(7, 1)], 2147482649, 2147484647), ([(6, 1)], 2147483648, 2147484647), ([(2, 1)], 2147483650, 2147483650), ([(9, 1)], 2147483653, 2147483653), ([(0, 1)], 2147483656, 2147483656)] := q_go_ok 200 _ (by decide +kernel)
set_option maxRecDepth 100000 in
theorem q_gw5babbbbbbabababbb : q_wo [([(5, 1)], 2147483652, 2147483652), ([(7, 1)], 2147482649, 2147484647), ([(6, 1)], 2147483648, 2147484647), ([(2, 1)], 2147483653, 2147483653), ([(9, 1)], 2147483653, 2147483653), ([(0, 1)], 2147483656, 2147483656)] := q_go_ok 200 _ (by decide +kernel)
set_option maxRecDepth 100000 in
theorem q_gw7baababababbbbbbbba : q_wo [([(5, 1)], 2147483657, 2147483657), ([(4, 1)], 2147483648, 2147483663), ([(3, 1)], 2147483648, 2147483657), ([(2, 1)], 2147483648, 2147483648), ([(9, 1)], 2147483655, 2147483655), ([(0, 1)], 2147483656, 2147483656)] := q_go_ok 200 _ (by decide +kernel)
set_option maxRecDepth 100000 in
theorem q_gw28 : q_wo [([(9, 1)], 2147483676, 2147483676), ([(0, 1)], 2147483656, 2147483656)] := q_go_ok 200 _ (by decide +kernel)
set_option maxRecDepth 100000 in
theorem q_gw5baabababaabb : q_wo [([(6, 1)], 2147484648, 4294967295), ([(5, 1)], 2147483649, 2147483649), ([(4, 1)], 2147483648, 2147483663), ([(3, 1)], 2147483648, 2147483657), ([(2, 1)], 2147483648, 2147483648), ([(9, 1)], 2147483653, 2147483653), ([(0, 1)], 2147483656, 2147483656)] := q_go_ok 200 _ (by decide +kernel)
set_option maxRecDepth 100000 in
theorem q_gw5baababababbabbb : q_wo [([(6, 1)], 2147484648, 4294967295), ([(4, 1)], 2147483662, 2147483663), ([(5, 1)], 2147483651, 2147483651), ([(3, 1)], 2147483648, 2147483657), ([(2, 1)], 2147483648, 2147483648), ([(9, 1)], 2147483653, 2147483653), ([(0, 1)], 2147483656, 2147483656)] := q_go_ok 200 _ (by decide +kernel)
set_option maxRecDepth 100000 in
theorem q_gw5baababbbabb : q_wo [([(6, 1)], 2147484648, 4294967295), ([(5, 1)], 2147483649, 2147483652), ([(4, 1)], 2147483664, 4294967295), ([(3, 1)], 2147483648, 2147483657), ([(2, 1)], 2147483648, 2147483648), ([(9, 1)], 2147483653, 2147483653), ([(0, 1)], 2147483656, 2147483656)] := q_go_ok 200 _ (by decide +kernel)
set_option maxRecDepth 100000 in
theorem q_gw5baabbbabb : q_wo [([(6, 1)], 2147484648, 4294967295), ([(5, 1)], 2147483649, 2147483652), ([(3, 1)], 2147483658, 4294967295), ([(2, 1)], 2147483648, 2147483648), ([(9, 1)], 2147483653, 2147483653), ([(0, 1)], 2147483656, 2147483656)] := q_go_ok 200 _ (by decide +kernel)
set_option maxRecDepth 100000 in
theorem q_gw5babbababaa : q_wo [([(7, 1)], 0, 2147482648), ([(6, 1)], 2147483648, 2147484647), ([(5, 1)], 2147483649, 2147483652), ([(2, 1)], 2147483650, 2147483650), ([(9, 1)], 2147483653, 2147483653), ([(0, 1)], 2147483656, 2147483656)] := q_go_ok 200 _ (by decide +kernel)
set_option maxRecDepth 100000 in
theorem q_gw5babbbbbbabb : q_wo [([(6, 1)], 2147484648, 4294967295), ([(5, 1)], 2147483649, 2147483652), ([(2, 1)], 2147483653, 2147483653), ([(9, 1)], 2147483653, 2147483653), ([(0, 1)], 2147483656, 2147483656)] := q_go_ok 200 _ (by decide +kernel)
set_option maxRecDepth 100000 in
theorem q_gw5babbbabb : q_wo [([(5, 1)], 2147483653, 4294967295), ([(2, 1)], 2147483651, 2147483651), ([(9, 1)], 2147483653, 2147483653), ([(0, 1)], 2147483656, 2147483656)] := q_go_ok 200 _ (by decide +kernel)
set_option maxRecDepth 100000 in
theorem q_gw5bba : q_wo [([(5, 1)], 0, 2147483648), ([(2, 1)], 2147483654, 4294967295), ([(9, 1)], 2147483653, 2147483653), ([(0, 1)], 2147483656, 2147483656)] := q_go_ok 200 _ (by decide +kernel)
set_option maxRecDepth 100000 in
theorem q_gw1 : q_wo [([(9, 1)], 2147483649, 2147483649), ([(0, 1)], 2147483656, 2147483656)] := q_go_ok 200 _ (by decide +kernel)
set_option maxRecDepth 100000 in
theorem q_gw8baababb : q_wo [([(4, 1)], 2147483664, 4294967295), ([(3, 1)], 2147483648, 2147483657), ([(2, 1)], 2147483648, 2147483648), ([(9, 1)], 2147483656, 2147483656), ([(0, 1)], 2147483656, 2147483656)] := q_go_ok 200 _ (by decide +kernel)
set_option maxRecDepth 100000 in
theorem q_gw7baaa : q_wo [([(3, 1)], 0, 2147483647), ([(2, 1)], 2147483648, 2147483648), ([(9, 1)], 2147483655, 2147483655), ([(0, 1)], 2147483656, 2147483656)] := q_go_ok 200 _ (by decide +kernel)
set_option maxRecDepth 100000 in
theorem q_gw29 : q_wo [([(9, 1)], 2147483677, 2147483677), ([(0, 1)], 2147483656, 2147483656)] := q_go_ok 200 _ (by decide +kernel)
end
section
set_option maxRecDepth 100000 in
theorem q_gw20 : q_wo [([(9, 1)], 2147483668, 2147483668), ([(0, 1)], 2147483656, 2147483656)] := q_go_ok 200 _ (by decide +kernel)
set_option maxRecDepth 100000 in
theorem q_gw6 : q_wo [([(9, 1)], 2147483654, 2147483654), ([(0, 1)], 2147483656, 2147483656)] := q_go_ok 200 _ (by decide +kernel)
set_option maxRecDepth 100000 in
theorem q_gw8baababababbbbbbbbbbbbbbb : q_wo [([(5, 1)], 2147483664, 2147483664), ([(4, 1)], 2147483648, 2147483663), ([(3, 1)], 2147483648, 2147483657), ([(2, 1)], 2147483648, 2147483648), ([(9, 1)], 2147483656, 2147483656), ([(0, 1)], 2147483656, 2147483656)] := q_go_ok 200 _ (by decide +kernel)
set_option maxRecDepth 100000 in
theorem q_gw5babababababbb : q_wo [([(5, 1)], 2147483652, 2147483652), ([(7, 1)], 2147482649, 2147484647), ([(6, 1)], 2147483648, 2147484647), ([(2, 1)], 2147483649, 2147483649), ([(9, 1)], 2147483653, 2147483653), ([(0, 1)], 2147483656, 2147483656)] := q_go_ok 200 _ (by decide +kernel)
set_option maxRecDepth 100000 in
theorem q_gw5babbbbababababbb : q_wo [([(5, 1)], 2147483652, 2147483652), ([(7, 1)], 2147482649, 2147484647), ([(6, 1)], 2147483648, 2147484647), ([(2, 1)], 2147483652, 2147483652), ([(9, 1)], 2147483653, 2147483653), ([(0, 1)], 2147483656, 2147483656)] := q_go_ok 200 _ (by decide +kernel)
set_option maxRecDepth 100000 in
theorem q_gw7baababababbbba : q_wo [([(5, 1)], 2147483653, 2147483653), ([(4, 1)], 2147483648, 2147483663), ([(3, 1)], 2147483648, 2147483657), ([(2, 1)], 2147483648, 2147483648), ([(9, 1)], 2147483655, 2147483655), ([(0, 1)], 2147483656, 2147483656)] := q_go_ok 200 _ (by decide +kernel)
set_option maxRecDepth 100000 in
theorem q_gw5abababaa : q_wo [([(5, 1)], 2147483649, 2147483649), ([(7, 1)], 2147482649, 2147484647), ([(6, 1)], 2147483648, 2147484647), ([(2, 1)], 0, 2147483647), ([(9, 1)], 2147483653, 2147483653), ([(0, 1)], 2147483656, 2147483656)] := q_go_ok 200 _ (by decide +kernel)
set_option maxRecDepth 100000 in
theorem q_gw7baabababb : q_wo [([(5, 1)], 2147483665, 4294967295), ([(4, 1)], 2147483648, 2147483663), ([(3, 1)], 2147483648, 2147483657), ([(2, 1)], 2147483648, 2147483648), ([(9, 1)], 2147483655, 2147483655), ([(0, 1)], 2147483656, 2147483656)] := q_go_ok 200 _ (by decide +kernel)
set_option maxRecDepth 100000 in
theorem q_gw5baababababaabaa : q_wo [([(7, 1)], 0, 2147482648), ([(6, 1)], 2147483648, 2147484647), ([(4, 1)], 2147483648, 2147483662), ([(5, 1)], 2147483650, 2147483650), ([(3, 1)], 2147483648, 2147483657), ([(2, 1)], 2147483648, 2147483648), ([(9, 1)], 2147483653, 2147483653), ([(0, 1)], 2147483656, 2147483656)] := q_go_ok 200 _ (by decide +kernel)
set_option maxRecDepth 100000 in
theorem q_gw5baabababababbaa : q_wo [([(7, 1)], 0, 2147482648), ([(6, 1)], 2147483648, 2147484647), ([(4, 1)], 2147483663, 2147483663), ([(5, 1)], 2147483650, 2147483650), ([(3, 1)], 2147483648, 2147483657), ([(2, 1)], 2147483648, 2147483648), ([(9, 1)], 2147483653, 2147483653), ([(0, 1)], 2147483656, 2147483656)] := q_go_ok 200 _ (by decide +kernel)
set_option maxRecDepth 100000 in
theorem q_gw5baabaabababb : q_wo [([(7, 1)], 2147484648, 4294967295), ([(6, 1)], 2147483648, 2147484647), ([(5, 1)], 2147483649, 2147483652), ([(4, 1)], 0, 2147483647), ([(3, 1)], 2147483648, 2147483657), ([(2, 1)], 2147483648, 2147483648), ([(9, 1)], 2147483653, 2147483653), ([(0, 1)], 2147483656, 2147483656)] := q_go_ok 200 _ (by decide +kernel)
set_option maxRecDepth 100000 in
theorem q_gw5baabaabb : q_wo [([(5, 1)], 2147483653, 4294967295), ([(4, 1)], 0, 2147483647), ([(3, 1)], 2147483648, 2147483657), ([(2, 1)], 2147483648, 2147483648), ([(9, 1)], 2147483653, 2147483653), ([(0, 1)], 2147483656, 2147483656)] := q_go_ok 200 _ (by decide +kernel)
set_option maxRecDepth 100000 in
theorem q_gw5babbbbbbababb : q_wo [([(7, 1)], 2147484648, 4294967295), ([(6, 1)], 2147483648, 2147484647), ([(5, 1)], 2147483649, 2147483652), ([(2, 1)], 2147483653, 2147483653), ([(9, 1)], 2147483653, 2147483653), ([(0, 1)], 2147483656, 2147483656)] := q_go_ok 200 _ (by decide +kernel)
set_option maxRecDepth 100000 in
theorem q_gw5babababb : q_wo [([(6, 1)], 2147484648, 4294967295), ([(5, 1)], 2147483649, 2147483652), ([(2, 1)], 2147483649, 2147483649), ([(9, 1)], 2147483653, 2147483653), ([(0, 1)], 2147483656, 2147483656)] := q_go_ok 200 _ (by decide +kernel)
set_option maxRecDepth 100000 in
theorem q_gw5ababaa : q_wo [([(7, 1)], 0, 2147482648), ([(6, 1)], 2147483648, 2147484647), ([(5, 1)], 2147483649, 2147483652), ([(2, 1)], 0, 2147483647), ([(9, 1)], 2147483653, 2147483653), ([(0, 1)], 2147483656, 2147483656)] := q_go_ok 200 _ (by decide +kernel)
set_option maxRecDepth 100000 in
theorem q_gw5babbbbaa : q_wo [([(5, 1)], 0, 2147483648), ([(2, 1)], 2147483652, 2147483652), ([(9, 1)], 2147483653, 2147483653), ([(0, 1)], 2147483656, 2147483656)] := q_go_ok 200 _ (by decide +kernel)
set_option maxRecDepth 100000 in
theorem q_gw21 : q_wo [([(9, 1)], 2147483669, 2147483669), ([(0, 1)], 2147483656, 2147483656)] := q_go_ok 200 _ (by decide +kernel)
set_option maxRecDepth 100000 in
theorem q_gw26 : q_wo [([(9, 1)], 2147483674, 2147483674), ([(0, 1)], 2147483656, 2147483656)] := q_go_ok 200 _ (by decide +kernel)
set_option maxRecDepth 100000 in
theorem q_gw8bb : q_wo [([(2, 1)], 2147483654, 4294967295), ([(9, 1)], 2147483656, 2147483656), ([(0, 1)], 2147483656, 2147483656)] := q_go_ok 200 _ (by decide +kernel)
set_option maxRecDepth 100000 in
theorem q_gw0bb : q_wo [([(2, 1)], 2147483654, 4294967295), ([(9, 1)], 2147483648, 2147483648), ([(0, 1)], 2147483656, 2147483656)] := q_go_ok 200 _ (by decide +kernel)
end
section
theorem q_gw0baababb : q_wo [([(3, 1)], 2147483650, 2147483657), ([(2, 1)], 2147483648, 2147483648), ([(9, 1)], 2147483648, 2147483648), ([(0, 1)], 2147483656, 2147483656)] := q_cut [(3, 1)] 2147483650 2147483650 2147483657 (by decide +kernel) q_gw0baababba q_gw0baababbb
theorem q_gw0baabab : q_wo [([(3, 1)], 2147483649, 2147483657), ([(2, 1)], 2147483648, 2147483648), ([(9, 1)], 2147483648, 2147483648), ([(0, 1)], 2147483656, 2147483656)] := q_cut [(3, 1)] 2147483649 2147483649 2147483657 (by decide +kernel) q_gw0baababa q_gw0baababb
theorem q_gw0baaba : q_wo [([(3, 1)], 2147483648, 2147483657), ([(2, 1)], 2147483648, 2147483648), ([(9, 1)], 2147483648, 2147483648), ([(0, 1)], 2147483656, 2147483656)] := q_cut [(3, 1)] 2147483648 2147483648 2147483657 (by decide +kernel) q_gw0baabaa q_gw0baabab
theorem q_gw0baab : q_wo [([(3, 1)], 2147483648, 4294967295), ([(2, 1)], 2147483648, 2147483648), ([(9, 1)], 2147483648, 2147483648), ([(0, 1)], 2147483656, 2147483656)] := q_cut [(3, 1)] 2147483657 2147483648 4294967295 (by decide +kernel) q_gw0baaba q_gw0baabb
theorem q_gw0baa : q_wo [([(2, 1)], 2147483648, 2147483648), ([(9, 1)], 2147483648, 2147483648), ([(0, 1)], 2147483656, 2147483656)] := q_cut [(3, 1)] 2147483647 0 4294967295 (by decide +kernel) q_gw0baaa q_gw0baab
theorem q_gw0ba : q_wo [([(2, 1)], 2147483648, 2147483653), ([(9, 1)], 2147483648, 2147483648), ([(0, 1)], 2147483656, 2147483656)] := q_cut [(2, 1)] 2147483648 2147483648 2147483653 (by decide +kernel) q_gw0baa q_gw0bab
theorem q_gw0b : q_wo [([(2, 1)], 2147483648, 4294967295), ([(9, 1)], 2147483648, 2147483648), ([(0, 1)], 2147483656, 2147483656)] := q_cut [(2, 1)] 2147483653 2147483648 4294967295 (by decide +kernel) q_gw0ba q_gw0bb
theorem q_gw0 : q_wo [([(9, 1)], 2147483648, 2147483648), ([(0, 1)], 2147483656, 2147483656)] := q_cut [(2, 1)] 2147483647 0 4294967295 (by decide +kernel) q_gw0a q_gw0b
theorem q_gw5ababababb : q_wo [([(5, 1)], 2147483651, 2147483652), ([(7, 1)], 2147482649, 2147484647), ([(6, 1)], 2147483648, 2147484647), ([(2, 1)], 0, 2147483647), ([(9, 1)], 2147483653, 2147483653), ([(0, 1)], 2147483656, 2147483656)] := q_cut [(5, 1)] 2147483651 2147483651 2147483652 (by decide +kernel) q_gw5ababababba q_gw5ababababbb
theorem q_gw5abababab : q_wo [([(5, 1)], 2147483650, 2147483652), ([(7, 1)], 2147482649, 2147484647), ([(6, 1)], 2147483648, 2147484647), ([(2, 1)], 0, 2147483647), ([(9, 1)], 2147483653, 2147483653), ([(0, 1)], 2147483656, 2147483656)] := q_cut [(5, 1)] 2147483650 2147483650 2147483652 (by decide +kernel) q_gw5ababababa q_gw5ababababb
theorem q_gw5abababa : q_wo [([(7, 1)], 2147482649, 2147484647), ([(6, 1)], 2147483648, 2147484647), ([(5, 1)], 2147483649, 2147483652), ([(2, 1)], 0, 2147483647), ([(9, 1)], 2147483653, 2147483653), ([(0, 1)], 2147483656, 2147483656)] := q_cut [(5, 1)] 2147483649 2147483649 2147483652 (by decide +kernel) q_gw5abababaa q_gw5abababab
theorem q_gw5ababab : q_wo [([(7, 1)], 2147482649, 4294967295), ([(6, 1)], 2147483648, 2147484647), ([(5, 1)], 2147483649, 2147483652), ([(2, 1)], 0, 2147483647), ([(9, 1)], 2147483653, 2147483653), ([(0, 1)], 2147483656, 2147483656)] := q_cut [(7, 1)] 2147484647 2147482649 4294967295 (by decide +kernel) q_gw5abababa q_gw5abababb
theorem q_gw5ababa : q_wo [([(6, 1)], 2147483648, 2147484647), ([(5, 1)], 2147483649, 2147483652), ([(2, 1)], 0, 2147483647), ([(9, 1)], 2147483653, 2147483653), ([(0, 1)], 2147483656, 2147483656)] := q_cut [(7, 1)] 2147482648 0 4294967295 (by decide +kernel) q_gw5ababaa q_gw5ababab
theorem q_gw5abab : q_wo [([(6, 1)], 2147483648, 4294967295), ([(5, 1)], 2147483649, 2147483652), ([(2, 1)], 0, 2147483647), ([(9, 1)], 2147483653, 2147483653), ([(0, 1)], 2147483656, 2147483656)] := q_cut [(6, 1)] 2147484647 2147483648 4294967295 (by decide +kernel) q_gw5ababa q_gw5ababb
theorem q_gw5aba : q_wo [([(5, 1)], 2147483649, 2147483652), ([(2, 1)], 0, 2147483647), ([(9, 1)], 2147483653, 2147483653), ([(0, 1)], 2147483656, 2147483656)] := q_cut [(6, 1)] 2147483647 0 4294967295 (by decide +kernel) q_gw5abaa q_gw5abab
theorem q_gw5ab : q_wo [([(5, 1)], 2147483649, 4294967295), ([(2, 1)], 0, 2147483647), ([(9, 1)], 2147483653, 2147483653), ([(0, 1)], 2147483656, 2147483656)] := q_cut [(5, 1)] 2147483652 2147483649 4294967295 (by decide +kernel) q_gw5aba q_gw5abb
theorem q_gw5a : q_wo [([(2, 1)], 0, 2147483647), ([(9, 1)], 2147483653, 2147483653), ([(0, 1)], 2147483656, 2147483656)] := q_cut [(5, 1)] 2147483648 0 4294967295 (by decide +kernel) q_gw5aa q_gw5ab
theorem q_gw5baaababababb : q_wo [([(5, 1)], 2147483651, 2147483652), ([(7, 1)], 2147482649, 2147484647), ([(6, 1)], 2147483648, 2147484647), ([(3, 1)], 0, 2147483647), ([(2, 1)], 2147483648, 2147483648), ([(9, 1)], 2147483653, 2147483653), ([(0, 1)], 2147483656, 2147483656)] := q_cut [(5, 1)] 2147483651 2147483651 2147483652 (by decide +kernel) q_gw5baaababababba q_gw5baaababababbb
theorem q_gw5baaabababab : q_wo [([(5, 1)], 2147483650, 2147483652), ([(7, 1)], 2147482649, 2147484647), ([(6, 1)], 2147483648, 2147484647), ([(3, 1)], 0, 2147483647), ([(2, 1)], 2147483648, 2147483648), ([(9, 1)], 2147483653, 2147483653), ([(0, 1)], 2147483656, 2147483656)] := q_cut [(5, 1)] 2147483650 2147483650 2147483652 (by decide +kernel) q_gw5baaababababa q_gw5baaababababb
theorem q_gw5baaabababa : q_wo [([(7, 1)], 2147482649, 2147484647), ([(6, 1)], 2147483648, 2147484647), ([(5, 1)], 2147483649, 2147483652), ([(3, 1)], 0, 2147483647), ([(2, 1)], 2147483648, 2147483648), ([(9, 1)], 2147483653, 2147483653), ([(0, 1)], 2147483656, 2147483656)] := q_cut [(5, 1)] 2147483649 2147483649 2147483652 (by decide +kernel) q_gw5baaabababaa q_gw5baaabababab
theorem q_gw5baaababab : q_wo [([(7, 1)], 2147482649, 4294967295), ([(6, 1)], 2147483648, 2147484647), ([(5, 1)], 2147483649, 2147483652), ([(3, 1)], 0, 2147483647), ([(2, 1)], 2147483648, 2147483648), ([(9, 1)], 2147483653, 2147483653), ([(0, 1)], 2147483656, 2147483656)] := q_cut [(7, 1)] 2147484647 2147482649 4294967295 (by decide +kernel) q_gw5baaabababa q_gw5baaabababb
theorem q_gw5baaababa : q_wo [([(6, 1)], 2147483648, 2147484647), ([(5, 1)], 2147483649, 2147483652), ([(3, 1)], 0, 2147483647), ([(2, 1)], 2147483648, 2147483648), ([(9, 1)], 2147483653, 2147483653), ([(0, 1)], 2147483656, 2147483656)] := q_cut [(7, 1)] 2147482648 0 4294967295 (by decide +kernel) q_gw5baaababaa q_gw5baaababab
theorem q_gw5baaabab : q_wo [([(6, 1)], 2147483648, 4294967295), ([(5, 1)], 2147483649, 2147483652), ([(3, 1)], 0, 2147483647), ([(2, 1)], 2147483648, 2147483648), ([(9, 1)], 2147483653, 2147483653), ([(0, 1)], 2147483656, 2147483656)] := q_cut [(6, 1)] 2147484647 2147483648 4294967295 (by decide +kernel) q_gw5baaababa q_gw5baaababb
theorem q_gw5baaaba : q_wo [([(5, 1)], 2147483649, 2147483652), ([(3, 1)], 0, 2147483647), ([(2, 1)], 2147483648, 2147483648), ([(9, 1)], 2147483653, 2147483653), ([(0, 1)], 2147483656, 2147483656)] := q_cut [(6, 1)] 2147483647 0 4294967295 (by decide +kernel) q_gw5baaabaa q_gw5baaabab
theorem q_gw5baaab : q_wo [([(5, 1)], 2147483649, 4294967295), ([(3, 1)], 0, 2147483647), ([(2, 1)], 2147483648, 2147483648), ([(9, 1)], 2147483653, 2147483653), ([(0, 1)], 2147483656, 2147483656)] := q_cut [(5, 1)] 2147483652 2147483649 4294967295 (by decide +kernel) q_gw5baaaba q_gw5baaabb
theorem q_gw5baaa : q_wo [([(3, 1)], 0, 2147483647), ([(2, 1)], 2147483648, 2147483648), ([(9, 1)], 2147483653, 2147483653), ([(0, 1)], 2147483656, 2147483656)] := q_cut [(5, 1)] 2147483648 0 4294967295 (by decide +kernel) q_gw5baaaa q_gw5baaab
theorem q_gw5baabaababababb : q_wo [([(5, 1)], 2147483651, 2147483652), ([(7, 1)], 2147482649, 2147484647), ([(6, 1)], 2147483648, 2147484647), ([(4, 1)], 0, 2147483647), ([(3, 1)], 2147483648, 2147483657), ([(2, 1)], 2147483648, 2147483648), ([(9, 1)], 2147483653, 2147483653), ([(0, 1)], 2147483656, 2147483656)] := q_cut [(5, 1)] 2147483651 2147483651 2147483652 (by decide +kernel) q_gw5baabaababababba q_gw5baabaababababbb
theorem q_gw5baabaabababab : q_wo [([(5, 1)], 2147483650, 2147483652), ([(7, 1)], 2147482649, 2147484647), ([(6, 1)], 2147483648, 2147484647), ([(4, 1)], 0, 2147483647), ([(3, 1)], 2147483648, 2147483657), ([(2, 1)], 2147483648, 2147483648), ([(9, 1)], 2147483653, 2147483653), ([(0, 1)], 2147483656, 2147483656)] := q_cut [(5, 1)] 2147483650 2147483650 2147483652 (by decide +kernel) q_gw5baabaababababa q_gw5baabaababababb
theorem q_gw5baabaabababa : q_wo [([(7, 1)], 2147482649, 2147484647), ([(6, 1)], 2147483648, 2147484647), ([(5, 1)], 2147483649, 2147483652), ([(4, 1)], 0, 2147483647), ([(3, 1)], 2147483648, 2147483657), ([(2, 1)], 2147483648, 2147483648), ([(9, 1)], 2147483653, 2147483653), ([(0, 1)], 2147483656, 2147483656)] := q_cut [(5, 1)] 2147483649 2147483649 2147483652 (by decide +kernel) q_gw5baabaabababaa q_gw5baabaabababab
theorem q_gw5baabaababab : q_wo [([(7, 1)], 2147482649, 4294967295), ([(6, 1)], 2147483648, 2147484647), ([(5, 1)], 2147483649, 2147483652), ([(4, 1)], 0, 2147483647), ([(3, 1)], 2147483648, 2147483657), ([(2, 1)], 2147483648, 2147483648), ([(9, 1)], 2147483653, 2147483653), ([(0, 1)], 2147483656, 2147483656)] := q_cut [(7, 1)] 2147484647 2147482649 4294967295 (by decide +kernel) q_gw5baabaabababa q_gw5baabaabababb
theorem q_gw5baabaababa : q_wo [([(6, 1)], 2147483648, 2147484647), ([(5, 1)], 2147483649, 2147483652), ([(4, 1)], 0, 2147483647), ([(3, 1)], 2147483648, 2147483657), ([(2, 1)], 2147483648, 2147483648), ([(9, 1)], 2147483653, 2147483653), ([(0, 1)], 2147483656, 2147483656)] := q_cut [(7, 1)] 2147482648 0 4294967295 (by decide +kernel) q_gw5baabaababaa q_gw5baabaababab
theorem q_gw5baabaabab : q_wo [([(6, 1)], 2147483648, 4294967295), ([(5, 1)], 2147483649, 2147483652), ([(4, 1)], 0, 2147483647), ([(3, 1)], 2147483648, 2147483657), ([(2, 1)], 2147483648, 2147483648), ([(9, 1)], 2147483653, 2147483653), ([(0, 1)], 2147483656, 2147483656)] := q_cut [(6, 1)] 2147484647 2147483648 4294967295 (by decide +kernel) q_gw5baabaababa q_gw5baabaababb
theorem q_gw5baabaaba : q_wo [([(5, 1)], 2147483649, 2147483652), ([(4, 1)], 0, 2147483647), ([(3, 1)], 2147483648, 2147483657), ([(2, 1)], 2147483648, 2147483648), ([(9, 1)], 2147483653, 2147483653), ([(0, 1)], 2147483656, 2147483656)] := q_cut [(6, 1)] 2147483647 0 4294967295 (by decide +kernel) q_gw5baabaabaa q_gw5baabaabab
theorem q_gw5baabaab : q_wo [([(5, 1)], 2147483649, 4294967295), ([(4, 1)], 0, 2147483647), ([(3, 1)], 2147483648, 2147483657), ([(2, 1)], 2147483648, 2147483648), ([(9, 1)], 2147483653, 2147483653), ([(0, 1)], 2147483656, 2147483656)] := q_cut [(5, 1)] 2147483652 2147483649 4294967295 (by decide +kernel) q_gw5baabaaba q_gw5baabaabb
theorem q_gw5baabaa : q_wo [([(4, 1)], 0, 2147483647), ([(3, 1)], 2147483648, 2147483657), ([(2, 1)], 2147483648, 2147483648), ([(9, 1)], 2147483653, 2147483653), ([(0, 1)], 2147483656, 2147483656)] := q_cut [(5, 1)] 2147483648 0 4294967295 (by decide +kernel) q_gw5baabaaa q_gw5baabaab
theorem q_gw5baabababaaba : q_wo [([(6, 1)], 2147483648, 2147484647), ([(5, 1)], 2147483649, 2147483649), ([(4, 1)], 2147483648, 2147483663), ([(3, 1)], 2147483648, 2147483657), ([(2, 1)], 2147483648, 2147483648), ([(9, 1)], 2147483653, 2147483653), ([(0, 1)], 2147483656, 2147483656)] := q_cut [(7, 1)] 2147482648 0 4294967295 (by decide +kernel) q_gw5baabababaabaa q_gw5baabababaabab
theorem q_gw5baabababaab : q_wo [([(6, 1)], 2147483648, 4294967295), ([(5, 1)], 2147483649, 2147483649), ([(4, 1)], 2147483648, 2147483663), ([(3, 1)], 2147483648, 2147483657), ([(2, 1)], 2147483648, 2147483648), ([(9, 1)], 2147483653, 2147483653), ([(0, 1)], 2147483656, 2147483656)] := q_cut [(6, 1)] 2147484647 2147483648 4294967295 (by decide +kernel) q_gw5baabababaaba q_gw5baabababaabb
theorem q_gw5baabababaa : q_wo [([(5, 1)], 2147483649, 2147483649), ([(4, 1)], 2147483648, 2147483663), ([(3, 1)], 2147483648, 2147483657), ([(2, 1)], 2147483648, 2147483648), ([(9, 1)], 2147483653, 2147483653), ([(0, 1)], 2147483656, 2147483656)] := q_cut [(6, 1)] 2147483647 0 4294967295 (by decide +kernel) q_gw5baabababaaa q_gw5baabababaab
theorem q_gw5baababababaaba : q_wo [([(6, 1)], 2147483648, 2147484647), ([(4, 1)], 2147483648, 2147483662), ([(5, 1)], 2147483650, 2147483650), ([(3, 1)], 2147483648, 2147483657), ([(2, 1)], 2147483648, 2147483648), ([(9, 1)], 2147483653, 2147483653), ([(0, 1)], 2147483656, 2147483656)] := q_cut [(7, 1)] 2147482648 0 4294967295 (by decide +kernel) q_gw5baababababaabaa q_gw5baababababaabab
theorem q_gw5baababababaab : q_wo [([(6, 1)], 2147483648, 4294967295), ([(4, 1)], 2147483648, 2147483662), ([(5, 1)], 2147483650, 2147483650), ([(3, 1)], 2147483648, 2147483657), ([(2, 1)], 2147483648, 2147483648), ([(9, 1)], 2147483653, 2147483653), ([(0, 1)], 2147483656, 2147483656)] := q_cut [(6, 1)] 2147484647 2147483648 4294967295 (by decide +kernel) q_gw5baababababaaba q_gw5baababababaabb
theorem q_gw5baababababaa : q_wo [([(4, 1)], 2147483648, 2147483662), ([(5, 1)], 2147483650, 2147483650), ([(3, 1)], 2147483648, 2147483657), ([(2, 1)], 2147483648, 2147483648), ([(9, 1)], 2147483653, 2147483653), ([(0, 1)], 2147483656, 2147483656)] := q_cut [(6, 1)] 2147483647 0 4294967295 (by decide +kernel) q_gw5baababababaaa q_gw5baababababaab
theorem q_gw5baabababababba : q_wo [([(6, 1)], 2147483648, 2147484647), ([(4, 1)], 2147483663, 2147483663), ([(5, 1)], 2147483650, 2147483650), ([(3, 1)], 2147483648, 2147483657), ([(2, 1)], 2147483648, 2147483648), ([(9, 1)], 2147483653, 2147483653), ([(0, 1)], 2147483656, 2147483656)] := q_cut [(7, 1)] 2147482648 0 4294967295 (by decide +kernel) q_gw5baabababababbaa q_gw5baabababababbab
theorem q_gw5baabababababb : q_wo [([(6, 1)], 2147483648, 4294967295), ([(4, 1)], 2147483663, 2147483663), ([(5, 1)], 2147483650, 2147483650), ([(3, 1)], 2147483648, 2147483657), ([(2, 1)], 2147483648, 2147483648), ([(9, 1)], 2147483653, 2147483653), ([(0, 1)], 2147483656, 2147483656)] := q_cut [(6, 1)] 2147484647 2147483648 4294967295 (by decide +kernel) q_gw5baabababababba q_gw5baabababababbb
theorem q_gw5baababababab : q_wo [([(4, 1)], 2147483663, 2147483663), ([(5, 1)], 2147483650, 2147483650), ([(3, 1)], 2147483648, 2147483657), ([(2, 1)], 2147483648, 2147483648), ([(9, 1)], 2147483653, 2147483653), ([(0, 1)], 2147483656, 2147483656)] := q_cut [(6, 1)] 2147483647 0 4294967295 (by decide +kernel) q_gw5baabababababa q_gw5baabababababb
theorem q_gw5baababababa : q_wo [([(5, 1)], 2147483650, 2147483650), ([(4, 1)], 2147483648, 2147483663), ([(3, 1)], 2147483648, 2147483657), ([(2, 1)], 2147483648, 2147483648), ([(9, 1)], 2147483653, 2147483653), ([(0, 1)], 2147483656, 2147483656)] := q_cut [(4, 1)] 2147483662 2147483648 2147483663 (by decide +kernel) q_gw5baababababaa q_gw5baababababab
theorem q_gw5baababababbaaba : q_wo [([(6, 1)], 2147483648, 2147484647), ([(4, 1)], 2147483648, 2147483661), ([(5, 1)], 2147483651, 2147483651), ([(3, 1)], 2147483648, 2147483657), ([(2, 1)], 2147483648, 2147483648), ([(9, 1)], 2147483653, 2147483653), ([(0, 1)], 2147483656, 2147483656)] := q_cut [(7, 1)] 2147482648 0 4294967295 (by decide +kernel) q_gw5baababababbaabaa q_gw5baababababbaabab
theorem q_gw5baababababbaab : q_wo [([(6, 1)], 2147483648, 4294967295), ([(4, 1)], 2147483648, 2147483661), ([(5, 1)], 2147483651, 2147483651), ([(3, 1)], 2147483648, 2147483657), ([(2, 1)], 2147483648, 2147483648), ([(9, 1)], 2147483653, 2147483653), ([(0, 1)], 2147483656, 2147483656)] := q_cut [(6, 1)] 2147484647 2147483648 4294967295 (by decide +kernel) q_gw5baababababbaaba q_gw5baababababbaabb
theorem q_gw5baababababbaa : q_wo [([(4, 1)], 2147483648, 2147483661), ([(5, 1)], 2147483651, 2147483651), ([(3, 1)], 2147483648, 2147483657), ([(2, 1)], 2147483648, 2147483648), ([(9, 1)], 2147483653, 2147483653), ([(0, 1)], 2147483656, 2147483656)] := q_cut [(6, 1)] 2147483647 0 4294967295 (by decide +kernel) q_gw5baababababbaaa q_gw5baababababbaab
theorem q_gw5baababababbabba : q_wo [([(6, 1)], 2147483648, 2147484647), ([(4, 1)], 2147483662, 2147483663), ([(5, 1)], 2147483651, 2147483651), ([(3, 1)], 2147483648, 2147483657), ([(2, 1)], 2147483648, 2147483648), ([(9, 1)], 2147483653, 2147483653), ([(0, 1)], 2147483656, 2147483656)] := q_cut [(7, 1)] 2147482648 0 4294967295 (by decide +kernel) q_gw5baababababbabbaa q_gw5baababababbabbab
theorem q_gw5baababababbabb : q_wo [([(6, 1)], 2147483648, 4294967295), ([(4, 1)], 2147483662, 2147483663), ([(5, 1)], 2147483651, 2147483651), ([(3, 1)], 2147483648, 2147483657), ([(2, 1)], 2147483648, 2147483648), ([(9, 1)], 2147483653, 2147483653), ([(0, 1)], 2147483656, 2147483656)] := q_cut [(6, 1)] 2147484647 2147483648 4294967295 (by decide +kernel) q_gw5baababababbabba q_gw5baababababbabbb
theorem q_gw5baababababbab : q_wo [([(4, 1)], 2147483662, 2147483663), ([(5, 1)], 2147483651, 2147483651), ([(3, 1)], 2147483648, 2147483657), ([(2, 1)], 2147483648, 2147483648), ([(9, 1)], 2147483653, 2147483653), ([(0, 1)], 2147483656, 2147483656)] := q_cut [(6, 1)] 2147483647 0 4294967295 (by decide +kernel) q_gw5baababababbaba q_gw5baababababbabb
theorem q_gw5baababababba : q_wo [([(5, 1)], 2147483651, 2147483651), ([(4, 1)], 2147483648, 2147483663), ([(3, 1)], 2147483648, 2147483657), ([(2, 1)], 2147483648, 2147483648), ([(9, 1)], 2147483653, 2147483653), ([(0, 1)], 2147483656, 2147483656)] := q_cut [(4, 1)] 2147483661 2147483648 2147483663 (by decide +kernel) q_gw5baababababbaa q_gw5baababababbab
theorem q_gw5baababababbbaba : q_wo [([(6, 1)], 2147483648, 2147484647), ([(4, 1)], 2147483648, 2147483660), ([(5, 1)], 2147483652, 2147483652), ([(3, 1)], 2147483648, 2147483657), ([(2, 1)], 2147483648, 2147483648), ([(9, 1)], 2147483653, 2147483653), ([(0, 1)], 2147483656, 2147483656)] := q_cut [(7, 1)] 2147482648 0 4294967295 (by decide +kernel) q_gw5baababababbbabaa q_gw5baababababbbabab
theorem q_gw5baababababbbab : q_wo [([(6, 1)], 2147483648, 4294967295), ([(4, 1)], 2147483648, 2147483660), ([(5, 1)], 2147483652, 2147483652), ([(3, 1)], 2147483648, 2147483657), ([(2, 1)], 2147483648, 2147483648), ([(9, 1)], 2147483653, 2147483653), ([(0, 1)], 2147483656, 2147483656)] := q_cut [(6, 1)] 2147484647 2147483648 4294967295 (by decide +kernel) q_gw5baababababbbaba q_gw5baababababbbabb
theorem q_gw5baababababbba : q_wo [([(4, 1)], 2147483648, 2147483660), ([(5, 1)], 2147483652, 2147483652), ([(3, 1)], 2147483648, 2147483657), ([(2, 1)], 2147483648, 2147483648), ([(9, 1)], 2147483653, 2147483653), ([(0, 1)], 2147483656, 2147483656)] := q_cut [(6, 1)] 2147483647 0 4294967295 (by decide +kernel) q_gw5baababababbbaa q_gw5baababababbbab
theorem q_gw5baababababbbbba : q_wo [([(6, 1)], 2147483648, 2147484647), ([(4, 1)], 2147483661, 2147483663), ([(5, 1)], 2147483652, 2147483652), ([(3, 1)], 2147483648, 2147483657), ([(2, 1)], 2147483648, 2147483648), ([(9, 1)], 2147483653, 2147483653), ([(0, 1)], 2147483656, 2147483656)] := q_cut [(7, 1)] 2147482648 0 4294967295 (by decide +kernel) q_gw5baababababbbbbaa q_gw5baababababbbbbab
theorem q_gw5baababababbbbb : q_wo [([(6, 1)], 2147483648, 4294967295), ([(4, 1)], 2147483661, 2147483663), ([(5, 1)], 2147483652, 2147483652), ([(3, 1)], 2147483648, 2147483657), ([(2, 1)], 2147483648, 2147483648), ([(9, 1)], 2147483653, 2147483653), ([(0, 1)], 2147483656, 2147483656)] := q_cut [(6, 1)] 2147484647 2147483648 4294967295 (by decide +kernel) q_gw5baababababbbbba q_gw5baababababbbbbb
theorem q_gw5baababababbbb : q_wo [([(4, 1)], 2147483661, 2147483663), ([(5, 1)], 2147483652, 2147483652), ([(3, 1)], 2147483648, 2147483657), ([(2, 1)], 2147483648, 2147483648), ([(9, 1)], 2147483653, 2147483653), ([(0, 1)], 2147483656, 2147483656)] := q_cut [(6, 1)] 2147483647 0 4294967295 (by decide +kernel) q_gw5baababababbbba q_gw5baababababbbbb
theorem q_gw5baababababbb : q_wo [([(5, 1)], 2147483652, 2147483652), ([(4, 1)], 2147483648, 2147483663), ([(3, 1)], 2147483648, 2147483657), ([(2, 1)], 2147483648, 2147483648), ([(9, 1)], 2147483653, 2147483653), ([(0, 1)], 2147483656, 2147483656)] := q_cut [(4, 1)] 2147483660 2147483648 2147483663 (by decide +kernel) q_gw5baababababbba q_gw5baababababbbb
theorem q_gw5baababababb : q_wo [([(5, 1)], 2147483651, 2147483652), ([(4, 1)], 2147483648, 2147483663), ([(3, 1)], 2147483648, 2147483657), ([(2, 1)], 2147483648, 2147483648), ([(9, 1)], 2147483653, 2147483653), ([(0, 1)], 2147483656, 2147483656)] := q_cut [(5, 1)] 2147483651 2147483651 2147483652 (by decide +kernel) q_gw5baababababba q_gw5baababababbb
theorem q_gw5baabababab : q_wo [([(5, 1)], 2147483650, 2147483652), ([(4, 1)], 2147483648, 2147483663), ([(3, 1)], 2147483648, 2147483657), ([(2, 1)], 2147483648, 2147483648), ([(9, 1)], 2147483653, 2147483653), ([(0, 1)], 2147483656, 2147483656)] := q_cut [(5, 1)] 2147483650 2147483650 2147483652 (by decide +kernel) q_gw5baababababa q_gw5baababababb
theorem q_gw5baabababa : q_wo [([(5, 1)], 2147483649, 2147483652), ([(4, 1)], 2147483648, 2147483663), ([(3, 1)], 2147483648, 2147483657), ([(2, 1)], 2147483648, 2147483648), ([(9, 1)], 2147483653, 2147483653), ([(0, 1)], 2147483656, 2147483656)] := q_cut [(5, 1)] 2147483649 2147483649 2147483652 (by decide +kernel) q_gw5baabababaa q_gw5baabababab
theorem q_gw5baababab : q_wo [([(5, 1)], 2147483649, 4294967295), ([(4, 1)], 2147483648, 2147483663), ([(3, 1)], 2147483648, 2147483657), ([(2, 1)], 2147483648, 2147483648), ([(9, 1)], 2147483653, 2147483653), ([(0, 1)], 2147483656, 2147483656)] := q_cut [(5, 1)] 2147483652 2147483649 4294967295 (by decide +kernel) q_gw5baabababa q_gw5baabababb
theorem q_gw5baababa : q_wo [([(4, 1)], 2147483648, 2147483663), ([(3, 1)], 2147483648, 2147483657), ([(2, 1)], 2147483648, 2147483648), ([(9, 1)], 2147483653, 2147483653), ([(0, 1)], 2147483656, 2147483656)] := q_cut [(5, 1)] 2147483648 0 4294967295 (by decide +kernel) q_gw5baababaa q_gw5baababab
theorem q_gw5baababbbabababb : q_wo [([(5, 1)], 2147483651, 2147483652), ([(7, 1)], 2147482649, 2147484647), ([(6, 1)], 2147483648, 2147484647), ([(4, 1)], 2147483664, 4294967295), ([(3, 1)], 2147483648, 2147483657), ([(2, 1)], 2147483648, 2147483648), ([(9, 1)], 2147483653, 2147483653), ([(0, 1)], 2147483656, 2147483656)] := q_cut [(5, 1)] 2147483651 2147483651 2147483652 (by decide +kernel) q_gw5baababbbabababba q_gw5baababbbabababbb
theorem q_gw5baababbbababab : q_wo [([(5, 1)], 2147483650, 2147483652), ([(7, 1)], 2147482649, 2147484647), ([(6, 1)], 2147483648, 2147484647), ([(4, 1)], 2147483664, 4294967295), ([(3, 1)], 2147483648, 2147483657), ([(2, 1)], 2147483648, 2147483648), ([(9, 1)], 2147483653, 2147483653), ([(0, 1)], 2147483656, 2147483656)] := q_cut [(5, 1)] 2147483650 2147483650 2147483652 (by decide +kernel) q_gw5baababbbabababa q_gw5baababbbabababb
theorem q_gw5baababbbababa : q_wo [([(7, 1)], 2147482649, 2147484647), ([(6, 1)], 2147483648, 2147484647), ([(5, 1)], 2147483649, 2147483652), ([(4, 1)], 2147483664, 4294967295), ([(3, 1)], 2147483648, 2147483657), ([(2, 1)], 2147483648, 2147483648), ([(9, 1)], 2147483653, 2147483653), ([(0, 1)], 2147483656, 2147483656)] := q_cut [(5, 1)] 2147483649 2147483649 2147483652 (by decide +kernel) q_gw5baababbbababaa q_gw5baababbbababab
theorem q_gw5baababbbabab : q_wo [([(7, 1)], 2147482649, 4294967295), ([(6, 1)], 2147483648, 2147484647), ([(5, 1)], 2147483649, 2147483652), ([(4, 1)], 2147483664, 4294967295), ([(3, 1)], 2147483648, 2147483657), ([(2, 1)], 2147483648, 2147483648), ([(9, 1)], 2147483653, 2147483653), ([(0, 1)], 2147483656, 2147483656)] := q_cut [(7, 1)] 2147484647 2147482649 4294967295 (by decide +kernel) q_gw5baababbbababa q_gw5baababbbababb
theorem q_gw5baababbbaba : q_wo [([(6, 1)], 2147483648, 2147484647), ([(5, 1)], 2147483649, 2147483652), ([(4, 1)], 2147483664, 4294967295), ([(3, 1)], 2147483648, 2147483657), ([(2, 1)], 2147483648, 2147483648), ([(9, 1)], 2147483653, 2147483653), ([(0, 1)], 2147483656, 2147483656)] := q_cut [(7, 1)] 2147482648 0 4294967295 (by decide +kernel) q_gw5baababbbabaa q_gw5baababbbabab
theorem q_gw5baababbbab : q_wo [([(6, 1)], 2147483648, 4294967295), ([(5, 1)], 2147483649, 2147483652), ([(4, 1)], 2147483664, 4294967295), ([(3, 1)], 2147483648, 2147483657), ([(2, 1)], 2147483648, 2147483648), ([(9, 1)], 2147483653, 2147483653), ([(0, 1)], 2147483656, 2147483656)] := q_cut [(6, 1)] 2147484647 2147483648 4294967295 (by decide +kernel) q_gw5baababbbaba q_gw5baababbbabb
theorem q_gw5baababbba : q_wo [([(5, 1)], 2147483649, 2147483652), ([(4, 1)], 2147483664, 4294967295), ([(3, 1)], 2147483648, 2147483657), ([(2, 1)], 2147483648, 2147483648), ([(9, 1)], 2147483653, 2147483653), ([(0, 1)], 2147483656, 2147483656)] := q_cut [(6, 1)] 2147483647 0 4294967295 (by decide +kernel) q_gw5baababbbaa q_gw5baababbbab
theorem q_gw5baababbb : q_wo [([(5, 1)], 2147483649, 4294967295), ([(4, 1)], 2147483664, 4294967295), ([(3, 1)], 2147483648, 2147483657), ([(2, 1)], 2147483648, 2147483648), ([(9, 1)], 2147483653, 2147483653), ([(0, 1)], 2147483656, 2147483656)] := q_cut [(5, 1)] 2147483652 2147483649 4294967295 (by decide +kernel) q_gw5baababbba q_gw5baababbbb
theorem q_gw5baababb : q_wo [([(4, 1)], 2147483664, 4294967295), ([(3, 1)], 2147483648, 2147483657), ([(2, 1)], 2147483648, 2147483648), ([(9, 1)], 2147483653, 2147483653), ([(0, 1)], 2147483656, 2147483656)] := q_cut [(5, 1)] 2147483648 0 4294967295 (by decide +kernel) q_gw5baababba q_gw5baababbb
theorem q_gw5baabab : q_wo [([(4, 1)], 2147483648, 4294967295), ([(3, 1)], 2147483648, 2147483657), ([(2, 1)], 2147483648, 2147483648), ([(9, 1)], 2147483653, 2147483653), ([(0, 1)], 2147483656, 2147483656)] := q_cut [(4, 1)] 2147483663 2147483648 4294967295 (by decide +kernel) q_gw5baababa q_gw5baababb
theorem q_gw5baaba : q_wo [([(3, 1)], 2147483648, 2147483657), ([(2, 1)], 2147483648, 2147483648), ([(9, 1)], 2147483653, 2147483653), ([(0, 1)], 2147483656, 2147483656)] := q_cut [(4, 1)] 2147483647 0 4294967295 (by decide +kernel) q_gw5baabaa q_gw5baabab
theorem q_gw5baabbbabababb : q_wo [([(5, 1)], 2147483651, 2147483652), ([(7, 1)], 2147482649, 2147484647), ([(6, 1)], 2147483648, 2147484647), ([(3, 1)], 2147483658, 4294967295), ([(2, 1)], 2147483648, 2147483648), ([(9, 1)], 2147483653, 2147483653), ([(0, 1)], 2147483656, 2147483656)] := q_cut [(5, 1)] 2147483651 2147483651 2147483652 (by decide +kernel) q_gw5baabbbabababba q_gw5baabbbabababbb
theorem q_gw5baabbbababab : q_wo [([(5, 1)], 2147483650, 2147483652), ([(7, 1)], 2147482649, 2147484647), ([(6, 1)], 2147483648, 2147484647), ([(3, 1)], 2147483658, 4294967295), ([(2, 1)], 2147483648, 2147483648), ([(9, 1)], 2147483653, 2147483653), ([(0, 1)], 2147483656, 2147483656)] := q_cut [(5, 1)] 2147483650 2147483650 2147483652 (by decide +kernel) q_gw5baabbbabababa q_gw5baabbbabababb
theorem q_gw5baabbbababa : q_wo [([(7, 1)], 2147482649, 2147484647), ([(6, 1)], 2147483648, 2147484647), ([(5, 1)], 2147483649, 2147483652), ([(3, 1)], 2147483658, 4294967295), ([(2, 1)], 2147483648, 2147483648), ([(9, 1)], 2147483653, 2147483653), ([(0, 1)], 2147483656, 2147483656)] := q_cut [(5, 1)] 2147483649 2147483649 2147483652 (by decide +kernel) q_gw5baabbbababaa q_gw5baabbbababab
theorem q_gw5baabbbabab : q_wo [([(7, 1)], 2147482649, 4294967295), ([(6, 1)], 2147483648, 2147484647), ([(5, 1)], 2147483649, 2147483652), ([(3, 1)], 2147483658, 4294967295), ([(2, 1)], 2147483648, 2147483648), ([(9, 1)], 2147483653, 2147483653), ([(0, 1)], 2147483656, 2147483656)] := q_cut [(7, 1)] 2147484647 2147482649 4294967295 (by decide +kernel) q_gw5baabbbababa q_gw5baabbbababb
theorem q_gw5baabbbaba : q_wo [([(6, 1)], 2147483648, 2147484647), ([(5, 1)], 2147483649, 2147483652), ([(3, 1)], 2147483658, 4294967295), ([(2, 1)], 2147483648, 2147483648), ([(9, 1)], 2147483653, 2147483653), ([(0, 1)], 2147483656, 2147483656)] := q_cut [(7, 1)] 2147482648 0 4294967295 (by decide +kernel) q_gw5baabbbabaa q_gw5baabbbabab
theorem q_gw5baabbbab : q_wo [([(6, 1)], 2147483648, 4294967295), ([(5, 1)], 2147483649, 2147483652), ([(3, 1)], 2147483658, 4294967295), ([(2, 1)], 2147483648, 2147483648), ([(9, 1)], 2147483653, 2147483653), ([(0, 1)], 2147483656, 2147483656)] := q_cut [(6, 1)] 2147484647 2147483648 4294967295 (by decide +kernel) q_gw5baabbbaba q_gw5baabbbabb
theorem q_gw5baabbba : q_wo [([(5, 1)], 2147483649, 2147483652), ([(3, 1)], 2147483658, 4294967295), ([(2, 1)], 2147483648, 2147483648), ([(9, 1)], 2147483653, 2147483653), ([(0, 1)], 2147483656, 2147483656)] := q_cut [(6, 1)] 2147483647 0 4294967295 (by decide +kernel) q_gw5baabbbaa q_gw5baabbbab
theorem q_gw5baabbb : q_wo [([(5, 1)], 2147483649, 4294967295), ([(3, 1)], 2147483658, 4294967295), ([(2, 1)], 2147483648, 2147483648), ([(9, 1)], 2147483653, 2147483653), ([(0, 1)], 2147483656, 2147483656)] := q_cut [(5, 1)] 2147483652 2147483649 4294967295 (by decide +kernel) q_gw5baabbba q_gw5baabbbb
theorem q_gw5baabb : q_wo [([(3, 1)], 2147483658, 4294967295), ([(2, 1)], 2147483648, 2147483648), ([(9, 1)], 2147483653, 2147483653), ([(0, 1)], 2147483656, 2147483656)] := q_cut [(5, 1)] 2147483648 0 4294967295 (by decide +kernel) q_gw5baabba q_gw5baabbb
theorem q_gw5baab : q_wo [([(3, 1)], 2147483648, 4294967295), ([(2, 1)], 2147483648, 2147483648), ([(9, 1)], 2147483653, 2147483653), ([(0, 1)], 2147483656, 2147483656)] := q_cut [(3, 1)] 2147483657 2147483648 4294967295 (by decide +kernel) q_gw5baaba q_gw5baabb
theorem q_gw5baa : q_wo [([(2, 1)], 2147483648, 2147483648), ([(9, 1)], 2147483653, 2147483653), ([(0, 1)], 2147483656, 2147483656)] := q_cut [(3, 1)] 2147483647 0 4294967295 (by decide +kernel) q_gw5baaa q_gw5baab
theorem q_gw5babababababb : q_wo [([(5, 1)], 2147483651, 2147483652), ([(7, 1)], 2147482649, 2147484647), ([(6, 1)], 2147483648, 2147484647), ([(2, 1)], 2147483649, 2147483649), ([(9, 1)], 2147483653, 2147483653), ([(0, 1)], 2147483656, 2147483656)] := q_cut [(5, 1)] 2147483651 2147483651 2147483652 (by decide +kernel) q_gw5babababababba q_gw5babababababbb
theorem q_gw5bababababab : q_wo [([(5, 1)], 2147483650, 2147483652), ([(7, 1)], 2147482649, 2147484647), ([(6, 1)], 2147483648, 2147484647), ([(2, 1)], 2147483649, 2147483649), ([(9, 1)], 2147483653, 2147483653), ([(0, 1)], 2147483656, 2147483656)] := q_cut [(5, 1)] 2147483650 2147483650 2147483652 (by decide +kernel) q_gw5babababababa q_gw5babababababb
theorem q_gw5bababababa : q_wo [([(7, 1)], 2147482649, 2147484647), ([(6, 1)], 2147483648, 2147484647), ([(5, 1)], 2147483649, 2147483652), ([(2, 1)], 2147483649, 2147483649), ([(9, 1)], 2147483653, 2147483653), ([(0, 1)], 2147483656, 2147483656)] := q_cut [(5, 1)] 2147483649 2147483649 2147483652 (by decide +kernel) q_gw5bababababaa q_gw5bababababab
theorem q_gw5babababab : q_wo [([(7, 1)], 2147482649, 4294967295), ([(6, 1)], 2147483648, 2147484647), ([(5, 1)], 2147483649, 2147483652), ([(2, 1)], 2147483649, 2147483649), ([(9, 1)], 2147483653, 2147483653), ([(0, 1)], 2147483656, 2147483656)] := q_cut [(7, 1)] 2147484647 2147482649 4294967295 (by decide +kernel) q_gw5bababababa q_gw5bababababb
theorem q_gw5babababa : q_wo [([(6, 1)], 2147483648, 2147484647), ([(5, 1)], 2147483649, 2147483652), ([(2, 1)], 2147483649, 2147483649), ([(9, 1)], 2147483653, 2147483653), ([(0, 1)], 2147483656, 2147483656)] := q_cut [(7, 1)] 2147482648 0 4294967295 (by decide +kernel) q_gw5babababaa q_gw5babababab
theorem q_gw5bababab : q_wo [([(6, 1)], 2147483648, 4294967295), ([(5, 1)], 2147483649, 2147483652), ([(2, 1)], 2147483649, 2147483649), ([(9, 1)], 2147483653, 2147483653), ([(0, 1)], 2147483656, 2147483656)] := q_cut [(6, 1)] 2147484647 2147483648 4294967295 (by decide +kernel) q_gw5babababa q_gw5babababb
theorem q_gw5bababa : q_wo [([(5, 1)], 2147483649, 2147483652), ([(2, 1)], 2147483649, 2147483649), ([(9, 1)], 2147483653, 2147483653), ([(0, 1)], 2147483656, 2147483656)] := q_cut [(6, 1)] 2147483647 0 4294967295 (by decide +kernel) q_gw5bababaa q_gw5bababab
theorem q_gw5babab : q_wo [([(5, 1)], 2147483649, 4294967295), ([(2, 1)], 2147483649, 2147483649), ([(9, 1)], 2147483653, 2147483653), ([(0, 1)], 2147483656, 2147483656)] := q_cut [(5, 1)] 2147483652 2147483649 4294967295 (by decide +kernel) q_gw5bababa q_gw5bababb
theorem q_gw5baba : q_wo [([(2, 1)], 2147483649, 2147483649), ([(9, 1)], 2147483653, 2147483653), ([(0, 1)], 2147483656, 2147483656)] := q_cut [(5, 1)] 2147483648 0 4294967295 (by decide +kernel) q_gw5babaa q_gw5babab
theorem q_gw5babbababababb : q_wo [([(5, 1)], 2147483651, 2147483652), ([(7, 1)], 2147482649, 2147484647), ([(6, 1)], 2147483648, 2147484647), ([(2, 1)], 2147483650, 2147483650), ([(9, 1)], 2147483653, 2147483653), ([(0, 1)], 2147483656, 2147483656)] := q_cut [(5, 1)] 2147483651 2147483651 2147483652 (by decide +kernel) q_gw5babbababababba q_gw5babbababababbb
theorem q_gw5babbabababab : q_wo [([(5, 1)], 2147483650, 2147483652), ([(7, 1)], 2147482649, 2147484647), ([(6, 1)], 2147483648, 2147484647), ([(2, 1)], 2147483650, 2147483650), ([(9, 1)], 2147483653, 2147483653), ([(0, 1)], 2147483656, 2147483656)] := q_cut [(5, 1)] 2147483650 2147483650 2147483652 (by decide +kernel) q_gw5babbababababa q_gw5babbababababb
theorem q_gw5babbabababa : q_wo [([(7, 1)], 2147482649, 2147484647), ([(6, 1)], 2147483648, 2147484647), ([(5, 1)], 2147483649, 2147483652), ([(2, 1)], 2147483650, 2147483650), ([(9, 1)], 2147483653, 2147483653), ([(0, 1)], 2147483656, 2147483656)] := q_cut [(5, 1)] 2147483649 2147483649 2147483652 (by decide +kernel) q_gw5babbabababaa q_gw5babbabababab
theorem q_gw5babbababab : q_wo [([(7, 1)], 2147482649, 4294967295), ([(6, 1)], 2147483648, 2147484647), ([(5, 1)], 2147483649, 2147483652), ([(2, 1)], 2147483650, 2147483650), ([(9, 1)], 2147483653, 2147483653), ([(0, 1)], 2147483656, 2147483656)] := q_cut [(7, 1)] 2147484647 2147482649 4294967295 (by decide +kernel) q_gw5babbabababa q_gw5babbabababb
theorem q_gw5babbababa : q_wo [([(6, 1)], 2147483648, 2147484647), ([(5, 1)], 2147483649, 2147483652), ([(2, 1)], 2147483650, 2147483650), ([(9, 1)], 2147483653, 2147483653), ([(0, 1)], 2147483656, 2147483656)] := q_cut [(7, 1)] 2147482648 0 4294967295 (by decide +kernel) q_gw5babbababaa q_gw5babbababab
theorem q_gw5babbabab : q_wo [([(6, 1)], 2147483648, 4294967295), ([(5, 1)], 2147483649, 2147483652), ([(2, 1)], 2147483650, 2147483650), ([(9, 1)], 2147483653, 2147483653), ([(0, 1)], 2147483656, 2147483656)] := q_cut [(6, 1)] 2147484647 2147483648 4294967295 (by decide +kernel) q_gw5babbababa q_gw5babbababb
theorem q_gw5babbaba : q_wo [([(5, 1)], 2147483649, 2147483652), ([(2, 1)], 2147483650, 2147483650), ([(9, 1)], 2147483653, 2147483653), ([(0, 1)], 2147483656, 2147483656)] := q_cut [(6, 1)] 2147483647 0 4294967295 (by decide +kernel) q_gw5babbabaa q_gw5babbabab
theorem q_gw5babbab : q_wo [([(5, 1)], 2147483649, 4294967295), ([(2, 1)], 2147483650, 2147483650), ([(9, 1)], 2147483653, 2147483653), ([(0, 1)], 2147483656, 2147483656)] := q_cut [(5, 1)] 2147483652 2147483649 4294967295 (by decide +kernel) q_gw5babbaba q_gw5babbabb
theorem q_gw5babba : q_wo [([(2, 1)], 2147483650, 2147483650), ([(9, 1)], 2147483653, 2147483653), ([(0, 1)], 2147483656, 2147483656)] := q_cut [(5, 1)] 2147483648 0 4294967295 (by decide +kernel) q_gw5babbaa q_gw5babbab
theorem q_gw5babbbababababb : q_wo [([(5, 1)], 2147483651, 2147483652), ([(7, 1)], 2147482649, 2147484647), ([(6, 1)], 2147483648, 2147484647), ([(2, 1)], 2147483651, 2147483651), ([(9, 1)], 2147483653, 2147483653), ([(0, 1)], 2147483656, 2147483656)] := q_cut [(5, 1)] 2147483651 2147483651 2147483652 (by decide +kernel) q_gw5babbbababababba q_gw5babbbababababbb
theorem q_gw5babbbabababab : q_wo [([(5, 1)], 2147483650, 2147483652), ([(7, 1)], 2147482649, 2147484647), ([(6, 1)], 2147483648, 2147484647), ([(2, 1)], 2147483651, 2147483651), ([(9, 1)], 2147483653, 2147483653), ([(0, 1)], 2147483656, 2147483656)] := q_cut [(5, 1)] 2147483650 2147483650 2147483652 (by decide +kernel) q_gw5babbbababababa q_gw5babbbababababb
theorem q_gw5babbbabababa : q_wo [([(7, 1)], 2147482649, 2147484647), ([(6, 1)], 2147483648, 2147484647), ([(5, 1)], 2147483649, 2147483652), ([(2, 1)], 2147483651, 2147483651), ([(9, 1)], 2147483653, 2147483653), ([(0, 1)], 2147483656, 2147483656)] := q_cut [(5, 1)] 2147483649 2147483649 2147483652 (by decide +kernel) q_gw5babbbabababaa q_gw5babbbabababab
theorem q_gw5babbbababab : q_wo [([(7, 1)], 2147482649, 4294967295), ([(6, 1)], 2147483648, 2147484647), ([(5, 1)], 2147483649, 2147483652), ([(2, 1)], 2147483651, 2147483651), ([(9, 1)], 2147483653, 2147483653), ([(0, 1)], 2147483656, 2147483656)] := q_cut [(7, 1)] 2147484647 2147482649 4294967295 (by decide +kernel) q_gw5babbbabababa q_gw5babbbabababb
theorem q_gw5babbbababa : q_wo [([(6, 1)], 2147483648, 2147484647), ([(5, 1)], 2147483649, 2147483652), ([(2, 1)], 2147483651, 2147483651), ([(9, 1)], 2147483653, 2147483653), ([(0, 1)], 2147483656, 2147483656)] := q_cut [(7, 1)] 2147482648 0 4294967295 (by decide +kernel) q_gw5babbbababaa q_gw5babbbababab
theorem q_gw5babbbabab : q_wo [([(6, 1)], 2147483648, 4294967295), ([(5, 1)], 2147483649, 2147483652), ([(2, 1)], 2147483651, 2147483651), ([(9, 1)], 2147483653, 2147483653), ([(0, 1)], 2147483656, 2147483656)] := q_cut [(6, 1)] 2147484647 2147483648 4294967295 (by decide +kernel) q_gw5babbbababa q_gw5babbbababb
theorem q_gw5babbbaba : q_wo [([(5, 1)], 2147483649, 2147483652), ([(2, 1)], 2147483651, 2147483651), ([(9, 1)], 2147483653, 2147483653), ([(0, 1)], 2147483656, 2147483656)] := q_cut [(6, 1)] 2147483647 0 4294967295 (by decide +kernel) q_gw5babbbabaa q_gw5babbbabab
theorem q_gw5babbbab : q_wo [([(5, 1)], 2147483649, 4294967295), ([(2, 1)], 2147483651, 2147483651), ([(9, 1)], 2147483653, 2147483653), ([(0, 1)], 2147483656, 2147483656)] := q_cut [(5, 1)] 2147483652 2147483649 4294967295 (by decide +kernel) q_gw5babbbaba q_gw5babbbabb
theorem q_gw5babbba : q_wo [([(2, 1)], 2147483651, 2147483651), ([(9, 1)], 2147483653, 2147483653), ([(0, 1)], 2147483656, 2147483656)] := q_cut [(5, 1)] 2147483648 0 4294967295 (by decide +kernel) q_gw5babbbaa q_gw5babbbab
theorem q_gw5babbbbababababb : q_wo [([(5, 1)], 2147483651, 2147483652), ([(7, 1)], 2147482649, 2147484647), ([(6, 1)], 2147483648, 2147484647), ([(2, 1)], 2147483652, 2147483652), ([(9, 1)], 2147483653, 2147483653), ([(0, 1)], 2147483656, 2147483656)] := q_cut [(5, 1)] 2147483651 2147483651 2147483652 (by decide +kernel) q_gw5babbbbababababba q_gw5babbbbababababbb
theorem q_gw5babbbbabababab : q_wo [([(5, 1)], 2147483650, 2147483652), ([(7, 1)], 2147482649, 2147484647), ([(6, 1)], 2147483648, 2147484647), ([(2, 1)], 2147483652, 2147483652), ([(9, 1)], 2147483653, 2147483653), ([(0, 1)], 2147483656, 2147483656)] := q_cut [(5, 1)] 2147483650 2147483650 2147483652 (by decide +kernel) q_gw5babbbbababababa q_gw5babbbbababababb
theorem q_gw5babbbbabababa : q_wo [([(7, 1)], 2147482649, 2147484647), ([(6, 1)], 2147483648, 2147484647), ([(5, 1)], 2147483649, 2147483652), ([(2, 1)], 2147483652, 2147483652), ([(9, 1)], 2147483653, 2147483653), ([(0, 1)], 2147483656, 2147483656)] := q_cut [(5, 1)] 2147483649 2147483649 2147483652 (by decide +kernel) q_gw5babbbbabababaa q_gw5babbbbabababab
theorem q_gw5babbbbababab : q_wo [([(7, 1)], 2147482649, 4294967295), ([(6, 1)], 2147483648, 2147484647), ([(5, 1)], 2147483649, 2147483652), ([(2, 1)], 2147483652, 2147483652), ([(9, 1)], 2147483653, 2147483653), ([(0, 1)], 2147483656, 2147483656)] := q_cut [(7, 1)] 2147484647 2147482649 4294967295 (by decide +kernel) q_gw5babbbbabababa q_gw5babbbbabababb
theorem q_gw5babbbbababa : q_wo [([(6, 1)], 2147483648, 2147484647), ([(5, 1)], 2147483649, 2147483652), ([(2, 1)], 2147483652, 2147483652), ([(9, 1)], 2147483653, 2147483653), ([(0, 1)], 2147483656, 2147483656)] := q_cut [(7, 1)] 2147482648 0 4294967295 (by decide +kernel) q_gw5babbbbababaa q_gw5babbbbababab
theorem q_gw5babbbbabab : q_wo [([(6, 1)], 2147483648, 4294967295), ([(5, 1)], 2147483649, 2147483652), ([(2, 1)], 2147483652, 2147483652), ([(9, 1)], 2147483653, 2147483653), ([(0, 1)], 2147483656, 2147483656)] := q_cut [(6, 1)] 2147484647 2147483648 4294967295 (by decide +kernel) q_gw5babbbbababa q_gw5babbbbababb
theorem q_gw5babbbbaba : q_wo [([(5, 1)], 2147483649, 2147483652), ([(2, 1)], 2147483652, 2147483652), ([(9, 1)], 2147483653, 2147483653), ([(0, 1)], 2147483656, 2147483656)] := q_cut [(6, 1)] 2147483647 0 4294967295 (by decide +kernel) q_gw5babbbbabaa q_gw5babbbbabab
theorem q_gw5babbbbab : q_wo [([(5, 1)], 2147483649, 4294967295), ([(2, 1)], 2147483652, 2147483652), ([(9, 1)], 2147483653, 2147483653), ([(0, 1)], 2147483656, 2147483656)] := q_cut [(5, 1)] 2147483652 2147483649 4294967295 (by decide +kernel) q_gw5babbbbaba q_gw5babbbbabb
theorem q_gw5babbbba : q_wo [([(2, 1)], 2147483652, 2147483652), ([(9, 1)], 2147483653, 2147483653), ([(0, 1)], 2147483656, 2147483656)] := q_cut [(5, 1)] 2147483648 0 4294967295 (by decide +kernel) q_gw5babbbbaa q_gw5babbbbab
theorem q_gw5babbbbbbabababb : q_wo [([(5, 1)], 2147483651, 2147483652), ([(7, 1)], 2147482649, 2147484647), ([(6, 1)], 2147483648, 2147484647), ([(2, 1)], 2147483653, 2147483653), ([(9, 1)], 2147483653, 2147483653), ([(0, 1)], 2147483656, 2147483656)] := q_cut [(5, 1)] 2147483651 2147483651 2147483652 (by decide +kernel) q_gw5babbbbbbabababba q_gw5babbbbbbabababbb
theorem q_gw5babbbbbbababab : q_wo [([(5, 1)], 2147483650, 2147483652), ([(7, 1)], 2147482649, 2147484647), ([(6, 1)], 2147483648, 2147484647), ([(2, 1)], 2147483653, 2147483653), ([(9, 1)], 2147483653, 2147483653), ([(0, 1)], 2147483656, 2147483656)] := q_cut [(5, 1)] 2147483650 2147483650 2147483652 (by decide +kernel) q_gw5babbbbbbabababa q_gw5babbbbbbabababb
theorem q_gw5babbbbbbababa : q_wo [([(7, 1)], 2147482649, 2147484647), ([(6, 1)], 2147483648, 2147484647), ([(5, 1)], 2147483649, 2147483652), ([(2, 1)], 2147483653, 2147483653), ([(9, 1)], 2147483653, 2147483653), ([(0, 1)], 2147483656, 2147483656)] := q_cut [(5, 1)] 2147483649 2147483649 2147483652 (by decide +kernel) q_gw5babbbbbbababaa q_gw5babbbbbbababab
theorem q_gw5babbbbbbabab : q_wo [([(7, 1)], 2147482649, 4294967295), ([(6, 1)], 2147483648, 2147484647), ([(5, 1)], 2147483649, 2147483652), ([(2, 1)], 2147483653, 2147483653), ([(9, 1)], 2147483653, 2147483653), ([(0, 1)], 2147483656, 2147483656)] := q_cut [(7, 1)] 2147484647 2147482649 4294967295 (by decide +kernel) q_gw5babbbbbbababa q_gw5babbbbbbababb
theorem q_gw5babbbbbbaba : q_wo [([(6, 1)], 2147483648, 2147484647), ([(5, 1)], 2147483649, 2147483652), ([(2, 1)], 2147483653, 2147483653), ([(9, 1)], 2147483653, 2147483653), ([(0, 1)], 2147483656, 2147483656)] := q_cut [(7, 1)] 2147482648 0 4294967295 (by decide +kernel) q_gw5babbbbbbabaa q_gw5babbbbbbabab
theorem q_gw5babbbbbbab : q_wo [([(6, 1)], 2147483648, 4294967295), ([(5, 1)], 2147483649, 2147483652), ([(2, 1)], 2147483653, 2147483653), ([(9, 1)], 2147483653, 2147483653), ([(0, 1)], 2147483656, 2147483656)] := q_cut [(6, 1)] 2147484647 2147483648 4294967295 (by decide +kernel) q_gw5babbbbbbaba q_gw5babbbbbbabb
theorem q_gw5babbbbbba : q_wo [([(5, 1)], 2147483649, 2147483652), ([(2, 1)], 2147483653, 2147483653), ([(9, 1)], 2147483653, 2147483653), ([(0, 1)], 2147483656, 2147483656)] := q_cut [(6, 1)] 2147483647 0 4294967295 (by decide +kernel) q_gw5babbbbbbaa q_gw5babbbbbbab
theorem q_gw5babbbbbb : q_wo [([(5, 1)], 2147483649, 4294967295), ([(2, 1)], 2147483653, 2147483653), ([(9, 1)], 2147483653, 2147483653), ([(0, 1)], 2147483656, 2147483656)] := q_cut [(5, 1)] 2147483652 2147483649 4294967295 (by decide +kernel) q_gw5babbbbbba q_gw5babbbbbbb
theorem q_gw5babbbbb : q_wo [([(2, 1)], 2147483653, 2147483653), ([(9, 1)], 2147483653, 2147483653), ([(0, 1)], 2147483656, 2147483656)] := q_cut [(5, 1)] 2147483648 0 4294967295 (by decide +kernel) q_gw5babbbbba q_gw5babbbbbb
theorem q_gw5babbbb : q_wo [([(2, 1)], 2147483652, 2147483653), ([(9, 1)], 2147483653, 2147483653), ([(0, 1)], 2147483656, 2147483656)] := q_cut [(2, 1)] 2147483652 2147483652 2147483653 (by decide +kernel) q_gw5babbbba q_gw5babbbbb
theorem q_gw5babbb : q_wo [([(2, 1)], 2147483651, 2147483653), ([(9, 1)], 2147483653, 2147483653), ([(0, 1)], 2147483656, 2147483656)] := q_cut [(2, 1)] 2147483651 2147483651 2147483653 (by decide +kernel) q_gw5babbba q_gw5babbbb
theorem q_gw5babb : q_wo [([(2, 1)], 2147483650, 2147483653), ([(9, 1)], 2147483653, 2147483653), ([(0, 1)], 2147483656, 2147483656)] := q_cut [(2, 1)] 2147483650 2147483650 2147483653 (by decide +kernel) q_gw5babba q_gw5babbb
theorem q_gw5bab : q_wo [([(2, 1)], 2147483649, 2147483653), ([(9, 1)], 2147483653, 2147483653), ([(0, 1)], 2147483656, 2147483656)] := q_cut [(2, 1)] 2147483649 2147483649 2147483653 (by decide +kernel) q_gw5baba q_gw5babb
theorem q_gw5ba : q_wo [([(2, 1)], 2147483648, 2147483653), ([(9, 1)], 2147483653, 2147483653), ([(0, 1)], 2147483656, 2147483656)] := q_cut [(2, 1)] 2147483648 2147483648 2147483653 (by decide +kernel) q_gw5baa q_gw5bab
theorem q_gw5bbbabababb : q_wo [([(5, 1)], 2147483651, 2147483652), ([(7, 1)], 2147482649, 2147484647), ([(6, 1)], 2147483648, 2147484647), ([(2, 1)], 2147483654, 4294967295), ([(9, 1)], 2147483653, 2147483653), ([(0, 1)], 2147483656, 2147483656)] := q_cut [(5, 1)] 2147483651 2147483651 2147483652 (by decide +kernel) q_gw5bbbabababba q_gw5bbbabababbb
theorem q_gw5bbbababab : q_wo [([(5, 1)], 2147483650, 2147483652), ([(7, 1)], 2147482649, 2147484647), ([(6, 1)], 2147483648, 2147484647), ([(2, 1)], 2147483654, 4294967295), ([(9, 1)], 2147483653, 2147483653), ([(0, 1)], 2147483656, 2147483656)] := q_cut [(5, 1)] 2147483650 2147483650 2147483652 (by decide +kernel) q_gw5bbbabababa q_gw5bbbabababb
theorem q_gw5bbbababa : q_wo [([(7, 1)], 2147482649, 2147484647), ([(6, 1)], 2147483648, 2147484647), ([(5, 1)], 2147483649, 2147483652), ([(2, 1)], 2147483654, 4294967295), ([(9, 1)], 2147483653, 2147483653), ([(0, 1)], 2147483656, 2147483656)] := q_cut [(5, 1)] 2147483649 2147483649 2147483652 (by decide +kernel) q_gw5bbbababaa q_gw5bbbababab
theorem q_gw5bbbabab : q_wo [([(7, 1)], 2147482649, 4294967295), ([(6, 1)], 2147483648, 2147484647), ([(5, 1)], 2147483649, 2147483652), ([(2, 1)], 2147483654, 4294967295), ([(9, 1)], 2147483653, 2147483653), ([(0, 1)], 2147483656, 2147483656)] := q_cut [(7, 1)] 2147484647 2147482649 4294967295 (by decide +kernel) q_gw5bbbababa q_gw5bbbababb
theorem q_gw5bbbaba : q_wo [([(6, 1)], 2147483648, 2147484647), ([(5, 1)], 2147483649, 2147483652), ([(2, 1)], 2147483654, 4294967295), ([(9, 1)], 2147483653, 2147483653), ([(0, 1)], 2147483656, 2147483656)] := q_cut [(7, 1)] 2147482648 0 4294967295 (by decide +kernel) q_gw5bbbabaa q_gw5bbbabab
theorem q_gw5bbbab : q_wo [([(6, 1)], 2147483648, 4294967295), ([(5, 1)], 2147483649, 2147483652), ([(2, 1)], 2147483654, 4294967295), ([(9, 1)], 2147483653, 2147483653), ([(0, 1)], 2147483656, 2147483656)] := q_cut [(6, 1)] 2147484647 2147483648 4294967295 (by decide +kernel) q_gw5bbbaba q_gw5bbbabb
theorem q_gw5bbba : q_wo [([(5, 1)], 2147483649, 2147483652), ([(2, 1)], 2147483654, 4294967295), ([(9, 1)], 2147483653, 2147483653), ([(0, 1)], 2147483656, 2147483656)] := q_cut [(6, 1)] 2147483647 0 4294967295 (by decide +kernel) q_gw5bbbaa q_gw5bbbab
theorem q_gw5bbb : q_wo [([(5, 1)], 2147483649, 4294967295), ([(2, 1)], 2147483654, 4294967295), ([(9, 1)], 2147483653, 2147483653), ([(0, 1)], 2147483656, 2147483656)] := q_cut [(5, 1)] 2147483652 2147483649 4294967295 (by decide +kernel) q_gw5bbba q_gw5bbbb
theorem q_gw5bb : q_wo [([(2, 1)], 2147483654, 4294967295), ([(9, 1)], 2147483653, 2147483653), ([(0, 1)], 2147483656, 2147483656)] := q_cut [(5, 1)] 2147483648 0 4294967295 (by decide +kernel) q_gw5bba q_gw5bbb
theorem q_gw5b : q_wo [([(2, 1)], 2147483648, 4294967295), ([(9, 1)], 2147483653, 2147483653), ([(0, 1)], 2147483656, 2147483656)] := q_cut [(2, 1)] 2147483653 2147483648 4294967295 (by decide +kernel) q_gw5ba q_gw5bb
theorem q_gw5 : q_wo [([(9, 1)], 2147483653, 2147483653), ([(0, 1)], 2147483656, 2147483656)] := q_cut [(2, 1)] 2147483647 0 4294967295 (by decide +kernel) q_gw5a q_gw5b
theorem q_gw7baababababbbbbbbbbbbbbb : q_wo [([(5, 1)], 2147483663, 2147483664), ([(4, 1)], 2147483648, 2147483663), ([(3, 1)], 2147483648, 2147483657), ([(2, 1)], 2147483648, 2147483648), ([(9, 1)], 2147483655, 2147483655), ([(0, 1)], 2147483656, 2147483656)] := q_cut [(5, 1)] 2147483663 2147483663 2147483664 (by decide +kernel) q_gw7baababababbbbbbbbbbbbbba q_gw7baababababbbbbbbbbbbbbbb
theorem q_gw7baababababbbbbbbbbbbbb : q_wo [([(5, 1)], 2147483662, 2147483664), ([(4, 1)], 2147483648, 2147483663), ([(3, 1)], 2147483648, 2147483657), ([(2, 1)], 2147483648, 2147483648), ([(9, 1)], 2147483655, 2147483655), ([(0, 1)], 2147483656, 2147483656)] := q_cut [(5, 1)] 2147483662 2147483662 2147483664 (by decide +kernel) q_gw7baababababbbbbbbbbbbbba q_gw7baababababbbbbbbbbbbbbb
theorem q_gw7baababababbbbbbbbbbbb : q_wo [([(5, 1)], 2147483661, 2147483664), ([(4, 1)], 2147483648, 2147483663), ([(3, 1)], 2147483648, 2147483657), ([(2, 1)], 2147483648, 2147483648), ([(9, 1)], 2147483655, 2147483655), ([(0, 1)], 2147483656, 2147483656)] := q_cut [(5, 1)] 2147483661 2147483661 2147483664 (by decide +kernel) q_gw7baababababbbbbbbbbbbba q_gw7baababababbbbbbbbbbbbb
theorem q_gw7baababababbbbbbbbbbb : q_wo [([(5, 1)], 2147483660, 2147483664), ([(4, 1)], 2147483648, 2147483663), ([(3, 1)], 2147483648, 2147483657), ([(2, 1)], 2147483648, 2147483648), ([(9, 1)], 2147483655, 2147483655), ([(0, 1)], 2147483656, 2147483656)] := q_cut [(5, 1)] 2147483660 2147483660 2147483664 (by decide +kernel) q_gw7baababababbbbbbbbbbba q_gw7baababababbbbbbbbbbbb
theorem q_gw7baababababbbbbbbbbb : q_wo [([(5, 1)], 2147483659, 2147483664), ([(4, 1)], 2147483648, 2147483663), ([(3, 1)], 2147483648, 2147483657), ([(2, 1)], 2147483648, 2147483648), ([(9, 1)], 2147483655, 2147483655), ([(0, 1)], 2147483656, 2147483656)] := q_cut [(5, 1)] 2147483659 2147483659 2147483664 (by decide +kernel) q_gw7baababababbbbbbbbbba q_gw7baababababbbbbbbbbbb
theorem q_gw7baababababbbbbbbbb : q_wo [([(5, 1)], 2147483658, 2147483664), ([(4, 1)], 2147483648, 2147483663), ([(3, 1)], 2147483648, 2147483657), ([(2, 1)], 2147483648, 2147483648), ([(9, 1)], 2147483655, 2147483655), ([(0, 1)], 2147483656, 2147483656)] := q_cut [(5, 1)] 2147483658 2147483658 2147483664 (by decide +kernel) q_gw7baababababbbbbbbbba q_gw7baababababbbbbbbbbb
theorem q_gw7baababababbbbbbbb : q_wo [([(5, 1)], 2147483657, 2147483664), ([(4, 1)], 2147483648, 2147483663), ([(3, 1)], 2147483648, 2147483657), ([(2, 1)], 2147483648, 2147483648), ([(9, 1)], 2147483655, 2147483655), ([(0, 1)], 2147483656, 2147483656)] := q_cut [(5, 1)] 2147483657 2147483657 2147483664 (by decide +kernel) q_gw7baababababbbbbbbba q_gw7baababababbbbbbbbb
theorem q_gw7baababababbbbbbb : q_wo [([(5, 1)], 2147483656, 2147483664), ([(4, 1)], 2147483648, 2147483663), ([(3, 1)], 2147483648, 2147483657), ([(2, 1)], 2147483648, 2147483648), ([(9, 1)], 2147483655, 2147483655), ([(0, 1)], 2147483656, 2147483656)] := q_cut [(5, 1)] 2147483656 2147483656 2147483664 (by decide +kernel) q_gw7baababababbbbbbba q_gw7baababababbbbbbbb
theorem q_gw7baababababbbbbb : q_wo [([(5, 1)], 2147483655, 2147483664), ([(4, 1)], 2147483648, 2147483663), ([(3, 1)], 2147483648, 2147483657), ([(2, 1)], 2147483648, 2147483648), ([(9, 1)], 2147483655, 2147483655), ([(0, 1)], 2147483656, 2147483656)] := q_cut [(5, 1)] 2147483655 2147483655 2147483664 (by decide +kernel) q_gw7baababababbbbbba q_gw7baababababbbbbbb
theorem q_gw7baababababbbbb : q_wo [([(5, 1)], 2147483654, 2147483664), ([(4, 1)], 2147483648, 2147483663), ([(3, 1)], 2147483648, 2147483657), ([(2, 1)], 2147483648, 2147483648), ([(9, 1)], 2147483655, 2147483655), ([(0, 1)], 2147483656, 2147483656)] := q_cut [(5, 1)] 2147483654 2147483654 2147483664 (by decide +kernel) q_gw7baababababbbbba q_gw7baababababbbbbb
theorem q_gw7baababababbbb : q_wo [([(5, 1)], 2147483653, 2147483664), ([(4, 1)], 2147483648, 2147483663), ([(3, 1)], 2147483648, 2147483657), ([(2, 1)], 2147483648, 2147483648), ([(9, 1)], 2147483655, 2147483655), ([(0, 1)], 2147483656, 2147483656)] := q_cut [(5, 1)] 2147483653 2147483653 2147483664 (by decide +kernel) q_gw7baababababbbba q_gw7baababababbbbb
theorem q_gw7baababababbb : q_wo [([(5, 1)], 2147483652, 2147483664), ([(4, 1)], 2147483648, 2147483663), ([(3, 1)], 2147483648, 2147483657), ([(2, 1)], 2147483648, 2147483648), ([(9, 1)], 2147483655, 2147483655), ([(0, 1)], 2147483656, 2147483656)] := q_cut [(5, 1)] 2147483652 2147483652 2147483664 (by decide +kernel) q_gw7baababababbba q_gw7baababababbbb
theorem q_gw7baababababb : q_wo [([(5, 1)], 2147483651, 2147483664), ([(4, 1)], 2147483648, 2147483663), ([(3, 1)], 2147483648, 2147483657), ([(2, 1)], 2147483648, 2147483648), ([(9, 1)], 2147483655, 2147483655), ([(0, 1)], 2147483656, 2147483656)] := q_cut [(5, 1)] 2147483651 2147483651 2147483664 (by decide +kernel) q_gw7baababababba q_gw7baababababbb
theorem q_gw7baabababab : q_wo [([(5, 1)], 2147483650, 2147483664), ([(4, 1)], 2147483648, 2147483663), ([(3, 1)], 2147483648, 2147483657), ([(2, 1)], 2147483648, 2147483648), ([(9, 1)], 2147483655, 2147483655), ([(0, 1)], 2147483656, 2147483656)] := q_cut [(5, 1)] 2147483650 2147483650 2147483664 (by decide +kernel) q_gw7baababababa q_gw7baababababb
theorem q_gw7baabababa : q_wo [([(5, 1)], 2147483649, 2147483664), ([(4, 1)], 2147483648, 2147483663), ([(3, 1)], 2147483648, 2147483657), ([(2, 1)], 2147483648, 2147483648), ([(9, 1)], 2147483655, 2147483655), ([(0, 1)], 2147483656, 2147483656)] := q_cut [(5, 1)] 2147483649 2147483649 2147483664 (by decide +kernel) q_gw7baabababaa q_gw7baabababab
theorem q_gw7baababab : q_wo [([(5, 1)], 2147483649, 4294967295), ([(4, 1)], 2147483648, 2147483663), ([(3, 1)], 2147483648, 2147483657), ([(2, 1)], 2147483648, 2147483648), ([(9, 1)], 2147483655, 2147483655), ([(0, 1)], 2147483656, 2147483656)] := q_cut [(5, 1)] 2147483664 2147483649 4294967295 (by decide +kernel) q_gw7baabababa q_gw7baabababb
theorem q_gw7baababa : q_wo [([(4, 1)], 2147483648, 2147483663), ([(3, 1)], 2147483648, 2147483657), ([(2, 1)], 2147483648, 2147483648), ([(9, 1)], 2147483655, 2147483655), ([(0, 1)], 2147483656, 2147483656)] := q_cut [(5, 1)] 2147483648 0 4294967295 (by decide +kernel) q_gw7baababaa q_gw7baababab
theorem q_gw7baabab : q_wo [([(4, 1)], 2147483648, 4294967295), ([(3, 1)], 2147483648, 2147483657), ([(2, 1)], 2147483648, 2147483648), ([(9, 1)], 2147483655, 2147483655), ([(0, 1)], 2147483656, 2147483656)] := q_cut [(4, 1)] 2147483663 2147483648 4294967295 (by decide +kernel) q_gw7baababa q_gw7baababb
theorem q_gw7baaba : q_wo [([(3, 1)], 2147483648, 2147483657), ([(2, 1)], 2147483648, 2147483648), ([(9, 1)], 2147483655, 2147483655), ([(0, 1)], 2147483656, 2147483656)] := q_cut [(4, 1)] 2147483647 0 4294967295 (by decide +kernel) q_gw7baabaa q_gw7baabab
theorem q_gw7baab : q_wo [([(3, 1)], 2147483648, 4294967295), ([(2, 1)], 2147483648, 2147483648), ([(9, 1)], 2147483655, 2147483655), ([(0, 1)], 2147483656, 2147483656)] := q_cut [(3, 1)] 2147483657 2147483648 4294967295 (by decide +kernel) q_gw7baaba q_gw7baabb
theorem q_gw7baa : q_wo [([(2, 1)], 2147483648, 2147483648), ([(9, 1)], 2147483655, 2147483655), ([(0, 1)], 2147483656, 2147483656)] := q_cut [(3, 1)] 2147483647 0 4294967295 (by decide +kernel) q_gw7baaa q_gw7baab
theorem q_gw7ba : q_wo [([(2, 1)], 2147483648, 2147483653), ([(9, 1)], 2147483655, 2147483655), ([(0, 1)], 2147483656, 2147483656)] := q_cut [(2, 1)] 2147483648 2147483648 2147483653 (by decide +kernel) q_gw7baa q_gw7bab
theorem q_gw7b : q_wo [([(2, 1)], 2147483648, 4294967295), ([(9, 1)], 2147483655, 2147483655), ([(0, 1)], 2147483656, 2147483656)] := q_cut [(2, 1)] 2147483653 2147483648 4294967295 (by decide +kernel) q_gw7ba q_gw7bb
theorem q_gw7 : q_wo [([(9, 1)], 2147483655, 2147483655), ([(0, 1)], 2147483656, 2147483656)] := q_cut [(2, 1)] 2147483647 0 4294967295 (by decide +kernel) q_gw7a q_gw7b
theorem q_gw8baababababbbbbbbbbbbbbb : q_wo [([(5, 1)], 2147483663, 2147483664), ([(4, 1)], 2147483648, 2147483663), ([(3, 1)], 2147483648, 2147483657), ([(2, 1)], 2147483648, 2147483648), ([(9, 1)], 2147483656, 2147483656), ([(0, 1)], 2147483656, 2147483656)] := q_cut [(5, 1)] 2147483663 2147483663 2147483664 (by decide +kernel) q_gw8baababababbbbbbbbbbbbbba q_gw8baababababbbbbbbbbbbbbbb
theorem q_gw8baababababbbbbbbbbbbbb : q_wo [([(5, 1)], 2147483662, 2147483664), ([(4, 1)], 2147483648, 2147483663), ([(3, 1)], 2147483648, 2147483657), ([(2, 1)], 2147483648, 2147483648), ([(9, 1)], 2147483656, 2147483656), ([(0, 1)], 2147483656, 2147483656)] := q_cut [(5, 1)] 2147483662 2147483662 2147483664 (by decide +kernel) q_gw8baababababbbbbbbbbbbbba q_gw8baababababbbbbbbbbbbbbb
theorem q_gw8baababababbbbbbbbbbbb : q_wo [([(5, 1)], 2147483661, 2147483664), ([(4, 1)], 2147483648, 2147483663), ([(3, 1)], 2147483648, 2147483657), ([(2, 1)], 2147483648, 2147483648), ([(9, 1)], 2147483656, 2147483656), ([(0, 1)], 2147483656, 2147483656)] := q_cut [(5, 1)] 2147483661 2147483661 2147483664 (by decide +kernel) q_gw8baababababbbbbbbbbbbba q_gw8baababababbbbbbbbbbbbb
theorem q_gw8baababababbbbbbbbbbb : q_wo [([(5, 1)], 2147483660, 2147483664), ([(4, 1)], 2147483648, 2147483663), ([(3, 1)], 2147483648, 2147483657), ([(2, 1)], 2147483648, 2147483648), ([(9, 1)], 2147483656, 2147483656), ([(0, 1)], 2147483656, 2147483656)] := q_cut [(5, 1)] 2147483660 2147483660 2147483664 (by decide +kernel) q_gw8baababababbbbbbbbbbba q_gw8baababababbbbbbbbbbbb
theorem q_gw8baababababbbbbbbbbb : q_wo [([(5, 1)], 2147483659, 2147483664), ([(4, 1)], 2147483648, 2147483663), ([(3, 1)], 2147483648, 2147483657), ([(2, 1)], 2147483648, 2147483648), ([(9, 1)], 2147483656, 2147483656), ([(0, 1)], 2147483656, 2147483656)] := q_cut [(5, 1)] 2147483659 2147483659 2147483664 (by decide +kernel) q_gw8baababababbbbbbbbbba q_gw8baababababbbbbbbbbbb
theorem q_gw8baababababbbbbbbbb : q_wo [([(5, 1)], 2147483658, 2147483664), ([(4, 1)], 2147483648, 2147483663), ([(3, 1)], 2147483648, 2147483657), ([(2, 1)], 2147483648, 2147483648), ([(9, 1)], 2147483656, 2147483656), ([(0, 1)], 2147483656, 2147483656)] := q_cut [(5, 1)] 2147483658 2147483658 2147483664 (by decide +kernel) q_gw8baababababbbbbbbbba q_gw8baababababbbbbbbbbb
theorem q_gw8baababababbbbbbbb : q_wo [([(5, 1)], 2147483657, 2147483664), ([(4, 1)], 2147483648, 2147483663), ([(3, 1)], 2147483648, 2147483657), ([(2, 1)], 2147483648, 2147483648), ([(9, 1)], 2147483656, 2147483656), ([(0, 1)], 2147483656, 2147483656)] := q_cut [(5, 1)] 2147483657 2147483657 2147483664 (by decide +kernel) q_gw8baababababbbbbbbba q_gw8baababababbbbbbbbb
theorem q_gw8baababababbbbbbb : q_wo [([(5, 1)], 2147483656, 2147483664), ([(4, 1)], 2147483648, 2147483663), ([(3, 1)], 2147483648, 2147483657), ([(2, 1)], 2147483648, 2147483648), ([(9, 1)], 2147483656, 2147483656), ([(0, 1)], 2147483656, 2147483656)] := q_cut [(5, 1)] 2147483656 2147483656 2147483664 (by decide +kernel) q_gw8baababababbbbbbba q_gw8baababababbbbbbbb
theorem q_gw8baababababbbbbb : q_wo [([(5, 1)], 2147483655, 2147483664), ([(4, 1)], 2147483648, 2147483663), ([(3, 1)], 2147483648, 2147483657), ([(2, 1)], 2147483648, 2147483648), ([(9, 1)], 2147483656, 2147483656), ([(0, 1)], 2147483656, 2147483656)] := q_cut [(5, 1)] 2147483655 2147483655 2147483664 (by decide +kernel) q_gw8baababababbbbbba q_gw8baababababbbbbbb
theorem q_gw8baababababbbbb : q_wo [([(5, 1)], 2147483654, 2147483664), ([(4, 1)], 2147483648, 2147483663), ([(3, 1)], 2147483648, 2147483657), ([(2, 1)], 2147483648, 2147483648), ([(9, 1)], 2147483656, 2147483656), ([(0, 1)], 2147483656, 2147483656)] := q_cut [(5, 1)] 2147483654 2147483654 2147483664 (by decide +kernel) q_gw8baababababbbbba q_gw8baababababbbbbb
theorem q_gw8baababababbbb : q_wo [([(5, 1)], 2147483653, 2147483664), ([(4, 1)], 2147483648, 2147483663), ([(3, 1)], 2147483648, 2147483657), ([(2, 1)], 2147483648, 2147483648), ([(9, 1)], 2147483656, 2147483656), ([(0, 1)], 2147483656, 2147483656)] := q_cut [(5, 1)] 2147483653 2147483653 2147483664 (by decide +kernel) q_gw8baababababbbba q_gw8baababababbbbb
theorem q_gw8baababababbb : q_wo [([(5, 1)], 2147483652, 2147483664), ([(4, 1)], 2147483648, 2147483663), ([(3, 1)], 2147483648, 2147483657), ([(2, 1)], 2147483648, 2147483648), ([(9, 1)], 2147483656, 2147483656), ([(0, 1)], 2147483656, 2147483656)] := q_cut [(5, 1)] 2147483652 2147483652 2147483664 (by decide +kernel) q_gw8baababababbba q_gw8baababababbbb
theorem q_gw8baababababb : q_wo [([(5, 1)], 2147483651, 2147483664), ([(4, 1)], 2147483648, 2147483663), ([(3, 1)], 2147483648, 2147483657), ([(2, 1)], 2147483648, 2147483648), ([(9, 1)], 2147483656, 2147483656), ([(0, 1)], 2147483656, 2147483656)] := q_cut [(5, 1)] 2147483651 2147483651 2147483664 (by decide +kernel) q_gw8baababababba q_gw8baababababbb
theorem q_gw8baabababab : q_wo [([(5, 1)], 2147483650, 2147483664), ([(4, 1)], 2147483648, 2147483663), ([(3, 1)], 2147483648, 2147483657), ([(2, 1)], 2147483648, 2147483648), ([(9, 1)], 2147483656, 2147483656), ([(0, 1)], 2147483656, 2147483656)] := q_cut [(5, 1)] 2147483650 2147483650 2147483664 (by decide +kernel) q_gw8baababababa q_gw8baababababb
theorem q_gw8baabababa : q_wo [([(5, 1)], 2147483649, 2147483664), ([(4, 1)], 2147483648, 2147483663), ([(3, 1)], 2147483648, 2147483657), ([(2, 1)], 2147483648, 2147483648), ([(9, 1)], 2147483656, 2147483656), ([(0, 1)], 2147483656, 2147483656)] := q_cut [(5, 1)] 2147483649 2147483649 2147483664 (by decide +kernel) q_gw8baabababaa q_gw8baabababab
theorem q_gw8baababab : q_wo [([(5, 1)], 2147483649, 4294967295), ([(4, 1)], 2147483648, 2147483663), ([(3, 1)], 2147483648, 2147483657), ([(2, 1)], 2147483648, 2147483648), ([(9, 1)], 2147483656, 2147483656), ([(0, 1)], 2147483656, 2147483656)] := q_cut [(5, 1)] 2147483664 2147483649 4294967295 (by decide +kernel) q_gw8baabababa q_gw8baabababb
theorem q_gw8baababa : q_wo [([(4, 1)], 2147483648, 2147483663), ([(3, 1)], 2147483648, 2147483657), ([(2, 1)], 2147483648, 2147483648), ([(9, 1)], 2147483656, 2147483656), ([(0, 1)], 2147483656, 2147483656)] := q_cut [(5, 1)] 2147483648 0 4294967295 (by decide +kernel) q_gw8baababaa q_gw8baababab
theorem q_gw8baabab : q_wo [([(4, 1)], 2147483648, 4294967295), ([(3, 1)], 2147483648, 2147483657), ([(2, 1)], 2147483648, 2147483648), ([(9, 1)], 2147483656, 2147483656), ([(0, 1)], 2147483656, 2147483656)] := q_cut [(4, 1)] 2147483663 2147483648 4294967295 (by decide +kernel) q_gw8baababa q_gw8baababb
theorem q_gw8baaba : q_wo [([(3, 1)], 2147483648, 2147483657), ([(2, 1)], 2147483648, 2147483648), ([(9, 1)], 2147483656, 2147483656), ([(0, 1)], 2147483656, 2147483656)] := q_cut [(4, 1)] 2147483647 0 4294967295 (by decide +kernel) q_gw8baabaa q_gw8baabab
theorem q_gw8baab : q_wo [([(3, 1)], 2147483648, 4294967295), ([(2, 1)], 2147483648, 2147483648), ([(9, 1)], 2147483656, 2147483656), ([(0, 1)], 2147483656, 2147483656)] := q_cut [(3, 1)] 2147483657 2147483648 4294967295 (by decide +kernel) q_gw8baaba q_gw8baabb
theorem q_gw8baa : q_wo [([(2, 1)], 2147483648, 2147483648), ([(9, 1)], 2147483656, 2147483656), ([(0, 1)], 2147483656, 2147483656)] := q_cut [(3, 1)] 2147483647 0 4294967295 (by decide +kernel) q_gw8baaa q_gw8baab
theorem q_gw8ba : q_wo [([(2, 1)], 2147483648, 2147483653), ([(9, 1)], 2147483656, 2147483656), ([(0, 1)], 2147483656, 2147483656)] := q_cut [(2, 1)] 2147483648 2147483648 2147483653 (by decide +kernel) q_gw8baa q_gw8bab
theorem q_gw8b : q_wo [([(2, 1)], 2147483648, 4294967295), ([(9, 1)], 2147483656, 2147483656), ([(0, 1)], 2147483656, 2147483656)] := q_cut [(2, 1)] 2147483653 2147483648 4294967295 (by decide +kernel) q_gw8ba q_gw8bb
theorem q_gw8 : q_wo [([(9, 1)], 2147483656, 2147483656), ([(0, 1)], 2147483656, 2147483656)] := q_cut [(2, 1)] 2147483647 0 4294967295 (by decide +kernel) q_gw8a q_gw8b
theorem q_gw9ba : q_wo [([(2, 1)], 2147483648, 2147483653), ([(9, 1)], 2147483657, 2147483657), ([(0, 1)], 2147483656, 2147483656)] := q_cut [(2, 1)] 2147483648 2147483648 2147483653 (by decide +kernel) q_gw9baa q_gw9bab
theorem q_gw9b : q_wo [([(2, 1)], 2147483648, 4294967295), ([(9, 1)], 2147483657, 2147483657), ([(0, 1)], 2147483656, 2147483656)] := q_cut [(2, 1)] 2147483653 2147483648 4294967295 (by decide +kernel) q_gw9ba q_gw9bb
theorem q_gw9 : q_wo [([(9, 1)], 2147483657, 2147483657), ([(0, 1)], 2147483656, 2147483656)] := q_cut [(2, 1)] 2147483647 0 4294967295 (by decide +kernel) q_gw9a q_gw9b
theorem q_gw16ba : q_wo [([(2, 1)], 2147483648, 2147483653), ([(9, 1)], 2147483664, 2147483664), ([(0, 1)], 2147483656, 2147483656)] := q_cut [(2, 1)] 2147483648 2147483648 2147483653 (by decide +kernel) q_gw16baa q_gw16bab
theorem q_gw16b : q_wo [([(2, 1)], 2147483648, 4294967295), ([(9, 1)], 2147483664, 2147483664), ([(0, 1)], 2147483656, 2147483656)] := q_cut [(2, 1)] 2147483653 2147483648 4294967295 (by decide +kernel) q_gw16ba q_gw16bb
theorem q_gw16 : q_wo [([(9, 1)], 2147483664, 2147483664), ([(0, 1)], 2147483656, 2147483656)] := q_cut [(2, 1)] 2147483647 0 4294967295 (by decide +kernel) q_gw16a q_gw16b
theorem q_gw22ba : q_wo [([(2, 1)], 2147483648, 2147483653), ([(9, 1)], 2147483670, 2147483670), ([(0, 1)], 2147483656, 2147483656)] := q_cut [(2, 1)] 2147483648 2147483648 2147483653 (by decide +kernel) q_gw22baa q_gw22bab
theorem q_gw22b : q_wo [([(2, 1)], 2147483648, 4294967295), ([(9, 1)], 2147483670, 2147483670), ([(0, 1)], 2147483656, 2147483656)] := q_cut [(2, 1)] 2147483653 2147483648 4294967295 (by decide +kernel) q_gw22ba q_gw22bb
theorem q_gw22 : q_wo [([(9, 1)], 2147483670, 2147483670), ([(0, 1)], 2147483656, 2147483656)] := q_cut [(2, 1)] 2147483647 0 4294967295 (by decide +kernel) q_gw22a q_gw22b
end
section
/-! THE LAW -/
theorem q_inst : ∀ (a : Nat) (q : vw_C), vwCl[a]? = some q → ∃ n, Jvm.Cond.instantiable q.1 n ∈ lw_tbl := by
  intro a q h
  match a, h with
  | 0, h => cases h; exact ⟨6, List.mem_of_getElem? (i := 102) (by decide +kernel)⟩
  | 1, h => cases h; exact ⟨7, List.mem_of_getElem? (i := 109) (by decide +kernel)⟩
  | 2, h => cases h; exact ⟨4, List.mem_of_getElem? (i := 888) (by decide +kernel)⟩
  | 3, h => cases h; exact ⟨3, List.mem_of_getElem? (i := 395) (by decide +kernel)⟩
  | 4, h => cases h; exact ⟨2, List.mem_of_getElem? (i := 228) (by decide +kernel)⟩
  | 5, h => cases h; exact ⟨2, List.mem_of_getElem? (i := 258) (by decide +kernel)⟩
  | 6, h => cases h; exact ⟨5, List.mem_of_getElem? (i := 199) (by decide +kernel)⟩
  | 7, h => cases h; exact ⟨4, List.mem_of_getElem? (i := 174) (by decide +kernel)⟩
  | 8, h => cases h; exact ⟨2, List.mem_of_getElem? (i := 243) (by decide +kernel)⟩
  | 9, h => cases h; exact ⟨13, List.mem_of_getElem? (i := 94) (by decide +kernel)⟩
  | 10, h => cases h; exact ⟨36, List.mem_of_getElem? (i := 1028) (by decide +kernel)⟩
  | n + 11, h => simp [vwCl] at h

theorem q_gk (k : Nat) (hk : k < 32) : q_wo (q_Ek k) := by
  match k, hk with
  | 0, _ => exact q_gw0
  | 1, _ => exact q_gw1
  | 2, _ => exact q_gw2
  | 3, _ => exact q_gw3
  | 4, _ => exact q_gw4
  | 5, _ => exact q_gw5
  | 6, _ => exact q_gw6
  | 7, _ => exact q_gw7
  | 8, _ => exact q_gw8
  | 9, _ => exact q_gw9
  | 10, _ => exact q_gw10
  | 11, _ => exact q_gw11
  | 12, _ => exact q_gw12
  | 13, _ => exact q_gw13
  | 14, _ => exact q_gw14
  | 15, _ => exact q_gw15
  | 16, _ => exact q_gw16
  | 17, _ => exact q_gw17
  | 18, _ => exact q_gw18
  | 19, _ => exact q_gw19
  | 20, _ => exact q_gw20
  | 21, _ => exact q_gw21
  | 22, _ => exact q_gw22
  | 23, _ => exact q_gw23
  | 24, _ => exact q_gw24
  | 25, _ => exact q_gw25
  | 26, _ => exact q_gw26
  | 27, _ => exact q_gw27
  | 28, _ => exact q_gw28
  | 29, _ => exact q_gw29
  | 30, _ => exact q_gw30
  | 31, _ => exact q_gw31
  | n + 32, h => exact absurd h (by omega)
def q_rho (L : Nat) (xs : Nat → Int32) : Nat → Nat := fun i => if i = 0 then L else if i = 9 then (xs 0 &&& 31).toBitVec.toNat else (xs (i - 1)).toBitVec.toNat
theorem q_nIself (x : Int32) : nI x.toBitVec.toNat = x := by
  apply Int32.toBitVec_inj.mp
  apply BitVec.eq_of_toNat_eq
  rw [q_tn]
  exact Nat.mod_eq_of_lt x.toBitVec.isLt
theorem q_scr (L : Nat) (xs : Nat → Int32) (hL : L ≤ 8) : qScr (q_rho L xs) L xs := by
  refine ⟨rfl, hL, fun i hi => ?_, ?_⟩
  · have h1 : q_rho L xs (i + 1) = (xs i).toBitVec.toNat := by
      unfold q_rho
      rw [if_neg (by omega), if_neg (by omega)]
      rfl
    rw [h1, q_nIself]
  · have h1 : q_rho L xs 9 = (xs 0 &&& 31).toBitVec.toNat := rfl
    rw [h1, q_nIself]
def q_RelTop (r : qRes) (nc ns : Nat) : Prop := ∃ (h : qHp) (mc ms : Nat), r = .inl (some (.inl (1, [])), h, mc, ms) ∧ nc + mc ≤ 600002 ∧ ns + ms ≤ 7302232
def q_QTop : Array Value → State → Outcome → State → Prop := fun _ _ o _ => o = .returned (some (.int 1))
theorem q_top_no : ∀ x nc ns, ¬ q_RelTop (.inr (.inr x)) nc ns := fun x nc ns h => by
  obtain ⟨h1, mc, ms, e, -⟩ := h
  cases e
theorem q_top_add : qAddR room_1 q_RelTop := by
  intro dc ds r nc ns h
  obtain ⟨h1, mc, ms, e, g1, g2⟩ := h
  rcases r with ⟨v, h', a, b⟩ | ⟨X, h', a, b⟩ | x
  · simp only [q_add1, Sum.inl.injEq, Prod.mk.injEq] at e
    obtain ⟨rfl, rfl, rfl, rfl⟩ := e
    exact ⟨⟨_, _, _, rfl, by omega, by omega⟩, by show nc + dc ≤ 600002; omega, by show ns + ds ≤ 7302232; omega⟩
  · simp [q_add1] at e
  · simp [q_add1] at e
section QTOP
variable {p : Program} {l : Launch} {e : Env} {s : State} {m : MethodId} {below : List Frame} {meth : Method} {c : Code} {b L : Nat} {xs : Nat → Int32}
theorem q_top_mono {H : Heap} {g : JFrame} (h : W p l e room_1 s m #[Value.ref b] below meth c H [] 0 0 (vx_MQ below q_QTop (fun _ _ _ => False) #[Value.ref b] s room_1.cells room_1.slots (fun q => s.heap.size ≤ q)) g) : W p l e room_1 s m #[Value.ref b] below meth c H [] 0 0 (lw_Z below #[Value.ref b] s) g := by
  intro T hT X
  obtain ⟨t, a1, o, b1, b2, b3⟩ := h T hT X
  refine ⟨t, a1, o, b1, b2, ?_⟩
  rcases b3 with ⟨ho, Ls, hF, hL⟩ | ⟨q, -, E, ce, Ls, hXC, -⟩
  · obtain ⟨f1, f2, f3, f4, f5, f6, f7, f8⟩ := hF
    refine ⟨ho, f1, f2, f3, f4, f5, f6, f7, fun a c hc => ?_⟩
    obtain ⟨c', k1, k2, k3, k4⟩ := f8 a c hc
    refine ⟨c', k1, k2, k3, fun i _ => k4 i (fun hm => ?_)⟩
    have := hL _ hm
    have h2 := (Array.getElem?_eq_some_iff.mp hc).1
    have h3 : s.heap.size ≤ a := this
    omega
  · exact hXC.elim
theorem q_worlds (C0 : lw_At p s m meth c b L xs) : ∃ (D : va_G) (tys : List (ClassId × FieldType)), qWd s.heap.size b s.heap tys D L xs s := by
  obtain ⟨hx, hb, hr, hml, hown, hts, hX, hbl, hlocks, hgv⟩ := C0
  have hs := flat_of_before _ hgv
  have hcl : ∀ a : Nat, ∃ z : ClassId × (Nat → Nat), ∀ q, vwCl[a]? = some q → u_Kn s q.1 q.2.1 q.2.2 z.1 z.2 := by
    intro a
    cases hq : vwCl[a]? with
    | none => exact ⟨(0, fun _ => 0), fun q h => by cases h⟩
    | some q =>
      obtain ⟨n, hn⟩ := q_inst a q hq
      obtain ⟨cC, iS, hK⟩ := u_known (C := q.1) (T := q.2.1) (N := q.2.2) (n := n) hts (fun w hw => ((q_cl a q hq).1 w hw).1) (hts _ hn)
      exact ⟨(cC, iS), fun q2 h2 => by cases h2; exact hK⟩
  have hD : ∃ D : va_G, ∀ (a : Nat) (q : vw_C), vwCl[a]? = some q → u_Kn s q.1 q.2.1 q.2.2 (D.1 a) (D.2 a) := ⟨(fun a => (Classical.choose (hcl a)).1, fun a => (Classical.choose (hcl a)).2), fun a q h => Classical.choose_spec (hcl a) q h⟩
  obtain ⟨D, hD⟩ := hD
  obtain ⟨cI, kI, pI, i1, i2, i3⟩ := Cond.arrayClass_spec (hts (.arrayClass .int) (List.mem_of_getElem? (i := 146) (by decide +kernel)))
  obtain ⟨cJ, kJ, pJ, j1, j2, j3⟩ := Cond.arrayClass_spec (hts (.arrayClass .long) (List.mem_of_getElem? (i := 1466) (by decide +kernel)))
  have hao : ∀ (C : String), Jvm.Cond.arrayOver (.object C) ∈ lw_tbl → va_AO C s ∧ ∃ cA, ArrOfT s cA (.object C) ∧ va_RA s cA (.object C) := by
    intro C hC
    have h0 := hts _ hC
    obtain ⟨comp, c1, k, h1, -, h3, h4, h5⟩ := Cond.arrayOver_spec h0
    exact ⟨va_AO.of h0, c1, fun n z => ⟨fun k h => (by cases h), k, h3, comp, h4⟩, k, comp, h3, h4, h1, h5⟩
  obtain ⟨w2, c2, a2, r2⟩ := hao "Treebark$Extent" (List.mem_of_getElem? (i := 108) (by decide +kernel))
  obtain ⟨w3, c3, a3, r3⟩ := hao "Treebark$Tree" (List.mem_of_getElem? (i := 173) (by decide +kernel))
  obtain ⟨w4, c4, a4, r4⟩ := hao "Treebark$Logged" (List.mem_of_getElem? (i := 197) (by decide +kernel))
  obtain ⟨w5, c5, a5, r5⟩ := hao "Treebark$Node" (List.mem_of_getElem? (i := 264) (by decide +kernel))
  have hw6 := hts (.arrayOver (.array .int)) (List.mem_of_getElem? (i := 205) (by decide +kernel))
  obtain ⟨comp6, c6, k6, -, -, l3, l4, l5⟩ := Jvm.Stand.arrayOver_specB hw6
  refine ⟨D, [(cI, .int), (cJ, .long), (c2, .object "Treebark$Extent"), (c3, .object "Treebark$Tree"), (c4, .object "Treebark$Logged"), (c5, .object "Treebark$Node"), (c6, .array .int)], ⟨hD, fun k q hk => ?_⟩, rfl, hX, hbl, rfl, ?_, ?_, ?_, ?_, ?_, ?_, ?_⟩
  · match k, hk with
    | 0, hk => cases hk; exact ⟨fun n z => ⟨fun k h => (by cases h), kI, i2, pI, i3⟩, i1⟩
    | 1, hk => cases hk; exact ⟨fun n z => ⟨fun k h => (by cases h), kJ, j2, pJ, j3⟩, j1⟩
    | 2, hk => cases hk; exact ⟨a2, r2⟩
    | 3, hk => cases hk; exact ⟨a3, r3⟩
    | 4, hk => cases hk; exact ⟨a4, r4⟩
    | 5, hk => cases hk; exact ⟨a5, r5⟩
    | 6, hk => cases hk; exact ⟨fun n z => ⟨fun k h => (by cases h), k6, l3, comp6, l4⟩, l5⟩
    | n + 7, hk => simp at hk
  · exact vx_Zqof (hts _ (List.mem_of_getElem? (i := 519) (by decide +kernel))) (hts _ (List.mem_of_getElem? (i := 84) (by decide +kernel))) (hs _ (by decide +kernel)) (fun a h => Nat.not_le.mpr h)
  · exact vx_Zqof (hts _ (List.mem_of_getElem? (i := 521) (by decide +kernel))) (hts _ (List.mem_of_getElem? (i := 84) (by decide +kernel))) (hs _ (by decide +kernel)) (fun a h => Nat.not_le.mpr h)
  · have h1 : q_nests.all (fun q => decide (q_nestP q ∈ lw_tbl)) = true := by decide +kernel
    intro q hq
    exact va_Nw.of rfl (hts _ (of_decide_eq_true (List.all_eq_true.mp h1 q hq)))
  · have h1 : q_exc.all (fun X => decide (Jvm.Cond.castable X X ∈ lw_tbl)) = true := by decide +kernel
    have h2 : q_decl.all (fun y => decide (Jvm.Cond.declares y ∈ lw_tbl)) = true := by decide +kernel
    exact ⟨fun X hX => va_Nw.of rfl (hts _ (of_decide_eq_true (List.all_eq_true.mp h1 X hX))), fun y hy => va_Nw.of rfl (hts _ (of_decide_eq_true (List.all_eq_true.mp h2 y hy)))⟩
  · intro X hX Y hY hn
    simp only [q_exc, List.mem_cons, List.not_mem_nil, or_false] at hX hY
    rcases hX with rfl | rfl | rfl <;> rcases hY with rfl | rfl | rfl <;> first | exact absurd rfl hn | exact va_Nc.of (hs _ (by decide +kernel))
  · intro t C ht hC
    match t, ht, hC with
    | 2, _, hC => cases hC; exact w2
    | 3, _, hC => cases hC; exact w3
    | 4, _, hC => cases hC; exact w4
    | 5, _, hC => cases hC; exact w5
    | 6, _, hC => cases hC
    | n + 7, _, hC => simp [q_tys] at hC
  · exact Jvm.Stand.arrayOver_alikeB (Vm.Alike.refl _) hw6
end QTOP
set_option maxHeartbeats 4000000 in
/-- THE LAW, from its entry -/
theorem whole_start {p : Program} {e : Env} {s : State} {m : MethodId} {below : List Frame} {meth : Method} {c : Code} (l : Launch) (hflags : l.flags = flags0) {b L : Nat} {xs : Nat → Int32} (hL : L ≤ 8) (C0 : lw_At p s m meth c b L xs) : W p l e room_1 s m #[Value.ref b] below meth c s.heap [] 0 0 (lw_Z below #[Value.ref b] s) (entryFrame m ([Value.ref b] : List Value).toArray 7) := by
  obtain ⟨D, tys, Wd⟩ := q_worlds C0
  obtain ⟨hx, hb, hr, hml, hown, hts, hX, hbl, hlocks, hgv⟩ := id C0
  have htr : l.stackTraces = false := by
    unfold Launch.stackTraces
    rw [hflags]
    decide +kernel
  refine q_top_mono ?_
  have hsc := q_scr L xs hL
  have C : qCtx p l room_1 s m #[Value.ref b] meth c R_law "" code 7 ret [] 14 := ⟨hx, hb, hml, hown, fun w hw => hts w (List.mem_filter.mp hw).1, hr, hlocks, Or.inr rfl, fun z => absurd rfl z, Nat.le_of_ble_eq_true rfl, Nat.le_of_ble_eq_true rfl, htr⟩
  have hRret : q_RR s.heap.size b s.heap (q_rho L xs) tys D room_1 s #[Value.ref b] q_RelTop q_QTop := by
    intro v h nc ns hrel
    obtain ⟨h1, mc, ms, e1, g1, g2⟩ := hrel
    simp only [Sum.inl.injEq, Prod.mk.injEq] at e1
    obtain ⟨rfl, -, rfl, rfl⟩ := e1
    exact ⟨g1, g2, fun t _ => rfl⟩
  have hRthr : q_RT s.heap.size b s.heap (q_rho L xs) tys D room_1 s c [] q_RelTop (fun _ _ _ => False) := by
    intro X h mc ms nc ns hrel
    obtain ⟨h1, mc, ms, e1, -⟩ := hrel
    cases e1
  have hE : ∃ (E2 : qEnv) (h : qHp) (mc ms : Nat), qEok E2 (q_rho L xs) ∧ q_leaf E2 = .inl (some (.inl (1, [])), h, mc, ms) ∧ mc ≤ 500000 ∧ ms ≤ 7000000 := by
    have h0 : q_ev (q_rho L xs) [(0, 1)] = L := by
      show L * 1 + 0 = L
      omega
    rcases Nat.lt_or_ge L 8 with hlt | hge
    · refine q_go_ok 60 q_E0 q_g0 _ (fun x hx => ?_)
      rw [List.mem_singleton.mp hx]
      show _ ≤ q_bz (q_ev (q_rho L xs) [(0, 1)]) ∧ _
      rw [h0]
      unfold q_bz
      dsimp only
      omega
    · have h9 : q_ev (q_rho L xs) [(9, 1)] = (xs 0 &&& 31).toBitVec.toNat := by
        show (xs 0 &&& 31).toBitVec.toNat * 1 + 0 = _
        omega
      have hk : (xs 0 &&& 31).toBitVec.toNat < 32 := by
        rw [Int32.toBitVec_and, BitVec.toNat_and]
        exact Nat.lt_succ_of_le Nat.and_le_right
      refine q_gk _ hk _ (fun x hx => ?_)
      rcases List.mem_cons.mp hx with rfl | hx
      · show _ ≤ q_bz (q_ev (q_rho L xs) [(9, 1)]) ∧ _
        rw [h9]
        unfold q_bz
        dsimp only
        omega
      · rw [List.mem_singleton.mp hx]
        show _ ≤ q_bz (q_ev (q_rho L xs) [(0, 1)]) ∧ _
        rw [h0]
        unfold q_bz
        dsimp only
        omega
  obtain ⟨E2, h2, mc2, ms2, hE2, hleaf, hmc2, hms2⟩ := hE
  have hhead : ∃ r K, q_drop q_law 13 = r :: K ∧ r.1 = 23 := by
    have h1 : (match q_drop q_law 13 with
      | r :: _ => Nat.beq r.1 23
      | [] => false) = true := by decide +kernel
    split at h1
    · next r K hK => exact ⟨r, K, hK, Nat.eq_of_beq_eq_true h1⟩
    · cases h1
  have phase2 : ∀ (nc ns : Nat) (H : Heap) (locs : List Loc) (ls : Array Slot), nc + 500000 ≤ 600002 → ns + 7000000 ≤ 7302232 → qJ s.heap.size b s.heap (q_rho L xs) tys D q_h1 H → (∀ z ∈ locs, s.heap.size ≤ z.base) → qLoc s.heap.size b (q_rho L xs) ls 7 q_L1 →
      W p l e room_1 s m #[Value.ref b] below meth c H locs nc ns (vx_MQ below q_QTop (fun _ _ _ => False) #[Value.ref b] s room_1.cells room_1.slots (fun q => s.heap.size ≤ q)) (F0 m 23 ls []) := by
    intro nc ns H locs ls g1 g2 hJ hl hL2
    have hk := q_frame (n := q_N) (D := D) (tys := tys) (N0 := s.heap.size) (b := b) (H0 := s.heap) htr q_facts hE2 hsc p e room_1 s m #[Value.ref b] below meth c R_law "" code 7 ret [] 14 q_law [] [] _ q_QTop (fun _ _ _ => False) q_RelTop C Wd (fun _ _ => rfl) q_lawok rfl q_top_no q_top_add rfl hRret hRthr
    obtain ⟨r, K, hK, hr23⟩ := hhead
    obtain ⟨r1, K1, hK1, hW⟩ := hk 13 q_L1 [] q_h1 nc ns ⟨h2, mc2, ms2, hleaf, by omega, by omega⟩
    rw [hK] at hK1
    cases hK1
    have := hW H locs ls hJ hl hL2
    rw [hr23] at this
    exact this
  have hpre : ∀ n, qKok p l e room_1 s m #[Value.ref b] below meth c s.heap.size b s.heap (q_rho L xs) tys D 7 q_law (vx_MQ below q_QTop (fun _ _ _ => False) #[Value.ref b] s room_1.cells room_1.slots (fun q => s.heap.size ≤ q)) q_RelTop (q_pre n) := by
    intro n
    induction n with
    | zero =>
      intro j L2 S2 h3 nc ns hrel
      replace hrel : q_RelTop (q_kf (q_drop q_law j) L2 S2 h3) nc ns := hrel
      unfold q_kf at hrel
      split at hrel
      · exact absurd hrel (q_top_no _ _ _)
      · next r K hK =>
        split at hrel
        · next hc =>
          simp only [Bool.and_eq_true, decide_eq_true_eq] at hc
          obtain ⟨hc1, rfl, rfl, rfl⟩ := hc
          have hc1 := Nat.eq_of_beq_eq_true hc1
          obtain ⟨h4, mc, ms, e1, g1, g2⟩ := hrel
          have e1 : (Sum.inl (some (.inl (1, [])), (false, []), 500000, 7000000) : qRes) = .inl (some (.inl (1, [])), h4, mc, ms) := e1
          cases e1
          refine ⟨r, K, hK, fun H locs ls hJ hl hL2 => ?_⟩
          rw [hc1]
          exact phase2 nc ns H locs ls g1 g2 hJ hl hL2
        · exact absurd hrel (q_top_no _ _ _)
    | succ n ih =>
      intro j L2 S2 h3 nc ns hrel
      cases hK : q_drop q_law j with
      | nil =>
        rw [hK] at hrel
        exact absurd hrel (q_top_no _ _ _)
      | cons r K =>
        refine ⟨r, K, hK, fun H locs ls hJ hl hL2 => ?_⟩
        rw [hK] at hrel
        have hE0 : qEok [] (q_rho L xs) := fun x hx => by cases hx
        exact q_one (ih := qRun q_sw q_prog [] q_N) (kk := q_pre n) (hs := []) (js := []) C Wd hE0 hsc ih q_top_no q_top_add rfl hRret hRthr (fun _ _ => rfl) rfl (q_calls_of htr q_facts (q_frame htr q_facts hE0 hsc q_N)) q_lawok hK hrel hJ hl hL2
  obtain ⟨r, K, hK, hW⟩ := hpre 13 0 (q_loc 7 [.inr (.inl (some 0))]) [] (true, []) 0 0 (by
    have h1 := q_prefix
    have e0 : q_drop q_law 0 = q_law := rfl
    rw [e0]
    generalize q_pre 13 q_law (q_loc 7 [.inr (.inl (some 0))]) [] (true, []) = z at h1
    unfold q_isR at h1
    split at h1
    · next v h3 mc ms =>
      simp only [Bool.and_eq_true] at h1
      obtain ⟨h1, h4, h5⟩ := h1
      have h1 := Nat.eq_of_beq_eq_true h1
      have h4 := Nat.le_of_ble_eq_true h4
      have h5 := Nat.le_of_ble_eq_true h5
      subst h1
      exact ⟨_, _, _, rfl, by omega, by omega⟩
    · cases h1)
  have hK0 : ∃ r K, q_drop q_law 0 = r :: K ∧ r.1 = 0 := ⟨_, _, rfl, rfl⟩
  obtain ⟨r9, K9, hK9, hr9⟩ := hK0
  rw [hK9] at hK
  cases hK
  rw [lg_entry_eq]
  have := hW s.heap [] _ ⟨fun _ _ => rfl, Nat.le_refl _, fun _ => rfl, fun k x hk => by simp at hk⟩ (fun z hz => by cases hz) (q_loc_ok (N0 := s.heap.size) (b := b) (rho := q_rho L xs) (nL := 7) (As := [.inr (.inl (some 0))]) (by decide) (fun v hv => by rw [List.mem_singleton.mp hv]; rfl))
  rw [hr9] at this
  exact this
end
section
set_option maxHeartbeats 4000000 in
theorem lw_walk (l : Launch) (hflags : l.flags = flags0) (b : Addr) (xs : List Int32) : MetFree l x (headSpec (Jvm.Cond.code x code maxLocals ret :: tables_1) room_1) (lw_P b xs) (fun _ _ _ _ _ => True) lw_Q := by
  refine MetFree.of_bodyS (code := code) (maxLocals := maxLocals) (ret := ret) (by decide) ?_ ?_
  · intro args s m h hn
    obtain ⟨meth, c, h1, h2, h3, h4, h5, h6, -, -⟩ := Cond.code_spec hn (atoms_spec (ws := Jvm.Cond.code x code maxLocals ret :: tables_1) h _ List.mem_cons_self)
    exact ⟨meth, c, h1, h2, h3, h4, h5, h6⟩
  · intro p e s m args below meth c s₁ B hml0 hP _
    obtain ⟨rfl, hx, hbd, hgv⟩ := hP
    obtain ⟨scr, harrAt, hlist, hof, hsmall⟩ := hx
    obtain ⟨hcb, hkn, -, -⟩ := State.arrayAt?_spec harrAt
    have hown : s.vm.findClass R_law = some m.cls := findClass_of_methodNamed B.named
    have hts0 : ∀ c ∈ (Jvm.Cond.code x code maxLocals ret :: tables_1), c.before #[Value.ref b] s = true := atoms_spec (ws := Jvm.Cond.code x code maxLocals ret :: tables_1) B.pre
    have hts : ∀ w ∈ lw_tbl, w.before #[Value.ref b] s = true := k2_hts_sels lw_privs (fun w hw => hts0 w (List.mem_cons_of_mem _ hw)) lw_privs_ok
    have hml : c.maxLocals = 7 := B.maxLocals_eq (hts0 _ List.mem_cons_self)
    have X₀ : Stand p l e room_1 s m #[Value.ref b] below meth c s₁ [] 0 0 := Stand.of_body B
    have hh0 : s₁.heap = s.heap := by rw [B.state]; rfl
    have hsz : scr.slots.size = xs.length := by rw [← Array.length_toList, hlist, List.length_map]
    have hval : ∀ j : Nat, j < xs.length → scr.slots[j]? = some (.int (xs.getD j 0)) := fun j hj => by
      rw [← Array.getElem?_toList, hlist]
      simp [hj]
    have hbl : b < s.heap.size := (Array.getElem?_eq_some_iff.mp hcb).1
    have hX : va_X b xs.length (fun j => xs.getD j 0) s s.heap := ⟨scr, hcb, hof, hkn, hsz, hval⟩
    have K : W p l e room_1 s m #[Value.ref b] below meth c s₁.heap [] 0 0 (lw_Z below #[Value.ref b] s) (entryFrame m ([Value.ref b] : List Value).toArray 7) := by
      rw [hh0]
      exact whole_start l hflags hbd ⟨B.exec, B.bytes, B.returns, hml, hown, hts, hX, hbl, B.notSynchronized, hgv⟩
    obtain ⟨t, a1, o, b1, b2, b3⟩ := K s₁ rfl X₀
    exact ⟨t, o, a1, b1, b2, b3⟩
theorem lw_pre_spec {args : Array Value} {s : State} (h : (Jvm.Cond.and given_1 narrow_1).before args s = true) (hr : rest_1_c.before args s = true) : ∃ (b : Addr) (xs : List Int32), lw_P b xs args s := by
  have hs := flat_of_before _ h
  have hq := flat_of_before _ hr
  have hc : (Cond.count 1).before args s = true := hs _ (by decide +kernel)
  have harr : (Cond.arrayOf (.arg 0) .int).before args s = true := hs _ (by decide +kernel)
  have hle : (Cond.le (.length (.arg 0)) (.int 8)).before args s = true := hs _ (by decide +kernel)
  have hlen : (Cond.isInt (.length (.arg 0))).before args s = true := hq _ (by decide +kernel)
  have hall : (Cond.all (.arg 0) (.isInt (.elem (.arg 0) (.index 0)))).before args s = true := hq _ (by decide +kernel)
  obtain ⟨b, xs, hb, hx⟩ := State.ints_of_pre rfl harr hlen hall
  have hsm : xs.length < 2 ^ 31 := hx.choose_spec.2.2.2
  have hev : (Term.length (.arg 0)).eval args s none [] s = some (.int xs.length.toInt32) := hx.length_eval hb
  have hv := Cond.le_ints hev (show (Term.int 8).eval args s none [] s = some (.int 8) from rfl)
  have hd : xs.length.toInt32 ≤ 8 := by
    simpa [Cond.before, Cond.holds, hv] using hle
  have hN : xs.length ≤ 8 := (Int32.ofNat_le_ofNat hsm (by decide)).mp (show Int32.ofNat xs.length ≤ Int32.ofNat 8 from hd)
  exact ⟨b, xs, Cond.one_arg hc (show args[0]? = some (.ref b) from hb), hx, hN, h⟩
theorem lw_comes (l : Launch) (hflags : l.flags = flags0) : Comes l x (Jvm.Cond.code x code maxLocals ret :: tables_1) room_1 (fun tb e args s => Calls_1 tb e args s ∧ rest_1 tb e args s ∧ Pre_1 tb e args s)
    (fun _ _ args s o t => lw_Q args s o t) := by
  intro p e ha hc hk s m args below hf hfit hheap happ hpre
  obtain ⟨b, xs, hP⟩ := lw_pre_spec hpre.2.2 hpre.2.1
  obtain ⟨k, o, h1, h2, h3, hQ⟩ := lw_walk l hflags b xs p e ha hc hk s m args below hf ((Spec.applies_iff_loose hf).mp happ).1 hP trivial
  exact ⟨k, o, h1, h2, h3, hQ⟩
theorem lw_frame {s t : State} {o : Outcome} {args : Array Value} (h : Framed s o t [] 600002 7302232) :
    Framed s o t (fieldLocs frame_1_writes args s ++ arrayLocs frame_1_arrays args s ++ staticLocs frame_1_statics s) 600002 7302232 := h
theorem lw_limb (L : Cond) (hL : ∀ (args : Array Value) (s t : State), L.after args s (.returned (some (.int 1))) t = true) :
    ArmFor flags0 classFile x code maxLocals ret World_1 tables_1 room_1 Calls_1 rest_1 Pre_1
      (fun tb e a s o t => postC L tb e a s o t ∧ Framed s o t (fieldLocs frame_1_writes a s ++ arrayLocs frame_1_arrays a s ++ staticLocs frame_1_statics s) 600002 7302232) := by
  intro l hflags _ _ p e ha hc hk s m args below hf hfit hheap happ hpre
  obtain ⟨k, o, h1, h2, h3, rfl, hF⟩ := lw_comes l hflags p e ha hc hk s m args below hf hfit hheap happ hpre
  exact ⟨k, _, h1, h2, h3, hL args s _, lw_frame hF⟩
theorem i_vc : Claimed_1_1 ∧ Claimed_1_2 := ⟨lw_limb limb_1_1 (fun args s t => by simp [limb_1_1, Cond.after, Cond.holds, Cond.value]), lw_limb limb_1_2 (fun args s t => Cond.after_iff.mpr (by
  first | (rw [show limb_1_2 = Cond.eq .result (.int 1) from rfl, Cond.eq_ints (x := 1) (y := 1) rfl rfl]; simp; done) | (simp [limb_1_2, Cond.value, Term.eval]; done)))⟩
end
