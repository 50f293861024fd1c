section
-- ===== PART A: goes FIRST, ahead of the names: the tables' words, and 'selects' of the private methods out of them =====
/-- a private method of a class that the tables say can be made, by its rows of tables_1 -/
def lw_okq (q : MethodName × Nat) : Prop := (q.1.cls ≠ "java/lang/invoke/MethodHandle" ∧ q.1.cls ≠ "java/lang/invoke/VarHandle") ∧ Cond.instantiable q.1.cls q.2 ∈ tables_1 ∧ Cond.privateMethod q.1 ∈ tables_1 ∧ Cond.instanceMethod q.1 ∈ tables_1
theorem lw_p0 : lw_okq (⟨"Treebark", "keepAllTrees", "()V"⟩, 13) := ⟨⟨by decide +kernel, by decide +kernel⟩, List.mem_of_getElem? (i := 20) (by decide +kernel), List.mem_of_getElem? (i := 278) (by decide +kernel), List.mem_of_getElem? (i := 279) (by decide +kernel)⟩
theorem lw_p1 : lw_okq (⟨"Treebark$Disks", "giveRoom", "(II)V"⟩, 6) := ⟨⟨by decide +kernel, by decide +kernel⟩, List.mem_of_getElem? (i := 28) (by decide +kernel), List.mem_of_getElem? (i := 287) (by decide +kernel), List.mem_of_getElem? (i := 288) (by decide +kernel)⟩
theorem lw_p2 : lw_okq (⟨"Treebark", "treesThere", "()I"⟩, 13) := ⟨⟨by decide +kernel, by decide +kernel⟩, List.mem_of_getElem? (i := 20) (by decide +kernel), List.mem_of_getElem? (i := 291) (by decide +kernel), List.mem_of_getElem? (i := 292) (by decide +kernel)⟩
theorem lw_p3 : lw_okq (⟨"Treebark", "bringBack", "(LTreebark$Logged;)Z"⟩, 13) := ⟨⟨by decide +kernel, by decide +kernel⟩, List.mem_of_getElem? (i := 20) (by decide +kernel), List.mem_of_getElem? (i := 299) (by decide +kernel), List.mem_of_getElem? (i := 300) (by decide +kernel)⟩
theorem lw_p4 : lw_okq (⟨"Treebark", "changeableRoot", "(LTreebark$Tree;)LTreebark$Root;"⟩, 13) := ⟨⟨by decide +kernel, by decide +kernel⟩, List.mem_of_getElem? (i := 20) (by decide +kernel), List.mem_of_getElem? (i := 303) (by decide +kernel), List.mem_of_getElem? (i := 304) (by decide +kernel)⟩
theorem lw_p5 : lw_okq (⟨"Treebark", "changeableNode", "(LTreebark$Tree;LTreebark$Node;)LTreebark$Node;"⟩, 13) := ⟨⟨by decide +kernel, by decide +kernel⟩, List.mem_of_getElem? (i := 20) (by decide +kernel), List.mem_of_getElem? (i := 346) (by decide +kernel), List.mem_of_getElem? (i := 347) (by decide +kernel)⟩
theorem lw_p6 : lw_okq (⟨"Treebark", "treeAt", "(I)LTreebark$Tree;"⟩, 13) := ⟨⟨by decide +kernel, by decide +kernel⟩, List.mem_of_getElem? (i := 20) (by decide +kernel), List.mem_of_getElem? (i := 415) (by decide +kernel), List.mem_of_getElem? (i := 416) (by decide +kernel)⟩
theorem lw_p7 : lw_okq (⟨"java/lang/Throwable", "fillInStackTrace", "(I)Ljava/lang/Throwable;"⟩, 6) := ⟨⟨by decide +kernel, by decide +kernel⟩, List.mem_of_getElem? (i := 457) (by decide +kernel), List.mem_of_getElem? (i := 455) (by decide +kernel), List.mem_of_getElem? (i := 456) (by decide +kernel)⟩
theorem lw_p8 : lw_okq (⟨"Treebark", "clearRow", "()V"⟩, 13) := ⟨⟨by decide +kernel, by decide +kernel⟩, List.mem_of_getElem? (i := 20) (by decide +kernel), List.mem_of_getElem? (i := 576) (by decide +kernel), List.mem_of_getElem? (i := 577) (by decide +kernel)⟩
theorem lw_p9 : lw_okq (⟨"Treebark", "changeByRow", "(ILTreebark$Node;)V"⟩, 13) := ⟨⟨by decide +kernel, by decide +kernel⟩, List.mem_of_getElem? (i := 20) (by decide +kernel), List.mem_of_getElem? (i := 580) (by decide +kernel), List.mem_of_getElem? (i := 581) (by decide +kernel)⟩
theorem lw_p10 : lw_okq (⟨"Treebark$Disks", "make", "([II)LTreebark$Extent;"⟩, 6) := ⟨⟨by decide +kernel, by decide +kernel⟩, List.mem_of_getElem? (i := 28) (by decide +kernel), List.mem_of_getElem? (i := 593) (by decide +kernel), List.mem_of_getElem? (i := 594) (by decide +kernel)⟩
theorem lw_p11 : lw_okq (⟨"Treebark$Disks", "disksFor", "(I)I"⟩, 6) := ⟨⟨by decide +kernel, by decide +kernel⟩, List.mem_of_getElem? (i := 28) (by decide +kernel), List.mem_of_getElem? (i := 597) (by decide +kernel), List.mem_of_getElem? (i := 598) (by decide +kernel)⟩
theorem lw_p12 : lw_okq (⟨"Treebark", "isAboveLimits", "(ILTreebark$Node;)Z"⟩, 13) := ⟨⟨by decide +kernel, by decide +kernel⟩, List.mem_of_getElem? (i := 20) (by decide +kernel), List.mem_of_getElem? (i := 605) (by decide +kernel), List.mem_of_getElem? (i := 606) (by decide +kernel)⟩
theorem lw_p13 : lw_okq (⟨"Treebark", "weigh", "(ILTreebark$Node;LTreebark$Weight;)V"⟩, 13) := ⟨⟨by decide +kernel, by decide +kernel⟩, List.mem_of_getElem? (i := 20) (by decide +kernel), List.mem_of_getElem? (i := 609) (by decide +kernel), List.mem_of_getElem? (i := 610) (by decide +kernel)⟩
theorem lw_p14 : lw_okq (⟨"Treebark", "changePlaces", "(LTreebark$Tree;LTreebark$Node;)V"⟩, 13) := ⟨⟨by decide +kernel, by decide +kernel⟩, List.mem_of_getElem? (i := 20) (by decide +kernel), List.mem_of_getElem? (i := 658) (by decide +kernel), List.mem_of_getElem? (i := 659) (by decide +kernel)⟩
theorem lw_p15 : lw_okq (⟨"Treebark", "checkBothRuns", "(IIIIIII)V"⟩, 13) := ⟨⟨by decide +kernel, by decide +kernel⟩, List.mem_of_getElem? (i := 20) (by decide +kernel), List.mem_of_getElem? (i := 669) (by decide +kernel), List.mem_of_getElem? (i := 670) (by decide +kernel)⟩
def lw_privs_1 : List (MethodName × Nat) := [(⟨"Treebark", "keepAllTrees", "()V"⟩, 13), (⟨"Treebark$Disks", "giveRoom", "(II)V"⟩, 6), (⟨"Treebark", "treesThere", "()I"⟩, 13), (⟨"Treebark", "bringBack", "(LTreebark$Logged;)Z"⟩, 13), (⟨"Treebark", "changeableRoot", "(LTreebark$Tree;)LTreebark$Root;"⟩, 13), (⟨"Treebark", "changeableNode", "(LTreebark$Tree;LTreebark$Node;)LTreebark$Node;"⟩, 13), (⟨"Treebark", "treeAt", "(I)LTreebark$Tree;"⟩, 13), (⟨"java/lang/Throwable", "fillInStackTrace", "(I)Ljava/lang/Throwable;"⟩, 6), (⟨"Treebark", "clearRow", "()V"⟩, 13), (⟨"Treebark", "changeByRow", "(ILTreebark$Node;)V"⟩, 13), (⟨"Treebark$Disks", "make", "([II)LTreebark$Extent;"⟩, 6), (⟨"Treebark$Disks", "disksFor", "(I)I"⟩, 6), (⟨"Treebark", "isAboveLimits", "(ILTreebark$Node;)Z"⟩, 13), (⟨"Treebark", "weigh", "(ILTreebark$Node;LTreebark$Weight;)V"⟩, 13), (⟨"Treebark", "changePlaces", "(LTreebark$Tree;LTreebark$Node;)V"⟩, 13), (⟨"Treebark", "checkBothRuns", "(IIIIIII)V"⟩, 13)]
theorem lw_r1 : ∀ q ∈ lw_privs_1, lw_okq q := List.forall_mem_cons.mpr ⟨lw_p0, List.forall_mem_cons.mpr ⟨lw_p1, List.forall_mem_cons.mpr ⟨lw_p2, List.forall_mem_cons.mpr ⟨lw_p3, List.forall_mem_cons.mpr ⟨lw_p4, List.forall_mem_cons.mpr ⟨lw_p5, List.forall_mem_cons.mpr ⟨lw_p6, List.forall_mem_cons.mpr ⟨lw_p7, List.forall_mem_cons.mpr ⟨lw_p8, List.forall_mem_cons.mpr ⟨lw_p9, List.forall_mem_cons.mpr ⟨lw_p10, List.forall_mem_cons.mpr ⟨lw_p11, List.forall_mem_cons.mpr ⟨lw_p12, List.forall_mem_cons.mpr ⟨lw_p13, List.forall_mem_cons.mpr ⟨lw_p14, List.forall_mem_cons.mpr ⟨lw_p15, fun _ h => absurd h List.not_mem_nil⟩⟩⟩⟩⟩⟩⟩⟩⟩⟩⟩⟩⟩⟩⟩⟩
theorem lw_p16 : lw_okq (⟨"Treebark", "planClone", "(LTreebark$Node;IILTreebark$Node;I)V"⟩, 13) := ⟨⟨by decide +kernel, by decide +kernel⟩, List.mem_of_getElem? (i := 20) (by decide +kernel), List.mem_of_getElem? (i := 673) (by decide +kernel), List.mem_of_getElem? (i := 674) (by decide +kernel)⟩
theorem lw_p17 : lw_okq (⟨"Treebark$Places", "isFirstOfExtent", "(I)Z"⟩, 2) := ⟨⟨by decide +kernel, by decide +kernel⟩, List.mem_of_getElem? (i := 154) (by decide +kernel), List.mem_of_getElem? (i := 686) (by decide +kernel), List.mem_of_getElem? (i := 687) (by decide +kernel)⟩
theorem lw_p18 : lw_okq (⟨"Treebark", "fileWithPlace", "(III)LTreebark$Node;"⟩, 13) := ⟨⟨by decide +kernel, by decide +kernel⟩, List.mem_of_getElem? (i := 20) (by decide +kernel), List.mem_of_getElem? (i := 729) (by decide +kernel), List.mem_of_getElem? (i := 730) (by decide +kernel)⟩
theorem lw_p19 : lw_okq (⟨"Treebark", "freeTree", "()I"⟩, 13) := ⟨⟨by decide +kernel, by decide +kernel⟩, List.mem_of_getElem? (i := 20) (by decide +kernel), List.mem_of_getElem? (i := 763) (by decide +kernel), List.mem_of_getElem? (i := 764) (by decide +kernel)⟩
theorem lw_p20 : lw_okq (⟨"Treebark", "forgetLogged", "(II)V"⟩, 13) := ⟨⟨by decide +kernel, by decide +kernel⟩, List.mem_of_getElem? (i := 20) (by decide +kernel), List.mem_of_getElem? (i := 811) (by decide +kernel), List.mem_of_getElem? (i := 812) (by decide +kernel)⟩
theorem lw_p21 : lw_okq (⟨"Treebark$Stream", "tellFile", "(LTreebark$Root;LTreebark$Root;LTreebark$Node;)I"⟩, 5) := ⟨⟨by decide +kernel, by decide +kernel⟩, List.mem_of_getElem? (i := 125) (by decide +kernel), List.mem_of_getElem? (i := 854) (by decide +kernel), List.mem_of_getElem? (i := 855) (by decide +kernel)⟩
theorem lw_p22 : lw_okq (⟨"Treebark", "receiveFiles", "(LTreebark$Root;[LTreebark$Node;)Z"⟩, 13) := ⟨⟨by decide +kernel, by decide +kernel⟩, List.mem_of_getElem? (i := 20) (by decide +kernel), List.mem_of_getElem? (i := 876) (by decide +kernel), List.mem_of_getElem? (i := 877) (by decide +kernel)⟩
theorem lw_p23 : lw_okq (⟨"Treebark$Disks", "loseCopy", "(LTreebark$Extent;)V"⟩, 6) := ⟨⟨by decide +kernel, by decide +kernel⟩, List.mem_of_getElem? (i := 28) (by decide +kernel), List.mem_of_getElem? (i := 910) (by decide +kernel), List.mem_of_getElem? (i := 911) (by decide +kernel)⟩
theorem lw_p24 : lw_okq (⟨"Treebark$Disks", "gainCopy", "(LTreebark$Extent;)V"⟩, 6) := ⟨⟨by decide +kernel, by decide +kernel⟩, List.mem_of_getElem? (i := 28) (by decide +kernel), List.mem_of_getElem? (i := 914) (by decide +kernel), List.mem_of_getElem? (i := 915) (by decide +kernel)⟩
theorem lw_p25 : lw_okq (⟨"TreebarkModel", "isName", "(II)Z"⟩, 36) := ⟨⟨by decide +kernel, by decide +kernel⟩, List.mem_of_getElem? (i := 954) (by decide +kernel), List.mem_of_getElem? (i := 1077) (by decide +kernel), List.mem_of_getElem? (i := 1078) (by decide +kernel)⟩
theorem lw_p26 : lw_okq (⟨"TreebarkModel", "isTree", "(I)Z"⟩, 36) := ⟨⟨by decide +kernel, by decide +kernel⟩, List.mem_of_getElem? (i := 954) (by decide +kernel), List.mem_of_getElem? (i := 1081) (by decide +kernel), List.mem_of_getElem? (i := 1082) (by decide +kernel)⟩
theorem lw_p27 : lw_okq (⟨"TreebarkModel", "in", "(III)Z"⟩, 36) := ⟨⟨by decide +kernel, by decide +kernel⟩, List.mem_of_getElem? (i := 954) (by decide +kernel), List.mem_of_getElem? (i := 1085) (by decide +kernel), List.mem_of_getElem? (i := 1086) (by decide +kernel)⟩
theorem lw_p28 : lw_okq (⟨"TreebarkModel", "node", "(II)I"⟩, 36) := ⟨⟨by decide +kernel, by decide +kernel⟩, List.mem_of_getElem? (i := 954) (by decide +kernel), List.mem_of_getElem? (i := 1089) (by decide +kernel), List.mem_of_getElem? (i := 1090) (by decide +kernel)⟩
theorem lw_p29 : lw_okq (⟨"TreebarkModel", "holds", "(I)Z"⟩, 36) := ⟨⟨by decide +kernel, by decide +kernel⟩, List.mem_of_getElem? (i := 954) (by decide +kernel), List.mem_of_getElem? (i := 1093) (by decide +kernel), List.mem_of_getElem? (i := 1094) (by decide +kernel)⟩
theorem lw_p30 : lw_okq (⟨"TreebarkModel", "ownRoot", "(I)V"⟩, 36) := ⟨⟨by decide +kernel, by decide +kernel⟩, List.mem_of_getElem? (i := 954) (by decide +kernel), List.mem_of_getElem? (i := 1097) (by decide +kernel), List.mem_of_getElem? (i := 1098) (by decide +kernel)⟩
theorem lw_p31 : lw_okq (⟨"TreebarkModel", "isRootShared", "(I)Z"⟩, 36) := ⟨⟨by decide +kernel, by decide +kernel⟩, List.mem_of_getElem? (i := 954) (by decide +kernel), List.mem_of_getElem? (i := 1101) (by decide +kernel), List.mem_of_getElem? (i := 1102) (by decide +kernel)⟩
def lw_privs_2 : List (MethodName × Nat) := [(⟨"Treebark", "planClone", "(LTreebark$Node;IILTreebark$Node;I)V"⟩, 13), (⟨"Treebark$Places", "isFirstOfExtent", "(I)Z"⟩, 2), (⟨"Treebark", "fileWithPlace", "(III)LTreebark$Node;"⟩, 13), (⟨"Treebark", "freeTree", "()I"⟩, 13), (⟨"Treebark", "forgetLogged", "(II)V"⟩, 13), (⟨"Treebark$Stream", "tellFile", "(LTreebark$Root;LTreebark$Root;LTreebark$Node;)I"⟩, 5), (⟨"Treebark", "receiveFiles", "(LTreebark$Root;[LTreebark$Node;)Z"⟩, 13), (⟨"Treebark$Disks", "loseCopy", "(LTreebark$Extent;)V"⟩, 6), (⟨"Treebark$Disks", "gainCopy", "(LTreebark$Extent;)V"⟩, 6), (⟨"TreebarkModel", "isName", "(II)Z"⟩, 36), (⟨"TreebarkModel", "isTree", "(I)Z"⟩, 36), (⟨"TreebarkModel", "in", "(III)Z"⟩, 36), (⟨"TreebarkModel", "node", "(II)I"⟩, 36), (⟨"TreebarkModel", "holds", "(I)Z"⟩, 36), (⟨"TreebarkModel", "ownRoot", "(I)V"⟩, 36), (⟨"TreebarkModel", "isRootShared", "(I)Z"⟩, 36)]
theorem lw_r2 : ∀ q ∈ lw_privs_2, lw_okq q := List.forall_mem_cons.mpr ⟨lw_p16, List.forall_mem_cons.mpr ⟨lw_p17, List.forall_mem_cons.mpr ⟨lw_p18, List.forall_mem_cons.mpr ⟨lw_p19, List.forall_mem_cons.mpr ⟨lw_p20, List.forall_mem_cons.mpr ⟨lw_p21, List.forall_mem_cons.mpr ⟨lw_p22, List.forall_mem_cons.mpr ⟨lw_p23, List.forall_mem_cons.mpr ⟨lw_p24, List.forall_mem_cons.mpr ⟨lw_p25, List.forall_mem_cons.mpr ⟨lw_p26, List.forall_mem_cons.mpr ⟨lw_p27, List.forall_mem_cons.mpr ⟨lw_p28, List.forall_mem_cons.mpr ⟨lw_p29, List.forall_mem_cons.mpr ⟨lw_p30, List.forall_mem_cons.mpr ⟨lw_p31, fun _ h => absurd h List.not_mem_nil⟩⟩⟩⟩⟩⟩⟩⟩⟩⟩⟩⟩⟩⟩⟩⟩
theorem lw_p32 : lw_okq (⟨"TreebarkModel", "hasRoot", "(II)Z"⟩, 36) := ⟨⟨by decide +kernel, by decide +kernel⟩, List.mem_of_getElem? (i := 954) (by decide +kernel), List.mem_of_getElem? (i := 1105) (by decide +kernel), List.mem_of_getElem? (i := 1106) (by decide +kernel)⟩
theorem lw_p33 : lw_okq (⟨"TreebarkModel", "freeRoot", "()I"⟩, 36) := ⟨⟨by decide +kernel, by decide +kernel⟩, List.mem_of_getElem? (i := 954) (by decide +kernel), List.mem_of_getElem? (i := 1109) (by decide +kernel), List.mem_of_getElem? (i := 1110) (by decide +kernel)⟩
theorem lw_p34 : lw_okq (⟨"TreebarkModel", "newNode", "(I)I"⟩, 36) := ⟨⟨by decide +kernel, by decide +kernel⟩, List.mem_of_getElem? (i := 954) (by decide +kernel), List.mem_of_getElem? (i := 1113) (by decide +kernel), List.mem_of_getElem? (i := 1114) (by decide +kernel)⟩
theorem lw_p35 : lw_okq (⟨"TreebarkModel", "freeNode", "()I"⟩, 36) := ⟨⟨by decide +kernel, by decide +kernel⟩, List.mem_of_getElem? (i := 954) (by decide +kernel), List.mem_of_getElem? (i := 1117) (by decide +kernel), List.mem_of_getElem? (i := 1118) (by decide +kernel)⟩
theorem lw_p36 : lw_okq (⟨"TreebarkModel", "names", "(II)I"⟩, 36) := ⟨⟨by decide +kernel, by decide +kernel⟩, List.mem_of_getElem? (i := 954) (by decide +kernel), List.mem_of_getElem? (i := 1125) (by decide +kernel), List.mem_of_getElem? (i := 1126) (by decide +kernel)⟩
theorem lw_p37 : lw_okq (⟨"TreebarkModel", "settle", "()V"⟩, 36) := ⟨⟨by decide +kernel, by decide +kernel⟩, List.mem_of_getElem? (i := 954) (by decide +kernel), List.mem_of_getElem? (i := 1133) (by decide +kernel), List.mem_of_getElem? (i := 1134) (by decide +kernel)⟩
theorem lw_p38 : lw_okq (⟨"TreebarkModel", "clear", "()V"⟩, 36) := ⟨⟨by decide +kernel, by decide +kernel⟩, List.mem_of_getElem? (i := 954) (by decide +kernel), List.mem_of_getElem? (i := 1137) (by decide +kernel), List.mem_of_getElem? (i := 1138) (by decide +kernel)⟩
theorem lw_p39 : lw_okq (⟨"TreebarkModel", "hasNode", "(II)Z"⟩, 36) := ⟨⟨by decide +kernel, by decide +kernel⟩, List.mem_of_getElem? (i := 954) (by decide +kernel), List.mem_of_getElem? (i := 1141) (by decide +kernel), List.mem_of_getElem? (i := 1142) (by decide +kernel)⟩
theorem lw_p40 : lw_okq (⟨"TreebarkModel", "sweep", "()V"⟩, 36) := ⟨⟨by decide +kernel, by decide +kernel⟩, List.mem_of_getElem? (i := 954) (by decide +kernel), List.mem_of_getElem? (i := 1145) (by decide +kernel), List.mem_of_getElem? (i := 1146) (by decide +kernel)⟩
theorem lw_p41 : lw_okq (⟨"TreebarkModel", "useTree", "(I[I)V"⟩, 36) := ⟨⟨by decide +kernel, by decide +kernel⟩, List.mem_of_getElem? (i := 954) (by decide +kernel), List.mem_of_getElem? (i := 1149) (by decide +kernel), List.mem_of_getElem? (i := 1150) (by decide +kernel)⟩
theorem lw_p42 : lw_okq (⟨"TreebarkModel", "use", "(I[I)V"⟩, 36) := ⟨⟨by decide +kernel, by decide +kernel⟩, List.mem_of_getElem? (i := 954) (by decide +kernel), List.mem_of_getElem? (i := 1153) (by decide +kernel), List.mem_of_getElem? (i := 1154) (by decide +kernel)⟩
theorem lw_p43 : lw_okq (⟨"TreebarkModel", "isPlace", "(I)Z"⟩, 36) := ⟨⟨by decide +kernel, by decide +kernel⟩, List.mem_of_getElem? (i := 954) (by decide +kernel), List.mem_of_getElem? (i := 1169) (by decide +kernel), List.mem_of_getElem? (i := 1170) (by decide +kernel)⟩
theorem lw_p44 : lw_okq (⟨"TreebarkModel", "make", "(I)I"⟩, 36) := ⟨⟨by decide +kernel, by decide +kernel⟩, List.mem_of_getElem? (i := 954) (by decide +kernel), List.mem_of_getElem? (i := 1173) (by decide +kernel), List.mem_of_getElem? (i := 1174) (by decide +kernel)⟩
theorem lw_p45 : lw_okq (⟨"TreebarkModel", "room", "(I)I"⟩, 36) := ⟨⟨by decide +kernel, by decide +kernel⟩, List.mem_of_getElem? (i := 954) (by decide +kernel), List.mem_of_getElem? (i := 1177) (by decide +kernel), List.mem_of_getElem? (i := 1178) (by decide +kernel)⟩
theorem lw_p46 : lw_okq (⟨"TreebarkModel", "blocks", "(I)I"⟩, 36) := ⟨⟨by decide +kernel, by decide +kernel⟩, List.mem_of_getElem? (i := 954) (by decide +kernel), List.mem_of_getElem? (i := 1181) (by decide +kernel), List.mem_of_getElem? (i := 1182) (by decide +kernel)⟩
theorem lw_p47 : lw_okq (⟨"TreebarkModel", "planned", "(I)V"⟩, 36) := ⟨⟨by decide +kernel, by decide +kernel⟩, List.mem_of_getElem? (i := 954) (by decide +kernel), List.mem_of_getElem? (i := 1185) (by decide +kernel), List.mem_of_getElem? (i := 1186) (by decide +kernel)⟩
def lw_privs_3 : List (MethodName × Nat) := [(⟨"TreebarkModel", "hasRoot", "(II)Z"⟩, 36), (⟨"TreebarkModel", "freeRoot", "()I"⟩, 36), (⟨"TreebarkModel", "newNode", "(I)I"⟩, 36), (⟨"TreebarkModel", "freeNode", "()I"⟩, 36), (⟨"TreebarkModel", "names", "(II)I"⟩, 36), (⟨"TreebarkModel", "settle", "()V"⟩, 36), (⟨"TreebarkModel", "clear", "()V"⟩, 36), (⟨"TreebarkModel", "hasNode", "(II)Z"⟩, 36), (⟨"TreebarkModel", "sweep", "()V"⟩, 36), (⟨"TreebarkModel", "useTree", "(I[I)V"⟩, 36), (⟨"TreebarkModel", "use", "(I[I)V"⟩, 36), (⟨"TreebarkModel", "isPlace", "(I)Z"⟩, 36), (⟨"TreebarkModel", "make", "(I)I"⟩, 36), (⟨"TreebarkModel", "room", "(I)I"⟩, 36), (⟨"TreebarkModel", "blocks", "(I)I"⟩, 36), (⟨"TreebarkModel", "planned", "(I)V"⟩, 36)]
theorem lw_r3 : ∀ q ∈ lw_privs_3, lw_okq q := List.forall_mem_cons.mpr ⟨lw_p32, List.forall_mem_cons.mpr ⟨lw_p33, List.forall_mem_cons.mpr ⟨lw_p34, List.forall_mem_cons.mpr ⟨lw_p35, List.forall_mem_cons.mpr ⟨lw_p36, List.forall_mem_cons.mpr ⟨lw_p37, List.forall_mem_cons.mpr ⟨lw_p38, List.forall_mem_cons.mpr ⟨lw_p39, List.forall_mem_cons.mpr ⟨lw_p40, List.forall_mem_cons.mpr ⟨lw_p41, List.forall_mem_cons.mpr ⟨lw_p42, List.forall_mem_cons.mpr ⟨lw_p43, List.forall_mem_cons.mpr ⟨lw_p44, List.forall_mem_cons.mpr ⟨lw_p45, List.forall_mem_cons.mpr ⟨lw_p46, List.forall_mem_cons.mpr ⟨lw_p47, fun _ h => absurd h List.not_mem_nil⟩⟩⟩⟩⟩⟩⟩⟩⟩⟩⟩⟩⟩⟩⟩⟩
theorem lw_p48 : lw_okq (⟨"TreebarkModel", "keeps", "(II)Z"⟩, 36) := ⟨⟨by decide +kernel, by decide +kernel⟩, List.mem_of_getElem? (i := 954) (by decide +kernel), List.mem_of_getElem? (i := 1189) (by decide +kernel), List.mem_of_getElem? (i := 1190) (by decide +kernel)⟩
theorem lw_p49 : lw_okq (⟨"TreebarkModel", "markAll", "(IIZ)V"⟩, 36) := ⟨⟨by decide +kernel, by decide +kernel⟩, List.mem_of_getElem? (i := 954) (by decide +kernel), List.mem_of_getElem? (i := 1193) (by decide +kernel), List.mem_of_getElem? (i := 1194) (by decide +kernel)⟩
theorem lw_p50 : lw_okq (⟨"TreebarkModel", "refers", "(Z)I"⟩, 36) := ⟨⟨by decide +kernel, by decide +kernel⟩, List.mem_of_getElem? (i := 954) (by decide +kernel), List.mem_of_getElem? (i := 1197) (by decide +kernel), List.mem_of_getElem? (i := 1198) (by decide +kernel)⟩
theorem lw_p51 : lw_okq (⟨"TreebarkModel", "undo", "(I)V"⟩, 36) := ⟨⟨by decide +kernel, by decide +kernel⟩, List.mem_of_getElem? (i := 954) (by decide +kernel), List.mem_of_getElem? (i := 1201) (by decide +kernel), List.mem_of_getElem? (i := 1202) (by decide +kernel)⟩
theorem lw_p52 : lw_okq (⟨"TreebarkModel", "apply", "(II)V"⟩, 36) := ⟨⟨by decide +kernel, by decide +kernel⟩, List.mem_of_getElem? (i := 954) (by decide +kernel), List.mem_of_getElem? (i := 1205) (by decide +kernel), List.mem_of_getElem? (i := 1206) (by decide +kernel)⟩
theorem lw_p53 : lw_okq (⟨"TreebarkModel", "ownNode", "(II)I"⟩, 36) := ⟨⟨by decide +kernel, by decide +kernel⟩, List.mem_of_getElem? (i := 954) (by decide +kernel), List.mem_of_getElem? (i := 1209) (by decide +kernel), List.mem_of_getElem? (i := 1210) (by decide +kernel)⟩
theorem lw_p54 : lw_okq (⟨"TreebarkModel", "isNodeShared", "(II)Z"⟩, 36) := ⟨⟨by decide +kernel, by decide +kernel⟩, List.mem_of_getElem? (i := 954) (by decide +kernel), List.mem_of_getElem? (i := 1213) (by decide +kernel), List.mem_of_getElem? (i := 1214) (by decide +kernel)⟩
theorem lw_p55 : lw_okq (⟨"TreebarkModel", "bars", "(IIIIIII)I"⟩, 36) := ⟨⟨by decide +kernel, by decide +kernel⟩, List.mem_of_getElem? (i := 954) (by decide +kernel), List.mem_of_getElem? (i := 1225) (by decide +kernel), List.mem_of_getElem? (i := 1226) (by decide +kernel)⟩
theorem lw_p56 : lw_okq (⟨"TreebarkModel", "isPair", "(IIIIII)Z"⟩, 36) := ⟨⟨by decide +kernel, by decide +kernel⟩, List.mem_of_getElem? (i := 954) (by decide +kernel), List.mem_of_getElem? (i := 1229) (by decide +kernel), List.mem_of_getElem? (i := 1230) (by decide +kernel)⟩
theorem lw_p57 : lw_okq (⟨"TreebarkModel", "planClone", "(IIIIIII)V"⟩, 36) := ⟨⟨by decide +kernel, by decide +kernel⟩, List.mem_of_getElem? (i := 954) (by decide +kernel), List.mem_of_getElem? (i := 1233) (by decide +kernel), List.mem_of_getElem? (i := 1234) (by decide +kernel)⟩
theorem lw_p58 : lw_okq (⟨"TreebarkModel", "common", "(II)I"⟩, 36) := ⟨⟨by decide +kernel, by decide +kernel⟩, List.mem_of_getElem? (i := 954) (by decide +kernel), List.mem_of_getElem? (i := 1237) (by decide +kernel), List.mem_of_getElem? (i := 1238) (by decide +kernel)⟩
theorem lw_p59 : lw_okq (⟨"TreebarkModel", "told", "(I)I"⟩, 36) := ⟨⟨by decide +kernel, by decide +kernel⟩, List.mem_of_getElem? (i := 954) (by decide +kernel), List.mem_of_getElem? (i := 1245) (by decide +kernel), List.mem_of_getElem? (i := 1246) (by decide +kernel)⟩
theorem lw_p60 : lw_okq (⟨"TreebarkModel", "isGood", "(I)Z"⟩, 36) := ⟨⟨by decide +kernel, by decide +kernel⟩, List.mem_of_getElem? (i := 954) (by decide +kernel), List.mem_of_getElem? (i := 1249) (by decide +kernel), List.mem_of_getElem? (i := 1250) (by decide +kernel)⟩
theorem lw_p61 : lw_okq (⟨"TreebarkModel", "runs", "([II)I"⟩, 36) := ⟨⟨by decide +kernel, by decide +kernel⟩, List.mem_of_getElem? (i := 954) (by decide +kernel), List.mem_of_getElem? (i := 1257) (by decide +kernel), List.mem_of_getElem? (i := 1258) (by decide +kernel)⟩
theorem lw_p62 : lw_okq (⟨"TreebarkModel", "trees", "()I"⟩, 36) := ⟨⟨by decide +kernel, by decide +kernel⟩, List.mem_of_getElem? (i := 954) (by decide +kernel), List.mem_of_getElem? (i := 1277) (by decide +kernel), List.mem_of_getElem? (i := 1278) (by decide +kernel)⟩
theorem lw_p63 : lw_okq (⟨"TreebarkModel", "freeTree", "()I"⟩, 36) := ⟨⟨by decide +kernel, by decide +kernel⟩, List.mem_of_getElem? (i := 954) (by decide +kernel), List.mem_of_getElem? (i := 1281) (by decide +kernel), List.mem_of_getElem? (i := 1282) (by decide +kernel)⟩
def lw_privs_4 : List (MethodName × Nat) := [(⟨"TreebarkModel", "keeps", "(II)Z"⟩, 36), (⟨"TreebarkModel", "markAll", "(IIZ)V"⟩, 36), (⟨"TreebarkModel", "refers", "(Z)I"⟩, 36), (⟨"TreebarkModel", "undo", "(I)V"⟩, 36), (⟨"TreebarkModel", "apply", "(II)V"⟩, 36), (⟨"TreebarkModel", "ownNode", "(II)I"⟩, 36), (⟨"TreebarkModel", "isNodeShared", "(II)Z"⟩, 36), (⟨"TreebarkModel", "bars", "(IIIIIII)I"⟩, 36), (⟨"TreebarkModel", "isPair", "(IIIIII)Z"⟩, 36), (⟨"TreebarkModel", "planClone", "(IIIIIII)V"⟩, 36), (⟨"TreebarkModel", "common", "(II)I"⟩, 36), (⟨"TreebarkModel", "told", "(I)I"⟩, 36), (⟨"TreebarkModel", "isGood", "(I)Z"⟩, 36), (⟨"TreebarkModel", "runs", "([II)I"⟩, 36), (⟨"TreebarkModel", "trees", "()I"⟩, 36), (⟨"TreebarkModel", "freeTree", "()I"⟩, 36)]
theorem lw_r4 : ∀ q ∈ lw_privs_4, lw_okq q := List.forall_mem_cons.mpr ⟨lw_p48, List.forall_mem_cons.mpr ⟨lw_p49, List.forall_mem_cons.mpr ⟨lw_p50, List.forall_mem_cons.mpr ⟨lw_p51, List.forall_mem_cons.mpr ⟨lw_p52, List.forall_mem_cons.mpr ⟨lw_p53, List.forall_mem_cons.mpr ⟨lw_p54, List.forall_mem_cons.mpr ⟨lw_p55, List.forall_mem_cons.mpr ⟨lw_p56, List.forall_mem_cons.mpr ⟨lw_p57, List.forall_mem_cons.mpr ⟨lw_p58, List.forall_mem_cons.mpr ⟨lw_p59, List.forall_mem_cons.mpr ⟨lw_p60, List.forall_mem_cons.mpr ⟨lw_p61, List.forall_mem_cons.mpr ⟨lw_p62, List.forall_mem_cons.mpr ⟨lw_p63, fun _ h => absurd h List.not_mem_nil⟩⟩⟩⟩⟩⟩⟩⟩⟩⟩⟩⟩⟩⟩⟩⟩
theorem lw_p64 : lw_okq (⟨"TreebarkModel", "like", "(IIIII)V"⟩, 36) := ⟨⟨by decide +kernel, by decide +kernel⟩, List.mem_of_getElem? (i := 954) (by decide +kernel), List.mem_of_getElem? (i := 1285) (by decide +kernel), List.mem_of_getElem? (i := 1286) (by decide +kernel)⟩
theorem lw_p65 : lw_okq (⟨"TreebarkModel", "keep", "()V"⟩, 36) := ⟨⟨by decide +kernel, by decide +kernel⟩, List.mem_of_getElem? (i := 954) (by decide +kernel), List.mem_of_getElem? (i := 1309) (by decide +kernel), List.mem_of_getElem? (i := 1310) (by decide +kernel)⟩
theorem lw_p66 : lw_okq (⟨"TreebarkModel", "replay", "(I)V"⟩, 36) := ⟨⟨by decide +kernel, by decide +kernel⟩, List.mem_of_getElem? (i := 954) (by decide +kernel), List.mem_of_getElem? (i := 1321) (by decide +kernel), List.mem_of_getElem? (i := 1322) (by decide +kernel)⟩
theorem lw_p67 : lw_okq (⟨"TreebarkModel", "numbered", "(II)I"⟩, 36) := ⟨⟨by decide +kernel, by decide +kernel⟩, List.mem_of_getElem? (i := 954) (by decide +kernel), List.mem_of_getElem? (i := 1325) (by decide +kernel), List.mem_of_getElem? (i := 1326) (by decide +kernel)⟩
theorem lw_p68 : lw_okq (⟨"TreebarkModel", "canSend", "(II)Z"⟩, 36) := ⟨⟨by decide +kernel, by decide +kernel⟩, List.mem_of_getElem? (i := 954) (by decide +kernel), List.mem_of_getElem? (i := 1333) (by decide +kernel), List.mem_of_getElem? (i := 1334) (by decide +kernel)⟩
theorem lw_p69 : lw_okq (⟨"TreebarkModel", "above", "(II)I"⟩, 36) := ⟨⟨by decide +kernel, by decide +kernel⟩, List.mem_of_getElem? (i := 954) (by decide +kernel), List.mem_of_getElem? (i := 1337) (by decide +kernel), List.mem_of_getElem? (i := 1338) (by decide +kernel)⟩
theorem lw_p70 : lw_okq (⟨"TreebarkModel", "isOther", "(III)Z"⟩, 36) := ⟨⟨by decide +kernel, by decide +kernel⟩, List.mem_of_getElem? (i := 954) (by decide +kernel), List.mem_of_getElem? (i := 1341) (by decide +kernel), List.mem_of_getElem? (i := 1342) (by decide +kernel)⟩
theorem lw_p71 : lw_okq (⟨"TreebarkModel", "unpack", "()Z"⟩, 36) := ⟨⟨by decide +kernel, by decide +kernel⟩, List.mem_of_getElem? (i := 954) (by decide +kernel), List.mem_of_getElem? (i := 1349) (by decide +kernel), List.mem_of_getElem? (i := 1350) (by decide +kernel)⟩
theorem lw_p72 : lw_okq (⟨"TreebarkModel", "become", "(II)I"⟩, 36) := ⟨⟨by decide +kernel, by decide +kernel⟩, List.mem_of_getElem? (i := 954) (by decide +kernel), List.mem_of_getElem? (i := 1353) (by decide +kernel), List.mem_of_getElem? (i := 1354) (by decide +kernel)⟩
theorem lw_p73 : lw_okq (⟨"TreebarkModel", "later", "(I)I"⟩, 36) := ⟨⟨by decide +kernel, by decide +kernel⟩, List.mem_of_getElem? (i := 954) (by decide +kernel), List.mem_of_getElem? (i := 1365) (by decide +kernel), List.mem_of_getElem? (i := 1366) (by decide +kernel)⟩
def lw_privs_5 : List (MethodName × Nat) := [(⟨"TreebarkModel", "like", "(IIIII)V"⟩, 36), (⟨"TreebarkModel", "keep", "()V"⟩, 36), (⟨"TreebarkModel", "replay", "(I)V"⟩, 36), (⟨"TreebarkModel", "numbered", "(II)I"⟩, 36), (⟨"TreebarkModel", "canSend", "(II)Z"⟩, 36), (⟨"TreebarkModel", "above", "(II)I"⟩, 36), (⟨"TreebarkModel", "isOther", "(III)Z"⟩, 36), (⟨"TreebarkModel", "unpack", "()Z"⟩, 36), (⟨"TreebarkModel", "become", "(II)I"⟩, 36), (⟨"TreebarkModel", "later", "(I)I"⟩, 36)]
theorem lw_r5 : ∀ q ∈ lw_privs_5, lw_okq q := List.forall_mem_cons.mpr ⟨lw_p64, List.forall_mem_cons.mpr ⟨lw_p65, List.forall_mem_cons.mpr ⟨lw_p66, List.forall_mem_cons.mpr ⟨lw_p67, List.forall_mem_cons.mpr ⟨lw_p68, List.forall_mem_cons.mpr ⟨lw_p69, List.forall_mem_cons.mpr ⟨lw_p70, List.forall_mem_cons.mpr ⟨lw_p71, List.forall_mem_cons.mpr ⟨lw_p72, List.forall_mem_cons.mpr ⟨lw_p73, fun _ h => absurd h List.not_mem_nil⟩⟩⟩⟩⟩⟩⟩⟩⟩⟩
def lw_privs : List (MethodName × Nat) := lw_privs_1 ++ (lw_privs_2 ++ (lw_privs_3 ++ (lw_privs_4 ++ (lw_privs_5))))
def lw_tbl : List Cond := k2_sels lw_privs ++ tables_1
theorem lw_privs_ok : ∀ q ∈ lw_privs, lw_okq q := by
  show ∀ q ∈ lw_privs_1 ++ (lw_privs_2 ++ (lw_privs_3 ++ (lw_privs_4 ++ (lw_privs_5)))), lw_okq q
  exact List.forall_mem_append.mpr ⟨lw_r1, List.forall_mem_append.mpr ⟨lw_r2, List.forall_mem_append.mpr ⟨lw_r3, List.forall_mem_append.mpr ⟨lw_r4, lw_r5⟩⟩⟩⟩
-- ===== end of PART A; then your names; then what follows =====
/-! ===== BEGIN words of one list among another's, by their places ===== -/
theorem goodIn_r {big : List Cond} (ws : List Cond) (ps : List Nat) (hp : ws = ps.filterMap (fun i => big[i]?)) (h : ws.all goodWord = true) : GoodIn big ws := by
  intro w hw
  have h1 := List.all_eq_true.mp h w hw
  rw [hp] at hw
  obtain ⟨i, -, hi⟩ := List.mem_filterMap.mp hw
  have hm : w ∈ big := by first | exact List.mem_of_getElem? hi | exact List.getElem?_mem hi
  exact ⟨hm, good_of_word h1⟩
theorem goodIn_app {big a b : List Cond} (ha : GoodIn big a) (hb : GoodIn big b) : GoodIn big (a ++ b) := fun w h => (List.mem_append.mp h).elim (ha w) (hb w)
theorem goodIn_ca {big a b : List Cond} {c : Cond} (ha : GoodIn big (c :: a)) (hb : GoodIn big b) : GoodIn big (c :: (a ++ b)) := fun w h => (List.mem_cons.mp h).elim (fun e => ha w (List.mem_cons.mpr (Or.inl e))) (fun h => (List.mem_append.mp h).elim (fun h => ha w (List.mem_cons.mpr (Or.inr h))) (hb w))
theorem goodIn_sub {big ws : List Cond} (hm : ∀ w ∈ ws, w ∈ big) (h : ws.all goodWord = true) : GoodIn big ws := fun w hw => ⟨hm w hw, good_of_word (List.all_eq_true.mp h w hw)⟩
/-! ===== END ===== -/
/-! ===== BEGIN exceptions that leave a method, and their catching by the caller (launches without stack traces) ===== -/
section VXA
/-! The laws vx_back, vx_callV, vx_callS, vx_callSW, vx_throw0, vx_throwS follow proofs of the library, with one case more: JvmDerived/Free/Laws.lean (Back.of_free), Shelf42/LK1.lean (callV, callS), Shelf/KitTraced.lean (throwNew0V, throwNewS). -/
/-- where a method has thrown q: the class by its name, the cell, what was written, the world -/
def vx_T (XC : String → State → State → Prop) (st : State) (q : Addr) (t : State) (mc ms : Nat) (free : Addr → Prop) : Prop :=
  ∃ (E : String) (ce : Cell) (L : List Loc), XC E st t ∧ t.heap[q]? = some ce ∧ ce.vm = .none ∧ st.vm.findClass E = some ce.cls ∧ st.WarmedH t.vm ∧ st.sameButNew ({ t with vm := st.vm } : State) L mc ms ∧ ∀ z ∈ L, free z.base
def vx_Q (Qc : Array Value → State → Outcome → State → Prop) (XC : String → State → State → Prop) (mc ms : Nat) (free : Addr → Prop) : Array Value → State → Outcome → State → Prop := fun a st o t =>
  (Qc a st o t ∧ ∃ L, FrameEnd st o t L mc ms ∧ ∀ q ∈ L, free q.base) ∨ ∃ q, o = .threw q ∧ vx_T XC st q t mc ms free
/-- a callee that returns or throws -/
def vx_Met (l : Launch) (y : MethodName) (ws : List Cond) (rm : Room) (Pc : Array Value → State → Prop) (Qc : Array Value → State → Outcome → State → Prop) (XC : String → State → State → Prop) (mc ms : Nat) (free : Addr → Prop) : Prop :=
  MetFree l y (headSpec ws rm) Pc (fun _ _ _ _ _ => True) (vx_Q Qc XC mc ms free)
def vx_Post (XC : String → State → State → Prop) (mc ms : Nat) (free : Addr → Prop) : Pt → Array Value → Addr → Pt → Prop := fun A a q B =>
  ∃ (g : JFrame) (mk : MethodId) (t : State) (L : List Loc) (E : String) (ce : Cell), B.U.heap = t.heap ∧ B.U.vm = t.vm ∧ XC E (A.U.calling g mk a) t ∧ t.heap[q]? = some ce ∧ ce.vm = .none ∧ A.U.vm.findClass E = some ce.cls ∧ B.locs = A.locs ++ L ∧ (∀ z ∈ L, free z.base) ∧ B.cells = A.cells + mc ∧ B.slots = A.slots + ms
def vx_Back (l : Launch) (R : Room) (p : Program) (e : Env) (below : List Frame) (s : State) (sargs : Array Value) (y : MethodName) (len W9 : Nat)
    (Pre : Pt → Array Value → Prop) (Post : Pt → Array Value → Option Value → Pt → Prop) (PostX : Pt → Array Value → Addr → Pt → Prop) : Prop :=
  ∀ (m : MethodId) (meth : Method) (c : Code) (A : Pt) (g : JFrame) (ig : Instr) (mk : MethodId) (a : Array Value),
    Stand p l e R s m sargs below meth c A.U A.locs A.cells A.slots → g.method = m → g.locals.size = c.maxLocals → decode c.code g.pc = .ok (ig, len) →
    2 * g.monitorRoom + (g.stack.map fun v => v.category).sum ≤ W9 → A.U.methodNamed? y = some mk → Pre A a →
    (∃ (v : Option Value) (B : Pt), Stand p l e R s m sargs below meth c B.U B.locs B.cells B.slots ∧ Post A a v B ∧
      Steps p.tables e below (doInvoke e (A.U.setTop g) [] mk a).1 (B.U.setTop { g with pc := g.pc + len, stack := v.toList ++ g.stack })) ∨
    (∃ (q : Addr) (B : Pt), Stand p l e R s m sargs below meth c B.U B.locs B.cells B.slots ∧ PostX A a q B ∧
      Steps p.tables e below (doInvoke e (A.U.setTop g) [] mk a).1 ((B.U.setTop g).pushFrame (.throwing q)))
section Payer
variable {l : Launch} {R : Room} {p : Program} {e : Env} {below : List Frame} {s : State} {sargs : Array Value} {y : MethodName} {len W9 : Nat}
theorem vx_back {ws : List Cond} {rm : Room} {Pc : Array Value → State → Prop} {Qc : Array Value → State → Outcome → State → Prop} {XC : String → State → State → Prop} {mc ms : Nat} {free : Addr → Prop} {bytes : ByteArray} {maxL : Nat} {ret : Option FieldType}
    (hM : vx_Met l y ws rm Pc Qc XC mc ms free) (hblind : FrameBlind Pc) (hrc : rm.cells = mc) (hrs : rm.slots = ms)
    (hframes : rm.frames + 1 ≤ R.frames) (hlocals : W9 + (maxL + 11) + rm.locals ≤ R.locals)
    (hws : ∀ w ∈ ws, ∀ a' U, s.WarmedH U.vm → w.before a' U = true) (hcode : Cond.code y bytes maxL ret ∈ ws) (hinit : ∀ a' U, s.WarmedH U.vm → (Cond.initialized y.cls).before a' U = true) :
    vx_Back l R p e below s sargs y len W9 (PreOf R mc ms Pc) (PostOf Qc mc ms free) (vx_Post XC mc ms free) := by
  intro m meth c A g ig mk a X hg hsize hdg hW hn hp
  have h1 : (headSpec ws rm).pre.before a A.U = true := atoms_intro fun w hw => hws w hw _ _ X.warmed
  have h2 : (Cond.code y bytes maxL ret).before a A.U = true := hws _ hcode _ _ X.warmed
  have h3 : (Cond.initialized y.cls).before a A.U = true := hinit _ _ X.warmed
  have h4 : A.cells + (headSpec ws rm).room.cells ≤ R.cells := by rw [show (headSpec ws rm).room.cells = mc from hrc]; exact hp.1
  have h5 : A.slots + (headSpec ws rm).room.slots ≤ R.slots := by rw [show (headSpec ws rm).room.slots = ms from hrs]; exact hp.2.1
  have hPc : Pc a (A.U.calling g mk a) := hblind _ _ _ _ hp.2.2
  obtain ⟨U, Ls, c0, s0⟩ := A
  dsimp only [Pt.U, Pt.locs, Pt.cells, Pt.slots] at h1 h2 h3 h4 h5 X hn hPc ⊢
  obtain ⟨methY, cY, hmY, hcY, -, hlY, -, -, -, -⟩ := Cond.code_spec hn h2
  obtain ⟨kY, hkY, -⟩ := className_of_methodNamed hn
  have hinitY : kY.init = .initialized := Cond.initialized_spec (findClass_of_methodNamed hn) hkY h3
  have h : At U g.method c below := by rw [hg]; exact X.here
  have hlocals9 : W9 + (maxL + 11) + (headSpec ws rm).room.locals ≤ R.locals := hlocals
  have happ : (headSpec ws rm).appliesLoose y e.platform (U.calling g mk a) = true :=
    Spec.appliesLoose_calling (g := g) h hdg hn hkY hinitY
      (X.room_calling (g := g) (R' := (headSpec ws rm).room) hsize hmY hcY hframes (by rw [hlY]; omega) h4 h5) h1
  obtain ⟨mid, hmid⟩ := h.above
  have hfr : (U.setTop g).frames = (.java g :: mid) ++ below := by rw [State.frames_setTop' g h.top, hmid]; rfl
  obtain ⟨o, s₂, hsteps, -, hend, hq⟩ := Steps.callFree hM p X.admits X.cas X.clock (acts := []) hfr happ hPc trivial
  have hq' : vx_Q Qc XC mc ms free a (U.calling g mk a) o s₂ := hq
  rw [State.frames_setTop' g h.top] at hend
  obtain ⟨g₀, hg0⟩ := Option.isSome_iff_exists.mp h.top
  obtain ⟨r, hr⟩ := State.topJava?_eq_some.mp hg0
  have hr' : (({ U with heap := s₂.heap, slotsUsed := s₂.slotsUsed } : State).setVm s₂.vm).frames = .java g₀ :: r := hr
  rcases hq' with ⟨hqc, L, hfe, hL⟩ | ⟨q, rfl, E, ce, L, hx, hce, hcv, hcl, hW₂, hsm, hL⟩
  · obtain ⟨⟨v, rfl⟩, hW₂, e2, q2, q3, q4, q5, q6⟩ := id hfe
    have e3 : s₂ = ({ (U.calling g mk a).setFrames s₂.frames with heap := s₂.heap, slotsUsed := s₂.slotsUsed } : State).setVm s₂.vm := by
      have : s₂ = ({ s₂ with vm := (U.calling g mk a).vm } : State).setVm s₂.vm := rfl
      rw [e2] at this
      exact this
    obtain ⟨c₂, i₂, len₂, hc₂, hd₂, hf₂⟩ := hend
    have hW' : U.WarmedH s₂.vm := hW₂
    have hcc : c₂ = c := by
      have h1 : s₂.code? g.method = U.code? g.method := by
        rw [State.code?_eq, State.code?_eq, hW'.alike.method?]
      exact Option.some.inj (hc₂.symm.trans (h1.trans h.code))
    subst hcc
    have hlen : len₂ = len := by rw [hdg] at hd₂; cases hd₂; rfl
    subst hlen
    have hs₂ : s₂ = (({ U with heap := s₂.heap, slotsUsed := s₂.slotsUsed } : State).setVm s₂.vm).setTop { g with pc := g.pc + len₂, stack := v.toList ++ g.stack } := by
      refine e3.trans ?_
      rw [hf₂, State.calling_eq h.top, State.setFrames_setFrames, State.setTop_of_frames _ hr', hr]
      rfl
    have hsame : U.sameButNew ({ U with heap := s₂.heap, slotsUsed := s₂.slotsUsed } : State) L mc ms := by
      refine ⟨?_, q2, q3, q4, q5, q6⟩
      obtain ⟨t, ht, -⟩ := State.frames_cons hr
      show ({ U with heap := s₂.heap, slotsUsed := s₂.slotsUsed } : State) = { U.setFrames U.frames with heap := s₂.heap, slotsUsed := s₂.slotsUsed }
      rw [State.setFrames_self ht]
    subst hg
    refine Or.inl ⟨v, ⟨(({ U with heap := s₂.heap, slotsUsed := s₂.slotsUsed } : State).setVm s₂.vm), Ls ++ L, c0 + mc, s0 + ms⟩,
      ⟨X.admits, X.cas, X.clock, X.frames, X.room, X.hears, X.method, X.code, (X.here.setHeapUsed s₂.heap s₂.slotsUsed).setVm hW'.alike, X.tail, State.WarmedH.trans X.warmed hW', X.limits, X.bytes, X.same.trans (hsame.setVm s.vm)⟩,
      ⟨g, mk, s₂, L, rfl, rfl, hqc, rfl, hL, rfl, rfl⟩, ?_⟩
    show Steps p.tables e below _ ((({ U with heap := s₂.heap, slotsUsed := s₂.slotsUsed } : State).setVm s₂.vm).setTop { g with pc := g.pc + len₂, stack := v.toList ++ g.stack })
    rw [← hs₂]
    exact hsteps
  · obtain ⟨e2, q2, q3, q4, q5, q6⟩ := id hsm
    have e3 : s₂ = ({ (U.calling g mk a).setFrames s₂.frames with heap := s₂.heap, slotsUsed := s₂.slotsUsed } : State).setVm s₂.vm := by
      have : s₂ = ({ s₂ with vm := (U.calling g mk a).vm } : State).setVm s₂.vm := rfl
      rw [e2] at this
      exact this
    have hf₂ : s₂.frames = .throwing q :: .java g :: U.frames.tail := hend
    have hW' : U.WarmedH s₂.vm := hW₂
    have hs₂ : s₂ = ((({ U with heap := s₂.heap, slotsUsed := s₂.slotsUsed } : State).setVm s₂.vm).setTop g).pushFrame (.throwing q) := by
      refine e3.trans ?_
      rw [hf₂, State.calling_eq h.top, State.setFrames_setFrames, State.pushFrame, State.frames_setTop _ hr', State.setTop_of_frames _ hr', State.setFrames_setFrames, hr]
      rfl
    have hsame : U.sameButNew ({ U with heap := s₂.heap, slotsUsed := s₂.slotsUsed } : State) L mc ms := by
      refine ⟨?_, q2, q3, q4, q5, q6⟩
      obtain ⟨t, ht, -⟩ := State.frames_cons hr
      show ({ U with heap := s₂.heap, slotsUsed := s₂.slotsUsed } : State) = { U.setFrames U.frames with heap := s₂.heap, slotsUsed := s₂.slotsUsed }
      rw [State.setFrames_self ht]
    subst hg
    refine Or.inr ⟨q, ⟨(({ U with heap := s₂.heap, slotsUsed := s₂.slotsUsed } : State).setVm s₂.vm), Ls ++ L, c0 + mc, s0 + ms⟩,
      ⟨X.admits, X.cas, X.clock, X.frames, X.room, X.hears, X.method, X.code, (X.here.setHeapUsed s₂.heap s₂.slotsUsed).setVm hW'.alike, X.tail, State.WarmedH.trans X.warmed hW', X.limits, X.bytes, X.same.trans (hsame.setVm s.vm)⟩,
      ⟨g, mk, s₂, L, E, ce, rfl, rfl, hx, hce, hcv, hcl, rfl, hL, rfl, rfl⟩, ?_⟩
    show Steps p.tables e below _ (((({ U with heap := s₂.heap, slotsUsed := s₂.slotsUsed } : State).setVm s₂.vm).setTop g).pushFrame (.throwing q))
    rw [← hs₂]
    exact hsteps
end Payer
section Calls
variable {p : Program} {l : Launch} {e : Env} {R : Room} {s : State} {m : MethodId} {args : Array Value} {below : List Frame} {meth : Method} {c : Code} {T : State} {locs : List Loc} {cells slots : Nat}
theorem vx_callV (X : Stand p l e R s m args below meth c T locs cells slots) (hexec : p.tables.exec = Jvm.exec) {own C : String} {index : Nat} {y : MethodName} {bytes : ByteArray} {maxL : Nat} {ret : Option FieldType}
    (hown : s.vm.findClass own = some m.cls) (hlink : (Cond.methodLink own index y).before args s = true) (hinst : (Cond.instanceMethod y).before args s = true) (hsel : (Cond.selects C y y).before args s = true)
    (hcode : (Cond.code y bytes maxL ret).before args s = true) (hy : y.cls ≠ "java/lang/invoke/MethodHandle" ∧ y.cls ≠ "java/lang/invoke/VarHandle")
    {W9 : Nat} {Pre : Pt → Array Value → Prop} {Post : Pt → Array Value → Option Value → Pt → Prop} {PostX : Pt → Array Value → Addr → Pt → Prop} (hK : vx_Back l R p e below s args y 3 W9 Pre Post PostX)
    {b : Addr} {cellB : Cell} (hcell : T.heap[b]? = some cellB) (hobj : cellB.vm.isStatics = false) (hcls : s.vm.findClass C = some cellB.cls)
    {g : JFrame} (hg : g.method = m) (hsize : g.locals.size = c.maxLocals) {argsL rest : List Value} (hlen : ∀ sig, parseMethodDescriptor y.desc = some sig → argsL.length = sig.parameters.length)
    (hstack : g.stack = argsL.reverse ++ .ref b :: rest) (hW : 2 * g.monitorRoom + (rest.map fun v => v.category).sum ≤ W9) (hdg : decode c.code g.pc = .ok (.invokevirtual index, 3))
    (hpre : ∀ vm₁, s.WarmedH vm₁ → Pre ⟨T.setVm vm₁, locs, cells, slots⟩ (Value.ref b :: argsL).toArray) :
    (∃ (v : Option Value) (vm₁ : Vm) (B : Pt), s.WarmedH vm₁ ∧ Stand p l e R s m args below meth c B.U B.locs B.cells B.slots ∧ Post ⟨T.setVm vm₁, locs, cells, slots⟩ (Value.ref b :: argsL).toArray v B ∧
      ∀ target, Steps p.tables e below (B.U.setTop { g with pc := g.pc + 3, stack := v.toList ++ rest }) target → Steps p.tables e below (T.setTop g) target) ∨
    (∃ (q : Addr) (vm₁ : Vm) (B : Pt), s.WarmedH vm₁ ∧ Stand p l e R s m args below meth c B.U B.locs B.cells B.slots ∧ PostX ⟨T.setVm vm₁, locs, cells, slots⟩ (Value.ref b :: argsL).toArray q B ∧
      Steps p.tables e below (T.setTop g) ((B.U.setTop { g with stack := rest }).pushFrame (.throwing q))) := by
  obtain ⟨mk, methM, hnamed, hmethM, hstM, habM⟩ := Cond.instanceMethod_spec hinst
  obtain ⟨methM', cM, hmethM', -, -, -, -, -, -, hsigM⟩ := Cond.code_spec hnamed hcode
  cases hmethM.symm.trans hmethM'
  obtain ⟨c2, r2, m2, q1, q2, q3, q4, kP, hkP, hkPi⟩ := Cond.selects_spec hsel
  cases hcls.symm.trans q1
  cases (State.methodFound?_of_named hnamed hy).symm.trans q2
  cases hnamed.symm.trans q3
  have hselP : selectMethod e.platform s.vm cellB.cls mk = .method mk := by rw [Launch.admits_selectMethod X.admits]; exact q4
  obtain ⟨vm₁, X₁, hstep₁⟩ := X.invokevirtual hexec hown hlink hnamed hmethM hstM hkP hkPi hy (a := b) (cell := cellB) hcell
    (fun z h => by rw [h] at hobj; cases hobj) hselP hmethM habM hkP hkPi (g := g) hg (argsL := argsL) (rest := rest) (hlen _ hsigM) hstack hdg
  rcases hK m meth c ⟨T.setVm vm₁, locs, cells, slots⟩ { g with stack := rest } (.invokevirtual index) mk (Value.ref b :: argsL).toArray X₁ hg hsize hdg hW (X₁.named hnamed) (hpre vm₁ X₁.warmed) with ⟨v, B, X', hpost, hsteps⟩ | ⟨q, B, X', hpost, hsteps⟩
  · exact Or.inl ⟨v, vm₁, B, X₁.warmed, X', hpost, fun target h => hstep₁ _ fun acts => by rw [doInvoke_state]; exact hsteps.trans h⟩
  · exact Or.inr ⟨q, vm₁, B, X₁.warmed, X', hpost, hstep₁ _ fun acts => by rw [doInvoke_state]; exact hsteps⟩
theorem vx_callS (X : Stand p l e R s m args below meth c T locs cells slots) (hexec : p.tables.exec = Jvm.exec) {own : String} {index : Nat} {y : MethodName} {bytes : ByteArray} {maxL : Nat} {ret : Option FieldType}
    (hown : s.vm.findClass own = some m.cls) (hlink : (Cond.methodLink own index y).before args s = true) (hstat : (Cond.static y).before args s = true) (hinit : (Cond.initialized y.cls).before args s = true)
    (hcode : (Cond.code y bytes maxL ret).before args s = true) (hy : y.cls ≠ "java/lang/invoke/MethodHandle" ∧ y.cls ≠ "java/lang/invoke/VarHandle")
    {W9 : Nat} {Pre : Pt → Array Value → Prop} {Post : Pt → Array Value → Option Value → Pt → Prop} {PostX : Pt → Array Value → Addr → Pt → Prop} (hK : vx_Back l R p e below s args y 3 W9 Pre Post PostX)
    {g : JFrame} (hg : g.method = m) (hsize : g.locals.size = c.maxLocals) {argsL rest : List Value} (hlen : ∀ sig, parseMethodDescriptor y.desc = some sig → argsL.length = sig.parameters.length)
    (hstack : g.stack = argsL.reverse ++ rest) (hW : 2 * g.monitorRoom + (rest.map fun v => v.category).sum ≤ W9) (hdg : decode c.code g.pc = .ok (.invokestatic index, 3))
    (hpre : ∀ vm₁, s.WarmedH vm₁ → Pre ⟨T.setVm vm₁, locs, cells, slots⟩ argsL.toArray) :
    (∃ (v : Option Value) (vm₁ : Vm) (B : Pt), s.WarmedH vm₁ ∧ Stand p l e R s m args below meth c B.U B.locs B.cells B.slots ∧ Post ⟨T.setVm vm₁, locs, cells, slots⟩ argsL.toArray v B ∧
      ∀ target, Steps p.tables e below (B.U.setTop { g with pc := g.pc + 3, stack := v.toList ++ rest }) target → Steps p.tables e below (T.setTop g) target) ∨
    (∃ (q : Addr) (vm₁ : Vm) (B : Pt), s.WarmedH vm₁ ∧ Stand p l e R s m args below meth c B.U B.locs B.cells B.slots ∧ PostX ⟨T.setVm vm₁, locs, cells, slots⟩ argsL.toArray q B ∧
      Steps p.tables e below (T.setTop g) ((B.U.setTop { g with stack := rest }).pushFrame (.throwing q))) := by
  obtain ⟨mk, hnamed⟩ := Cond.code_named hcode
  obtain ⟨methM, cM, hmethM, -, -, -, -, -, -, hsigM⟩ := Cond.code_spec hnamed hcode
  have hstatic : methM.isStatic = true := Cond.static_spec hnamed hmethM hstat
  obtain ⟨kP, hkP, -⟩ := className_of_methodNamed hnamed
  have hinitP : kP.init = .initialized := Cond.initialized_spec (findClass_of_methodNamed hnamed) hkP hinit
  obtain ⟨vm₁, X₁, hstep₁⟩ := X.invokestatic hexec hown hlink hnamed hmethM hstatic hkP hinitP hy (g := g) hg (argsL := argsL) (rest := rest) (hlen _ hsigM) hstack hdg
  rcases hK m meth c ⟨T.setVm vm₁, locs, cells, slots⟩ { g with stack := rest } (.invokestatic index) mk argsL.toArray X₁ hg hsize hdg hW (X₁.named hnamed) (hpre vm₁ X₁.warmed) with ⟨v, B, X', hpost, hsteps⟩ | ⟨q, B, X', hpost, hsteps⟩
  · exact Or.inl ⟨v, vm₁, B, X₁.warmed, X', hpost, fun target h => hstep₁ _ fun acts => by rw [doInvoke_state]; exact hsteps.trans h⟩
  · exact Or.inr ⟨q, vm₁, B, X₁.warmed, X', hpost, hstep₁ _ fun acts => by rw [doInvoke_state]; exact hsteps⟩
end Calls
theorem vx_cls {s : State} {T : State} {vm₁ : Vm} {E : String} {k : ClassId} (hW : s.WarmedH vm₁) (h : (T.setVm vm₁).vm.findClass E = some k) : s.vm.findClass E = some k := by
  have h1 : vm₁.findClass E = some k := h
  rw [hW.alike.findClass] at h1
  exact h1
/-- the method's frame g, with q thrown over it -/
def vx_W (p : Program) (l : Launch) (e : Env) (R : Room) (s : State) (m : MethodId) (args : Array Value) (below : List Frame) (meth : Method) (c : Code) (H : Heap) (locs : List Loc) (cells slots : Nat) (Q : State → Prop) (g : JFrame) (q : Addr) : Prop :=
  ∀ T : State, T.heap = H → Stand p l e R s m args below meth c T locs cells slots → ∃ t, Steps p.tables e below ((T.setTop g).pushFrame (.throwing q)) t ∧ Q t
def vx_Run (p : Program) (l : Launch) (e : Env) (R : Room) (s : State) (m : MethodId) (args : Array Value) (below : List Frame) (meth : Method) (c : Code) (H : Heap) (locs : List Loc) (cells slots mc ms : Nat) (g : JFrame) (rest : List Value) (Qa : State → Outcome → State → Prop) (XC : String → State → State → Prop) (free : Addr → Prop) : Prop :=
  ∀ T : State, T.heap = H → Stand p l e R s m args below meth c T locs cells slots →
    (∃ (v : Option Value) (st₀ t T' : State) (L : List Loc), st₀.heap = H ∧ Stand p l e R s m args below meth c T' (locs ++ L) (cells + mc) (slots + ms) ∧ (∀ q ∈ L, free q.base) ∧ T'.heap = t.heap ∧ T'.vm = t.vm ∧ Qa st₀ (.returned v) t ∧
      Goes p e below T g T' { g with pc := g.pc + 3, stack := v.toList ++ rest }) ∨
    (∃ (q : Addr) (st₀ t T' : State) (L : List Loc) (E : String) (ce : Cell), st₀.heap = H ∧ Stand p l e R s m args below meth c T' (locs ++ L) (cells + mc) (slots + ms) ∧ (∀ z ∈ L, free z.base) ∧ T'.heap = t.heap ∧ T'.vm = t.vm ∧ XC E st₀ t ∧ t.heap[q]? = some ce ∧ ce.vm = .none ∧ s.vm.findClass E = some ce.cls ∧
      Steps p.tables e below (T.setTop g) ((T'.setTop { g with stack := rest }).pushFrame (.throwing q)))
def vx_X {S : Type} (px : S → Prop) (B : String → S → State → Prop) (A : Nat → Prop) : String → State → State → Prop := fun E st t => ∃ u : S, px u ∧ B E u t ∧ va_F A st t
section Runs
variable {p : Program} {l : Launch} {e : Env} {R : Room} {s : State} {m : MethodId} {args : Array Value} {below : List Frame} {meth : Method} {c : Code} {H : Heap} {locs : List Loc} {cells slots : Nat}
variable {y : MethodName} {bytes cc : ByteArray} {maxL nL mc ms n index : Nat} {ret : Option FieldType} {ws : List Cond} {rm : Room} {Pc : Array Value → State → Prop} {Qc : Array Value → State → Outcome → State → Prop} {XC : String → State → State → Prop} {free : Addr → Prop} {Ts : List Cond} {own C : String} {b : Addr} {As rest : List Value} {g : JFrame}
theorem vx_callBack (cb : CallB R s args own index y bytes maxL ret ws rm mc ms n) (hM : vx_Met l y ws rm Pc Qc XC mc ms free) (hbl : FrameBlind Pc) : vx_Back l R p e below s args y 3 8 (PreOf R mc ms Pc) (PostOf Qc mc ms free) (vx_Post XC mc ms free) := by
  obtain ⟨hrc, hrs, hfr, hlo, hws, hcw, -, hini, -⟩ := cb
  exact vx_back (bytes := bytes) (maxL := maxL) (ret := ret) hM hbl hrc hrs hfr hlo hws hcw (fun a' U hW => word_at hW (Or.inl (by first | rfl | simp [Cond.onTables, Cond.keeps, Cond.steady])) hini)
theorem vx_runV (S : CallFix p m c cc nL s args Ts own) (hM : vx_Met l y ws rm Pc Qc XC mc ms free) (cw : CallW R s args own C index y bytes maxL ret ws rm mc ms n) (hp : PreV s H C b Pc As)
    (hg : g.method = m) (hn : As.length = n) (hsize : g.locals.size = nL) (hstack : g.stack = As.reverse ++ .ref b :: rest) (hW : 2 * g.monitorRoom + (rest.map fun v => v.category).sum ≤ 8) (hdg : decode cc g.pc = .ok (.invokevirtual index, 3)) (hf : cells + mc ≤ R.cells ∧ slots + ms ≤ R.slots) :
    vx_Run p l e R s m args below meth c H locs cells slots mc ms g rest (Qc (Value.ref b :: As).toArray) XC free := by
  have hK : vx_Back l R p e below s args y 3 8 (PreOf R mc ms Pc) (PostOf Qc mc ms free) (vx_Post XC mc ms free) := vx_callBack cw.1 hM hp.1
  obtain ⟨⟨-, -, -, -, -, -, hcode, -, hy, hlen, hl⟩, hin, hse⟩ := cw
  obtain ⟨hx, hb, hml, ho, -⟩ := S
  obtain ⟨-, ⟨cellB, hcB, hoB, hclB⟩, hPc⟩ := hp
  intro T hT X
  rcases vx_callV X hx (C := C) (bytes := bytes) (maxL := maxL) (ret := ret) ho hl hin hse hcode hy hK (by rw [hT]; exact hcB) hoB hclB hg (hsize.trans hml.symm) (argsL := As) (rest := rest) (fun sig h => hn.trans (hlen sig h)) hstack hW (by rw [hb]; exact hdg)
    (fun vm₁ hW₁ => ⟨hf.1, hf.2, hPc (T.setVm vm₁) hT hW₁⟩) with ⟨v, vm₁, ⟨U', l2, c2, s2⟩, hW₁, X', ⟨g', mk, t, L, e1, e2, hq, h1, hL, h2, h3⟩, st⟩ | ⟨q, vm₁, ⟨U', l2, c2, s2⟩, hW₁, X', ⟨g', mk, t, L, E, ce, e1, e2, hq, hce, hcv, hcl, h1, hL, h2, h3⟩, st⟩
  · dsimp only [Pt.U, Pt.locs, Pt.cells, Pt.slots] at X' e1 e2 h1 h2 h3 st
    subst h1; subst h2; subst h3
    exact Or.inl ⟨v, (T.setVm vm₁).calling g' mk (Value.ref b :: As).toArray, t, U', L, hT, X', hL, e1, e2, hq, st⟩
  · dsimp only [Pt.U, Pt.locs, Pt.cells, Pt.slots] at X' e1 e2 h1 h2 h3 st hcl
    subst h1; subst h2; subst h3
    exact Or.inr ⟨q, (T.setVm vm₁).calling g' mk (Value.ref b :: As).toArray, t, U', L, E, ce, hT, X', hL, e1, e2, hq, hce, hcv, vx_cls hW₁ hcl, st⟩
theorem vx_runS (S : CallFix p m c cc nL s args Ts own) (hM : vx_Met l y ws rm Pc Qc XC mc ms free) (cw : CallB R s args own index y bytes maxL ret ws rm mc ms n ∧ (Cond.static y).before args s = true) (hp : PreS s H Pc As)
    (hg : g.method = m) (hn : As.length = n) (hsize : g.locals.size = nL) (hstack : g.stack = As.reverse ++ rest) (hW : 2 * g.monitorRoom + (rest.map fun v => v.category).sum ≤ 8) (hdg : decode cc g.pc = .ok (.invokestatic index, 3)) (hf : cells + mc ≤ R.cells ∧ slots + ms ≤ R.slots) :
    vx_Run p l e R s m args below meth c H locs cells slots mc ms g rest (Qc As.toArray) XC free := by
  have hK : vx_Back l R p e below s args y 3 8 (PreOf R mc ms Pc) (PostOf Qc mc ms free) (vx_Post XC mc ms free) := vx_callBack cw.1 hM hp.1
  obtain ⟨⟨-, -, -, -, -, -, hcode, hini, hy, hlen, hl⟩, hstt⟩ := cw
  obtain ⟨hx, hb, hml, ho, -⟩ := S
  intro T hT X
  rcases vx_callS X hx (bytes := bytes) (maxL := maxL) (ret := ret) ho hl hstt hini hcode hy hK hg (hsize.trans hml.symm) (argsL := As) (rest := rest) (fun sig h => hn.trans (hlen sig h)) hstack hW (by rw [hb]; exact hdg)
    (fun vm₁ hW₁ => ⟨hf.1, hf.2, hp.2 (T.setVm vm₁) hT hW₁⟩) with ⟨v, vm₁, ⟨U', l2, c2, s2⟩, hW₁, X', ⟨g', mk, t, L, e1, e2, hq, h1, hL, h2, h3⟩, st⟩ | ⟨q, vm₁, ⟨U', l2, c2, s2⟩, hW₁, X', ⟨g', mk, t, L, E, ce, e1, e2, hq, hce, hcv, hcl, h1, hL, h2, h3⟩, st⟩
  · dsimp only [Pt.U, Pt.locs, Pt.cells, Pt.slots] at X' e1 e2 h1 h2 h3 st
    subst h1; subst h2; subst h3
    exact Or.inl ⟨v, (T.setVm vm₁).calling g' mk As.toArray, t, U', L, hT, X', hL, e1, e2, hq, st⟩
  · dsimp only [Pt.U, Pt.locs, Pt.cells, Pt.slots] at X' e1 e2 h1 h2 h3 st hcl
    subst h1; subst h2; subst h3
    exact Or.inr ⟨q, (T.setVm vm₁).calling g' mk As.toArray, t, U', L, E, ce, hT, X', hL, e1, e2, hq, hce, hcv, vx_cls hW₁ hcl, st⟩
end Runs
section Rows
variable {p : Program} {l : Launch} {e : Env} {R : Room} {s : State} {m : MethodId} {args : Array Value} {below : List Frame} {meth : Method} {c : Code} {H : Heap} {locs : List Loc} {cells slots : Nat} {Q : State → Prop}
variable {mc ms : Nat} {free : Addr → Prop} {A0 A1 : Nat → Prop} {H0 : Heap} {a : Array Value} {pc : Nat} {ls : Array Slot} {st0 rest : List Value}
theorem vx_keep {st₀ t T' : State} {L : List Loc} (h0 : st₀.heap = H) (e1 : T'.heap = t.heap) (hS : va_S A0 H0 H locs) (hA : ∀ q, q < H.size → A1 q → A0 q) (hf : ∀ q, free q → A0 q) (hL : ∀ q ∈ L, free q.base) (hF : va_F A1 st₀ t) :
    H.size ≤ T'.heap.size ∧ (∀ q : Nat, q < H.size → ¬ A1 q → T'.heap[q]? = H[q]?) ∧ va_S A0 H0 T'.heap (locs ++ L) := by
  obtain ⟨hz, hk⟩ := hF
  rw [h0] at hz hk
  exact ⟨by rw [e1]; exact hz, fun q h1 h2 => by rw [e1]; exact hk q h1 h2,
    ⟨Nat.le_trans hS.1 (by rw [e1]; exact hz), fun q h1 h2 => by rw [e1, hk q (Nat.lt_of_lt_of_le h1 hS.1) (fun z => h2 (hA q (Nat.lt_of_lt_of_le h1 hS.1) z))]; exact hS.2.1 q h1 h2, fun q hq => by
      rcases List.mem_append.mp hq with h | h
      · exact hS.2.2 q h
      · exact hf _ (hL q h)⟩⟩
theorem vx_calli {S SX : Type} {post : Int32 → S → Prop} {px : SX → Prop} {B : S → State → Prop} {BX : String → SX → State → Prop} {AX : Nat → Prop} (hr : vx_Run p l e R s m args below meth c H locs cells slots mc ms (F0 m pc ls st0) rest (va_Qi post B A1 a) (vx_X px BX AX) free) (hS : va_S A0 H0 H locs) (hA : ∀ q, q < H.size → A1 q → A0 q) (hf : ∀ q, free q → A0 q) (hAX : ∀ q, q < H.size → AX q → A0 q)
    (kx : ∀ (E : String) (ce : Cell) (q9 : Addr) (u : SX) (t : State) (H1 : Heap) (locs1 : List Loc), t.heap = H1 → s.vm.Alike t.vm → px u → BX E u t → H.size ≤ H1.size → (∀ q : Nat, q < H.size → ¬ AX q → H1[q]? = H[q]?) → va_S A0 H0 H1 locs1 → H1[q9]? = some ce → ce.vm = .none → s.vm.findClass E = some ce.cls → vx_W p l e R s m args below meth c H1 locs1 (cells + mc) (slots + ms) Q (F0 m pc ls rest) q9)
    (kk : ∀ (r : Int32) (u : S) (t : State) (H1 : Heap) (locs1 : List Loc), t.heap = H1 → s.vm.Alike t.vm → post r u → B u t → H.size ≤ H1.size → (∀ q : Nat, q < H.size → ¬ A1 q → H1[q]? = H[q]?) → va_S A0 H0 H1 locs1 → W p l e R s m args below meth c H1 locs1 (cells + mc) (slots + ms) Q (F0 m (pc + 3) ls (.int r :: rest))) : W p l e R s m args below meth c H locs cells slots Q (F0 m pc ls st0) := by
  intro T hT X
  rcases hr T hT X with ⟨v, st₀, t, T', L, h0, X', hL, e1, e2, ⟨⟨r, u, hv, hp, hb⟩, hF⟩, st⟩ | ⟨q, st₀, t, T', L, E, ce, h0, X', hL, e1, e2, ⟨u, hp, hb, hF⟩, hce, hcv, hcl, st⟩
  · cases hv
    obtain ⟨k1, k2, k3⟩ := vx_keep h0 e1 hS hA hf hL hF
    obtain ⟨t2, a1, b1⟩ := kk r u t T'.heap (locs ++ L) e1.symm (by rw [← e2]; exact X'.warmed.alike) hp hb k1 k2 k3 T' rfl X'
    exact ⟨t2, st t2 a1, b1⟩
  · obtain ⟨k1, k2, k3⟩ := vx_keep h0 e1 hS hAX hf hL hF
    obtain ⟨t2, a1, b1⟩ := kx E ce q u t T'.heap (locs ++ L) e1.symm (by rw [← e2]; exact X'.warmed.alike) hp hb k1 k2 k3 (by rw [e1]; exact hce) hcv hcl T' rfl X'
    exact ⟨t2, st.trans a1, b1⟩
theorem vx_calll {S SX : Type} {post : Int64 → S → Prop} {px : SX → Prop} {B : S → State → Prop} {BX : String → SX → State → Prop} {AX : Nat → Prop} (hr : vx_Run p l e R s m args below meth c H locs cells slots mc ms (F0 m pc ls st0) rest (va_Ql post B A1 a) (vx_X px BX AX) free) (hS : va_S A0 H0 H locs) (hA : ∀ q, q < H.size → A1 q → A0 q) (hf : ∀ q, free q → A0 q) (hAX : ∀ q, q < H.size → AX q → A0 q)
    (kx : ∀ (E : String) (ce : Cell) (q9 : Addr) (u : SX) (t : State) (H1 : Heap) (locs1 : List Loc), t.heap = H1 → s.vm.Alike t.vm → px u → BX E u t → H.size ≤ H1.size → (∀ q : Nat, q < H.size → ¬ AX q → H1[q]? = H[q]?) → va_S A0 H0 H1 locs1 → H1[q9]? = some ce → ce.vm = .none → s.vm.findClass E = some ce.cls → vx_W p l e R s m args below meth c H1 locs1 (cells + mc) (slots + ms) Q (F0 m pc ls rest) q9)
    (kk : ∀ (r : Int64) (u : S) (t : State) (H1 : Heap) (locs1 : List Loc), t.heap = H1 → s.vm.Alike t.vm → post r u → B u t → H.size ≤ H1.size → (∀ q : Nat, q < H.size → ¬ A1 q → H1[q]? = H[q]?) → va_S A0 H0 H1 locs1 → W p l e R s m args below meth c H1 locs1 (cells + mc) (slots + ms) Q (F0 m (pc + 3) ls (.long r :: rest))) : W p l e R s m args below meth c H locs cells slots Q (F0 m pc ls st0) := by
  intro T hT X
  rcases hr T hT X with ⟨v, st₀, t, T', L, h0, X', hL, e1, e2, ⟨⟨r, u, hv, hp, hb⟩, hF⟩, st⟩ | ⟨q, st₀, t, T', L, E, ce, h0, X', hL, e1, e2, ⟨u, hp, hb, hF⟩, hce, hcv, hcl, st⟩
  · cases hv
    obtain ⟨k1, k2, k3⟩ := vx_keep h0 e1 hS hA hf hL hF
    obtain ⟨t2, a1, b1⟩ := kk r u t T'.heap (locs ++ L) e1.symm (by rw [← e2]; exact X'.warmed.alike) hp hb k1 k2 k3 T' rfl X'
    exact ⟨t2, st t2 a1, b1⟩
  · obtain ⟨k1, k2, k3⟩ := vx_keep h0 e1 hS hAX hf hL hF
    obtain ⟨t2, a1, b1⟩ := kx E ce q u t T'.heap (locs ++ L) e1.symm (by rw [← e2]; exact X'.warmed.alike) hp hb k1 k2 k3 (by rw [e1]; exact hce) hcv hcl T' rfl X'
    exact ⟨t2, st.trans a1, b1⟩
theorem vx_callf {S SX : Type} {post : UInt32 → S → Prop} {px : SX → Prop} {B : S → State → Prop} {BX : String → SX → State → Prop} {AX : Nat → Prop} (hr : vx_Run p l e R s m args below meth c H locs cells slots mc ms (F0 m pc ls st0) rest (va_Qf post B A1 a) (vx_X px BX AX) free) (hS : va_S A0 H0 H locs) (hA : ∀ q, q < H.size → A1 q → A0 q) (hf : ∀ q, free q → A0 q) (hAX : ∀ q, q < H.size → AX q → A0 q)
    (kx : ∀ (E : String) (ce : Cell) (q9 : Addr) (u : SX) (t : State) (H1 : Heap) (locs1 : List Loc), t.heap = H1 → s.vm.Alike t.vm → px u → BX E u t → H.size ≤ H1.size → (∀ q : Nat, q < H.size → ¬ AX q → H1[q]? = H[q]?) → va_S A0 H0 H1 locs1 → H1[q9]? = some ce → ce.vm = .none → s.vm.findClass E = some ce.cls → vx_W p l e R s m args below meth c H1 locs1 (cells + mc) (slots + ms) Q (F0 m pc ls rest) q9)
    (kk : ∀ (r : UInt32) (u : S) (t : State) (H1 : Heap) (locs1 : List Loc), t.heap = H1 → s.vm.Alike t.vm → post r u → B u t → H.size ≤ H1.size → (∀ q : Nat, q < H.size → ¬ A1 q → H1[q]? = H[q]?) → va_S A0 H0 H1 locs1 → W p l e R s m args below meth c H1 locs1 (cells + mc) (slots + ms) Q (F0 m (pc + 3) ls (.float r :: rest))) : W p l e R s m args below meth c H locs cells slots Q (F0 m pc ls st0) := by
  intro T hT X
  rcases hr T hT X with ⟨v, st₀, t, T', L, h0, X', hL, e1, e2, ⟨⟨r, u, hv, hp, hb⟩, hF⟩, st⟩ | ⟨q, st₀, t, T', L, E, ce, h0, X', hL, e1, e2, ⟨u, hp, hb, hF⟩, hce, hcv, hcl, st⟩
  · cases hv
    obtain ⟨k1, k2, k3⟩ := vx_keep h0 e1 hS hA hf hL hF
    obtain ⟨t2, a1, b1⟩ := kk r u t T'.heap (locs ++ L) e1.symm (by rw [← e2]; exact X'.warmed.alike) hp hb k1 k2 k3 T' rfl X'
    exact ⟨t2, st t2 a1, b1⟩
  · obtain ⟨k1, k2, k3⟩ := vx_keep h0 e1 hS hAX hf hL hF
    obtain ⟨t2, a1, b1⟩ := kx E ce q u t T'.heap (locs ++ L) e1.symm (by rw [← e2]; exact X'.warmed.alike) hp hb k1 k2 k3 (by rw [e1]; exact hce) hcv hcl T' rfl X'
    exact ⟨t2, st.trans a1, b1⟩
theorem vx_calld {S SX : Type} {post : UInt64 → S → Prop} {px : SX → Prop} {B : S → State → Prop} {BX : String → SX → State → Prop} {AX : Nat → Prop} (hr : vx_Run p l e R s m args below meth c H locs cells slots mc ms (F0 m pc ls st0) rest (va_Qd post B A1 a) (vx_X px BX AX) free) (hS : va_S A0 H0 H locs) (hA : ∀ q, q < H.size → A1 q → A0 q) (hf : ∀ q, free q → A0 q) (hAX : ∀ q, q < H.size → AX q → A0 q)
    (kx : ∀ (E : String) (ce : Cell) (q9 : Addr) (u : SX) (t : State) (H1 : Heap) (locs1 : List Loc), t.heap = H1 → s.vm.Alike t.vm → px u → BX E u t → H.size ≤ H1.size → (∀ q : Nat, q < H.size → ¬ AX q → H1[q]? = H[q]?) → va_S A0 H0 H1 locs1 → H1[q9]? = some ce → ce.vm = .none → s.vm.findClass E = some ce.cls → vx_W p l e R s m args below meth c H1 locs1 (cells + mc) (slots + ms) Q (F0 m pc ls rest) q9)
    (kk : ∀ (r : UInt64) (u : S) (t : State) (H1 : Heap) (locs1 : List Loc), t.heap = H1 → s.vm.Alike t.vm → post r u → B u t → H.size ≤ H1.size → (∀ q : Nat, q < H.size → ¬ A1 q → H1[q]? = H[q]?) → va_S A0 H0 H1 locs1 → W p l e R s m args below meth c H1 locs1 (cells + mc) (slots + ms) Q (F0 m (pc + 3) ls (.double r :: rest))) : W p l e R s m args below meth c H locs cells slots Q (F0 m pc ls st0) := by
  intro T hT X
  rcases hr T hT X with ⟨v, st₀, t, T', L, h0, X', hL, e1, e2, ⟨⟨r, u, hv, hp, hb⟩, hF⟩, st⟩ | ⟨q, st₀, t, T', L, E, ce, h0, X', hL, e1, e2, ⟨u, hp, hb, hF⟩, hce, hcv, hcl, st⟩
  · cases hv
    obtain ⟨k1, k2, k3⟩ := vx_keep h0 e1 hS hA hf hL hF
    obtain ⟨t2, a1, b1⟩ := kk r u t T'.heap (locs ++ L) e1.symm (by rw [← e2]; exact X'.warmed.alike) hp hb k1 k2 k3 T' rfl X'
    exact ⟨t2, st t2 a1, b1⟩
  · obtain ⟨k1, k2, k3⟩ := vx_keep h0 e1 hS hAX hf hL hF
    obtain ⟨t2, a1, b1⟩ := kx E ce q u t T'.heap (locs ++ L) e1.symm (by rw [← e2]; exact X'.warmed.alike) hp hb k1 k2 k3 (by rw [e1]; exact hce) hcv hcl T' rfl X'
    exact ⟨t2, st.trans a1, b1⟩
theorem vx_callv {S SX : Type} {post : S → Prop} {px : SX → Prop} {B : S → State → Prop} {BX : String → SX → State → Prop} {AX : Nat → Prop} (hr : vx_Run p l e R s m args below meth c H locs cells slots mc ms (F0 m pc ls st0) rest (va_Qv post B A1 a) (vx_X px BX AX) free) (hS : va_S A0 H0 H locs) (hA : ∀ q, q < H.size → A1 q → A0 q) (hf : ∀ q, free q → A0 q) (hAX : ∀ q, q < H.size → AX q → A0 q)
    (kx : ∀ (E : String) (ce : Cell) (q9 : Addr) (u : SX) (t : State) (H1 : Heap) (locs1 : List Loc), t.heap = H1 → s.vm.Alike t.vm → px u → BX E u t → H.size ≤ H1.size → (∀ q : Nat, q < H.size → ¬ AX q → H1[q]? = H[q]?) → va_S A0 H0 H1 locs1 → H1[q9]? = some ce → ce.vm = .none → s.vm.findClass E = some ce.cls → vx_W p l e R s m args below meth c H1 locs1 (cells + mc) (slots + ms) Q (F0 m pc ls rest) q9)
    (kk : ∀ (u : S) (t : State) (H1 : Heap) (locs1 : List Loc), t.heap = H1 → s.vm.Alike t.vm → post u → B u t → H.size ≤ H1.size → (∀ q : Nat, q < H.size → ¬ A1 q → H1[q]? = H[q]?) → va_S A0 H0 H1 locs1 → W p l e R s m args below meth c H1 locs1 (cells + mc) (slots + ms) Q (F0 m (pc + 3) ls (rest))) : W p l e R s m args below meth c H locs cells slots Q (F0 m pc ls st0) := by
  intro T hT X
  rcases hr T hT X with ⟨v, st₀, t, T', L, h0, X', hL, e1, e2, ⟨⟨u, hv, hp, hb⟩, hF⟩, st⟩ | ⟨q, st₀, t, T', L, E, ce, h0, X', hL, e1, e2, ⟨u, hp, hb, hF⟩, hce, hcv, hcl, st⟩
  · cases hv
    obtain ⟨k1, k2, k3⟩ := vx_keep h0 e1 hS hA hf hL hF
    obtain ⟨t2, a1, b1⟩ := kk u t T'.heap (locs ++ L) e1.symm (by rw [← e2]; exact X'.warmed.alike) hp hb k1 k2 k3 T' rfl X'
    exact ⟨t2, st t2 a1, b1⟩
  · obtain ⟨k1, k2, k3⟩ := vx_keep h0 e1 hS hAX hf hL hF
    obtain ⟨t2, a1, b1⟩ := kx E ce q u t T'.heap (locs ++ L) e1.symm (by rw [← e2]; exact X'.warmed.alike) hp hb k1 k2 k3 (by rw [e1]; exact hce) hcv hcl T' rfl X'
    exact ⟨t2, st.trans a1, b1⟩
/-- caught by the row x of this method's table; the rows ahead don't take it -/
theorem vx_catch {own name : String} {E : String} {ce : Cell} {q : Addr} (hown : s.vm.findClass own = some m.cls) (pre : List ExceptionTableEntry) (x : ExceptionTableEntry) (suf : List ExceptionTableEntry) (hsplit : c.exceptionTable.toList = pre ++ x :: suf)
    (hpass : ∀ z ∈ pre, covers z pc = false ∨ (z.catchType ≠ 0 ∧ ∃ nm : String, (Cond.classLink own z.catchType nm).before args s = true ∧ va_Nc E nm s)) (hx : covers x pc = true) (h0 : x.catchType ≠ 0)
    (hlink : (Cond.classLink own x.catchType name).before args s = true) (hcast : (Cond.castable E name).before args s = true) (hcell : H[q]? = some ce) (hv : ce.vm = .none) (hcl : s.vm.findClass E = some ce.cls)
    (kk : W p l e R s m args below meth c H locs cells slots Q (F0 m x.handlerPc ls [.ref q])) : vx_W p l e R s m args below meth c H locs cells slots Q (F0 m pc ls rest) q := by
  intro T hT X
  have hpl : e.platform.magicAccessors = ({} : Platform).magicAccessors := by rw [X.admits.platform]
  obtain ⟨c3, c4, hc3, hc4, hasg⟩ := Cond.castable_spec hcast
  cases Option.some.inj (hc3.symm.trans hcl)
  obtain ⟨c5, hc5, hcl5⟩ := Cond.classLink_spec hown hlink e.platform hpl
  cases Option.some.inj (hc4.symm.trans hc5)
  obtain ⟨vm', X', st⟩ := X.thenCaughtThrough q (g := F0 m pc ls rest) rfl (Steps.refl _) (by rw [hT]; exact hcell) (by rw [hv]; rfl) (by obtain ⟨k9, h9, -⟩ := Vm.findClass_spec hcl; exact ⟨k9, h9⟩) pre x suf hsplit
    (fun z hz => by
      rcases hpass z hz with h | ⟨hz0, nm, hl1, hn1⟩
      · exact Or.inl h
      · obtain ⟨c6, hc6, hcl6⟩ := Cond.classLink_spec hown hl1 e.platform hpl
        obtain ⟨a8, b8, h1, h2, h3⟩ := hn1
        cases Option.some.inj (h1.symm.trans hcl)
        cases Option.some.inj (h2.symm.trans hc6)
        exact Or.inr ⟨hz0, _, hcl6, h3⟩) hx (Or.inr ⟨h0, c4, hcl5, hasg⟩)
  obtain ⟨t, a1, b1⟩ := kk (T.setVm vm') hT X'
  exact ⟨t, st.trans a1, b1⟩
end Rows
section Ends
variable {p : Program} {l : Launch} {e : Env} {R : Room} {s : State} {m : MethodId} {args : Array Value} {below : List Frame} {meth : Method} {c : Code} {H : Heap} {locs : List Loc} {cells slots : Nat} {Q : State → Prop}
variable {mc ms : Nat} {free : Addr → Prop} {A0 A1 : Nat → Prop} {H0 : Heap} {a : Array Value} {ls : Array Slot} {st0 rest : List Value}
variable {Qc : Array Value → State → Outcome → State → Prop} {XC : String → State → State → Prop}
/-- what a body that may throw owes at its end -/
def vx_MQ (below : List Frame) (Qc : Array Value → State → Outcome → State → Prop) (XC : String → State → State → Prop) (a : Array Value) (s : State) (mc ms : Nat) (free : Addr → Prop) : State → Prop := fun t =>
  ∃ o, t.status = .running ∧ Ended t below o ∧ vx_Q Qc XC mc ms free a s o t
theorem vx_ret {g : JFrame} {mc ms : Nat} (k : W p l e R s m args below meth c H locs cells slots (MQ below Qc args s mc ms free) g) : W p l e R s m args below meth c H locs cells slots (vx_MQ below Qc XC args s mc ms free) g := by
  intro T hT X
  obtain ⟨t, a1, o, b1, b2, b3, b4⟩ := k T hT X
  exact ⟨t, a1, o, b1, b2, Or.inl ⟨b3, b4⟩⟩
/-- not caught here: it goes on to the caller -/
theorem vx_widen {g : JFrame} {q : Addr} {k n : Nat} (h1 : cells ≤ k) (h2 : slots ≤ n) (kk : vx_W p l e R s m args below meth c H locs k n Q g q) : vx_W p l e R s m args below meth c H locs cells slots Q g q := fun T hT X => kk T hT (stand_widen X h1 h2)
theorem vx_out {pc : Nat} {E : String} {ce : Cell} {q : Addr} {mc ms : Nat} (hout : ∀ x ∈ c.exceptionTable.toList, covers x pc = false) (hlocks : meth.locks = false) (hcell : H[q]? = some ce) (hv : ce.vm = .none) (hcl : s.vm.findClass E = some ce.cls)
    (hx : ∀ t : State, t.heap = H → s.vm.Alike t.vm → XC E s t) (hf : ∀ z ∈ locs, free z.base) (hc : cells ≤ mc) (hs : slots ≤ ms) :
    vx_W p l e R s m args below meth c H locs cells slots (vx_MQ below Qc XC args s mc ms free) (F0 m pc ls rest) q := by
  intro T hT X
  obtain ⟨st1, hrun, hend, hW, hsm⟩ := X.leaveThrown q (g := F0 m pc ls rest) rfl rfl rfl hout hlocks
  have hcell9 : (T.setFrames (.throwing q :: below)).heap[q]? = some ce := by
    show T.heap[q]? = some ce
    rw [hT]; exact hcell
  exact ⟨_, st1, .threw q, hrun, hend, Or.inr ⟨q, rfl, E, ce, locs, hx _ hT hW.alike, hcell9, hv, hcl, hW, hsm.mono hc hs, hf⟩⟩
theorem vx_frame {U : State} {k n : Nat} (h : s.sameButNew ({ U with vm := s.vm } : State) locs k n) : s.heap.size ≤ U.heap.size ∧ ∀ q : Nat, q < s.heap.size → (∀ z ∈ locs, z.base ≠ q) → U.heap[q]? = s.heap[q]? := by
  obtain ⟨-, h2, -, -, -, h6⟩ := h
  refine ⟨h2, fun q hq hz => ?_⟩
  obtain ⟨c9, e1, e2, e3, e4⟩ := h6 q _ (Array.getElem?_eq_getElem hq)
  have hs : c9.slots = (s.heap[q]).slots := Array.ext_getElem? fun i => e4 i fun hm => hz _ hm rfl
  have h9 : c9 = s.heap[q] := by
    rw [hs] at e2
    exact e2
  have e5 : U.heap[q]? = some c9 := e1
  rw [e5, h9, Array.getElem?_eq_getElem hq]
/-- the words of a throw but the four that speak of the heap -/
def vx_no (w : Cond) : Bool := decide (w ≠ .isRef (.static Bundle.tN "UNASSIGNED_STACK" Bundle.steD)) && decide (w ≠ .isRef (.static Bundle.tN "SUPPRESSED_SENTINEL" Bundle.listD)) && decide (w ≠ .laysStatic Bundle.tN "UNASSIGNED_STACK" Bundle.steD) && decide (w ≠ .laysStatic Bundle.tN "SUPPRESSED_SENTINEL" Bundle.listD)
def vx_at0 (own : String) (ic : Nat) (X : String) (names : List String) : List Cond := (Bundle.ownAtoms0 own ic X names).filter vx_no
def vx_atS (own : String) (ic : Nat) (X : String) (names : List String) : List Cond := (Bundle.ownAtoms own ic X names).filter vx_no
/-- a word that the tables alone decide, or a good one -/
def vx_ot (w : Cond) : Bool := w.onTables || goodWord w
theorem vx_ot_at {args a' : Array Value} {s U : State} {w : Cond} (hW : s.WarmedH U.vm) (hvm : s.vm = U.vm) (hg : vx_ot w = true) (h : w.before args s = true) : w.before a' U = true := by
  simp only [vx_ot, Bool.or_eq_true] at hg
  rcases hg with hg | hg
  · exact va_tabs hg hvm h
  · exact word_at hW (good_of_word hg) h
/-- a list's words: the good ones out of the method's own list, the others by premises of their own -/
theorem vx_hat {args : Array Value} {s : State} {L B : List Cond} (h1 : ∀ w ∈ L.filter goodWord, w.before args s = true) (h2 : ∀ w ∈ L.filter (fun w => !goodWord w), w ∈ B) (h3 : ∀ w ∈ B, w.before args s = true) : ∀ w ∈ L, w.before args s = true := by
  intro w hw
  by_cases g : goodWord w = true
  · exact h1 w (List.mem_filter.mpr ⟨hw, g⟩)
  · refine h3 w (h2 w (List.mem_filter.mpr ⟨hw, ?_⟩))
    show (!goodWord w) = true
    cases hgw : goodWord w
    · rfl
    · exact absurd hgw g
theorem vx_c {args : Array Value} {s : State} {w : Cond} {B : List Cond} (h : w.before args s = true) (t : ∀ w ∈ B, w.before args s = true) : ∀ w' ∈ w :: B, w'.before args s = true := fun w' h' => (List.mem_cons.mp h').elim (fun e => by rw [e]; exact h) (t w')
theorem vx_n {args : Array Value} {s : State} : ∀ w ∈ ([] : List Cond), w.before args s = true := fun _ h => nomatch h
theorem vx_own {args : Array Value} {s : State} {L : List Cond} (h1 : ∀ w ∈ L.filter vx_no, w.before args s = true)
    (hU : (Cond.isRef (.static Bundle.tN "UNASSIGNED_STACK" Bundle.steD)).before args s = true) (hN : (Cond.isRef (.static Bundle.tN "SUPPRESSED_SENTINEL" Bundle.listD)).before args s = true)
    (lU : (Cond.laysStatic Bundle.tN "UNASSIGNED_STACK" Bundle.steD).before args s = true) (lN : (Cond.laysStatic Bundle.tN "SUPPRESSED_SENTINEL" Bundle.listD).before args s = true) : ∀ w ∈ L, w.before args s = true := by
  intro w hw
  by_cases e1 : w = .isRef (.static Bundle.tN "UNASSIGNED_STACK" Bundle.steD)
  · rw [e1]; exact hU
  · by_cases e2 : w = .isRef (.static Bundle.tN "SUPPRESSED_SENTINEL" Bundle.listD)
    · rw [e2]; exact hN
    · by_cases e3 : w = .laysStatic Bundle.tN "UNASSIGNED_STACK" Bundle.steD
      · rw [e3]; exact lU
      · by_cases e4 : w = .laysStatic Bundle.tN "SUPPRESSED_SENTINEL" Bundle.listD
        · rw [e4]; exact lN
        · exact h1 w (List.mem_filter.mpr ⟨hw, by unfold vx_no; rw [decide_eq_true e1, decide_eq_true e2, decide_eq_true e3, decide_eq_true e4]; rfl⟩)
/-- where a static field lies, its class's statics cell in H -/
def vx_L (C n d : String) (A : Nat → Prop) (U : State) (H : Heap) : Prop := ∃ (c : ClassId) (k : Class) (i : Nat) (f : Field) (a : Nat) (cell : Cell), U.vm.findClass C = some c ∧ U.fieldFound? C n d = some (c, k, i, f) ∧ f.isStatic = true ∧ k.statics = some a ∧ H[a]? = some cell ∧ cell.vm.isStatics = true ∧ cell.cls = c ∧ f.slot < cell.slots.size ∧ k.staticTypes[f.slot]? = some f.type ∧ ¬ A a
theorem vx_L.moved {C n d : String} {A : Nat → Prop} {u U : State} {H : Heap} (hvm : u.vm.Alike U.vm) (h : vx_L C n d A u H) : vx_L C n d A U H := by
  obtain ⟨c, k, i, f, a, cell, h1, h2, h3, h4, h5, h6, h7, h8, h9, h10⟩ := h
  obtain ⟨k', hi', he⟩ := State.fieldFound?_setVm hvm h2
  exact ⟨c, k', i, f, a, cell, by rw [hvm.findClass]; exact h1, hi', h3, by rw [he]; exact h4, h5, h6, h7, h8, by rw [he]; exact h9, h10⟩
theorem vx_L.kept {C n d : String} {A : Nat → Prop} {U : State} {H H1 : Heap} (h : vx_L C n d A U H) (hq : ∀ a : Nat, a < H.size → ¬ A a → H1[a]? = H[a]?) : vx_L C n d A U H1 := by
  obtain ⟨c, k, i, f, a, cell, h1, h2, h3, h4, h5, h6, h7, h8, h9, h10⟩ := h
  exact ⟨c, k, i, f, a, cell, h1, h2, h3, h4, by rw [hq a (Array.getElem?_eq_some_iff.mp h5).1 h10]; exact h5, h6, h7, h8, h9, h10⟩
theorem vx_L.narrow {C n d : String} {A B : Nat → Prop} {U : State} {H : Heap} (h : vx_L C n d A U H) (hAB : ∀ q, B q → A q) : vx_L C n d B U H := by
  obtain ⟨c, k, i, f, a, cell, h1, h2, h3, h4, h5, h6, h7, h8, h9, h10⟩ := h
  exact ⟨c, k, i, f, a, cell, h1, h2, h3, h4, h5, h6, h7, h8, h9, fun z => h10 (hAB _ z)⟩
theorem vx_L.word {C n d : String} {A : Nat → Prop} {s : State} {args : Array Value} (h : vx_L C n d A s s.heap) : (Cond.laysStatic C n d).before args s = true := by
  obtain ⟨c, k, i, f, a, cell, h1, h2, h3, h4, h5, h6, h7, h8, h9, -⟩ := h
  show (Cond.laysStatic C n d).holds args s none s [] = true
  exact Cond.laysStatic_of h1 h2 h3 h4 h5 h6 h7 h8 h9
/-- .. and what it holds: null or some reference -/
def vx_Zq (C n d : String) (A : Nat → Prop) (U : State) (H : Heap) : Prop := va_Zq C n d A U H ∧ vx_L C n d A U H
theorem vx_Zq.moved {C n d : String} {A : Nat → Prop} {u U : State} {H : Heap} (hvm : u.vm.Alike U.vm) (h : vx_Zq C n d A u H) : vx_Zq C n d A U H := ⟨va_Zq.moved hvm h.1, vx_L.moved hvm h.2⟩
theorem vx_Zq.kept {C n d : String} {A : Nat → Prop} {U : State} {H H1 : Heap} (h : vx_Zq C n d A U H) (hq : ∀ a : Nat, a < H.size → ¬ A a → H1[a]? = H[a]?) : vx_Zq C n d A U H1 := ⟨va_Zq.kept h.1 hq, vx_L.kept h.2 hq⟩
theorem vx_Zq.narrow {C n d : String} {A B : Nat → Prop} {U : State} {H : Heap} (h : vx_Zq C n d A U H) (hAB : ∀ q, B q → A q) : vx_Zq C n d B U H := ⟨va_Zq.narrow h.1 hAB, vx_L.narrow h.2 hAB⟩
theorem vx_Zqof {args : Array Value} {s : State} {C n d : String} {A : Nat → Prop} (hl : (Cond.laysStatic C n d).before args s = true) (hini : (Cond.initialized C).before args s = true) (h : (Cond.isRef (.static C n d)).before args s = true) (hA : ∀ a : Nat, a < s.heap.size → ¬ A a) : vx_Zq C n d A s s.heap := by
  refine ⟨va_Zqof hl hini h hA, ?_⟩
  obtain ⟨c, k, i, f, a, cell, h1, h2, h3, h4, h5, h6, h7, h8, h9⟩ := Cond.laysStatic_spec hl
  exact ⟨c, k, i, f, a, cell, h1, h2, h3, h4, h5, h6, h7, h8, h9, hA a (Array.getElem?_eq_some_iff.mp h5).1⟩
theorem vx_isRef {C n d : String} {v : Value} {A : Nat → Prop} {s : State} {args : Array Value} (h : va_Z C n d v A s s.heap) (hv : v.isRef = true) : (Cond.isRef (.static C n d)).before args s = true := by
  obtain ⟨cf, kf, fi, f, a, cell, h1, h2, h3, h4, h5, h6, h7, -⟩ := h
  have he : (Term.static C n d).eval args s none [] s = some v := by
    simp [Term.eval, State.fieldNamed?, h1, h2, h4, h5, h6, h7]
  simp only [Cond.before, Cond.holds, Cond.value, he]
  cases v <;> simp_all [Value.isRef]
theorem vx_isRefq {C n d : String} {A : Nat → Prop} {s : State} {args : Array Value} (h : va_Zq C n d A s s.heap) : (Cond.isRef (.static C n d)).before args s = true := by
  rcases h with h | ⟨t, h⟩
  · exact vx_isRef h rfl
  · exact vx_isRef h rfl
/-- the same frame, seen from here: as if the method were called anew in this heap -/
theorem vx_rebase {T : State} (X : Stand p l e R s m args below meth c T locs cells slots) {R' : Room} (hf : R'.frames ≤ R.frames) (hl : R'.locals ≤ R.locals) (hc : cells + R'.cells ≤ R.cells) (hs : slots + R'.slots ≤ R.slots) :
    Stand p l e R' ((T.setVm s.vm).setFrames (.invoking m args :: below)) m args below meth c T [] 0 0 := by
  have htop : (T.setVm s.vm).topJava?.isSome := X.here.top
  have hF : ((T.setVm s.vm).setFrames (.invoking m args :: below)).frames = .invoking m args :: below := State.frames_setFrames _ (State.cur_lt_of_top htop)
  obtain ⟨g₀, hg0⟩ := Option.isSome_iff_exists.mp htop
  obtain ⟨r, hr⟩ := State.topJava?_eq_some.mp hg0
  have hl9 : e.platform.stackLimits (T.setVm s.vm).me = e.platform.stackLimits s.me := X.limits
  have hb9 : (T.setVm s.vm).me.stackBytes = s.me.stackBytes := X.bytes
  refine ⟨X.admits, X.cas, X.clock, hF, ?_, X.hears, X.method, X.code, X.here, X.tail, X.warmed, ?_, ?_, ?_⟩
  · have h := X.room
    have hU : ((T.setVm s.vm).setFrames (.invoking m args :: below)).localsInUse = s.localsInUse := by
      rw [State.localsInUse_invoking hF (meth := meth) (c := c) X.method X.code, State.localsInUse_invoking X.frames X.method X.code]
    simp only [State.hasRoom, Bool.and_eq_true, decide_eq_true_eq] at h ⊢
    obtain ⟨⟨⟨⟨h1, h2, h3, h4, h5, h6⟩, h7⟩, h8⟩, h9⟩ := h
    rw [X.frames, List.length_cons] at h2 h3
    have q1 := X.heapSize
    have q2 := X.used
    simp only [hF, hU, List.length_cons, State.stackLimits_setFrames, State.stackBytes_setFrames, hl9, hb9]
    refine ⟨⟨⟨⟨by omega, by omega, by omega, by omega, by omega, h6⟩, ?_⟩, ?_⟩, X.book⟩
    · show T.heap.size + R'.cells ≤ e.platform.maxCells
      omega
    · show T.slotsUsed + R'.slots ≤ e.platform.maxSlots
      omega
  · rw [State.stackLimits_setFrames]; rfl
  · rw [State.stackBytes_setFrames]; rfl
  · refine ⟨?_, Nat.le_refl _, Nat.le_refl _, ?_, ?_, fun a c9 h9 => ⟨c9, h9, rfl, rfl, fun _ _ => rfl⟩⟩
    · obtain ⟨t, ht, -⟩ := State.frames_cons hr
      show T.setVm s.vm = { ((T.setVm s.vm).setFrames (.invoking m args :: below)).setFrames (T.setVm s.vm).frames with heap := T.heap, slotsUsed := T.slotsUsed }
      rw [State.setFrames_setFrames, State.setFrames_self ht]
      rfl
    · show T.slotsUsed = T.slotsUsed + ((T.heap.toList.drop T.heap.size).map (·.slots.size)).sum
      rw [List.drop_eq_nil_of_le (Nat.le_of_eq Array.length_toList)]
      rfl
    · show ((T.heap.toList.drop T.heap.size).map (·.slots.size)).sum ≤ 0
      rw [List.drop_eq_nil_of_le (Nat.le_of_eq Array.length_toList)]
      exact Nat.le_refl _
/-- 'throw new E()': new; dup; invokespecial; athrow -/
theorem vx_throw0 {cc : ByteArray} {pc : Nat} (hexec : p.tables.exec = Jvm.exec) (hb : c.code = cc) (hl : l.stackTraces = false) {own cls : String} {names : List String} {ik ic mc ms : Nat} {A : Nat → Prop}
    (hown : s.vm.findClass own = some m.cls) (hcls : Bundle.fit cls = true) (hnames : ∀ n ∈ names, Bundle.fit n = true)
    (hk : (Cond.classLink own ik cls).before args s = true) (hini : (Cond.initialized cls).before args s = true) (hat : ∀ w ∈ vx_at0 own ic cls names, w.before args s = true)
    (hgood : ∀ w ∈ Cond.classLink own ik cls :: Cond.initialized cls :: vx_at0 own ic cls names, vx_ot w = true)
    (hU : vx_Zq Bundle.tN "UNASSIGNED_STACK" Bundle.steD A s s.heap) (hN : vx_Zq Bundle.tN "SUPPRESSED_SENTINEL" Bundle.listD A s s.heap) (hS : va_S A s.heap H locs) (hsize : ls.size = c.maxLocals)
    (d0 : decode cc pc = .ok (.new ik, 3)) (d3 : decode cc (pc + 3) = .ok (.dup, 1)) (d4 : decode cc (pc + 4) = .ok (.invokespecial ic, 3)) (d7 : decode cc (pc + 7) = .ok (.athrow, 1))
    (hout : ∀ x ∈ c.exceptionTable.toList, covers x (pc + 7) = false)
    (hRframes : names.length + 3 < R.frames) (hRlocals : (rest.map fun v => v.category).sum + (13 * (names.length + 1) + 42) ≤ R.locals) (hRcells : cells + 1 ≤ R.cells) (hRslots : slots + 6 ≤ R.slots) (hlocks : meth.locks = false)
    (hx : ∀ t : State, s.vm.Alike t.vm → H.size ≤ t.heap.size → (∀ q : Nat, q < H.size → t.heap[q]? = H[q]?) → XC cls s t)
    (hf : ∀ z ∈ locs, free z.base) (hc : cells + 1 ≤ mc) (hs : slots + 6 ≤ ms) :
    W p l e R s m args below meth c H locs cells slots (vx_MQ below Qc XC args s mc ms free) (F0 m pc ls rest) := by
  intro T hT X
  have htr : e.platform.stackTraces = false := (show e.platform.stackTraces = l.stackTraces by rw [X.admits.platform]).trans hl
  have Y := vx_rebase X (R' := { frames := R.frames, locals := R.locals, cells := 1, slots := 6 }) (Nat.le_refl _) (Nat.le_refl _) hRcells hRslots
  obtain ⟨s', hA⟩ : ∃ z, z = (T.setVm s.vm).setFrames (.invoking m args :: below) := ⟨_, rfl⟩
  rw [← hA] at Y
  have hvm : s'.vm = s.vm := by rw [hA]; rfl
  have hhp : s'.heap = H := by rw [hA]; exact hT
  have hW0 : s.WarmedH s'.vm := by rw [hvm]; exact State.WarmedH.refl s
  have hat' : ∀ w ∈ vx_at0 own ic cls names, w.before args s' = true := fun w hw => vx_ot_at hW0 hvm.symm (hgood w (List.mem_cons_of_mem _ (List.mem_cons_of_mem _ hw))) (hat w hw)
  have hk' : (Cond.classLink own ik cls).before args s' = true := vx_ot_at hW0 hvm.symm (hgood _ List.mem_cons_self) hk
  have hini' : (Cond.initialized cls).before args s' = true := vx_ot_at hW0 hvm.symm (hgood _ (List.mem_cons_of_mem _ List.mem_cons_self)) hini
  have hU' : vx_Zq Bundle.tN "UNASSIGNED_STACK" Bundle.steD A s' s'.heap := by rw [hhp]; exact vx_Zq.moved hW0.alike (hU.kept hS.2.1)
  have hN' : vx_Zq Bundle.tN "SUPPRESSED_SENTINEL" Bundle.listD A s' s'.heap := by rw [hhp]; exact vx_Zq.moved hW0.alike (hN.kept hS.2.1)
  have h : ∀ w ∈ Bundle.ownAtoms0 own ic cls names, w.before args s' = true := vx_own hat' (vx_isRefq hU'.1) (vx_isRefq hN'.1) hU'.2.word hN'.2.word
  have hown' : s'.vm.findClass own = some m.cls := by rw [hvm]; exact hown
  have hins : (Cond.instantiable cls 6).before args s' = true := h _ (by simp [Bundle.ownAtoms0])
  obtain ⟨vm₁, cX, kX, hfX, hkX, -, -, X₁, st1⟩ := Y.newCold hexec (own := own) (C := cls) (index := ik) (n := 6) hown' hk' hins hini'
    (g := F0 m pc ls rest) rfl (by rw [hb]; exact d0) (Nat.le_refl _) (Nat.le_refl _)
  generalize hT1 : (T.setVm vm₁).pushCell { cls := cX, slots := kX.instanceTypes.map defaultValue, vm := .none } = T1 at X₁ st1
  have hcat : (Value.ref T.heap.size).category = 1 := rfl
  have hcellA : T1.heap[T.heap.size]? = some (freshCell cX kX) := by rw [← hT1]; exact State.heap_pushCell_size _ _
  have d3' : decode c.code (pc + 3) = .ok (.dup, 1) := by rw [hb]; exact d3
  obtain ⟨U, hsteps, hrun, hend, hW, hsame, ce, hce, hO⟩ := X₁.ctorThrow0 hexec htr (own := own) (cls := cls) (names := names) (ic := ic) hown' hcls hnames h (fun x hx => nomatch hx) hfX hkX hcellA (by rw [hhp, hT]; exact Nat.le_refl _)
    (g := { method := m, pc := pc + 4, locals := ls, stack := .ref T.heap.size :: .ref T.heap.size :: rest, locked := none }) rfl hsize rfl rfl (rest := rest) rfl
    (by rw [hb]; exact d4) (by rw [hb]; exact d7) hout hRframes (by simp only [List.map_cons, List.sum_cons, hcat]; omega) hlocks
  obtain ⟨f1, f2⟩ := vx_frame hsame
  rw [hhp] at f1 f2
  have hWs : s.WarmedH U.vm := State.WarmedH.trans hW0 hW
  have hcl : s.vm.findClass cls = some ce.cls := by
    have h9 := hO.cls
    rw [hvm] at h9
    exact h9
  have hall : s.sameButNew ({ U with vm := s.vm } : State) locs mc ms := by
    subst hA
    obtain ⟨e1, e2⟩ := hsame
    rw [State.setFrames_setFrames] at e1
    have h2 : (T.setVm s.vm).sameButNew ({ U with vm := s.vm } : State) [] (0 + 1) (0 + 6) := ⟨e1, e2⟩
    have h3 := X.same.trans h2
    rw [List.append_nil] at h3
    exact h3.mono hc hs
  refine ⟨U, ?_, .threw T.heap.size, hrun, hend, Or.inr ⟨T.heap.size, rfl, cls, ce, locs, hx U hWs.alike f1 (fun q hq => f2 q hq (fun z hz => nomatch hz)), hce, hO.vm, hcl, hWs, hall, hf⟩⟩
  refine st1 _ ?_
  show Steps p.tables e below (T1.setTop { method := m, pc := pc + 3, locals := ls, stack := .ref T.heap.size :: rest, locked := none }) _
  jvm_step X₁.here [X₁.here.top, hexec, d3', Value.category]
  exact hsteps
/-- 'throw new E("text")': new; dup; ldc; invokespecial; athrow -/
theorem vx_throwS {cc : ByteArray} {pc : Nat} (hexec : p.tables.exec = Jvm.exec) (hb : c.code = cc) (hl : l.stackTraces = false) {own cls text : String} {names : List String} {ik is ic mc ms sa : Nat} {A : Nat → Prop}
    (hown : s.vm.findClass own = some m.cls) (hcls : Bundle.fit cls = true) (hnames : ∀ n ∈ names, Bundle.fit n = true)
    (hk : (Cond.classLink own ik cls).before args s = true) (hini : (Cond.initialized cls).before args s = true) (hstr : vk_R own is text sa s) (hat : ∀ w ∈ vx_atS own ic cls names, w.before args s = true)
    (hgood : ∀ w ∈ Cond.classLink own ik cls :: Cond.initialized cls :: vx_atS own ic cls names, vx_ot w = true)
    (hU : vx_Zq Bundle.tN "UNASSIGNED_STACK" Bundle.steD A s s.heap) (hN : vx_Zq Bundle.tN "SUPPRESSED_SENTINEL" Bundle.listD A s s.heap) (hS : va_S A s.heap H locs) (hsize : ls.size = c.maxLocals)
    (d0 : decode cc pc = .ok (.new ik, 3)) (d3 : decode cc (pc + 3) = .ok (.dup, 1)) (d4 : decode cc (pc + 4) = .ok (.ldc is, 2)) (d6 : decode cc (pc + 6) = .ok (.invokespecial ic, 3)) (d9 : decode cc (pc + 9) = .ok (.athrow, 1))
    (hout : ∀ x ∈ c.exceptionTable.toList, covers x (pc + 9) = false)
    (hRframes : names.length + 3 < R.frames) (hRlocals : (rest.map fun v => v.category).sum + (13 * (names.length + 1) + 43) ≤ R.locals) (hRcells : cells + 1 ≤ R.cells) (hRslots : slots + 6 ≤ R.slots) (hlocks : meth.locks = false)
    (hx : ∀ t : State, s.vm.Alike t.vm → H.size ≤ t.heap.size → (∀ q : Nat, q < H.size → t.heap[q]? = H[q]?) → XC cls s t)
    (hf : ∀ z ∈ locs, free z.base) (hc : cells + 1 ≤ mc) (hs : slots + 6 ≤ ms) :
    W p l e R s m args below meth c H locs cells slots (vx_MQ below Qc XC args s mc ms free) (F0 m pc ls rest) := by
  intro T hT X
  have htr : e.platform.stackTraces = false := (show e.platform.stackTraces = l.stackTraces by rw [X.admits.platform]).trans hl
  have Y := vx_rebase X (R' := { frames := R.frames, locals := R.locals, cells := 1, slots := 6 }) (Nat.le_refl _) (Nat.le_refl _) hRcells hRslots
  obtain ⟨s', hA⟩ : ∃ z, z = (T.setVm s.vm).setFrames (.invoking m args :: below) := ⟨_, rfl⟩
  rw [← hA] at Y
  have hvm : s'.vm = s.vm := by rw [hA]; rfl
  have hhp : s'.heap = H := by rw [hA]; exact hT
  have hW0 : s.WarmedH s'.vm := by rw [hvm]; exact State.WarmedH.refl s
  have hat' : ∀ w ∈ vx_atS own ic cls names, w.before args s' = true := fun w hw => vx_ot_at hW0 hvm.symm (hgood w (List.mem_cons_of_mem _ (List.mem_cons_of_mem _ hw))) (hat w hw)
  have hk' : (Cond.classLink own ik cls).before args s' = true := vx_ot_at hW0 hvm.symm (hgood _ List.mem_cons_self) hk
  have hini' : (Cond.initialized cls).before args s' = true := vx_ot_at hW0 hvm.symm (hgood _ (List.mem_cons_of_mem _ List.mem_cons_self)) hini
  have hU' : vx_Zq Bundle.tN "UNASSIGNED_STACK" Bundle.steD A s' s'.heap := by rw [hhp]; exact vx_Zq.moved hW0.alike (hU.kept hS.2.1)
  have hN' : vx_Zq Bundle.tN "SUPPRESSED_SENTINEL" Bundle.listD A s' s'.heap := by rw [hhp]; exact vx_Zq.moved hW0.alike (hN.kept hS.2.1)
  have h : ∀ w ∈ Bundle.ownAtoms own ic cls names, w.before args s' = true := vx_own hat' (vx_isRefq hU'.1) (vx_isRefq hN'.1) hU'.2.word hN'.2.word
  have hown' : s'.vm.findClass own = some m.cls := by rw [hvm]; exact hown
  have hins : (Cond.instantiable cls 6).before args s' = true := h _ (by simp [Bundle.ownAtoms])
  obtain ⟨vm₁, cX, kX, hfX, hkX, -, -, X₁, st1⟩ := Y.newCold hexec (own := own) (C := cls) (index := ik) (n := 6) hown' hk' hins hini'
    (g := F0 m pc ls rest) rfl (by rw [hb]; exact d0) (Nat.le_refl _) (Nat.le_refl _)
  generalize hT1 : (T.setVm vm₁).pushCell { cls := cX, slots := kX.instanceTypes.map defaultValue, vm := .none } = T1 at X₁ st1
  have hcat : (Value.ref T.heap.size).category = 1 := rfl
  have hcellA : T1.heap[T.heap.size]? = some (freshCell cX kX) := by rw [← hT1]; exact State.heap_pushCell_size _ _
  have d3' : decode c.code (pc + 3) = .ok (.dup, 1) := by rw [hb]; exact d3
  have d4' : decode c.code (pc + 4) = .ok (.ldc is, 2) := by rw [hb]; exact d4
  have hstr' : vk_R own is text sa s' := vk_R.warm hW0 hstr
  obtain ⟨U, hsteps, hrun, hend, hW, hsame, ce, hce, hO⟩ := X₁.ctorThrowS hexec htr (own := own) (cls := cls) (names := names) (ic := ic) hown' hcls hnames h (fun x hx => nomatch hx) hfX hkX hcellA (by rw [hhp, hT]; exact Nat.le_refl _) (msg := .ref sa) rfl
    (g := { method := m, pc := pc + 6, locals := ls, stack := .ref sa :: .ref T.heap.size :: .ref T.heap.size :: rest, locked := none }) rfl hsize rfl rfl (rest := rest) rfl
    (by rw [hb]; exact d6) (by rw [hb]; exact d9) hout hRframes (by simp only [List.map_cons, List.sum_cons, hcat]; omega) hlocks
  obtain ⟨f1, f2⟩ := vx_frame hsame
  rw [hhp] at f1 f2
  have hWs : s.WarmedH U.vm := State.WarmedH.trans hW0 hW
  have hcl : s.vm.findClass cls = some ce.cls := by
    have h9 := hO.cls
    rw [hvm] at h9
    exact h9
  have hall : s.sameButNew ({ U with vm := s.vm } : State) locs mc ms := by
    subst hA
    obtain ⟨e1, e2⟩ := hsame
    rw [State.setFrames_setFrames] at e1
    have h2 : (T.setVm s.vm).sameButNew ({ U with vm := s.vm } : State) [] (0 + 1) (0 + 6) := ⟨e1, e2⟩
    have h3 := X.same.trans h2
    rw [List.append_nil] at h3
    exact h3.mono hc hs
  refine ⟨U, ?_, .threw T.heap.size, hrun, hend, Or.inr ⟨T.heap.size, rfl, cls, ce, locs, hx U hWs.alike f1 (fun q hq => f2 q hq (fun z hz => nomatch hz)), hce, hO.vm, hcl, hWs, hall, hf⟩⟩
  refine st1 _ ?_
  show Steps p.tables e below (T1.setTop { method := m, pc := pc + 3, locals := ls, stack := .ref T.heap.size :: rest, locked := none }) _
  jvm_step X₁.here [X₁.here.top, hexec, d3', Value.category]
  exact X₁.ldcString hexec (own := own) (text := text) (index := is) (a := sa) hown' hstr'.1 hstr'.2
    (g := { method := m, pc := pc + 4, locals := ls, stack := .ref T.heap.size :: .ref T.heap.size :: rest, locked := none }) rfl d4' _ hsteps
/-- 'throw new E("text")', the text by a wide index -/
theorem vx_throwSW {cc : ByteArray} {pc : Nat} (hexec : p.tables.exec = Jvm.exec) (hb : c.code = cc) (hl : l.stackTraces = false) {own cls text : String} {names : List String} {ik is ic mc ms sa : Nat} {A : Nat → Prop}
    (hown : s.vm.findClass own = some m.cls) (hcls : Bundle.fit cls = true) (hnames : ∀ n ∈ names, Bundle.fit n = true)
    (hk : (Cond.classLink own ik cls).before args s = true) (hini : (Cond.initialized cls).before args s = true) (hstr : vk_R own is text sa s) (hat : ∀ w ∈ vx_atS own ic cls names, w.before args s = true)
    (hgood : ∀ w ∈ Cond.classLink own ik cls :: Cond.initialized cls :: vx_atS own ic cls names, vx_ot w = true)
    (hU : vx_Zq Bundle.tN "UNASSIGNED_STACK" Bundle.steD A s s.heap) (hN : vx_Zq Bundle.tN "SUPPRESSED_SENTINEL" Bundle.listD A s s.heap) (hS : va_S A s.heap H locs) (hsize : ls.size = c.maxLocals)
    (d0 : decode cc pc = .ok (.new ik, 3)) (d3 : decode cc (pc + 3) = .ok (.dup, 1)) (d4 : decode cc (pc + 4) = .ok (.ldc_w is, 3)) (d7 : decode cc (pc + 7) = .ok (.invokespecial ic, 3)) (d10 : decode cc (pc + 10) = .ok (.athrow, 1))
    (hout : ∀ x ∈ c.exceptionTable.toList, covers x (pc + 10) = false)
    (hRframes : names.length + 3 < R.frames) (hRlocals : (rest.map fun v => v.category).sum + (13 * (names.length + 1) + 43) ≤ R.locals) (hRcells : cells + 1 ≤ R.cells) (hRslots : slots + 6 ≤ R.slots) (hlocks : meth.locks = false)
    (hx : ∀ t : State, s.vm.Alike t.vm → H.size ≤ t.heap.size → (∀ q : Nat, q < H.size → t.heap[q]? = H[q]?) → XC cls s t)
    (hf : ∀ z ∈ locs, free z.base) (hc : cells + 1 ≤ mc) (hs : slots + 6 ≤ ms) :
    W p l e R s m args below meth c H locs cells slots (vx_MQ below Qc XC args s mc ms free) (F0 m pc ls rest) := by
  intro T hT X
  have htr : e.platform.stackTraces = false := (show e.platform.stackTraces = l.stackTraces by rw [X.admits.platform]).trans hl
  have Y := vx_rebase X (R' := { frames := R.frames, locals := R.locals, cells := 1, slots := 6 }) (Nat.le_refl _) (Nat.le_refl _) hRcells hRslots
  obtain ⟨s', hA⟩ : ∃ z, z = (T.setVm s.vm).setFrames (.invoking m args :: below) := ⟨_, rfl⟩
  rw [← hA] at Y
  have hvm : s'.vm = s.vm := by rw [hA]; rfl
  have hhp : s'.heap = H := by rw [hA]; exact hT
  have hW0 : s.WarmedH s'.vm := by rw [hvm]; exact State.WarmedH.refl s
  have hat' : ∀ w ∈ vx_atS own ic cls names, w.before args s' = true := fun w hw => vx_ot_at hW0 hvm.symm (hgood w (List.mem_cons_of_mem _ (List.mem_cons_of_mem _ hw))) (hat w hw)
  have hk' : (Cond.classLink own ik cls).before args s' = true := vx_ot_at hW0 hvm.symm (hgood _ List.mem_cons_self) hk
  have hini' : (Cond.initialized cls).before args s' = true := vx_ot_at hW0 hvm.symm (hgood _ (List.mem_cons_of_mem _ List.mem_cons_self)) hini
  have hU' : vx_Zq Bundle.tN "UNASSIGNED_STACK" Bundle.steD A s' s'.heap := by rw [hhp]; exact vx_Zq.moved hW0.alike (hU.kept hS.2.1)
  have hN' : vx_Zq Bundle.tN "SUPPRESSED_SENTINEL" Bundle.listD A s' s'.heap := by rw [hhp]; exact vx_Zq.moved hW0.alike (hN.kept hS.2.1)
  have h : ∀ w ∈ Bundle.ownAtoms own ic cls names, w.before args s' = true := vx_own hat' (vx_isRefq hU'.1) (vx_isRefq hN'.1) hU'.2.word hN'.2.word
  have hown' : s'.vm.findClass own = some m.cls := by rw [hvm]; exact hown
  have hins : (Cond.instantiable cls 6).before args s' = true := h _ (by simp [Bundle.ownAtoms])
  obtain ⟨vm₁, cX, kX, hfX, hkX, -, -, X₁, st1⟩ := Y.newCold hexec (own := own) (C := cls) (index := ik) (n := 6) hown' hk' hins hini'
    (g := F0 m pc ls rest) rfl (by rw [hb]; exact d0) (Nat.le_refl _) (Nat.le_refl _)
  generalize hT1 : (T.setVm vm₁).pushCell { cls := cX, slots := kX.instanceTypes.map defaultValue, vm := .none } = T1 at X₁ st1
  have hcat : (Value.ref T.heap.size).category = 1 := rfl
  have hcellA : T1.heap[T.heap.size]? = some (freshCell cX kX) := by rw [← hT1]; exact State.heap_pushCell_size _ _
  have d3' : decode c.code (pc + 3) = .ok (.dup, 1) := by rw [hb]; exact d3
  have d4' : decode c.code (pc + 4) = .ok (.ldc_w is, 3) := by rw [hb]; exact d4
  have hstr' : vk_R own is text sa s' := vk_R.warm hW0 hstr
  obtain ⟨U, hsteps, hrun, hend, hW, hsame, ce, hce, hO⟩ := X₁.ctorThrowS hexec htr (own := own) (cls := cls) (names := names) (ic := ic) hown' hcls hnames h (fun x hx => nomatch hx) hfX hkX hcellA (by rw [hhp, hT]; exact Nat.le_refl _) (msg := .ref sa) rfl
    (g := { method := m, pc := pc + 7, locals := ls, stack := .ref sa :: .ref T.heap.size :: .ref T.heap.size :: rest, locked := none }) rfl hsize rfl rfl (rest := rest) rfl
    (by rw [hb]; exact d7) (by rw [hb]; exact d10) hout hRframes (by simp only [List.map_cons, List.sum_cons, hcat]; omega) hlocks
  obtain ⟨f1, f2⟩ := vx_frame hsame
  rw [hhp] at f1 f2
  have hWs : s.WarmedH U.vm := State.WarmedH.trans hW0 hW
  have hcl : s.vm.findClass cls = some ce.cls := by
    have h9 := hO.cls
    rw [hvm] at h9
    exact h9
  have hall : s.sameButNew ({ U with vm := s.vm } : State) locs mc ms := by
    subst hA
    obtain ⟨e1, e2⟩ := hsame
    rw [State.setFrames_setFrames] at e1
    have h2 : (T.setVm s.vm).sameButNew ({ U with vm := s.vm } : State) [] (0 + 1) (0 + 6) := ⟨e1, e2⟩
    have h3 := X.same.trans h2
    rw [List.append_nil] at h3
    exact h3.mono hc hs
  refine ⟨U, ?_, .threw T.heap.size, hrun, hend, Or.inr ⟨T.heap.size, rfl, cls, ce, locs, hx U hWs.alike f1 (fun q hq => f2 q hq (fun z hz => nomatch hz)), hce, hO.vm, hcl, hWs, hall, hf⟩⟩
  refine st1 _ ?_
  show Steps p.tables e below (T1.setTop { method := m, pc := pc + 3, locals := ls, stack := .ref T.heap.size :: rest, locked := none }) _
  jvm_step X₁.here [X₁.here.top, hexec, d3', Value.category]
  exact X₁.ldcStringW hexec (own := own) (text := text) (index := is) (a := sa) hown' hstr'.1 hstr'.2
    (g := { method := m, pc := pc + 4, locals := ls, stack := .ref T.heap.size :: .ref T.heap.size :: rest, locked := none }) rfl d4' _ hsteps
end Ends
section Bodies
variable {l : Launch}
theorem vx_ofW {y : MethodName} {ws ws' : List Cond} {rm : Room} {Pc : Array Value → State → Prop} {Qc : Array Value → State → Outcome → State → Prop} {XC : String → State → State → Prop} {mc ms : Nat} {free : Addr → Prop} {cc : ByteArray} {maxL : Nat} {ret : Option FieldType}
    (hy : plainName y.cls = true) (hw : ws = Cond.code y cc maxL ret :: ws')
    (body : ∀ p e s m args below meth c s₁, BodyLoose p l y (headSpec ws rm) cc maxL ret e s m args below meth c s₁ → c.maxLocals = maxL → (∀ x ∈ c.exceptionTable.toList, False) → Pc args s →
      W p l e (headSpec ws rm).room s m args below meth c s.heap [] 0 0 (vx_MQ below Qc XC args s mc ms free) (entryFrame m args maxL)) : vx_Met l y ws rm Pc Qc XC mc ms free := by
  refine MetFree.of_bodyS (code := cc) (maxLocals := maxL) (ret := ret) hy ?_ ?_
  · intro args s m h hn
    obtain ⟨meth, c, h1, h2, h3, h4, h5, h6, -, -⟩ := Cond.code_spec hn (atoms_spec (ws := ws) h _ (by rw [hw]; exact List.mem_cons_self))
    exact ⟨meth, c, h1, h2, h3, h4, h5, h6⟩
  · intro p e s m args below meth c s₁ B hml hP _
    have hh0 : s₁.heap = s.heap := by rw [B.state]; rfl
    have ht : ∀ x ∈ c.exceptionTable.toList, False := by
      obtain ⟨meth9, c9, h1, h2, -, -, -, -, h7, -⟩ := Cond.code_spec B.named (atoms_spec (ws := ws) B.pre _ (by rw [hw]; exact List.mem_cons_self))
      cases Option.some.inj (h1.symm.trans B.method)
      cases Option.some.inj (h2.symm.trans (Stand.of_body B).code)
      intro x hx
      rw [Array.isEmpty_iff.mp h7] at hx
      cases hx
    obtain ⟨t, a1, o, b1, b2, b3⟩ := body p e s m args below meth c s₁ B hml ht hP s₁ hh0 (Stand.of_body B)
    exact ⟨t, o, a1, b1, b2, b3⟩
/-- the table of a body with handlers -/
theorem vx_table {p : Program} {x y : MethodName} {S : Spec} {cc bytes : ByteArray} {maxL maxL' : Nat} {ret ret' : Option FieldType} {e : Env} {s s₁ : State} {m : MethodId} {args : Array Value} {below : List Frame} {meth : Method} {c : Code} {hh : List (Nat × Nat × Nat × Nat)}
    (B : BodyLoose p l y S cc maxL ret e s m args below meth c s₁) (h : (Cond.codeWith y bytes maxL' ret' hh).before args s = true) : c.exceptionTable.toList = tableOf hh := by
  obtain ⟨m9, meth9, c9, hn9, h1, h2, -, -, h6, -⟩ := Cond.codeWith_spec h
  cases Option.some.inj (hn9.symm.trans B.named)
  cases Option.some.inj (h1.symm.trans B.method)
  cases Option.some.inj (h2.symm.trans (Stand.of_body B).code)
  rw [← h6, table_eq]
end Bodies
end VXA
/-! ===== END ===== -/
/-! ===== BEGIN a static call of a method with an exception table ===== -/
section VXS
variable {p : Program} {l : Launch} {e : Env} {R : Room} {s : State} {m : MethodId} {args : Array Value} {below : List Frame} {meth : Method} {c : Code} {T : State} {H : Heap} {locs : List Loc} {cells slots : Nat}
abbrev vx_CSW (R : Room) (s : State) (args : Array Value) (own : String) (index : Nat) (y : MethodName) (bytes : ByteArray) (maxL : Nat) (ret : Option FieldType) (hh : List (Nat × Nat × Nat × Nat)) (ws : List Cond) (rm : Room) (mc ms n : Nat) : Prop :=
  (rm.cells = mc ∧ rm.slots = ms ∧ rm.frames + 1 ≤ R.frames ∧ 8 + (maxL + 11) + rm.locals ≤ R.locals ∧ (∀ w ∈ ws, ∀ (a' : Array Value) (U : State), s.WarmedH U.vm → w.before a' U = true) ∧ Cond.codeWith y bytes maxL ret hh ∈ ws) ∧
  (Cond.codeWith y bytes maxL ret hh).before args s = true ∧ (Cond.initialized y.cls).before args s = true ∧ (y.cls ≠ "java/lang/invoke/MethodHandle" ∧ y.cls ≠ "java/lang/invoke/VarHandle") ∧
  (∀ sig, parseMethodDescriptor y.desc = some sig → n = sig.parameters.length) ∧ (Cond.methodLink own index y).before args s = true ∧ (Cond.static y).before args s = true
theorem vx_cwSW {own : String} {index maxL mc ms : Nat} {y : MethodName} {bytes : ByteArray} {ret : Option FieldType} {hh : List (Nat × Nat × Nat × Nat)} {Ts ws ws' : List Cond} {rm : Room} (n : Nat) (ht : ∀ w ∈ Ts, w.before args s = true) (hT : GoodIn Ts (va_wsS own index y ws)) (hw : ws = Cond.codeWith y bytes maxL ret hh :: ws') (hrc : rm.cells = mc) (hrs : rm.slots = ms)
    (hd : y.cls ≠ "java/lang/invoke/MethodHandle" ∧ y.cls ≠ "java/lang/invoke/VarHandle" ∧ (parseMethodDescriptor y.desc).map (fun d => d.parameters.length) = some n) (hR : rm.frames + 1 ≤ R.frames ∧ 8 + (maxL + 11) + rm.locals ≤ R.locals) :
    vx_CSW R s args own index y bytes maxL ret hh ws rm mc ms n := by
  have ok : ∀ w ∈ va_wsS own index y ws, w.before args s = true := fun w h => ht w (hT w h).1
  have hG : GoodIn Ts ws := fun w h => hT w (by unfold va_wsS; exact List.mem_append_right _ h)
  have hc : Cond.codeWith y bytes maxL ret hh ∈ ws := by rw [hw]; exact List.mem_cons_self
  refine ⟨⟨hrc, hrs, hR.1, hR.2, pay_in ht hG, hc⟩, ht _ (hG _ hc).1, ok _ (by simp [va_wsS]), ⟨hd.1, hd.2.1⟩, fun sig h => ?_, ok _ (by simp [va_wsS]), ok _ (by simp [va_wsS])⟩
  have h2 := hd.2.2
  rw [h] at h2
  exact (Option.some.inj h2).symm
theorem vx_callSW (X : Stand p l e R s m args below meth c T locs cells slots) (hexec : p.tables.exec = Jvm.exec) {own : String} {index : Nat} {y : MethodName} {bytes : ByteArray} {maxL : Nat} {ret : Option FieldType} {hh : List (Nat × Nat × Nat × Nat)}
    (hown : s.vm.findClass own = some m.cls) (hlink : (Cond.methodLink own index y).before args s = true) (hstat : (Cond.static y).before args s = true) (hinit : (Cond.initialized y.cls).before args s = true)
    (hcode : (Cond.codeWith y bytes maxL ret hh).before args s = true) (hy : y.cls ≠ "java/lang/invoke/MethodHandle" ∧ y.cls ≠ "java/lang/invoke/VarHandle")
    {W9 : Nat} {Pre : Pt → Array Value → Prop} {Post : Pt → Array Value → Option Value → Pt → Prop} (hK : Back l R p e below s args y 3 W9 Pre Post)
    {g : JFrame} (hg : g.method = m) (hsize : g.locals.size = c.maxLocals) {argsL rest : List Value} (hlen : ∀ sig, parseMethodDescriptor y.desc = some sig → argsL.length = sig.parameters.length)
    (hstack : g.stack = argsL.reverse ++ rest) (hW : 2 * g.monitorRoom + (rest.map fun v => v.category).sum ≤ W9) (hdg : decode c.code g.pc = .ok (.invokestatic index, 3))
    (hpre : ∀ vm₁, s.WarmedH vm₁ → Pre ⟨T.setVm vm₁, locs, cells, slots⟩ argsL.toArray) :
    ∃ (v : Option Value) (vm₁ : Vm) (B : Pt), s.WarmedH vm₁ ∧ Stand p l e R s m args below meth c B.U B.locs B.cells B.slots ∧ Post ⟨T.setVm vm₁, locs, cells, slots⟩ argsL.toArray v B ∧
      ∀ target, Steps p.tables e below (B.U.setTop { g with pc := g.pc + 3, stack := v.toList ++ rest }) target → Steps p.tables e below (T.setTop g) target := by
  obtain ⟨mk, methM, cM, hnamed, hmethM, -, -, -, -, -, -, hsigM⟩ := Cond.codeWith_spec hcode
  have hstatic : methM.isStatic = true := Cond.static_spec hnamed hmethM hstat
  obtain ⟨kP, hkP, -⟩ := className_of_methodNamed hnamed
  have hinitP : kP.init = .initialized := Cond.initialized_spec (findClass_of_methodNamed hnamed) hkP hinit
  obtain ⟨vm₁, X₁, hstep₁⟩ := X.invokestatic hexec hown hlink hnamed hmethM hstatic hkP hinitP hy (g := g) hg (argsL := argsL) (rest := rest) (hlen _ hsigM) hstack hdg
  obtain ⟨v, B, X', hpost, hsteps⟩ := hK m meth c ⟨T.setVm vm₁, locs, cells, slots⟩ { g with stack := rest } (.invokestatic index) mk argsL.toArray X₁ hg hsize hdg hW (X₁.named hnamed) (hpre vm₁ X₁.warmed)
  exact ⟨v, vm₁, B, X₁.warmed, X', hpost, fun target h => hstep₁ _ fun acts => by rw [doInvoke_state]; exact hsteps.trans h⟩
theorem vx_runSW {y : MethodName} {bytes cc : ByteArray} {maxL nL mc ms n index : Nat} {ret : Option FieldType} {hh : List (Nat × Nat × Nat × Nat)} {ws : List Cond} {rm : Room} {Pc : Array Value → State → Prop} {Qc : Array Value → State → Outcome → State → Prop} {free : Addr → Prop} {Ts : List Cond} {own : String} {As rest : List Value} {g : JFrame}
    (S : CallFix p m c cc nL s args Ts own) (hM : Met l y ws rm Pc Qc mc ms free) (cw : vx_CSW R s args own index y bytes maxL ret hh ws rm mc ms n) (hp : PreS s H Pc As)
    (hg : g.method = m) (hn : As.length = n) (hsize : g.locals.size = nL) (hstack : g.stack = As.reverse ++ rest) (hW : 2 * g.monitorRoom + (rest.map fun v => v.category).sum ≤ 8) (hdg : decode cc g.pc = .ok (.invokestatic index, 3)) (hf : cells + mc ≤ R.cells ∧ slots + ms ≤ R.slots) :
    va_Run p l e R s m args below meth c H locs cells slots mc ms g rest (Qc As.toArray) (free) := by
  obtain ⟨⟨hrc, hrs, hfr, hlo, hws, hcw⟩, hcode, hini, hy, hlen, hl, hstt⟩ := cw
  have hK : Back l R p e below s args y 3 8 (PreOf R mc ms Pc) (PostOf Qc mc ms free) := va_backW (hh := hh) (bytes := bytes) (maxL := maxL) (ret := ret) hM hp.1 hrc hrs hfr hlo hws hcw (fun a' U hW => word_at hW (Or.inl (by first | rfl | simp [Cond.onTables, Cond.keeps, Cond.steady])) hini)
  obtain ⟨hx, hb, hml, ho, -⟩ := S
  intro T hT X
  obtain ⟨v, vm₁, ⟨U', l2, c2, s2⟩, hW₁, X', ⟨g', mk, t, L, e1, e2, hq, h1, hL, h2, h3⟩, st⟩ := vx_callSW X hx (hh := hh) (bytes := bytes) (maxL := maxL) (ret := ret) ho hl hstt hini hcode hy hK hg (hsize.trans hml.symm) (argsL := As) (rest := rest) (fun sig h => hn.trans (hlen sig h)) hstack hW (by rw [hb]; exact hdg)
    (fun vm₁ hW₁ => ⟨hf.1, hf.2, hp.2 (T.setVm vm₁) hT hW₁⟩)
  dsimp only [Pt.U, Pt.locs, Pt.cells, Pt.slots] at X' e1 e2 h1 h2 h3 st
  subst h1; subst h2; subst h3
  exact ⟨v, (T.setVm vm₁).calling g' mk As.toArray, t, U', L, hT, X', hL, e1, e2, hq, st⟩
/-- not caught here, past rows that name other classes: it goes on to the caller -/
theorem vx_outP {p : Program} {l : Launch} {e : Env} {R : Room} {s : State} {m : MethodId} {args : Array Value} {below : List Frame} {meth : Method} {c : Code} {H : Heap} {locs : List Loc} {cells slots : Nat} {free : Addr → Prop} {ls : Array Slot} {rest : List Value} {Qc : Array Value → State → Outcome → State → Prop} {XC : String → State → State → Prop}
    {pc : Nat} {own E : String} {ce : Cell} {q : Addr} {mc ms : Nat} (hown : s.vm.findClass own = some m.cls) (hlocks : meth.locks = false)
    (hpass : ∀ z ∈ c.exceptionTable.toList, covers z pc = false ∨ (z.catchType ≠ 0 ∧ ∃ nm : String, (Cond.classLink own z.catchType nm).before args s = true ∧ va_Nc E nm s)) (hcell : H[q]? = some ce) (hv : ce.vm = .none) (hcl : s.vm.findClass E = some ce.cls)
    (hx : ∀ t : State, t.heap = H → s.vm.Alike t.vm → XC E s t) (hf : ∀ z ∈ locs, free z.base) (hc : cells ≤ mc) (hs : slots ≤ ms) :
    vx_W p l e R s m args below meth c H locs cells slots (vx_MQ below Qc XC args s mc ms free) (F0 m pc ls rest) q := by
  intro T hT X
  have hpl : e.platform.magicAccessors = ({} : Platform).magicAccessors := by rw [X.admits.platform]
  obtain ⟨vm', hW', X', st⟩ := X.outThrough hlocks q (g := F0 m pc ls rest) rfl rfl rfl (cell := ce) (by rw [hT]; exact hcell) (by rw [hv]; rfl)
    (by obtain ⟨k9, h9, -⟩ := Vm.findClass_spec hcl; exact ⟨k9, h9⟩) (fun z hz => by
      rcases hpass z hz with h | ⟨hz0, nm, hl1, hn1⟩
      · exact Or.inl h
      · obtain ⟨c6, hc6, hcl6⟩ := Cond.classLink_spec hown hl1 e.platform hpl
        obtain ⟨a8, b8, h1, h2, h3⟩ := hn1
        cases Option.some.inj (h1.symm.trans hcl)
        cases Option.some.inj (h2.symm.trans hc6)
        exact Or.inr ⟨hz0, _, hcl6, h3⟩)
  obtain ⟨g₀, hfr⟩ := X'.frames_eq
  have hcell9 : ((T.setVm vm').setFrames (.throwing q :: below)).heap[q]? = some ce := by
    show T.heap[q]? = some ce
    rw [hT]; exact hcell
  have hend : Ended ((T.setVm vm').setFrames (.throwing q :: below)) below (.threw q) := State.frames_setFrames _ (State.cur_lt_of_frames hfr)
  refine ⟨(T.setVm vm').setFrames (.throwing q :: below), ?_, .threw q, X'.here.running, hend, Or.inr ⟨q, rfl, E, ce, locs, hx _ hT (X'.ends _).1.alike, hcell9, hv, hcl, (X'.ends _).1, (X'.ends _).2.mono hc hs, hf⟩⟩
  rw [X.pushThrowing_eq]
  exact st
/-- a thing of a world lies in the heap -/
theorem vx_lt {D : va_G} {cl : List vw_C} {ws : va_W} {H1 : Heap} (h : va_P D cl ws H1) {k : Nat} {q : Nat × va_E} (hk : ws[k]? = some q) : q.1 < H1.size := (h k q hk).lt
end VXS
/-! ===== END ===== -/
/-! ===== BEGIN methods with a table of their own: called by a name, returning or throwing ===== -/
section VXH
/-! vx_backW, vx_callVX, vx_callSX, vx_callVW, vx_runVW, vx_runVX, vx_runSX, vx_ofWH follow the same proofs as their sisters above (Free/Laws.lean, Shelf42/LK1.lean); vx_outP calls Shelf42/NT130.lean (outThrough). -/
section
variable {l : Launch} {R : Room} {p : Program} {e : Env} {below : List Frame} {s : State} {sargs : Array Value} {y : MethodName} {len W9 : Nat}
theorem vx_backW {ws : List Cond} {rm : Room} {Pc : Array Value → State → Prop} {Qc : Array Value → State → Outcome → State → Prop} {XC : String → State → State → Prop} {mc ms : Nat} {free : Addr → Prop} {bytes : ByteArray} {maxL : Nat} {ret : Option FieldType} {hh : List (Nat × Nat × Nat × Nat)}
    (hM : vx_Met l y ws rm Pc Qc XC mc ms free) (hblind : FrameBlind Pc) (hrc : rm.cells = mc) (hrs : rm.slots = ms)
    (hframes : rm.frames + 1 ≤ R.frames) (hlocals : W9 + (maxL + 11) + rm.locals ≤ R.locals)
    (hws : ∀ w ∈ ws, ∀ a' U, s.WarmedH U.vm → w.before a' U = true) (hcode : Cond.codeWith y bytes maxL ret hh ∈ ws) (hinit : ∀ a' U, s.WarmedH U.vm → (Cond.initialized y.cls).before a' U = true) :
    vx_Back l R p e below s sargs y len W9 (PreOf R mc ms Pc) (PostOf Qc mc ms free) (vx_Post XC mc ms free) := by
  intro m meth c A g ig mk a X hg hsize hdg hW hn hp
  have h1 : (headSpec ws rm).pre.before a A.U = true := atoms_intro fun w hw => hws w hw _ _ X.warmed
  have h2 : (Cond.codeWith y bytes maxL ret hh).before a A.U = true := hws _ hcode _ _ X.warmed
  have h3 : (Cond.initialized y.cls).before a A.U = true := hinit _ _ X.warmed
  have h4 : A.cells + (headSpec ws rm).room.cells ≤ R.cells := by rw [show (headSpec ws rm).room.cells = mc from hrc]; exact hp.1
  have h5 : A.slots + (headSpec ws rm).room.slots ≤ R.slots := by rw [show (headSpec ws rm).room.slots = ms from hrs]; exact hp.2.1
  have hPc : Pc a (A.U.calling g mk a) := hblind _ _ _ _ hp.2.2
  obtain ⟨U, Ls, c0, s0⟩ := A
  dsimp only [Pt.U, Pt.locs, Pt.cells, Pt.slots] at h1 h2 h3 h4 h5 X hn hPc ⊢
  obtain ⟨m9, methY, cY, hn9, hmY, hcY, -, hlY, -⟩ := Cond.codeWith_spec h2
  cases Option.some.inj (hn9.symm.trans hn)
  obtain ⟨kY, hkY, -⟩ := className_of_methodNamed hn
  have hinitY : kY.init = .initialized := Cond.initialized_spec (findClass_of_methodNamed hn) hkY h3
  have h : At U g.method c below := by rw [hg]; exact X.here
  have hlocals9 : W9 + (maxL + 11) + (headSpec ws rm).room.locals ≤ R.locals := hlocals
  have happ : (headSpec ws rm).appliesLoose y e.platform (U.calling g mk a) = true :=
    Spec.appliesLoose_calling (g := g) h hdg hn hkY hinitY
      (X.room_calling (g := g) (R' := (headSpec ws rm).room) hsize hmY hcY hframes (by rw [hlY]; omega) h4 h5) h1
  obtain ⟨mid, hmid⟩ := h.above
  have hfr : (U.setTop g).frames = (.java g :: mid) ++ below := by rw [State.frames_setTop' g h.top, hmid]; rfl
  obtain ⟨o, s₂, hsteps, -, hend, hq⟩ := Steps.callFree hM p X.admits X.cas X.clock (acts := []) hfr happ hPc trivial
  have hq' : vx_Q Qc XC mc ms free a (U.calling g mk a) o s₂ := hq
  rw [State.frames_setTop' g h.top] at hend
  obtain ⟨g₀, hg0⟩ := Option.isSome_iff_exists.mp h.top
  obtain ⟨r, hr⟩ := State.topJava?_eq_some.mp hg0
  have hr' : (({ U with heap := s₂.heap, slotsUsed := s₂.slotsUsed } : State).setVm s₂.vm).frames = .java g₀ :: r := hr
  rcases hq' with ⟨hqc, L, hfe, hL⟩ | ⟨q, rfl, E, ce, L, hx, hce, hcv, hcl, hW₂, hsm, hL⟩
  · obtain ⟨⟨v, rfl⟩, hW₂, e2, q2, q3, q4, q5, q6⟩ := id hfe
    have e3 : s₂ = ({ (U.calling g mk a).setFrames s₂.frames with heap := s₂.heap, slotsUsed := s₂.slotsUsed } : State).setVm s₂.vm := by
      have : s₂ = ({ s₂ with vm := (U.calling g mk a).vm } : State).setVm s₂.vm := rfl
      rw [e2] at this
      exact this
    obtain ⟨c₂, i₂, len₂, hc₂, hd₂, hf₂⟩ := hend
    have hW' : U.WarmedH s₂.vm := hW₂
    have hcc : c₂ = c := by
      have h1 : s₂.code? g.method = U.code? g.method := by
        rw [State.code?_eq, State.code?_eq, hW'.alike.method?]
      exact Option.some.inj (hc₂.symm.trans (h1.trans h.code))
    subst hcc
    have hlen : len₂ = len := by rw [hdg] at hd₂; cases hd₂; rfl
    subst hlen
    have hs₂ : s₂ = (({ U with heap := s₂.heap, slotsUsed := s₂.slotsUsed } : State).setVm s₂.vm).setTop { g with pc := g.pc + len₂, stack := v.toList ++ g.stack } := by
      refine e3.trans ?_
      rw [hf₂, State.calling_eq h.top, State.setFrames_setFrames, State.setTop_of_frames _ hr', hr]
      rfl
    have hsame : U.sameButNew ({ U with heap := s₂.heap, slotsUsed := s₂.slotsUsed } : State) L mc ms := by
      refine ⟨?_, q2, q3, q4, q5, q6⟩
      obtain ⟨t, ht, -⟩ := State.frames_cons hr
      show ({ U with heap := s₂.heap, slotsUsed := s₂.slotsUsed } : State) = { U.setFrames U.frames with heap := s₂.heap, slotsUsed := s₂.slotsUsed }
      rw [State.setFrames_self ht]
    subst hg
    refine Or.inl ⟨v, ⟨(({ U with heap := s₂.heap, slotsUsed := s₂.slotsUsed } : State).setVm s₂.vm), Ls ++ L, c0 + mc, s0 + ms⟩,
      ⟨X.admits, X.cas, X.clock, X.frames, X.room, X.hears, X.method, X.code, (X.here.setHeapUsed s₂.heap s₂.slotsUsed).setVm hW'.alike, X.tail, State.WarmedH.trans X.warmed hW', X.limits, X.bytes, X.same.trans (hsame.setVm s.vm)⟩,
      ⟨g, mk, s₂, L, rfl, rfl, hqc, rfl, hL, rfl, rfl⟩, ?_⟩
    show Steps p.tables e below _ ((({ U with heap := s₂.heap, slotsUsed := s₂.slotsUsed } : State).setVm s₂.vm).setTop { g with pc := g.pc + len₂, stack := v.toList ++ g.stack })
    rw [← hs₂]
    exact hsteps
  · obtain ⟨e2, q2, q3, q4, q5, q6⟩ := id hsm
    have e3 : s₂ = ({ (U.calling g mk a).setFrames s₂.frames with heap := s₂.heap, slotsUsed := s₂.slotsUsed } : State).setVm s₂.vm := by
      have : s₂ = ({ s₂ with vm := (U.calling g mk a).vm } : State).setVm s₂.vm := rfl
      rw [e2] at this
      exact this
    have hf₂ : s₂.frames = .throwing q :: .java g :: U.frames.tail := hend
    have hW' : U.WarmedH s₂.vm := hW₂
    have hs₂ : s₂ = ((({ U with heap := s₂.heap, slotsUsed := s₂.slotsUsed } : State).setVm s₂.vm).setTop g).pushFrame (.throwing q) := by
      refine e3.trans ?_
      rw [hf₂, State.calling_eq h.top, State.setFrames_setFrames, State.pushFrame, State.frames_setTop _ hr', State.setTop_of_frames _ hr', State.setFrames_setFrames, hr]
      rfl
    have hsame : U.sameButNew ({ U with heap := s₂.heap, slotsUsed := s₂.slotsUsed } : State) L mc ms := by
      refine ⟨?_, q2, q3, q4, q5, q6⟩
      obtain ⟨t, ht, -⟩ := State.frames_cons hr
      show ({ U with heap := s₂.heap, slotsUsed := s₂.slotsUsed } : State) = { U.setFrames U.frames with heap := s₂.heap, slotsUsed := s₂.slotsUsed }
      rw [State.setFrames_self ht]
    subst hg
    refine Or.inr ⟨q, ⟨(({ U with heap := s₂.heap, slotsUsed := s₂.slotsUsed } : State).setVm s₂.vm), Ls ++ L, c0 + mc, s0 + ms⟩,
      ⟨X.admits, X.cas, X.clock, X.frames, X.room, X.hears, X.method, X.code, (X.here.setHeapUsed s₂.heap s₂.slotsUsed).setVm hW'.alike, X.tail, State.WarmedH.trans X.warmed hW', X.limits, X.bytes, X.same.trans (hsame.setVm s.vm)⟩,
      ⟨g, mk, s₂, L, E, ce, rfl, rfl, hx, hce, hcv, hcl, rfl, hL, rfl, rfl⟩, ?_⟩
    show Steps p.tables e below _ (((({ U with heap := s₂.heap, slotsUsed := s₂.slotsUsed } : State).setVm s₂.vm).setTop g).pushFrame (.throwing q))
    rw [← hs₂]
    exact hsteps
end
variable {p : Program} {l : Launch} {e : Env} {R : Room} {s : State} {m : MethodId} {args : Array Value} {below : List Frame} {meth : Method} {c : Code} {T : State} {H : Heap} {locs : List Loc} {cells slots : Nat}
theorem vx_callVX (X : Stand p l e R s m args below meth c T locs cells slots) (hexec : p.tables.exec = Jvm.exec) {own C : String} {index : Nat} {y : MethodName} {bytes : ByteArray} {maxL : Nat} {ret : Option FieldType} {hh : List (Nat × Nat × Nat × Nat)}
    (hown : s.vm.findClass own = some m.cls) (hlink : (Cond.methodLink own index y).before args s = true) (hinst : (Cond.instanceMethod y).before args s = true) (hsel : (Cond.selects C y y).before args s = true)
    (hcode : (Cond.codeWith y bytes maxL ret hh).before args s = true) (hy : y.cls ≠ "java/lang/invoke/MethodHandle" ∧ y.cls ≠ "java/lang/invoke/VarHandle")
    {W9 : Nat} {Pre : Pt → Array Value → Prop} {Post : Pt → Array Value → Option Value → Pt → Prop} {PostX : Pt → Array Value → Addr → Pt → Prop} (hK : vx_Back l R p e below s args y 3 W9 Pre Post PostX)
    {b : Addr} {cellB : Cell} (hcell : T.heap[b]? = some cellB) (hobj : cellB.vm.isStatics = false) (hcls : s.vm.findClass C = some cellB.cls)
    {g : JFrame} (hg : g.method = m) (hsize : g.locals.size = c.maxLocals) {argsL rest : List Value} (hlen : ∀ sig, parseMethodDescriptor y.desc = some sig → argsL.length = sig.parameters.length)
    (hstack : g.stack = argsL.reverse ++ .ref b :: rest) (hW : 2 * g.monitorRoom + (rest.map fun v => v.category).sum ≤ W9) (hdg : decode c.code g.pc = .ok (.invokevirtual index, 3))
    (hpre : ∀ vm₁, s.WarmedH vm₁ → Pre ⟨T.setVm vm₁, locs, cells, slots⟩ (Value.ref b :: argsL).toArray) :
    (∃ (v : Option Value) (vm₁ : Vm) (B : Pt), s.WarmedH vm₁ ∧ Stand p l e R s m args below meth c B.U B.locs B.cells B.slots ∧ Post ⟨T.setVm vm₁, locs, cells, slots⟩ (Value.ref b :: argsL).toArray v B ∧
      ∀ target, Steps p.tables e below (B.U.setTop { g with pc := g.pc + 3, stack := v.toList ++ rest }) target → Steps p.tables e below (T.setTop g) target) ∨
    (∃ (q : Addr) (vm₁ : Vm) (B : Pt), s.WarmedH vm₁ ∧ Stand p l e R s m args below meth c B.U B.locs B.cells B.slots ∧ PostX ⟨T.setVm vm₁, locs, cells, slots⟩ (Value.ref b :: argsL).toArray q B ∧
      Steps p.tables e below (T.setTop g) ((B.U.setTop { g with stack := rest }).pushFrame (.throwing q))) := by
  obtain ⟨mk, methM, hnamed, hmethM, hstM, habM⟩ := Cond.instanceMethod_spec hinst
  obtain ⟨m8, methM', cM, hn8, hmethM', -, -, -, -, -, -, hsigM⟩ := Cond.codeWith_spec hcode
  cases Option.some.inj (hn8.symm.trans hnamed)
  cases hmethM.symm.trans hmethM'
  obtain ⟨c2, r2, m2, q1, q2, q3, q4, kP, hkP, hkPi⟩ := Cond.selects_spec hsel
  cases hcls.symm.trans q1
  cases (State.methodFound?_of_named hnamed hy).symm.trans q2
  cases hnamed.symm.trans q3
  have hselP : selectMethod e.platform s.vm cellB.cls mk = .method mk := by rw [Launch.admits_selectMethod X.admits]; exact q4
  obtain ⟨vm₁, X₁, hstep₁⟩ := X.invokevirtual hexec hown hlink hnamed hmethM hstM hkP hkPi hy (a := b) (cell := cellB) hcell
    (fun z h => by rw [h] at hobj; cases hobj) hselP hmethM habM hkP hkPi (g := g) hg (argsL := argsL) (rest := rest) (hlen _ hsigM) hstack hdg
  rcases hK m meth c ⟨T.setVm vm₁, locs, cells, slots⟩ { g with stack := rest } (.invokevirtual index) mk (Value.ref b :: argsL).toArray X₁ hg hsize hdg hW (X₁.named hnamed) (hpre vm₁ X₁.warmed) with ⟨v, B, X', hpost, hsteps⟩ | ⟨q, B, X', hpost, hsteps⟩
  · exact Or.inl ⟨v, vm₁, B, X₁.warmed, X', hpost, fun target h => hstep₁ _ fun acts => by rw [doInvoke_state]; exact hsteps.trans h⟩
  · exact Or.inr ⟨q, vm₁, B, X₁.warmed, X', hpost, hstep₁ _ fun acts => by rw [doInvoke_state]; exact hsteps⟩
theorem vx_callSX (X : Stand p l e R s m args below meth c T locs cells slots) (hexec : p.tables.exec = Jvm.exec) {own : String} {index : Nat} {y : MethodName} {bytes : ByteArray} {maxL : Nat} {ret : Option FieldType} {hh : List (Nat × Nat × Nat × Nat)}
    (hown : s.vm.findClass own = some m.cls) (hlink : (Cond.methodLink own index y).before args s = true) (hstat : (Cond.static y).before args s = true) (hinit : (Cond.initialized y.cls).before args s = true)
    (hcode : (Cond.codeWith y bytes maxL ret hh).before args s = true) (hy : y.cls ≠ "java/lang/invoke/MethodHandle" ∧ y.cls ≠ "java/lang/invoke/VarHandle")
    {W9 : Nat} {Pre : Pt → Array Value → Prop} {Post : Pt → Array Value → Option Value → Pt → Prop} {PostX : Pt → Array Value → Addr → Pt → Prop} (hK : vx_Back l R p e below s args y 3 W9 Pre Post PostX)
    {g : JFrame} (hg : g.method = m) (hsize : g.locals.size = c.maxLocals) {argsL rest : List Value} (hlen : ∀ sig, parseMethodDescriptor y.desc = some sig → argsL.length = sig.parameters.length)
    (hstack : g.stack = argsL.reverse ++ rest) (hW : 2 * g.monitorRoom + (rest.map fun v => v.category).sum ≤ W9) (hdg : decode c.code g.pc = .ok (.invokestatic index, 3))
    (hpre : ∀ vm₁, s.WarmedH vm₁ → Pre ⟨T.setVm vm₁, locs, cells, slots⟩ argsL.toArray) :
    (∃ (v : Option Value) (vm₁ : Vm) (B : Pt), s.WarmedH vm₁ ∧ Stand p l e R s m args below meth c B.U B.locs B.cells B.slots ∧ Post ⟨T.setVm vm₁, locs, cells, slots⟩ argsL.toArray v B ∧
      ∀ target, Steps p.tables e below (B.U.setTop { g with pc := g.pc + 3, stack := v.toList ++ rest }) target → Steps p.tables e below (T.setTop g) target) ∨
    (∃ (q : Addr) (vm₁ : Vm) (B : Pt), s.WarmedH vm₁ ∧ Stand p l e R s m args below meth c B.U B.locs B.cells B.slots ∧ PostX ⟨T.setVm vm₁, locs, cells, slots⟩ argsL.toArray q B ∧
      Steps p.tables e below (T.setTop g) ((B.U.setTop { g with stack := rest }).pushFrame (.throwing q))) := by
  obtain ⟨mk, methM, cM, hnamed, hmethM, -, -, -, -, -, -, hsigM⟩ := Cond.codeWith_spec hcode
  have hstatic : methM.isStatic = true := Cond.static_spec hnamed hmethM hstat
  obtain ⟨kP, hkP, -⟩ := className_of_methodNamed hnamed
  have hinitP : kP.init = .initialized := Cond.initialized_spec (findClass_of_methodNamed hnamed) hkP hinit
  obtain ⟨vm₁, X₁, hstep₁⟩ := X.invokestatic hexec hown hlink hnamed hmethM hstatic hkP hinitP hy (g := g) hg (argsL := argsL) (rest := rest) (hlen _ hsigM) hstack hdg
  rcases hK m meth c ⟨T.setVm vm₁, locs, cells, slots⟩ { g with stack := rest } (.invokestatic index) mk argsL.toArray X₁ hg hsize hdg hW (X₁.named hnamed) (hpre vm₁ X₁.warmed) with ⟨v, B, X', hpost, hsteps⟩ | ⟨q, B, X', hpost, hsteps⟩
  · exact Or.inl ⟨v, vm₁, B, X₁.warmed, X', hpost, fun target h => hstep₁ _ fun acts => by rw [doInvoke_state]; exact hsteps.trans h⟩
  · exact Or.inr ⟨q, vm₁, B, X₁.warmed, X', hpost, hstep₁ _ fun acts => by rw [doInvoke_state]; exact hsteps⟩
theorem vx_callVW (X : Stand p l e R s m args below meth c T locs cells slots) (hexec : p.tables.exec = Jvm.exec) {own C : String} {index : Nat} {y : MethodName} {bytes : ByteArray} {maxL : Nat} {ret : Option FieldType} {hh : List (Nat × Nat × Nat × Nat)}
    (hown : s.vm.findClass own = some m.cls) (hlink : (Cond.methodLink own index y).before args s = true) (hinst : (Cond.instanceMethod y).before args s = true) (hsel : (Cond.selects C y y).before args s = true)
    (hcode : (Cond.codeWith y bytes maxL ret hh).before args s = true) (hy : y.cls ≠ "java/lang/invoke/MethodHandle" ∧ y.cls ≠ "java/lang/invoke/VarHandle")
    {W9 : Nat} {Pre : Pt → Array Value → Prop} {Post : Pt → Array Value → Option Value → Pt → Prop} (hK : Back l R p e below s args y 3 W9 Pre Post)
    {b : Addr} {cellB : Cell} (hcell : T.heap[b]? = some cellB) (hobj : cellB.vm.isStatics = false) (hcls : s.vm.findClass C = some cellB.cls)
    {g : JFrame} (hg : g.method = m) (hsize : g.locals.size = c.maxLocals) {argsL rest : List Value} (hlen : ∀ sig, parseMethodDescriptor y.desc = some sig → argsL.length = sig.parameters.length)
    (hstack : g.stack = argsL.reverse ++ .ref b :: rest) (hW : 2 * g.monitorRoom + (rest.map fun v => v.category).sum ≤ W9) (hdg : decode c.code g.pc = .ok (.invokevirtual index, 3))
    (hpre : ∀ vm₁, s.WarmedH vm₁ → Pre ⟨T.setVm vm₁, locs, cells, slots⟩ (Value.ref b :: argsL).toArray) :
    ∃ (v : Option Value) (vm₁ : Vm) (B : Pt), s.WarmedH vm₁ ∧ Stand p l e R s m args below meth c B.U B.locs B.cells B.slots ∧ Post ⟨T.setVm vm₁, locs, cells, slots⟩ (Value.ref b :: argsL).toArray v B ∧
      ∀ target, Steps p.tables e below (B.U.setTop { g with pc := g.pc + 3, stack := v.toList ++ rest }) target → Steps p.tables e below (T.setTop g) target := by
  obtain ⟨mk, methM, hnamed, hmethM, hstM, habM⟩ := Cond.instanceMethod_spec hinst
  obtain ⟨m8, methM', cM, hn8, hmethM', -, -, -, -, -, -, hsigM⟩ := Cond.codeWith_spec hcode
  cases Option.some.inj (hn8.symm.trans hnamed)
  cases hmethM.symm.trans hmethM'
  obtain ⟨c2, r2, m2, q1, q2, q3, q4, kP, hkP, hkPi⟩ := Cond.selects_spec hsel
  cases hcls.symm.trans q1
  cases (State.methodFound?_of_named hnamed hy).symm.trans q2
  cases hnamed.symm.trans q3
  have hselP : selectMethod e.platform s.vm cellB.cls mk = .method mk := by rw [Launch.admits_selectMethod X.admits]; exact q4
  obtain ⟨vm₁, X₁, hstep₁⟩ := X.invokevirtual hexec hown hlink hnamed hmethM hstM hkP hkPi hy (a := b) (cell := cellB) hcell
    (fun z h => by rw [h] at hobj; cases hobj) hselP hmethM habM hkP hkPi (g := g) hg (argsL := argsL) (rest := rest) (hlen _ hsigM) hstack hdg
  obtain ⟨v, B, X', hpost, hsteps⟩ := hK m meth c ⟨T.setVm vm₁, locs, cells, slots⟩ { g with stack := rest } (.invokevirtual index) mk (Value.ref b :: argsL).toArray X₁ hg hsize hdg hW (X₁.named hnamed) (hpre vm₁ X₁.warmed)
  exact ⟨v, vm₁, B, X₁.warmed, X', hpost, fun target h => hstep₁ _ fun acts => by rw [doInvoke_state]; exact hsteps.trans h⟩
abbrev vx_CVW (R : Room) (s : State) (args : Array Value) (own C : String) (index : Nat) (y : MethodName) (bytes : ByteArray) (maxL : Nat) (ret : Option FieldType) (hh : List (Nat × Nat × Nat × Nat)) (ws : List Cond) (rm : Room) (mc ms n : Nat) : Prop :=
  (rm.cells = mc ∧ rm.slots = ms ∧ rm.frames + 1 ≤ R.frames ∧ 8 + (maxL + 11) + rm.locals ≤ R.locals ∧ (∀ w ∈ ws, ∀ (a' : Array Value) (U : State), s.WarmedH U.vm → w.before a' U = true) ∧ Cond.codeWith y bytes maxL ret hh ∈ ws) ∧
  (Cond.codeWith y bytes maxL ret hh).before args s = true ∧ (Cond.initialized y.cls).before args s = true ∧ (y.cls ≠ "java/lang/invoke/MethodHandle" ∧ y.cls ≠ "java/lang/invoke/VarHandle") ∧
  (∀ sig, parseMethodDescriptor y.desc = some sig → n = sig.parameters.length) ∧ (Cond.methodLink own index y).before args s = true ∧ (Cond.instanceMethod y).before args s = true ∧ (Cond.selects C y y).before args s = true
theorem vx_cwVW {own C : String} {index maxL mc ms : Nat} {y : MethodName} {bytes : ByteArray} {ret : Option FieldType} {hh : List (Nat × Nat × Nat × Nat)} {Ts ws ws' : List Cond} {rm : Room} (n : Nat) (ht : ∀ w ∈ Ts, w.before args s = true) (hT : GoodIn Ts (wsV own index C y ws)) (hw : ws = Cond.codeWith y bytes maxL ret hh :: ws') (hrc : rm.cells = mc) (hrs : rm.slots = ms)
    (hd : y.cls = C ∧ y.cls ≠ "java/lang/invoke/MethodHandle" ∧ y.cls ≠ "java/lang/invoke/VarHandle" ∧ (parseMethodDescriptor y.desc).map (fun d => d.parameters.length) = some n) (hR : rm.frames + 1 ≤ R.frames ∧ 8 + (maxL + 11) + rm.locals ≤ R.locals) :
    vx_CVW R s args own C index y bytes maxL ret hh ws rm mc ms n := by
  obtain ⟨hC, hd⟩ := hd
  subst hC
  have ok : ∀ w ∈ wsV own index y.cls y ws, w.before args s = true := fun w h => ht w (hT w h).1
  have hG : GoodIn Ts ws := fun w h => hT w (by unfold wsV; exact List.mem_append_right _ h)
  have hc : Cond.codeWith y bytes maxL ret hh ∈ ws := by rw [hw]; exact List.mem_cons_self
  refine ⟨⟨hrc, hrs, hR.1, hR.2, pay_in ht hG, hc⟩, ht _ (hG _ hc).1, ok _ (by simp [wsV]), ⟨hd.1, hd.2.1⟩, fun sig h => ?_, ok _ (by simp [wsV]), ok _ (by simp [wsV]), ok _ (by simp [wsV])⟩
  have h2 := hd.2.2
  rw [h] at h2
  exact (Option.some.inj h2).symm
theorem vx_runVW {y : MethodName} {bytes cc : ByteArray} {maxL nL mc ms n index : Nat} {ret : Option FieldType} {hh : List (Nat × Nat × Nat × Nat)} {ws : List Cond} {rm : Room} {Pc : Array Value → State → Prop} {Qc : Array Value → State → Outcome → State → Prop} {free : Addr → Prop} {Ts : List Cond} {own C : String} {b : Addr} {As rest : List Value} {g : JFrame}
    (S : CallFix p m c cc nL s args Ts own) (hM : Met l y ws rm Pc Qc mc ms free) (cw : vx_CVW R s args own C index y bytes maxL ret hh ws rm mc ms n) (hp : PreV s H C b Pc As)
    (hg : g.method = m) (hn : As.length = n) (hsize : g.locals.size = nL) (hstack : g.stack = As.reverse ++ .ref b :: rest) (hW : 2 * g.monitorRoom + (rest.map fun v => v.category).sum ≤ 8) (hdg : decode cc g.pc = .ok (.invokevirtual index, 3)) (hf : cells + mc ≤ R.cells ∧ slots + ms ≤ R.slots) :
    va_Run p l e R s m args below meth c H locs cells slots mc ms g rest (Qc (Value.ref b :: As).toArray) free := by
  obtain ⟨⟨hrc, hrs, hfr, hlo, hws, hcw⟩, hcode, hini, hy, hlen, hl, hin, hse⟩ := cw
  have hK : Back l R p e below s args y 3 8 (PreOf R mc ms Pc) (PostOf Qc mc ms free) := va_backW (hh := hh) (bytes := bytes) (maxL := maxL) (ret := ret) hM hp.1 hrc hrs hfr hlo hws hcw (fun a' U hW => word_at hW (Or.inl (by first | rfl | simp [Cond.onTables, Cond.keeps, Cond.steady])) hini)
  obtain ⟨hx, hb, hml, ho, -⟩ := S
  obtain ⟨-, ⟨cellB, hcB, hoB, hclB⟩, hPc⟩ := hp
  intro T hT X
  obtain ⟨v, vm₁, ⟨U', l2, c2, s2⟩, hW₁, X', ⟨g', mk, t, L, e1, e2, hq, h1, hL, h2, h3⟩, st⟩ := vx_callVW X hx (C := C) (hh := hh) (bytes := bytes) (maxL := maxL) (ret := ret) ho hl hin hse hcode hy hK (by rw [hT]; exact hcB) hoB hclB hg (hsize.trans hml.symm) (argsL := As) (rest := rest) (fun sig h => hn.trans (hlen sig h)) hstack hW (by rw [hb]; exact hdg)
    (fun vm₁ hW₁ => ⟨hf.1, hf.2, hPc (T.setVm vm₁) hT hW₁⟩)
  dsimp only [Pt.U, Pt.locs, Pt.cells, Pt.slots] at X' e1 e2 h1 h2 h3 st
  subst h1; subst h2; subst h3
  exact ⟨v, (T.setVm vm₁).calling g' mk (Value.ref b :: As).toArray, t, U', L, hT, X', hL, e1, e2, hq, st⟩
section
variable {y : MethodName} {bytes cc : ByteArray} {maxL nL mc ms n index : Nat} {ret : Option FieldType} {ws : List Cond} {rm : Room} {Pc : Array Value → State → Prop} {Qc : Array Value → State → Outcome → State → Prop} {XC : String → State → State → Prop} {free : Addr → Prop} {Ts : List Cond} {own C : String} {b : Addr} {As rest : List Value} {g : JFrame}
theorem vx_runVX {hh : List (Nat × Nat × Nat × Nat)} (S : CallFix p m c cc nL s args Ts own) (hM : vx_Met l y ws rm Pc Qc XC mc ms free) (cw : vx_CVW R s args own C index y bytes maxL ret hh ws rm mc ms n) (hp : PreV s H C b Pc As)
    (hg : g.method = m) (hn : As.length = n) (hsize : g.locals.size = nL) (hstack : g.stack = As.reverse ++ .ref b :: rest) (hW : 2 * g.monitorRoom + (rest.map fun v => v.category).sum ≤ 8) (hdg : decode cc g.pc = .ok (.invokevirtual index, 3)) (hf : cells + mc ≤ R.cells ∧ slots + ms ≤ R.slots) :
    vx_Run p l e R s m args below meth c H locs cells slots mc ms g rest (Qc (Value.ref b :: As).toArray) XC free := by
  obtain ⟨⟨hrc, hrs, hfr, hlo, hws, hcw⟩, hcode, hini, hy, hlen, hl, hin, hse⟩ := cw
  have hK : vx_Back l R p e below s args y 3 8 (PreOf R mc ms Pc) (PostOf Qc mc ms free) (vx_Post XC mc ms free) := vx_backW (hh := hh) (bytes := bytes) (maxL := maxL) (ret := ret) hM hp.1 hrc hrs hfr hlo hws hcw (fun a' U hW => word_at hW (Or.inl (by first | rfl | simp [Cond.onTables, Cond.keeps, Cond.steady])) hini)
  obtain ⟨hx, hb, hml, ho, -⟩ := S
  obtain ⟨-, ⟨cellB, hcB, hoB, hclB⟩, hPc⟩ := hp
  intro T hT X
  rcases vx_callVX X hx (C := C) (hh := hh) (bytes := bytes) (maxL := maxL) (ret := ret) ho hl hin hse hcode hy hK (by rw [hT]; exact hcB) hoB hclB hg (hsize.trans hml.symm) (argsL := As) (rest := rest) (fun sig h => hn.trans (hlen sig h)) hstack hW (by rw [hb]; exact hdg)
    (fun vm₁ hW₁ => ⟨hf.1, hf.2, hPc (T.setVm vm₁) hT hW₁⟩) with ⟨v, vm₁, ⟨U', l2, c2, s2⟩, hW₁, X', ⟨g', mk, t, L, e1, e2, hq, h1, hL, h2, h3⟩, st⟩ | ⟨q, vm₁, ⟨U', l2, c2, s2⟩, hW₁, X', ⟨g', mk, t, L, E, ce, e1, e2, hq, hce, hcv, hcl, h1, hL, h2, h3⟩, st⟩
  · dsimp only [Pt.U, Pt.locs, Pt.cells, Pt.slots] at X' e1 e2 h1 h2 h3 st
    subst h1; subst h2; subst h3
    exact Or.inl ⟨v, (T.setVm vm₁).calling g' mk (Value.ref b :: As).toArray, t, U', L, hT, X', hL, e1, e2, hq, st⟩
  · dsimp only [Pt.U, Pt.locs, Pt.cells, Pt.slots] at X' e1 e2 h1 h2 h3 st hcl
    subst h1; subst h2; subst h3
    exact Or.inr ⟨q, (T.setVm vm₁).calling g' mk (Value.ref b :: As).toArray, t, U', L, E, ce, hT, X', hL, e1, e2, hq, hce, hcv, vx_cls hW₁ hcl, st⟩
theorem vx_runSX {hh : List (Nat × Nat × Nat × Nat)} (S : CallFix p m c cc nL s args Ts own) (hM : vx_Met l y ws rm Pc Qc XC mc ms free) (cw : vx_CSW R s args own index y bytes maxL ret hh ws rm mc ms n) (hp : PreS s H Pc As)
    (hg : g.method = m) (hn : As.length = n) (hsize : g.locals.size = nL) (hstack : g.stack = As.reverse ++ rest) (hW : 2 * g.monitorRoom + (rest.map fun v => v.category).sum ≤ 8) (hdg : decode cc g.pc = .ok (.invokestatic index, 3)) (hf : cells + mc ≤ R.cells ∧ slots + ms ≤ R.slots) :
    vx_Run p l e R s m args below meth c H locs cells slots mc ms g rest (Qc As.toArray) XC free := by
  obtain ⟨⟨hrc, hrs, hfr, hlo, hws, hcw⟩, hcode, hini, hy, hlen, hl, hstt⟩ := cw
  have hK : vx_Back l R p e below s args y 3 8 (PreOf R mc ms Pc) (PostOf Qc mc ms free) (vx_Post XC mc ms free) := vx_backW (hh := hh) (bytes := bytes) (maxL := maxL) (ret := ret) hM hp.1 hrc hrs hfr hlo hws hcw (fun a' U hW => word_at hW (Or.inl (by first | rfl | simp [Cond.onTables, Cond.keeps, Cond.steady])) hini)
  obtain ⟨hx, hb, hml, ho, -⟩ := S
  intro T hT X
  rcases vx_callSX X hx (hh := hh) (bytes := bytes) (maxL := maxL) (ret := ret) ho hl hstt hini hcode hy hK hg (hsize.trans hml.symm) (argsL := As) (rest := rest) (fun sig h => hn.trans (hlen sig h)) hstack hW (by rw [hb]; exact hdg)
    (fun vm₁ hW₁ => ⟨hf.1, hf.2, hp.2 (T.setVm vm₁) hT hW₁⟩) with ⟨v, vm₁, ⟨U', l2, c2, s2⟩, hW₁, X', ⟨g', mk, t, L, e1, e2, hq, h1, hL, h2, h3⟩, st⟩ | ⟨q, vm₁, ⟨U', l2, c2, s2⟩, hW₁, X', ⟨g', mk, t, L, E, ce, e1, e2, hq, hce, hcv, hcl, h1, hL, h2, h3⟩, st⟩
  · dsimp only [Pt.U, Pt.locs, Pt.cells, Pt.slots] at X' e1 e2 h1 h2 h3 st
    subst h1; subst h2; subst h3
    exact Or.inl ⟨v, (T.setVm vm₁).calling g' mk As.toArray, t, U', L, hT, X', hL, e1, e2, hq, st⟩
  · dsimp only [Pt.U, Pt.locs, Pt.cells, Pt.slots] at X' e1 e2 h1 h2 h3 st hcl
    subst h1; subst h2; subst h3
    exact Or.inr ⟨q, (T.setVm vm₁).calling g' mk As.toArray, t, U', L, E, ce, hT, X', hL, e1, e2, hq, hce, hcv, vx_cls hW₁ hcl, st⟩
end
end VXH
theorem vx_ofWH {l : Launch} {y : MethodName} {ws ws' : List Cond} {rm : Room} {Pc : Array Value → State → Prop} {Qc : Array Value → State → Outcome → State → Prop} {XC : String → State → State → Prop} {mc ms : Nat} {free : Addr → Prop} {cc : ByteArray} {maxL : Nat} {ret : Option FieldType} {hh : List (Nat × Nat × Nat × Nat)}
    (hy : plainName y.cls = true) (hw : ws = Cond.codeWith y cc maxL ret hh :: ws')
    (body : ∀ p e s m args below meth c s₁, BodyLoose p l y (headSpec ws rm) cc maxL ret e s m args below meth c s₁ → c.maxLocals = maxL → Pc args s →
      W p l e (headSpec ws rm).room s m args below meth c s.heap [] 0 0 (vx_MQ below Qc XC args s mc ms free) (entryFrame m args maxL)) : vx_Met l y ws rm Pc Qc XC mc ms free := by
  refine MetFree.of_bodyS (code := cc) (maxLocals := maxL) (ret := ret) hy ?_ ?_
  · intro args s m h hn
    obtain ⟨m9, meth, c, hn9, h1, h2, h3, h4, -, h5, h6, -⟩ := Cond.codeWith_spec (atoms_spec (ws := ws) h _ (by rw [hw]; exact List.mem_cons_self))
    cases hn.symm.trans hn9
    exact ⟨meth, c, h1, h2, h3, h4, h5, h6⟩
  · intro p e s m args below meth c s₁ B hml hP _
    have hh0 : s₁.heap = s.heap := by rw [B.state]; rfl
    obtain ⟨t, a1, o, b1, b2, b3⟩ := body p e s m args below meth c s₁ B hml hP s₁ hh0 (Stand.of_body B)
    exact ⟨t, o, a1, b1, b2, b3⟩
/-! ===== END ===== -/
/-! ===== BEGIN a constructor that throws (launches without stack traces) ===== -/
section VXIA
variable {p : Program} {l : Launch} {e : Env} {R : Room} {s : State} {m : MethodId} {args : Array Value} {below : List Frame} {meth : Method} {c : Code} {T : State} {locs : List Loc} {cells slots : Nat}
theorem vx_callI (X : Stand p l e R s m args below meth c T locs cells slots) (hexec : p.tables.exec = Jvm.exec) {own : String} {index : Nat} {y : MethodName} {bytes : ByteArray} {maxL : Nat}
    (hown : s.vm.findClass own = some m.cls) (hy1 : y.name = "<init>") (hlink : (Cond.methodLink own index y).before args s = true) (hinst : (Cond.instanceMethod y).before args s = true)
    (hcode : (Cond.code y bytes maxL none).before args s = true) (hy : y.cls ≠ "java/lang/invoke/MethodHandle" ∧ y.cls ≠ "java/lang/invoke/VarHandle")
    {W9 : Nat} {Pre : Pt → Array Value → Prop} {Post : Pt → Array Value → Option Value → Pt → Prop} {PostX : Pt → Array Value → Addr → Pt → Prop} (hK : vx_Back l R p e below s args y 3 W9 Pre Post PostX)
    {g : JFrame} (hg : g.method = m) (hsize : g.locals.size = c.maxLocals) {a : Addr} {argsL rest : List Value} (hlen : ∀ sig, parseMethodDescriptor y.desc = some sig → argsL.length = sig.parameters.length)
    (hstack : g.stack = argsL.reverse ++ .ref a :: rest) (hW : 2 * g.monitorRoom + (rest.map fun v => v.category).sum ≤ W9) (hdg : decode c.code g.pc = .ok (.invokespecial index, 3))
    (hpre : ∀ vm₁, s.WarmedH vm₁ → Pre ⟨T.setVm vm₁, locs, cells, slots⟩ (Value.ref a :: argsL).toArray) :
    (∃ (v : Option Value) (vm₁ : Vm) (B : Pt), s.WarmedH vm₁ ∧ Stand p l e R s m args below meth c B.U B.locs B.cells B.slots ∧ Post ⟨T.setVm vm₁, locs, cells, slots⟩ (Value.ref a :: argsL).toArray v B ∧
      ∀ target, Steps p.tables e below (B.U.setTop { g with pc := g.pc + 3, stack := v.toList ++ rest }) target → Steps p.tables e below (T.setTop g) target) ∨
    (∃ (q : Addr) (vm₁ : Vm) (B : Pt), s.WarmedH vm₁ ∧ Stand p l e R s m args below meth c B.U B.locs B.cells B.slots ∧ PostX ⟨T.setVm vm₁, locs, cells, slots⟩ (Value.ref a :: argsL).toArray q B ∧
      Steps p.tables e below (T.setTop g) ((B.U.setTop { g with stack := rest }).pushFrame (.throwing q))) := by
  subst hg
  have hpl : e.platform.magicAccessors = ({} : Platform).magicAccessors := by rw [X.admits.platform]
  obtain ⟨mk, methM, cM, kP, vm₁, hnamed, hmethM, hcodeM, -, hlocalsM, -, hkP, -, hW₁, hstep₁⟩ := Steps.initColdArgs (e := e) X.here hexec X.warmed hpl hown hy1 hy hlink hinst hcode (f := g) rfl hlen hstack hdg
  have X₁ := X.noted hW₁
  rcases hK g.method meth c ⟨T.setVm vm₁, locs, cells, slots⟩ { g with stack := rest } (.invokespecial index) mk (Value.ref a :: argsL).toArray X₁ rfl hsize hdg hW (X₁.named hnamed) (hpre vm₁ X₁.warmed) with ⟨v, B, X', hpost, hsteps⟩ | ⟨q, B, X', hpost, hsteps⟩
  · exact Or.inl ⟨v, vm₁, B, X₁.warmed, X', hpost, fun target h => hstep₁ _ fun acts => by rw [doInvoke_state]; exact hsteps.trans h⟩
  · exact Or.inr ⟨q, vm₁, B, X₁.warmed, X', hpost, hstep₁ _ fun acts => by rw [doInvoke_state]; exact hsteps⟩
end VXIA
section VXIB
variable {p : Program} {l : Launch} {e : Env} {R : Room} {s : State} {m : MethodId} {args : Array Value} {below : List Frame} {meth : Method} {c : Code} {H : Heap} {locs : List Loc} {cells slots : Nat}
variable {y : MethodName} {bytes cc : ByteArray} {maxL nL mc ms n index : Nat} {ret : Option FieldType} {ws : List Cond} {rm : Room} {Pc : Array Value → State → Prop} {Qc : Array Value → State → Outcome → State → Prop} {XC : String → State → State → Prop} {free : Addr → Prop} {Ts : List Cond} {own C : String} {b : Addr} {As rest : List Value} {g : JFrame}
theorem vx_runI (S : CallFix p m c cc nL s args Ts own) (hM : vx_Met l y ws rm Pc Qc XC mc ms free) (cw : CallB R s args own index y bytes maxL none ws rm mc ms n ∧ y.name = "<init>" ∧ (Cond.instanceMethod y).before args s = true) (hp : PreS s H Pc (.ref b :: As))
    (hg : g.method = m) (hn : As.length = n) (hsize : g.locals.size = nL) (hstack : g.stack = As.reverse ++ .ref b :: rest) (hW : 2 * g.monitorRoom + (rest.map fun v => v.category).sum ≤ 8) (hdg : decode cc g.pc = .ok (.invokespecial index, 3)) (hf : cells + mc ≤ R.cells ∧ slots + ms ≤ R.slots) :
    vx_Run p l e R s m args below meth c H locs cells slots mc ms g rest (Qc (Value.ref b :: As).toArray) XC free := by
  have hK : vx_Back l R p e below s args y 3 8 (PreOf R mc ms Pc) (PostOf Qc mc ms free) (vx_Post XC mc ms free) := vx_callBack cw.1 hM hp.1
  obtain ⟨⟨-, -, -, -, -, -, hcode, -, hy, hlen, hl⟩, hy1, hin⟩ := cw
  obtain ⟨hx, hb, hml, ho, -⟩ := S
  have hPc := hp.2
  intro T hT X
  rcases vx_callI X hx (bytes := bytes) (maxL := maxL) ho hy1 hl hin hcode hy hK hg (hsize.trans hml.symm) (a := b) (argsL := As) (rest := rest) (fun sig h => hn.trans (hlen sig h)) hstack hW (by rw [hb]; exact hdg)
    (fun vm₁ hW₁ => ⟨hf.1, hf.2, hPc (T.setVm vm₁) hT hW₁⟩) with ⟨v, vm₁, ⟨U', l2, c2, s2⟩, hW₁, X', ⟨g', mk, t, L, e1, e2, hq, h1, hL, h2, h3⟩, st⟩ | ⟨q, vm₁, ⟨U', l2, c2, s2⟩, hW₁, X', ⟨g', mk, t, L, E, ce, e1, e2, hq, hce, hcv, hcl, h1, hL, h2, h3⟩, st⟩
  · dsimp only [Pt.U, Pt.locs, Pt.cells, Pt.slots] at X' e1 e2 h1 h2 h3 st
    subst h1; subst h2; subst h3
    exact Or.inl ⟨v, (T.setVm vm₁).calling g' mk (Value.ref b :: As).toArray, t, U', L, hT, X', hL, e1, e2, hq, st⟩
  · dsimp only [Pt.U, Pt.locs, Pt.cells, Pt.slots] at X' e1 e2 h1 h2 h3 st hcl
    subst h1; subst h2; subst h3
    exact Or.inr ⟨q, (T.setVm vm₁).calling g' mk (Value.ref b :: As).toArray, t, U', L, E, ce, hT, X', hL, e1, e2, hq, hce, hcv, vx_cls hW₁ hcl, st⟩
end VXIB
/-! ===== END ===== -/
/-! ===== BEGIN a private constructor of a nest mate that throws ===== -/
section VXIC
variable {p : Program} {l : Launch} {e : Env} {R : Room} {s : State} {m : MethodId} {args : Array Value} {below : List Frame} {meth : Method} {c : Code} {T : State} {locs : List Loc} {cells slots : Nat}
theorem vx_callIN (X : Stand p l e R s m args below meth c T locs cells slots) (hexec : p.tables.exec = Jvm.exec) {own : String} {index : Nat} {host : String} {y : MethodName} {bytes : ByteArray} {maxL : Nat}
    (hown : s.vm.findClass own = some m.cls) (hy1 : y.name = "<init>") (hlink : (Cond.methodLinkNest own index y host).before args s = true) (hinst : (Cond.instanceMethod y).before args s = true)
    (hcode : (Cond.code y bytes maxL none).before args s = true) (hy : y.cls ≠ "java/lang/invoke/MethodHandle" ∧ y.cls ≠ "java/lang/invoke/VarHandle")
    {W9 : Nat} {Pre : Pt → Array Value → Prop} {Post : Pt → Array Value → Option Value → Pt → Prop} {PostX : Pt → Array Value → Addr → Pt → Prop} (hK : vx_Back l R p e below s args y 3 W9 Pre Post PostX)
    {g : JFrame} (hg : g.method = m) (hsize : g.locals.size = c.maxLocals) {a : Addr} {argsL rest : List Value} (hlen : ∀ sig, parseMethodDescriptor y.desc = some sig → argsL.length = sig.parameters.length)
    (hstack : g.stack = argsL.reverse ++ .ref a :: rest) (hW : 2 * g.monitorRoom + (rest.map fun v => v.category).sum ≤ W9) (hdg : decode c.code g.pc = .ok (.invokespecial index, 3))
    (hpre : ∀ vm₁, s.WarmedH vm₁ → Pre ⟨T.setVm vm₁, locs, cells, slots⟩ (Value.ref a :: argsL).toArray) :
    (∃ (v : Option Value) (vm₁ : Vm) (B : Pt), s.WarmedH vm₁ ∧ Stand p l e R s m args below meth c B.U B.locs B.cells B.slots ∧ Post ⟨T.setVm vm₁, locs, cells, slots⟩ (Value.ref a :: argsL).toArray v B ∧
      ∀ target, Steps p.tables e below (B.U.setTop { g with pc := g.pc + 3, stack := v.toList ++ rest }) target → Steps p.tables e below (T.setTop g) target) ∨
    (∃ (q : Addr) (vm₁ : Vm) (B : Pt), s.WarmedH vm₁ ∧ Stand p l e R s m args below meth c B.U B.locs B.cells B.slots ∧ PostX ⟨T.setVm vm₁, locs, cells, slots⟩ (Value.ref a :: argsL).toArray q B ∧
      Steps p.tables e below (T.setTop g) ((B.U.setTop { g with stack := rest }).pushFrame (.throwing q))) := by
  subst hg
  have hpl : e.platform.magicAccessors = ({} : Platform).magicAccessors := by rw [X.admits.platform]
  obtain ⟨mk, methM, cM, kP, vm₁, hnamed, hmethM, hcodeM, -, hlocalsM, -, hkP, -, hW₁, hstep₁⟩ := Steps.initColdArgsNest (e := e) X.here hexec X.warmed hpl hown hy1 hy hlink hinst hcode (f := g) rfl hlen hstack hdg
  have X₁ := X.noted hW₁
  rcases hK g.method meth c ⟨T.setVm vm₁, locs, cells, slots⟩ { g with stack := rest } (.invokespecial index) mk (Value.ref a :: argsL).toArray X₁ rfl hsize hdg hW (X₁.named hnamed) (hpre vm₁ X₁.warmed) with ⟨v, B, X', hpost, hsteps⟩ | ⟨q, B, X', hpost, hsteps⟩
  · exact Or.inl ⟨v, vm₁, B, X₁.warmed, X', hpost, fun target h => hstep₁ _ fun acts => by rw [doInvoke_state]; exact hsteps.trans h⟩
  · exact Or.inr ⟨q, vm₁, B, X₁.warmed, X', hpost, hstep₁ _ fun acts => by rw [doInvoke_state]; exact hsteps⟩
end VXIC
section VXID
variable {p : Program} {l : Launch} {e : Env} {R : Room} {s : State} {m : MethodId} {args : Array Value} {below : List Frame} {meth : Method} {c : Code} {H : Heap} {locs : List Loc} {cells slots : Nat}
theorem vx_runIN {y : MethodName} {bytes cc : ByteArray} {maxL nL mc ms n index : Nat} {ws : List Cond} {rm : Room} {Pc : Array Value → State → Prop} {Qc : Array Value → State → Outcome → State → Prop} {XC : String → State → State → Prop} {free : Addr → Prop} {Ts : List Cond} {own host : String} {b : Addr} {As rest : List Value} {g : JFrame}
    (S : CallFix p m c cc nL s args Ts own) (hM : vx_Met l y ws rm Pc Qc XC mc ms free) (cw : va_CN R s args own index y host bytes maxL none ws rm mc ms n ∧ y.name = "<init>" ∧ (Cond.instanceMethod y).before args s = true) (hp : PreS s H Pc (.ref b :: As))
    (hg : g.method = m) (hn : As.length = n) (hsize : g.locals.size = nL) (hstack : g.stack = As.reverse ++ .ref b :: rest) (hW : 2 * g.monitorRoom + (rest.map fun v => v.category).sum ≤ 8) (hdg : decode cc g.pc = .ok (.invokespecial index, 3)) (hf : cells + mc ≤ R.cells ∧ slots + ms ≤ R.slots) :
    vx_Run p l e R s m args below meth c H locs cells slots mc ms g rest (Qc (Value.ref b :: As).toArray) XC free := by
  obtain ⟨⟨⟨hrc, hrs, hfr, hlo, hws, hcw⟩, hcode, hini, hy, hlen, hl⟩, hx1, hx2⟩ := cw
  have hK : vx_Back l R p e below s args y 3 8 (PreOf R mc ms Pc) (PostOf Qc mc ms free) (vx_Post XC mc ms free) := vx_back (bytes := bytes) (maxL := maxL) (ret := none) hM hp.1 hrc hrs hfr hlo hws hcw (fun a' U hW => word_at hW (Or.inl (by first | rfl | simp [Cond.onTables, Cond.keeps, Cond.steady])) hini)
  obtain ⟨hx, hb, hml, ho, -⟩ := S
  have hPc := hp.2
  intro T hT X
  rcases vx_callIN X hx (bytes := bytes) (maxL := maxL) ho hx1 hl hx2 hcode hy hK hg (hsize.trans hml.symm) (a := b) (argsL := As) (rest := rest) (fun sig h => hn.trans (hlen sig h)) hstack hW (by rw [hb]; exact hdg)
    (fun vm₁ hW₁ => ⟨hf.1, hf.2, hPc (T.setVm vm₁) hT hW₁⟩) with ⟨v, vm₁, ⟨U', l2, c2, s2⟩, hW₁, X', ⟨g', mk, t, L, e1, e2, hq, h1, hL, h2, h3⟩, st⟩ | ⟨q, vm₁, ⟨U', l2, c2, s2⟩, hW₁, X', ⟨g', mk, t, L, E, ce, e1, e2, hq, hce, hcv, hcl, h1, hL, h2, h3⟩, st⟩
  · dsimp only [Pt.U, Pt.locs, Pt.cells, Pt.slots] at X' e1 e2 h1 h2 h3 st
    subst h1; subst h2; subst h3
    exact Or.inl ⟨v, (T.setVm vm₁).calling g' mk (Value.ref b :: As).toArray, t, U', L, hT, X', hL, e1, e2, hq, st⟩
  · dsimp only [Pt.U, Pt.locs, Pt.cells, Pt.slots] at X' e1 e2 h1 h2 h3 st hcl
    subst h1; subst h2; subst h3
    exact Or.inr ⟨q, (T.setVm vm₁).calling g' mk (Value.ref b :: As).toArray, t, U', L, E, ce, hT, X', hL, e1, e2, hq, hce, hcv, vx_cls hW₁ hcl, st⟩
end VXID
/-! ===== END ===== -/
def RX0 : String := "Treebark$Disks"
def TX0 : u_T := fun k => match k with
  | 0 => ("Treebark$Disks", "extents", "[LTreebark$Extent;", true)
  | 1 => ("Treebark$Disks", "room", "[I", true)
  | 2 => ("Treebark$Disks", "many", "I", false)
  | 3 => ("Treebark$Disks", "madeAs", "I", false)
  | 4 => ("Treebark$Disks", "mends", "I", false)
  | _ => ("Treebark$Disks", "walks", "I", false)
def tyX0 : Nat → FieldType := fun k => match k with
  | 0 => .array (.object "Treebark$Extent")
  | 1 => .array .int
  | 2 => .int
  | 3 => .int
  | 4 => .int
  | _ => .int
theorem nmX0 : ∀ a, a < 6 → ∀ b, b < 6 → a ≠ b → (TX0 a).2.1 ≠ (TX0 b).2.1 := by decide +kernel
theorem tyX0_ok : ∀ k, k < 6 → parseFieldDescriptor (TX0 k).2.2.1 = some (tyX0 k) := by decide +kernel
def RX1 : String := "Treebark$Extent"
def TX1 : u_T := fun k => match k with
  | 0 => ("Treebark$Extent", "cells", "[I", true)
  | 1 => ("Treebark$Extent", "blocks", "I", false)
  | 2 => ("Treebark$Extent", "copies", "I", false)
  | 3 => ("Treebark$Extent", "bad", "I", false)
  | 4 => ("Treebark$Extent", "uses", "I", false)
  | 5 => ("Treebark$Extent", "seenHere", "I", false)
  | _ => ("Treebark$Extent", "seenElsewhere", "I", false)
def tyX1 : Nat → FieldType := fun k => match k with
  | 0 => .array .int
  | 1 => .int
  | 2 => .int
  | 3 => .int
  | 4 => .int
  | 5 => .int
  | _ => .int
theorem nmX1 : ∀ a, a < 7 → ∀ b, b < 7 → a ≠ b → (TX1 a).2.1 ≠ (TX1 b).2.1 := by decide +kernel
theorem tyX1_ok : ∀ k, k < 7 → parseFieldDescriptor (TX1 k).2.2.1 = some (tyX1 k) := by decide +kernel
def RX2 : String := "Treebark$Logged"
def TX2 : u_T := fun k => match k with
  | 0 => ("Treebark$Logged", "tree", "I", true)
  | 1 => ("Treebark$Logged", "number", "I", true)
  | 2 => ("Treebark$Logged", "names", "I", true)
  | _ => ("Treebark$Logged", "places", "LTreebark$Places;", true)
def tyX2 : Nat → FieldType := fun k => match k with
  | 0 => .int
  | 1 => .int
  | 2 => .int
  | _ => .object "Treebark$Places"
theorem nmX2 : ∀ a, a < 4 → ∀ b, b < 4 → a ≠ b → (TX2 a).2.1 ≠ (TX2 b).2.1 := by decide +kernel
theorem tyX2_ok : ∀ k, k < 4 → parseFieldDescriptor (TX2 k).2.2.1 = some (tyX2 k) := by decide +kernel
def RX3 : String := "Treebark$Node"
def TX3 : u_T := fun k => match k with
  | 0 => ("Treebark$Node", "number", "I", true)
  | 1 => ("Treebark$Node", "places", "LTreebark$Places;", true)
  | _ => ("Treebark$Node", "roots", "I", false)
def tyX3 : Nat → FieldType := fun k => match k with
  | 0 => .int
  | 1 => .object "Treebark$Places"
  | _ => .int
theorem nmX3 : ∀ a, a < 3 → ∀ b, b < 3 → a ≠ b → (TX3 a).2.1 ≠ (TX3 b).2.1 := by decide +kernel
theorem tyX3_ok : ∀ k, k < 3 → parseFieldDescriptor (TX3 k).2.2.1 = some (tyX3 k) := by decide +kernel
def RX4 : String := "Treebark$Places"
def TX4 : u_T := fun k => match k with
  | 0 => ("Treebark$Places", "extents", "[LTreebark$Extent;", true)
  | _ => ("Treebark$Places", "cells", "[I", true)
def tyX4 : Nat → FieldType := fun k => match k with
  | 0 => .array (.object "Treebark$Extent")
  | _ => .array .int
theorem nmX4 : ∀ a, a < 2 → ∀ b, b < 2 → a ≠ b → (TX4 a).2.1 ≠ (TX4 b).2.1 := by decide +kernel
theorem tyX4_ok : ∀ k, k < 2 → parseFieldDescriptor (TX4 k).2.2.1 = some (tyX4 k) := by decide +kernel
def RX5 : String := "Treebark$Root"
def TX5 : u_T := fun k => match k with
  | 0 => ("Treebark$Root", "nodes", "[LTreebark$Node;", true)
  | _ => ("Treebark$Root", "trees", "I", false)
def tyX5 : Nat → FieldType := fun k => match k with
  | 0 => .array (.object "Treebark$Node")
  | _ => .int
theorem nmX5 : ∀ a, a < 2 → ∀ b, b < 2 → a ≠ b → (TX5 a).2.1 ≠ (TX5 b).2.1 := by decide +kernel
theorem tyX5_ok : ∀ k, k < 2 → parseFieldDescriptor (TX5 k).2.2.1 = some (tyX5 k) := by decide +kernel
def RX6 : String := "Treebark$Stream"
def TX6 : u_T := fun k => match k with
  | 0 => ("Treebark$Stream", "fileOf", "[I", true)
  | 1 => ("Treebark$Stream", "lowest", "[I", true)
  | 2 => ("Treebark$Stream", "rows", "[[I", true)
  | 3 => ("Treebark$Stream", "many", "I", false)
  | _ => ("Treebark$Stream", "isTold", "Z", false)
def tyX6 : Nat → FieldType := fun k => match k with
  | 0 => .array .int
  | 1 => .array .int
  | 2 => .array (.array .int)
  | 3 => .int
  | _ => .boolean
theorem nmX6 : ∀ a, a < 5 → ∀ b, b < 5 → a ≠ b → (TX6 a).2.1 ≠ (TX6 b).2.1 := by decide +kernel
theorem tyX6_ok : ∀ k, k < 5 → parseFieldDescriptor (TX6 k).2.2.1 = some (tyX6 k) := by decide +kernel
def RX7 : String := "Treebark$Tree"
def TX7 : u_T := fun k => match k with
  | 0 => ("Treebark$Tree", "root", "LTreebark$Root;", false)
  | 1 => ("Treebark$Tree", "isSnapshot", "Z", false)
  | 2 => ("Treebark$Tree", "refersLimit", "I", false)
  | _ => ("Treebark$Tree", "ownLimit", "I", false)
def tyX7 : Nat → FieldType := fun k => match k with
  | 0 => .object "Treebark$Root"
  | 1 => .boolean
  | 2 => .int
  | _ => .int
theorem nmX7 : ∀ a, a < 4 → ∀ b, b < 4 → a ≠ b → (TX7 a).2.1 ≠ (TX7 b).2.1 := by decide +kernel
theorem tyX7_ok : ∀ k, k < 4 → parseFieldDescriptor (TX7 k).2.2.1 = some (tyX7 k) := by decide +kernel
def RX8 : String := "Treebark$Weight"
def TX8 : u_T := fun k => match k with
  | 0 => ("Treebark$Weight", "refers", "I", false)
  | _ => ("Treebark$Weight", "own", "I", false)
def tyX8 : Nat → FieldType := fun k => match k with
  | 0 => .int
  | _ => .int
theorem nmX8 : ∀ a, a < 2 → ∀ b, b < 2 → a ≠ b → (TX8 a).2.1 ≠ (TX8 b).2.1 := by decide +kernel
theorem tyX8_ok : ∀ k, k < 2 → parseFieldDescriptor (TX8 k).2.2.1 = some (tyX8 k) := by decide +kernel
def RX9 : String := "Treebark"
def TX9 : u_T := fun k => match k with
  | 0 => ("Treebark", "disks", "LTreebark$Disks;", true)
  | 1 => ("Treebark", "trees", "[LTreebark$Tree;", true)
  | 2 => ("Treebark", "committed", "[LTreebark$Tree;", true)
  | 3 => ("Treebark", "logged", "[LTreebark$Logged;", true)
  | 4 => ("Treebark", "manyLogged", "I", false)
  | 5 => ("Treebark", "sent", "LTreebark$Stream;", false)
  | 6 => ("Treebark", "spare", "LTreebark$Stream;", false)
  | 7 => ("Treebark", "filesMade", "I", false)
  | 8 => ("Treebark", "copies", "I", false)
  | 9 => ("Treebark", "next", "LTreebark$Places;", true)
  | 10 => ("Treebark", "row", "[I", true)
  | 11 => ("Treebark", "ahead", "LTreebark$Weight;", true)
  | _ => ("Treebark", "behind", "LTreebark$Weight;", true)
def tyX9 : Nat → FieldType := fun k => match k with
  | 0 => .object "Treebark$Disks"
  | 1 => .array (.object "Treebark$Tree")
  | 2 => .array (.object "Treebark$Tree")
  | 3 => .array (.object "Treebark$Logged")
  | 4 => .int
  | 5 => .object "Treebark$Stream"
  | 6 => .object "Treebark$Stream"
  | 7 => .int
  | 8 => .int
  | 9 => .object "Treebark$Places"
  | 10 => .array .int
  | 11 => .object "Treebark$Weight"
  | _ => .object "Treebark$Weight"
theorem nmX9 : ∀ a, a < 13 → ∀ b, b < 13 → a ≠ b → (TX9 a).2.1 ≠ (TX9 b).2.1 := by decide +kernel
theorem tyX9_ok : ∀ k, k < 13 → parseFieldDescriptor (TX9 k).2.2.1 = some (tyX9 k) := by decide +kernel
def RX10 : String := "TreebarkModel"
def TX10 : u_T := fun k => match k with
  | 0 => ("TreebarkModel", "xc", "[I", true)
  | 1 => ("TreebarkModel", "xn", "[I", true)
  | 2 => ("TreebarkModel", "xd", "[I", true)
  | 3 => ("TreebarkModel", "xb", "[I", true)
  | 4 => ("TreebarkModel", "xm", "[I", true)
  | 5 => ("TreebarkModel", "made", "I", false)
  | 6 => ("TreebarkModel", "nf", "[I", true)
  | 7 => ("TreebarkModel", "np", "[I", true)
  | 8 => ("TreebarkModel", "files", "I", false)
  | 9 => ("TreebarkModel", "rn", "[I", true)
  | 10 => ("TreebarkModel", "tr", "[I", true)
  | 11 => ("TreebarkModel", "ts", "[I", true)
  | 12 => ("TreebarkModel", "ta", "[I", true)
  | 13 => ("TreebarkModel", "tb", "[I", true)
  | 14 => ("TreebarkModel", "lt", "[I", true)
  | 15 => ("TreebarkModel", "lf", "[I", true)
  | 16 => ("TreebarkModel", "ln", "[I", true)
  | 17 => ("TreebarkModel", "lp", "[I", true)
  | 18 => ("TreebarkModel", "logged", "I", false)
  | 19 => ("TreebarkModel", "isSent", "Z", false)
  | 20 => ("TreebarkModel", "sn", "[I", true)
  | 21 => ("TreebarkModel", "sl", "[I", true)
  | 22 => ("TreebarkModel", "sp", "[I", true)
  | 23 => ("TreebarkModel", "sent", "I", false)
  | 24 => ("TreebarkModel", "profile", "I", false)
  | 25 => ("TreebarkModel", "copies", "I", false)
  | 26 => ("TreebarkModel", "mends", "I", false)
  | 27 => ("TreebarkModel", "used", "[I", true)
  | 28 => ("TreebarkModel", "mark", "[I", true)
  | 29 => ("TreebarkModel", "line", "[I", true)
  | 30 => ("TreebarkModel", "thrown", "I", false)
  | 31 => ("TreebarkModel", "plan", "[I", true)
  | 32 => ("TreebarkModel", "others", "[I", true)
  | 33 => ("TreebarkModel", "values", "[I", true)
  | 34 => ("TreebarkModel", "fresh", "[I", true)
  | _ => ("TreebarkModel", "target", "[I", true)
def tyX10 : Nat → FieldType := fun k => match k with
  | 0 => .array .int
  | 1 => .array .int
  | 2 => .array .int
  | 3 => .array .int
  | 4 => .array .int
  | 5 => .int
  | 6 => .array .int
  | 7 => .array .int
  | 8 => .int
  | 9 => .array .int
  | 10 => .array .int
  | 11 => .array .int
  | 12 => .array .int
  | 13 => .array .int
  | 14 => .array .int
  | 15 => .array .int
  | 16 => .array .int
  | 17 => .array .int
  | 18 => .int
  | 19 => .boolean
  | 20 => .array .int
  | 21 => .array .int
  | 22 => .array .int
  | 23 => .int
  | 24 => .int
  | 25 => .int
  | 26 => .int
  | 27 => .array .int
  | 28 => .array .int
  | 29 => .array .int
  | 30 => .int
  | 31 => .array .int
  | 32 => .array .int
  | 33 => .array .int
  | 34 => .array .int
  | _ => .array .int
theorem nmX10 : ∀ a, a < 36 → ∀ b, b < 36 → a ≠ b → (TX10 a).2.1 ≠ (TX10 b).2.1 := by decide +kernel
theorem tyX10_ok : ∀ k, k < 36 → parseFieldDescriptor (TX10 k).2.2.1 = some (tyX10 k) := by decide +kernel
abbrev vwCl : List vw_C := [(RX0, TX0, 6), (RX1, TX1, 7), (RX2, TX2, 4), (RX3, TX3, 3), (RX4, TX4, 2), (RX5, TX5, 2), (RX6, TX6, 5), (RX7, TX7, 4), (RX8, TX8, 2), (RX9, TX9, 13), (RX10, TX10, 36)]
end
section
/-! THE EVALUATOR: the bytecode over an abstract heap; ints are linear forms over the script's ints -/
abbrev qT : Type := List (Nat × Nat)
abbrev qI : Type := Nat × qT
abbrev qV : Type := qI ⊕ (Option Nat ⊕ Nat)
abbrev qA : Type := Nat × (List qI ⊕ (List Nat ⊕ List (Option Nat)))
abbrev qC : Type := qA ⊕ (Nat × List qV)
abbrev qHp : Type := Bool × List qC
abbrev qRow : Type := Nat × Nat × Nat × Nat × Nat × Instr × Nat
abbrev qHd : Type := Nat × Nat × Nat × Nat
abbrev qM : Type := Nat × List qRow × List qHd
abbrev qRes : Type := (Option qV × qHp × Nat × Nat) ⊕ ((Nat × qHp × Nat × Nat) ⊕ Option (qT × Nat))
abbrev qEnv : Type := List (qT × Nat × Nat)
abbrev qL : Type := List (Option qV)
abbrev qKk : Type := List qRow → qL → List qV → qHp → qRes
abbrev qIh : Type := Nat → List qRow → List qHd → qKk
abbrev qOp : Type := List qM → qEnv → qIh → qKk → Nat → List qRow → List qHd → Nat → Nat → Nat → Nat → qKk
noncomputable def q_no : qRes := .inr (.inr none)
noncomputable def q_sp (t : qT) (u : Nat) : qRes := .inr (.inr (some (t, u)))
noncomputable def q_nth {α : Type} (l : List α) : Nat → Option α := List.rec (motive := fun _ => Nat → Option α) (fun _ => none) (fun x _ ih n => Nat.rec (motive := fun _ => Option α) (some x) (fun m _ => ih m) n) l
noncomputable def q_drop {α : Type} (l : List α) : Nat → List α := List.rec (motive := fun _ => Nat → List α) (fun _ => []) (fun x t ih n => Nat.rec (motive := fun _ => List α) (x :: t) (fun m _ => ih m) n) l
noncomputable def q_set {α : Type} (l : List α) : Nat → α → List α := List.rec (motive := fun _ => Nat → α → List α) (fun _ _ => []) (fun x t ih n v => Nat.rec (motive := fun _ => List α) (v :: t) (fun m _ => x :: ih m v) n) l
/-- a number, worked out before it is handed on -/
noncomputable def q_fz {α : Type} (x : Nat) (f : Nat → α) : α := Nat.rec (motive := fun _ => α) (f 0) (fun n _ => f (Nat.succ n)) x
/-- is there a place n -/
noncomputable def q_has {α : Type} (l : List α) (n : Nat) : Bool := match q_nth l n with
  | some _ => true
  | none => false
noncomputable def q_ln {α : Type} (l : List α) : Nat := List.rec (motive := fun _ => Nat → Nat) (fun a => a) (fun _ _ ih a => q_fz (Nat.succ a) ih) l 0
noncomputable def q_teq : qT → qT → Bool
  | [], [] => true
  | [], _ :: _ => false
  | _ :: _, [] => false
  | x :: a, y :: b => Nat.beq x.1 y.1 && (Nat.beq x.2 y.2 && q_teq a b)
noncomputable def q_neg (t : qT) : qT := t.map (fun x => (x.1, (4294967296 - x.2 % 4294967296) % 4294967296))
noncomputable def q_scale (k : Nat) (t : qT) : qT := t.map (fun x => (x.1, x.2 * k % 4294967296))
noncomputable def q_find (t : qT) (E : qEnv) : Option (Nat × Nat) := List.rec (motive := fun _ => Option (Nat × Nat)) none (fun x _ ih => match q_teq t x.1 with
  | true => some x.2
  | false => ih) E
noncomputable def q_er (t : qT) (E : qEnv) : qEnv := List.rec (motive := fun _ => qEnv) [] (fun x _ ih => match q_teq t x.1 with
  | true => ih
  | false => x :: ih) E
noncomputable def q_base (E : qEnv) (t : qT) : Nat × Nat := match q_find t E with
  | some r => r
  | none => match q_find (q_neg t) E with
    | some r => match Nat.ble 1 r.1 with
      | true => (4294967296 - r.2, 4294967296 - r.1)
      | false => (0, 4294967295)
    | none => (0, 4294967295)
noncomputable def q_sh (r : Nat × Nat) (c : Nat) : Nat × Nat := match Nat.beq ((r.1 + c) / 4294967296) ((r.2 + c) / 4294967296) with
  | true => ((r.1 + c) % 4294967296, (r.2 + c) % 4294967296)
  | false => (0, 4294967295)
/-- an int's interval, biased by 2 ^ 31 -/
noncomputable def q_iv (E : qEnv) (x : qI) : Nat × Nat := match x.2 with
  | [] => ((x.1 + 2147483648) % 4294967296, (x.1 + 2147483648) % 4294967296)
  | _ :: _ => q_sh (q_base E x.2) x.1
noncomputable def q_ask (E : qEnv) (x : qI) (u : Nat) : qRes := match x.2 with
  | [] => q_no
  | _ :: _ => match q_find x.2 E with
    | some _ => q_sp x.2 ((u + (4294967296 - x.1 % 4294967296)) % 4294967296)
    | none => match q_find (q_neg x.2) E with
      | some _ => q_sp (q_neg x.2) ((4294967296 - (u + (4294967296 - x.1 % 4294967296)) % 4294967296 + 1) % 4294967296)
      | none => q_sp x.2 ((u + (4294967296 - x.1 % 4294967296)) % 4294967296)
noncomputable def q_lt (p q : Nat × Nat) : Option Bool := match Nat.blt p.2 q.1 with
  | true => some true
  | false => match Nat.ble q.2 p.1 with
    | true => some false
    | false => none
noncomputable def q_eq (p q : Nat × Nat) : Option Bool := match Nat.beq p.1 p.2 && (Nat.beq q.1 q.2 && Nat.beq p.1 q.1) with
  | true => some true
  | false => match Nat.blt p.2 q.1 || Nat.blt q.2 p.1 with
    | true => some false
    | false => none
noncomputable def q_not : Option Bool → Option Bool
  | some true => some false
  | some false => some true
  | none => none
/-- 0 eq, 1 ne, 2 lt, 3 ge, 4 gt, 5 le -/
noncomputable def q_cc (cc : Nat) (p q : Nat × Nat) : Option Bool := match cc with
  | 0 => q_eq p q
  | 1 => q_not (q_eq p q)
  | 2 => q_lt p q
  | 3 => q_not (q_lt p q)
  | 4 => q_lt q p
  | 5 => q_not (q_lt q p)
  | _ => none
/-- which cut settles x < y -/
noncomputable def q_askl (E : qEnv) (x y : qI) : qRes := match Nat.beq (q_iv E y).1 (q_iv E y).2 with
  | true => q_ask E x (q_iv E y).1
  | false => match Nat.beq (q_iv E x).1 (q_iv E x).2 with
    | true => q_ask E y ((q_iv E x).1 + 1)
    | false => q_no
/-- which cut settles x = y -/
noncomputable def q_aske (E : qEnv) (x y : qI) : qRes := match Nat.beq (q_iv E y).1 (q_iv E y).2 with
  | true => match Nat.blt (q_iv E x).1 (q_iv E y).1 with
    | true => q_ask E x (q_iv E y).1
    | false => q_ask E x ((q_iv E y).1 + 1)
  | false => match Nat.beq (q_iv E x).1 (q_iv E x).2 with
    | true => match Nat.blt (q_iv E y).1 (q_iv E x).1 with
      | true => q_ask E y (q_iv E x).1
      | false => q_ask E y ((q_iv E x).1 + 1)
    | false => q_no
noncomputable def q_askc (E : qEnv) (cc : Nat) (x y : qI) : qRes := match cc with
  | 0 => q_aske E x y
  | 1 => q_aske E x y
  | 2 => q_askl E x y
  | 3 => q_askl E x y
  | _ => q_askl E y x
noncomputable def q_nar (E : qEnv) (x : qI) : Bool := match x.2 with
  | [] => false
  | _ :: _ => Nat.ble ((q_iv E x).2 - (q_iv E x).1) 16
noncomputable def q_add1 (dc ds : Nat) : qRes → qRes
  | .inl (v, h, mc, ms) => .inl (v, h, dc + mc, ds + ms)
  | .inr (.inl (X, h, mc, ms)) => .inr (.inl (X, h, dc + mc, ds + ms))
  | .inr (.inr x) => .inr (.inr x)
noncomputable def q_add (dc ds : Nat) (r : qRes) : qRes := match dc with
  | 0 => match ds with
    | 0 => r
    | _ + 1 => q_add1 dc ds r
  | _ + 1 => q_add1 dc ds r
noncomputable def q_lng : qV → Bool
  | .inl _ => false
  | .inr (.inl _) => false
  | .inr (.inr _) => true
noncomputable def q_cat : List qV → Nat
  | [] => 0
  | v :: S => (match q_lng v with | true => 2 | false => 1) + q_cat S
noncomputable def q_sv (E : qEnv) (i : Nat) : qI := match q_find [(i, 1)] E with
  | some r => match Nat.beq r.1 r.2 with
    | true => ((r.1 + 2147483648) % 4294967296, [])
    | false => (0, [(i, 1)])
  | none => (0, [(i, 1)])
noncomputable def q_svk {α : Type} (E : qEnv) (i : Nat) (f : qI → α) : α := match q_find [(i, 1)] E with
  | some r => match Nat.beq r.1 r.2 with
    | true => q_fz ((r.1 + 2147483648) % 4294967296) fun c => f (c, [])
    | false => f (0, [(i, 1)])
  | none => f (0, [(i, 1)])
noncomputable def q_ix (E : qEnv) (x : qI) : Option (Nat × Nat) := match Nat.ble 2147483648 (q_iv E x).1 with
  | true => some ((q_iv E x).1 - 2147483648, (q_iv E x).2 - 2147483648)
  | false => none
noncomputable def q_all {α : Type} (p : α → Bool) (n : Nat) (l : List α) : Bool := List.rec (motive := fun _ => Nat → Bool) (fun n => Nat.rec (motive := fun _ => Bool) true (fun _ _ => false) n) (fun x _ ih n => Nat.rec (motive := fun _ => Bool) true (fun m _ => p x && ih m) n) l n
noncomputable def q_ieq (x y : qI) : Bool := Nat.beq x.1 y.1 && q_teq x.2 y.2
noncomputable def q_oeq : Option Nat → Option Nat → Bool
  | none, none => true
  | some i, some j => Nat.beq i j
  | none, some _ => false
  | some _, none => false
/-- the one element at all places l to u; none none: not all alike -/
noncomputable def q_rd {α : Type} (eq : α → α → Bool) (xs : List α) (l u : Nat) : Option (Option α) := match q_drop xs l with
  | [] => none
  | v :: r => match Nat.beq l u with
    | true => some (some v)
    | false => match q_nth xs u with
      | none => none
      | some _ => match q_all (eq v) (u - l) r with
        | true => some (some v)
        | false => some none
-- ===== the ops =====
noncomputable def qo_const : qOp := fun _ _ _ kk _ _ _ _ a _ _ K L S h => kk K L (.inl (a, []) :: S) h
noncomputable def qo_iload : qOp := fun _ _ _ kk _ _ _ _ a _ _ K L S h => match q_nth L a with
  | some (some (.inl x)) => kk K L (.inl x :: S) h
  | _ => q_no
noncomputable def qo_aload : qOp := fun _ _ _ kk _ _ _ _ a _ _ K L S h => match q_nth L a with
  | some (some (.inr (.inl r))) => kk K L (.inr (.inl r) :: S) h
  | _ => q_no
noncomputable def qo_istore : qOp := fun _ _ _ kk _ _ _ _ a _ _ K L S h => match S with
  | .inl x :: S' => kk K (q_set L a (some (.inl x))) S' h
  | _ => q_no
noncomputable def qo_astore : qOp := fun _ _ _ kk _ _ _ _ a _ _ K L S h => match S with
  | .inr (.inl r) :: S' => kk K (q_set L a (some (.inr (.inl r)))) S' h
  | _ => q_no
noncomputable def qo_iinc : qOp := fun _ _ _ kk _ _ _ _ a b _ K L S h => match q_nth L a with
  | some (some (.inl x)) => q_fz ((x.1 + b) % 4294967296) fun z => kk K (q_set L a (some (.inl (z, x.2)))) S h
  | _ => q_no
noncomputable def q_isc : qT → Bool
  | [] => true
  | _ :: _ => false
noncomputable def qo_add : qOp := fun _ E _ kk _ _ _ _ _ _ _ K L S h => match S with
  | .inl y :: .inl x :: S' => match q_isc x.2 || q_isc y.2 with
    | true => q_fz ((x.1 + y.1) % 4294967296) fun z => kk K L (.inl (z, x.2 ++ y.2) :: S') h
    | false => match q_nar E y with
      | true => q_ask E y ((q_iv E y).1 + 1)
      | false => match q_nar E x with
        | true => q_ask E x ((q_iv E x).1 + 1)
        | false => kk K L (.inl ((x.1 + y.1) % 4294967296, x.2 ++ y.2) :: S') h
  | _ => q_no
noncomputable def qo_sub : qOp := fun _ _ _ kk _ _ _ _ _ _ _ K L S h => match S with
  | .inl y :: .inl x :: S' => q_fz ((x.1 + (4294967296 - y.1 % 4294967296)) % 4294967296) fun z => kk K L (.inl (z, x.2 ++ q_neg y.2) :: S') h
  | _ => q_no
noncomputable def qo_mul : qOp := fun _ E _ kk _ _ _ _ _ _ _ K L S h => match S with
  | .inl y :: .inl x :: S' => match q_isc y.2 with
    | true => kk K L (.inl (x.1 * y.1 % 4294967296, q_scale y.1 x.2) :: S') h
    | false => match q_isc x.2 with
      | true => kk K L (.inl (x.1 * y.1 % 4294967296, q_scale x.1 y.2) :: S') h
      | false => match q_nar E y with
        | true => q_ask E y ((q_iv E y).1 + 1)
        | false => match q_nar E x with
          | true => q_ask E x ((q_iv E x).1 + 1)
          | false => q_no
  | _ => q_no
noncomputable def qo_and : qOp := fun _ _ _ kk _ _ _ _ _ _ _ K L S h => match S with
  | .inl y :: .inl x :: S' => match q_isc x.2 && q_isc y.2 with
    | true => kk K L (.inl (Nat.land x.1 y.1, []) :: S') h
    | false => match q_ieq x (0, [(1, 1)]) && q_ieq y (31, []) with
      | true => kk K L (.inl (0, [(9, 1)]) :: S') h
      | false => q_no
  | _ => q_no
noncomputable def q_bin (f : Nat → Nat → Nat) : qOp := fun _ _ _ kk _ _ _ _ _ _ _ K L S h => match S with
  | .inl y :: .inl x :: S' => match q_isc x.2 && q_isc y.2 with
    | true => kk K L (.inl (f x.1 y.1, []) :: S') h
    | false => q_no
  | _ => q_no
noncomputable def qo_or : qOp := q_bin Nat.lor
noncomputable def qo_xor : qOp := q_bin Nat.xor
noncomputable def qo_shl : qOp := q_bin (fun x y => Nat.shiftLeft x (y % 32) % 4294967296)
noncomputable def qo_rem : qOp := fun _ _ _ kk _ _ _ _ _ _ _ K L S h => match S with
  | .inl y :: .inl x :: S' => match q_isc x.2 && (q_isc y.2 && (Nat.blt x.1 2147483648 && (Nat.blt y.1 2147483648 && Nat.blt 0 y.1))) with
    | true => kk K L (.inl (x.1 % y.1, []) :: S') h
    | false => q_no
  | _ => q_no
noncomputable def qo_null : qOp := fun _ _ _ kk _ _ _ _ _ _ _ K L S h => kk K L (.inr (.inl none) :: S) h
noncomputable def qo_dup : qOp := fun _ _ _ kk _ _ _ _ _ _ _ K L S h => match S with
  | [] => q_no
  | v :: S' => match q_lng v with
    | true => q_no
    | false => kk K L (v :: v :: S') h
noncomputable def qo_pop : qOp := fun _ _ _ kk _ _ _ _ _ _ _ K L S h => match S with
  | [] => q_no
  | v :: S' => match q_lng v with
    | true => q_no
    | false => kk K L S' h
noncomputable def q_br (E : qEnv) (kk : qKk) (R : List qRow) (cc t : Nat) (x y : qI) (K : List qRow) (L : qL) (S : List qV) (h : qHp) : qRes := match q_cc cc (q_iv E x) (q_iv E y) with
  | some true => kk (q_drop R t) L S h
  | some false => kk K L S h
  | none => q_askc E cc x y
noncomputable def qo_if : qOp := fun _ E _ kk _ R _ _ a b _ K L S h => match S with
  | .inl x :: S' => q_br E kk R a b x (0, []) K L S' h
  | _ => q_no
noncomputable def qo_icmp : qOp := fun _ E _ kk _ R _ _ a b _ K L S h => match S with
  | .inl y :: .inl x :: S' => q_br E kk R a b x y K L S' h
  | _ => q_no
noncomputable def qo_ifnull : qOp := fun _ _ _ kk _ R _ _ a _ _ K L S h => match S with
  | .inr (.inl none) :: S' => kk (q_drop R a) L S' h
  | .inr (.inl (some _)) :: S' => kk K L S' h
  | _ => q_no
noncomputable def qo_ifnonnull : qOp := fun _ _ _ kk _ R _ _ a _ _ K L S h => match S with
  | .inr (.inl none) :: S' => kk K L S' h
  | .inr (.inl (some _)) :: S' => kk (q_drop R a) L S' h
  | _ => q_no
noncomputable def qo_acmpeq : qOp := fun _ _ _ kk _ R _ _ a _ _ K L S h => match S with
  | .inr (.inl y) :: .inr (.inl x) :: S' => match q_oeq x y with
    | true => kk (q_drop R a) L S' h
    | false => kk K L S' h
  | _ => q_no
noncomputable def qo_acmpne : qOp := fun _ _ _ kk _ R _ _ a _ _ K L S h => match S with
  | .inr (.inl y) :: .inr (.inl x) :: S' => match q_oeq x y with
    | true => kk K L S' h
    | false => kk (q_drop R a) L S' h
  | _ => q_no
noncomputable def qo_goto : qOp := fun _ _ _ kk _ R _ _ a _ _ _ L S h => kk (q_drop R a) L S h
noncomputable def qo_getf : qOp := fun _ _ _ kk _ _ _ _ a b _ K L S h => match S with
  | .inr (.inl (some (r + 1))) :: S' => match q_nth h.2 r with
    | some (.inr o) => match Nat.beq o.1 a with
      | true => match q_nth o.2 b with
        | some v => kk K L (v :: S') h
        | none => q_no
      | false => q_no
    | _ => q_no
  | _ => q_no
/-- a value fits a field: 0 int, 1 boolean, 2 a reference -/
noncomputable def q_fit (tc : Nat) (v : qV) : Bool := match v with
  | .inl x => match tc with
    | 0 => true
    | 1 => q_isc x.2 && Nat.blt x.1 2
    | _ => false
  | .inr (.inl _) => Nat.beq tc 2
  | .inr (.inr _) => false
noncomputable def qo_putf : qOp := fun _ _ _ kk _ _ _ _ a b c K L S h => match S with
  | v :: .inr (.inl (some (r + 1))) :: S' => match q_nth h.2 r with
    | some (.inr o) => match Nat.beq o.1 a && (q_fit (c % 4) v && q_has o.2 b) with
      | true => kk K L S' (h.1, q_set h.2 r (.inr (o.1, q_set o.2 b v)))
      | false => q_no
    | _ => q_no
  | _ => q_no
noncomputable def q_len : List qI ⊕ (List Nat ⊕ List (Option Nat)) → Nat
  | .inl l => l.length
  | .inr (.inl l) => l.length
  | .inr (.inr l) => l.length
noncomputable def q_lenf : List qI ⊕ (List Nat ⊕ List (Option Nat)) → Nat
  | .inl l => q_ln l
  | .inr (.inl l) => q_ln l
  | .inr (.inr l) => q_ln l
noncomputable def qo_alen : qOp := fun _ E _ kk _ _ _ _ _ _ _ K L S h => match S with
  | .inr (.inl (some 0)) :: S' => q_svk E 0 fun z => kk K L (.inl z :: S') h
  | .inr (.inl (some (r + 1))) :: S' => match q_nth h.2 r with
    | some (.inl o) => match Nat.blt (q_lenf o.2) 2147483648 && Nat.blt o.1 7 with
      | true => q_fz (q_lenf o.2) fun z => kk K L (.inl (z, []) :: S') h
      | false => q_no
    | _ => q_no
  | _ => q_no
noncomputable def qo_iald : qOp := fun _ E _ kk _ _ _ _ _ _ _ K L S h => match S with
  | .inl x :: .inr (.inl (some 0)) :: S' => match q_ix E x with
    | some p => match Nat.beq p.1 p.2 && (Nat.blt p.1 8 && Nat.blt (p.1 + 2147483648) (q_iv E (0, [(0, 1)])).1) with
      | true => q_fz p.1 fun i => q_svk E (i + 1) fun z => kk K L (.inl z :: S') h
      | false => q_no
    | none => q_no
  | .inl x :: .inr (.inl (some (r + 1))) :: S' => match q_nth h.2 r with
    | some (.inl (0, .inl l)) => match q_ix E x with
      | some p => match q_rd q_ieq l p.1 p.2 with
        | some (some v) => kk K L (.inl v :: S') h
        | some none => q_ask E x ((q_iv E x).1 + 1)
        | none => q_no
      | none => q_no
    | _ => q_no
  | _ => q_no
noncomputable def qo_iast : qOp := fun _ E _ kk _ _ _ _ _ _ _ K L S h => match S with
  | .inl v :: .inl x :: .inr (.inl (some (r + 1))) :: S' => match q_nth h.2 r with
    | some (.inl (0, .inl l)) => match q_ix E x with
      | some p => match Nat.beq p.1 p.2 with
        | true => match q_has l p.1 with
          | true => q_fz p.1 fun i => kk K L S' (h.1, q_set h.2 r (.inl (0, .inl (q_set l i v))))
          | false => q_no
        | false => q_ask E x ((q_iv E x).1 + 1)
      | none => q_no
    | _ => q_no
  | _ => q_no
noncomputable def qo_lald : qOp := fun _ E _ kk _ _ _ _ _ _ _ K L S h => match S with
  | .inl x :: .inr (.inl (some (r + 1))) :: S' => match q_nth h.2 r with
    | some (.inl (1, .inr (.inl l))) => match q_ix E x with
      | some p => match Nat.beq p.1 p.2 with
        | true => match q_nth l p.1 with
          | some v => kk K L (.inr (.inr v) :: S') h
          | none => q_no
        | false => q_no
      | none => q_no
    | _ => q_no
  | _ => q_no
noncomputable def qo_last : qOp := fun _ E _ kk _ _ _ _ _ _ _ K L S h => match S with
  | .inr (.inr v) :: .inl x :: .inr (.inl (some (r + 1))) :: S' => match q_nth h.2 r with
    | some (.inl (1, .inr (.inl l))) => match q_ix E x with
      | some p => match Nat.beq p.1 p.2 && q_has l p.1 with
        | true => q_fz p.1 fun i => kk K L S' (h.1, q_set h.2 r (.inl (1, .inr (.inl (q_set l i v)))))
        | false => q_no
      | none => q_no
    | _ => q_no
  | _ => q_no
noncomputable def qo_aald : qOp := fun _ E _ kk _ _ _ _ _ _ _ K L S h => match S with
  | .inl x :: .inr (.inl (some (r + 1))) :: S' => match q_nth h.2 r with
    | some (.inl (t, .inr (.inr l))) => match q_ix E x with
      | some p => match Nat.blt 1 t && Nat.blt t 6 with
        | true => match q_rd q_oeq l p.1 p.2 with
          | some (some v) => kk K L (.inr (.inl v) :: S') h
          | some none => q_ask E x ((q_iv E x).1 + 1)
          | none => q_no
        | false => q_no
      | none => q_no
    | _ => q_no
  | _ => q_no
/-- the class of the elements of the reference arrays, by their type's place -/
noncomputable def q_elem (t : Nat) : Nat := match t with
  | 2 => 1
  | 3 => 7
  | 4 => 2
  | 5 => 3
  | _ => 99
noncomputable def q_isE (h : List qC) (t : Nat) (v : Option Nat) : Bool := match v with
  | some (r + 1) => match q_nth h r with
    | some (.inr o) => Nat.beq o.1 (q_elem t)
    | _ => false
  | some 0 => false
  | none => Nat.blt 1 t && Nat.blt t 6
noncomputable def qo_aast : qOp := fun _ E _ kk _ _ _ _ _ _ _ K L S h => match S with
  | .inr (.inl v) :: .inl x :: .inr (.inl (some (r + 1))) :: S' => match q_nth h.2 r with
    | some (.inl (t, .inr (.inr l))) => match q_ix E x with
      | some p => match q_isE h.2 t v && q_has l p.1 with
        | true => match Nat.beq p.1 p.2 with
          | true => q_fz p.1 fun i => kk K L S' (h.1, q_set h.2 r (.inl (t, .inr (.inr (q_set l i v)))))
          | false => q_ask E x ((q_iv E x).1 + 1)
        | false => q_no
      | none => q_no
    | _ => q_no
  | _ => q_no
noncomputable def qo_newa : qOp := fun _ _ _ kk _ _ _ _ a _ _ K L S h => match S with
  | .inl n :: S' => match q_isc n.2 && (h.1 && Nat.blt n.1 65536) with
    | true => match a with
      | 0 => q_add 1 n.1 (kk K L (.inr (.inl (some (h.2.length + 1))) :: S') (true, h.2 ++ [.inl (0, .inl (List.replicate n.1 (0, [])))]))
      | 1 => q_add 1 n.1 (kk K L (.inr (.inl (some (h.2.length + 1))) :: S') (true, h.2 ++ [.inl (1, .inr (.inl (List.replicate n.1 0)))]))
      | _ => q_no
    | false => q_no
  | _ => q_no
noncomputable def qo_anew : qOp := fun _ _ _ kk _ _ _ _ a _ _ K L S h => match S with
  | .inl n :: S' => match q_isc n.2 && (h.1 && Nat.blt n.1 65536) with
    | true => q_add 1 n.1 (kk K L (.inr (.inl (some (h.2.length + 1))) :: S') (true, h.2 ++ [.inl (a, .inr (.inr (List.replicate n.1 none)))]))
    | false => q_no
  | _ => q_no
noncomputable def qo_multi : qOp := fun _ _ _ kk _ _ _ _ _ _ _ K L S h => match S with
  | .inl k :: .inl n :: S' => match q_isc n.2 && (q_isc k.2 && (h.1 && (Nat.blt n.1 65536 && Nat.blt k.1 65536))) with
    | true => q_add (1 + n.1) (n.1 + n.1 * k.1) (kk K L (.inr (.inl (some (h.2.length + 1))) :: S') (true, (h.2 ++ [.inl (6, .inr (.inr ((List.range n.1).map (fun i => some (h.2.length + 2 + i)))))]) ++ List.replicate n.1 (.inl (0, .inl (List.replicate k.1 (0, []))))))
    | false => q_no
  | _ => q_no
/-- the default values of an object's fields, by type codes 0 int, 1 boolean, 2 a reference -/
noncomputable def q_dv (tc : Nat) : qV := match tc with
  | 2 => .inr (.inl none)
  | _ => .inl (0, [])
noncomputable def q_fty : List (List Nat) := [[2, 2, 0, 0, 0, 0], [2, 0, 0, 0, 0, 0, 0], [0, 0, 0, 2], [0, 2, 0], [2, 2], [2, 0], [2, 2, 2, 0, 1], [2, 1, 0, 0], [0, 0], [2, 2, 2, 2, 0, 2, 2, 0, 0, 2, 2, 2, 2], [2, 2, 2, 2, 2, 0, 2, 2, 0, 2, 2, 2, 2, 2, 2, 2, 2, 2, 0, 1, 2, 2, 2, 0, 0, 0, 0, 2, 2, 2, 0, 2, 2, 2, 2, 2]]
noncomputable def qo_new : qOp := fun _ _ _ kk _ _ _ _ a _ _ K L S h => match h.1 with
  | true => match q_nth q_fty a with
    | some l => q_add 1 l.length (kk K L (.inr (.inl (some (h.2.length + 1))) :: S) (true, h.2 ++ [.inr (a, l.map q_dv)]))
    | none => q_no
  | false => q_no
noncomputable def qo_objinit : qOp := fun _ _ _ kk d _ _ _ _ _ _ K L S h => match S with
  | .inr (.inl (some _)) :: S' => match Nat.ble (q_cat S') 8 && Nat.blt 0 d with
    | true => kk K L S' h
    | false => q_no
  | _ => q_no
noncomputable def q_pop : Nat → List qV → List qV → Option (List qV × List qV)
  | 0, S, acc => some (acc, S)
  | _ + 1, [], _ => none
  | n + 1, v :: S, acc => match q_lng v with
    | true => none
    | false => q_pop n S (v :: acc)
noncomputable def q_loc (nL : Nat) (args : List qV) : qL := args.map some ++ List.replicate (nL - args.length) none
noncomputable def q_hd : List qHd → Nat → Nat → Option Nat
  | [], _, _ => none
  | x :: l, pc, X => match Nat.ble x.1 pc && (Nat.blt pc x.2.1 && Nat.beq x.2.2.2 X) with
    | true => some x.2.2.1
    | false => q_hd l pc X
noncomputable def q_after (kk : qKk) (R : List qRow) (hs : List qHd) (pc : Nat) (K : List qRow) (L : qL) (S : List qV) (r : qRes) : qRes := match r with
  | .inl (some v, h', mc, ms) => q_add mc ms (kk K L (v :: S) h')
  | .inl (none, h', mc, ms) => q_add mc ms (kk K L S h')
  | .inr (.inl (X, h', mc, ms)) => match hs with
    | [] => .inr (.inl (X, h', mc, ms))
    | _ :: _ => match q_hd hs pc X with
      | none => q_no
      | some t => match q_drop R t with
        | (_, 50, a', _, _, _, _) :: K' => q_add mc ms (kk K' (q_set L a' none) [] h')
        | _ => q_no
  | .inr (.inr x) => .inr (.inr x)
noncomputable def qo_callr : qOp := fun P _ ih kk d R hs pc a b _ K L S h => match d with
  | 0 => q_no
  | d' + 1 => match q_nth P a with
    | none => q_no
    | some M => match q_pop (b % 32 + 1) S [] with
      | some (.inr (.inl (some (r + 1))) :: As, S') => match q_nth h.2 r with
        | some (.inr o) => match Nat.beq o.1 (b / 32) && (Nat.ble (q_cat S') 8 && Nat.blt As.length M.1) with
          | true => q_after kk R hs pc K L S' (ih d' M.2.1 M.2.2 M.2.1 (q_loc M.1 (.inr (.inl (some (r + 1))) :: As)) [] h)
          | false => q_no
        | _ => q_no
      | _ => q_no
noncomputable def qo_calls : qOp := fun P _ ih kk d R hs pc a b _ K L S h => match d with
  | 0 => q_no
  | d' + 1 => match q_nth P a with
    | none => q_no
    | some M => match q_pop b S [] with
      | some (As, S') => match Nat.ble (q_cat S') 8 && Nat.ble As.length M.1 with
        | true => q_after kk R hs pc K L S' (ih d' M.2.1 M.2.2 M.2.1 (q_loc M.1 As) [] h)
        | false => q_no
      | none => q_no
noncomputable def qo_iret : qOp := fun _ _ _ _ _ _ _ _ a _ _ _ _ S h => match S with
  | [.inl x] => match a with
    | 0 => .inl (some (.inl x), h, 0, 0)
    | 1 => match q_isc x.2 && Nat.blt x.1 2 with
      | true => .inl (some (.inl x), h, 0, 0)
      | false => q_no
    | _ => q_no
  | _ => q_no
noncomputable def qo_aret : qOp := fun _ _ _ _ _ _ _ _ _ _ _ _ _ S h => match S with
  | [.inr (.inl r)] => .inl (some (.inr (.inl r)), h, 0, 0)
  | _ => q_no
noncomputable def qo_vret : qOp := fun _ _ _ _ _ _ _ _ _ _ _ _ _ S h => match S with
  | [] => .inl (none, h, 0, 0)
  | _ => q_no
noncomputable def qo_throw : qOp := fun _ _ _ _ d _ hs _ a _ _ _ _ S h => match Nat.ble 6 d && Nat.ble (q_cat S) 8 with
  | true => match hs with
    | [] => .inr (.inl (a, (false, h.2), 1, 6))
    | _ :: _ => q_no
  | false => q_no
noncomputable def qo_switch (sw : List Nat) : qOp := fun _ E _ kk _ R _ _ _ b _ _ L S h => match S with
  | .inl x :: S' => match q_ix E x with
    | some p => match Nat.beq p.1 p.2 with
      | true => match q_nth sw p.1 with
        | some t => kk (q_drop R t) L S' h
        | none => kk (q_drop R b) L S' h
      | false => q_ask E x ((q_iv E x).1 + 1)
    | none => q_no
  | _ => q_no
noncomputable def qo_i2l : qOp := fun _ _ _ kk _ _ _ _ _ _ _ K L S h => match S with
  | .inl x :: S' => match q_isc x.2 with
    | true => kk K L (.inr (.inr x.1) :: S') h
    | false => q_no
  | _ => q_no
noncomputable def qo_lcmp : qOp := fun _ _ _ kk _ _ _ _ _ _ _ K L S h => match S with
  | .inr (.inr y) :: .inr (.inr x) :: S' => match Nat.beq x y with
    | true => kk K L (.inl (0, []) :: S') h
    | false => q_no
  | _ => q_no
noncomputable def qo_lconst : qOp := fun _ _ _ kk _ _ _ _ a _ _ K L S h => kk K L (.inr (.inr a) :: S) h
noncomputable def qo_bad : qOp := fun _ _ _ _ _ _ _ _ _ _ _ _ _ _ _ => q_no
end
section
/-! WHAT A ROW MUST BE: its bytes, the words of the tables that it needs -/
abbrev qInf : Type := MethodName × ByteArray × Option FieldType × List (Nat × Nat × Nat × Nat) × Nat × Nat × Nat × Nat
noncomputable def q_TBL : List Jvm.Cond := lw_tbl.filter goodWord
noncomputable def q_w (j : Nat) (w : Jvm.Cond) : Bool := decide (lw_tbl[j]? = some w) && goodWord w
noncomputable def q_ini : List Nat := [76, 77, 92, 89, 80, 82, 79, 78, 81, 75, 83, 87, 91, 88]
noncomputable def q_exc : List String := ["java/lang/IndexOutOfBoundsException", "java/lang/IllegalArgumentException", "java/lang/IllegalStateException"]
noncomputable def q_nests : List (String × Nat × MethodName) := [("Treebark", 39, ⟨"Treebark$Stream", "<init>", "()V"⟩), ("Treebark", 55, ⟨"Treebark$Places", "<init>", "()V"⟩), ("Treebark", 66, ⟨"Treebark$Weight", "<init>", "()V"⟩), ("Treebark", 76, ⟨"Treebark$Root", "<init>", "()V"⟩), ("Treebark$Disks", 34, ⟨"Treebark$Extent", "<init>", "()V"⟩), ("Treebark", 383, ⟨"Treebark$Tree", "<init>", "()V"⟩), ("Treebark$Node", 9, ⟨"Treebark$Places", "<init>", "()V"⟩)]
noncomputable def q_tys : List FieldType := [.int, .long, .object "Treebark$Extent", .object "Treebark$Tree", .object "Treebark$Logged", .object "Treebark$Node", .array .int]
noncomputable def q_tc (t : FieldType) : Nat := match t with
  | .int => 0
  | .boolean => 1
  | .object _ => 2
  | .array _ => 2
  | _ => 9
noncomputable def q_nx (pc len : Nat) (K : List qRow) : Bool := match K with
  | [] => true
  | x :: _ => Nat.beq x.1 (pc + len)
noncomputable def q_tg (R : List qRow) (t pc : Nat) (off : Int) : Bool := match q_drop R t with
  | [] => false
  | x :: _ => decide ((pc : Int) + off = (x.1 : Int))
noncomputable def q_ccI (c : ClassFile.Cond) : Nat := match c with
  | .eq => 0
  | .ne => 1
  | .lt => 2
  | .ge => 3
  | .gt => 4
  | .le => 5
noncomputable def q_np (y : MethodName) (n : Nat) : Bool := decide ((parseMethodDescriptor y.desc).map (fun d => d.parameters.length) = some n)
noncomputable def q_names : List String := ["java/lang/RuntimeException", "java/lang/Exception"]
noncomputable def q_decl : List MethodName := [⟨"java/lang/RuntimeException", "<init>", "()V"⟩, ⟨"java/lang/Exception", "<init>", "()V"⟩, ⟨"java/lang/Throwable", "<init>", "()V"⟩]
/-- the words of a throw, those of its own that aren't good apart -/
noncomputable def q_thr (own : String) (ic : Nat) (X : String) : Bool := ((vx_at0 own ic X q_names).filter goodWord).all (fun w => decide (w ∈ lw_tbl)) && ((vx_at0 own ic X q_names).filter (fun w => !goodWord w)).all (fun w => decide (w = .castable X X) || q_decl.any (fun y => decide (w = .declares y))) && (vx_at0 own ic X q_names).all vx_ot
noncomputable def q_opok (P : List qM) (I : List qInf) (sw : List Nat) (own nm : String) (cc : ByteArray) (nL : Nat) (ret : Option FieldType) (R : List qRow) (K : List qRow) (pc op a b c : Nat) (ins : Instr) (len : Nat) : Bool := match op with
  | 0 => q_nx pc len K && (match ins with
    | .iconst n => Nat.beq len 1 && decide (Int32.ofInt n = nI a)
    | .bipush n => Nat.beq len 2 && decide ((Int8.ofInt n).toInt32 = nI a)
    | .sipush n => Nat.beq len 3 && decide ((Int16.ofInt n).toInt32 = nI a)
    | _ => false)
  | 1 => q_nx pc len K && (match ins with
    | .iload_n k => Nat.beq len 1 && Nat.beq k.val a
    | .iload k => Nat.beq len 2 && Nat.beq k a
    | _ => false)
  | 2 => q_nx pc len K && (Nat.blt a nL && (match ins with
    | .istore_n k => Nat.beq len 1 && Nat.beq k.val a
    | .istore k => Nat.beq len 2 && Nat.beq k a
    | _ => false))
  | 3 => q_nx pc len K && (Nat.blt a nL && (match ins with
    | .iinc i n => Nat.beq len 3 && (Nat.beq i a && decide (Int32.ofInt n = nI b))
    | _ => false))
  | 4 => q_nx pc len K && (Nat.beq len 1 && decide (ins = .iadd))
  | 5 => q_nx pc len K && (Nat.beq len 1 && decide (ins = .isub))
  | 6 => q_nx pc len K && (Nat.beq len 1 && decide (ins = .imul))
  | 7 => q_nx pc len K && (Nat.beq len 1 && decide (ins = .iand))
  | 8 => q_nx pc len K && (Nat.beq len 1 && decide (ins = .ior))
  | 9 => q_nx pc len K && (Nat.beq len 1 && decide (ins = .ixor))
  | 10 => q_nx pc len K && (Nat.beq len 1 && decide (ins = .ishl))
  | 11 => q_nx pc len K && (Nat.beq len 1 && decide (ins = .aconst_null))
  | 12 => q_nx pc len K && (Nat.beq len 1 && decide (ins = .dup))
  | 13 => q_nx pc len K && (Nat.beq len 1 && decide (ins = .pop))
  | 14 => q_nx pc len K && (match ins with
    | .ifCond cd off => Nat.beq len 3 && (Nat.beq (q_ccI cd) a && q_tg R b pc off)
    | _ => false)
  | 15 => q_nx pc len K && (match ins with
    | .if_icmp cd off => Nat.beq len 3 && (Nat.beq (q_ccI cd) a && q_tg R b pc off)
    | _ => false)
  | 16 => q_nx pc len K && (match ins with
    | .ifnull off => Nat.beq len 3 && q_tg R a pc off
    | _ => false)
  | 17 => q_nx pc len K && (match ins with
    | .ifnonnull off => Nat.beq len 3 && q_tg R a pc off
    | _ => false)
  | 18 => q_nx pc len K && (match ins with
    | .if_acmp .eq off => Nat.beq len 3 && q_tg R a pc off
    | _ => false)
  | 19 => q_nx pc len K && (match ins with
    | .if_acmp .ne off => Nat.beq len 3 && q_tg R a pc off
    | _ => false)
  | 20 => match ins with
    | .goto off => Nat.beq len 3 && q_tg R a pc off
    | _ => false
  | 21 => q_nx pc len K && (match ins with
    | .getfield idx => Nat.beq len 3 && (match q_nth vwCl a with
      | some (C, T, N) => Nat.blt b N && q_w c (.fieldLink own idx (T b).1 (T b).2.1 (T b).2.2.1)
      | none => false)
    | _ => false)
  | 22 => q_nx pc len K && (match ins with
    | .putfield idx => Nat.beq len 3 && (match q_nth vwCl a with
      | some (C, T, N) => Nat.blt b N && (q_w (c / 4) (.fieldLink own idx (T b).1 (T b).2.1 (T b).2.2.1) && (match parseFieldDescriptor (T b).2.2.1 with
        | some ty => Nat.beq (q_tc ty) (c % 4) && (!(T b).2.2.2 || (decide ((T b).1 = own) && decide (nm = "<init>")))
        | none => false))
      | none => false)
    | _ => false)
  | 23 => q_nx pc len K && (Nat.beq len 1 && decide (ins = .arraylength))
  | 24 => q_nx pc len K && (Nat.beq len 1 && decide (ins = .iaload))
  | 25 => q_nx pc len K && (Nat.beq len 1 && decide (ins = .iastore))
  | 26 => q_nx pc len K && (Nat.beq len 1 && decide (ins = .laload))
  | 27 => q_nx pc len K && (Nat.beq len 1 && decide (ins = .lastore))
  | 28 => q_nx pc len K && (Nat.beq len 1 && decide (ins = .aaload))
  | 29 => q_nx pc len K && (Nat.beq len 1 && decide (ins = .aastore))
  | 30 => q_nx pc len K && (Nat.beq len 2 && (match a with
    | 0 => decide (ins = .newarray .int) && q_w b (.arrayClass .int)
    | 1 => decide (ins = .newarray .long) && q_w b (.arrayClass .long)
    | _ => false))
  | 31 => q_nx pc len K && (match ins with
    | .anewarray idx => Nat.beq len 3 && (Nat.blt 1 a && (Nat.blt a 6 && (match q_nth q_tys a with
      | some (.object C) => q_w b (.classLink own idx C)
      | _ => false)))
    | _ => false)
  | 32 => q_nx pc len K && (match ins with
    | .multianewarray idx dim => Nat.beq len 4 && (Nat.beq dim 2 && (q_w b (.classLink own idx "[[I") && q_w c (.arrayClass .int)))
    | _ => false)
  | 33 => q_nx pc len K && (match ins with
    | .new idx => Nat.beq len 3 && (match q_nth vwCl a with
      | some (C, T, N) => match q_nth q_fty a with
        | some fl => match q_nth q_ini a with
          | some ji => decide ((List.range N).map (fun k => (parseFieldDescriptor (T k).2.2.1).map q_tc) = fl.map some) && (q_w b (.classLink own idx C) && (q_w c (.instantiable C N) && q_w ji (.initialized C)))
          | none => false
        | none => false
      | none => false)
    | _ => false)
  | 34 => q_nx pc len K && (match ins with
    | .invokespecial idx => Nat.beq len 3 && (q_w c (.methodLink own idx objectInit) && (q_w a (.instanceMethod objectInit) && q_w b (.code objectInit ⟨#[0xb1]⟩ 1 none)))
    | _ => false)
  | 35 => q_nx pc len K && (match ins with
    | .invokevirtual idx => Nat.beq len 3 && (match q_nth I a with
      | some (y, cy, ry, hy, j1, j2, j3, j4) => hy.isEmpty && (match q_nth vwCl (b / 32) with
        | some (C, _, _) => decide (C = y.cls) && (q_np y (b % 32) && (q_w c (.methodLink own idx y) && (q_w j2 (.instanceMethod y) && (q_w j3 (.selects y.cls y y) && q_w j4 (.initialized y.cls)))))
        | none => false)
      | none => false)
    | _ => false)
  | 36 => q_nx pc len K && (match ins with
    | .invokestatic idx => Nat.beq len 3 && (match q_nth I a with
      | some (y, cy, ry, hy, j1, j2, j3, j4) => hy.isEmpty && (q_np y b && (q_w c (.methodLink own idx y) && (q_w j2 (.static y) && q_w j4 (.initialized y.cls))))
      | none => false)
    | _ => false)
  | 37 => q_nx pc len K && (match ins with
    | .invokespecial idx => Nat.beq len 3 && (match q_nth I a with
      | some (y, cy, ry, hy, j1, j2, j3, j4) => hy.isEmpty && (decide (y.name = "<init>") && (decide (ry = none) && (q_np y (b % 32) && (q_w c (.methodLink own idx y) && (q_w j2 (.instanceMethod y) && q_w j4 (.initialized y.cls))))))
      | none => false)
    | _ => false)
  | 38 => q_nx pc len K && (match ins with
    | .invokespecial idx => Nat.beq len 3 && (match q_nth I a with
      | some (y, cy, ry, hy, j1, j2, j3, j4) => hy.isEmpty && (decide (y.name = "<init>") && (decide (ry = none) && (q_np y (b % 32) && (decide (q_nth q_nests c = some (own, idx, y)) && (q_w j2 (.instanceMethod y) && q_w j4 (.initialized y.cls))))))
      | none => false)
    | _ => false)
  | 39 => q_nx pc len K && (match ins with
    | .invokestatic idx => Nat.beq len 3 && (match q_nth I a with
      | some (y, cy, ry, hy, j1, j2, j3, j4) => !hy.isEmpty && (q_np y b && (q_w c (.methodLink own idx y) && (q_w j2 (.static y) && q_w j4 (.initialized y.cls))))
      | none => false)
    | _ => false)
  | 40 => Nat.beq len 1 && (decide (ins = .ireturn) && (match a with
    | 0 => decide (ret = some .int)
    | 1 => decide (ret = some .boolean)
    | _ => false))
  | 41 => Nat.beq len 1 && (decide (ins = .areturn) && (match ret with
    | some (.object _) => true
    | some (.array _) => true
    | _ => false))
  | 42 => Nat.beq len 1 && (decide (ins = .return_) && decide (ret = none))
  | 43 => match ins with
    | .new ik => Nat.beq len 3 && (match q_nth q_exc a with
      | some X => match q_nth q_ini (11 + a) with
        | some ji => decide (decode cc (pc + 3) = .ok (.dup, 1)) && (decide (decode cc (pc + 4) = .ok (.invokespecial c, 3)) && (decide (decode cc (pc + 7) = .ok (.athrow, 1)) && (q_w b (.classLink own ik X) && (q_w ji (.initialized X) && q_thr own c X))))
        | none => false
      | none => false)
    | _ => false
  | 44 => match ins with
    | .tableswitch dflt lo hi offs => decide (lo = 0) && (decide (hi = 30) && (q_tg R b pc dflt && (decide (sw.length = 31) && (List.range 31).all (fun k => match q_nth sw k with
      | some t => match offs[k]? with
        | some off => q_tg R t pc off
        | none => false
      | none => false))))
    | _ => false
  | 45 => q_nx pc len K && (Nat.beq len 1 && decide (ins = .i2l))
  | 46 => q_nx pc len K && (Nat.beq len 1 && decide (ins = .lcmp))
  | 47 => q_nx pc len K && (Nat.beq len 1 && (match ins with
    | .lconst k => Nat.beq k.val a
    | _ => false))
  | 48 => q_nx pc len K && (Nat.beq len 1 && decide (ins = .irem))
  | 49 => q_nx pc len K && (match ins with
    | .aload_n k => Nat.beq len 1 && Nat.beq k.val a
    | .aload k => Nat.beq len 2 && Nat.beq k a
    | _ => false)
  | 50 => q_nx pc len K && (Nat.blt a nL && (match ins with
    | .astore_n k => Nat.beq len 1 && Nat.beq k.val a
    | .astore k => Nat.beq len 2 && Nat.beq k a
    | _ => false))
  | _ => true
noncomputable def q_rok (P : List qM) (I : List qInf) (sw : List Nat) (own nm : String) (cc : ByteArray) (nL : Nat) (ret : Option FieldType) (R : List qRow) (r : qRow) (K : List qRow) : Bool := match Nat.blt r.2.1 51 with
  | true => decide (decode cc r.1 = .ok (r.2.2.2.2.2.1, r.2.2.2.2.2.2)) && q_opok P I sw own nm cc nL ret R K r.1 r.2.1 r.2.2.1 r.2.2.2.1 r.2.2.2.2.1 r.2.2.2.2.2.1 r.2.2.2.2.2.2
  | false => true
noncomputable def q_roks (P : List qM) (I : List qInf) (sw : List Nat) (own nm : String) (cc : ByteArray) (nL : Nat) (ret : Option FieldType) (R : List qRow) : List qRow → Bool
  | [] => true
  | r :: K => q_rok P I sw own nm cc nL ret R r K && q_roks P I sw own nm cc nL ret R K
/-- the handlers: those of the evaluator beside those of the file -/
noncomputable def q_hok (own : String) (R : List qRow) : List qHd → List (Nat × Nat × Nat × Nat) → List Nat → Bool
  | [], [], _ => true
  | x :: l, y :: m, j :: js => Nat.beq x.1 y.1 && (Nat.beq x.2.1 y.2.1 && ((match q_drop R x.2.2.1 with
    | r :: _ => Nat.beq r.1 y.2.2.1
    | [] => false) && ((match q_nth q_exc x.2.2.2 with
    | some X => q_w j (.classLink own y.2.2.2 X)
    | none => false) && (!Nat.beq y.2.2.2 0 && q_hok own R l m js))))
  | _, _, _ => false
noncomputable def q_ops (sw : List Nat) : List qOp := [qo_const, qo_iload, qo_istore, qo_iinc, qo_add, qo_sub, qo_mul, qo_and, qo_or, qo_xor, qo_shl, qo_null, qo_dup, qo_pop, qo_if, qo_icmp, qo_ifnull, qo_ifnonnull, qo_acmpeq, qo_acmpne, qo_goto, qo_getf, qo_putf, qo_alen, qo_iald, qo_iast, qo_lald, qo_last, qo_aald, qo_aast, qo_newa, qo_anew, qo_multi, qo_new, qo_objinit, qo_callr, qo_calls, qo_callr, qo_callr, qo_calls, qo_iret, qo_aret, qo_vret, qo_throw, qo_switch sw, qo_i2l, qo_lcmp, qo_lconst, qo_rem, qo_aload, qo_astore]
noncomputable def q_step (sw : List Nat) (op : Nat) : qOp := match q_nth (q_ops sw) op with
  | some f => f
  | none => qo_bad
noncomputable def qRun (sw : List Nat) (P : List qM) (E : qEnv) (n : Nat) : qIh := Nat.rec (motive := fun _ => qIh) (fun _ _ _ _ _ _ _ => q_no) (fun _ ih d R hs K L S h => match K with
  | [] => q_no
  | r :: K' => q_step sw r.2.1 P E ih (ih d R hs) d R hs r.1 r.2.2.1 r.2.2.2.1 r.2.2.2.2.1 K' L S h) n
end
section
/-! NUMBERS AND LISTS OF THE EVALUATOR -/
theorem q_nth_eq {α : Type} : ∀ (l : List α) (n : Nat), q_nth l n = l[n]?
  | [], n => by rw [List.getElem?_nil]; rfl
  | x :: l, 0 => rfl
  | x :: l, n + 1 => by
    show q_nth l n = _
    rw [q_nth_eq l n, List.getElem?_cons_succ]
theorem q_drop_eq {α : Type} : ∀ (l : List α) (n : Nat), q_drop l n = l.drop n
  | [], n => by rw [List.drop_nil]; rfl
  | x :: l, 0 => rfl
  | x :: l, n + 1 => by
    show q_drop l n = _
    rw [q_drop_eq l n]; rfl
theorem q_set_eq {α : Type} : ∀ (l : List α) (n : Nat) (v : α), q_set l n v = l.set n v
  | [], n, v => by rw [List.set_nil]; rfl
  | x :: l, 0, v => rfl
  | x :: l, n + 1, v => by
    show x :: q_set l n v = _
    rw [q_set_eq l n v]; rfl
theorem q_fz_eq {α : Type} (x : Nat) (f : Nat → α) : q_fz x f = f x := by cases x <;> rfl
theorem q_has_eq {α : Type} (l : List α) (n : Nat) : q_has l n = Nat.blt n l.length := by
  unfold q_has
  rw [q_nth_eq]
  rcases Nat.lt_or_ge n l.length with h | h
  · rw [List.getElem?_eq_getElem h, Nat.blt_eq.mpr h]
  · rw [List.getElem?_eq_none h]
    cases hb : Nat.blt n l.length with
    | false => rfl
    | true => exact absurd (Nat.blt_eq.mp hb) (by omega)
theorem q_ln_eq {α : Type} (l : List α) : q_ln l = l.length := by
  have h : ∀ (l : List α) (a : Nat), (List.rec (motive := fun _ => Nat → Nat) (fun a => a) (fun _ _ ih a => q_fz (Nat.succ a) ih) l : Nat → Nat) a = a + l.length := by
    intro l
    induction l with
    | nil => exact fun a => rfl
    | cons x l ih =>
      intro a
      show q_fz (Nat.succ a) _ = _
      rw [q_fz_eq, ih (Nat.succ a), List.length_cons]
      omega
  have := h l 0
  rw [Nat.zero_add] at this
  exact this
theorem q_len_eq (o : List qI ⊕ (List Nat ⊕ List (Option Nat))) : q_lenf o = q_len o := by
  rcases o with l | l | l <;> exact q_ln_eq l
theorem q_svk_eq {α : Type} (E : qEnv) (i : Nat) (f : qI → α) : q_svk E i f = f (q_sv E i) := by
  unfold q_svk q_sv
  simp only [q_fz_eq]
  split
  · split <;> rfl
  · rfl
theorem q_teq_eq : ∀ {a b : qT}, q_teq a b = true → a = b
  | [], [], _ => rfl
  | [], _ :: _, h => by cases h
  | _ :: _, [], h => by cases h
  | x :: a, y :: b, h => by
    simp only [q_teq, Bool.and_eq_true] at h
    obtain ⟨h1, h2, h3⟩ := h
    have e1 := Nat.eq_of_beq_eq_true h1
    have e2 := Nat.eq_of_beq_eq_true h2
    have e3 := q_teq_eq h3
    obtain ⟨x1, x2⟩ := x
    obtain ⟨y1, y2⟩ := y
    dsimp only at e1 e2
    subst e1; subst e2; subst e3
    rfl
theorem q_isc_eq {t : qT} (h : q_isc t = true) : t = [] := by
  cases t with
  | nil => rfl
  | cons x l => cases h
theorem q_ieq_eq {x y : qI} (h : q_ieq x y = true) : x = y := by
  simp only [q_ieq, Bool.and_eq_true] at h
  obtain ⟨x1, x2⟩ := x
  obtain ⟨y1, y2⟩ := y
  have e1 := Nat.eq_of_beq_eq_true h.1
  have e2 := q_teq_eq h.2
  dsimp only at e1 e2
  subst e1; subst e2
  rfl
theorem q_oeq_iff {x y : Option Nat} : q_oeq x y = true ↔ x = y := by
  cases x <;> cases y <;> simp [q_oeq, Nat.beq_eq]
def q_bz (n : Nat) : Nat := (n + 2147483648) % 4294967296
def q_ev (rho : Nat → Nat) : qT → Nat
  | [] => 0
  | x :: t => rho x.1 * x.2 + q_ev rho t
def q_i (rho : Nat → Nat) (x : qI) : Int32 := nI (x.1 + q_ev rho x.2)
theorem q_tn (n : Nat) : (nI n).toBitVec.toNat = n % 4294967296 := by
  show (Int32.ofNat n).toBitVec.toNat = _
  simp
theorem q_nImod {a b : Nat} (h : a % 4294967296 = b % 4294967296) : nI a = nI b := by
  apply Int32.toBitVec_inj.mp
  apply BitVec.eq_of_toNat_eq
  rw [q_tn, q_tn, h]
theorem q_toInt (n : Nat) : (nI n).toInt = (q_bz n : Int) - 2147483648 := by
  have h := q_tn n
  rw [← Int32.toInt_toBitVec, BitVec.toInt_eq_toNat_cond, h]
  unfold q_bz
  split <;> omega
theorem q_lt_iff (a b : Nat) : nI a < nI b ↔ q_bz a < q_bz b := by
  rw [Int32.lt_iff_toInt_lt, q_toInt, q_toInt]
  omega
theorem q_eq_iff (a b : Nat) : nI a = nI b ↔ q_bz a = q_bz b := by
  rw [← Int32.toInt_inj, q_toInt, q_toInt]
  omega
theorem q_bz_lt (n : Nat) : q_bz n < 4294967296 := Nat.mod_lt _ (by omega)
theorem q_ev_app (rho : Nat → Nat) : ∀ (a b : qT), q_ev rho (a ++ b) = q_ev rho a + q_ev rho b
  | [], b => by simp [q_ev]
  | x :: a, b => by
    show rho x.1 * x.2 + q_ev rho (a ++ b) = _
    rw [q_ev_app rho a b]
    simp only [q_ev]
    omega
theorem q_ev_neg (rho : Nat → Nat) : ∀ (t : qT), (q_ev rho (q_neg t) + q_ev rho t) % 4294967296 = 0
  | [] => rfl
  | x :: t => by
    have ih := q_ev_neg rho t
    show (rho x.1 * ((4294967296 - x.2 % 4294967296) % 4294967296) + q_ev rho (q_neg t) + (rho x.1 * x.2 + q_ev rho t)) % 4294967296 = 0
    have h2 : (rho x.1 * ((4294967296 - x.2 % 4294967296) % 4294967296) + rho x.1 * x.2) % 4294967296 = 0 := by
      rw [← Nat.mul_add, Nat.mul_mod]
      have : ((4294967296 - x.2 % 4294967296) % 4294967296 + x.2) % 4294967296 = 0 := by omega
      rw [this, Nat.mul_zero, Nat.zero_mod]
    generalize rho x.1 * ((4294967296 - x.2 % 4294967296) % 4294967296) = u at h2 ⊢
    generalize rho x.1 * x.2 = v at h2 ⊢
    omega
theorem q_ev_scale (rho : Nat → Nat) (k : Nat) : ∀ (t : qT), q_ev rho (q_scale k t) % 4294967296 = (q_ev rho t * k) % 4294967296
  | [] => by simp [q_scale, q_ev]
  | x :: t => by
    have ih := q_ev_scale rho k t
    show (rho x.1 * (x.2 * k % 4294967296) + q_ev rho (q_scale k t)) % 4294967296 = ((rho x.1 * x.2 + q_ev rho t) * k) % 4294967296
    rw [Nat.add_mul, Nat.add_mod, ih, Nat.mul_mod, Nat.mod_mod, ← Nat.mul_mod, ← Nat.add_mod, Nat.mul_assoc]
theorem q_i_add (rho : Nat → Nat) (x y : qI) : q_i rho x + q_i rho y = q_i rho ((x.1 + y.1) % 4294967296, x.2 ++ y.2) := by
  unfold q_i
  rw [nI_add]
  apply q_nImod
  dsimp only
  rw [q_ev_app]
  omega
theorem q_i_sub (rho : Nat → Nat) (x y : qI) : q_i rho x - q_i rho y = q_i rho ((x.1 + (4294967296 - y.1 % 4294967296)) % 4294967296, x.2 ++ q_neg y.2) := by
  have h : q_i rho x = q_i rho ((x.1 + (4294967296 - y.1 % 4294967296)) % 4294967296, x.2 ++ q_neg y.2) + q_i rho y := by
    unfold q_i
    rw [nI_add]
    apply q_nImod
    dsimp only
    rw [q_ev_app]
    have := q_ev_neg rho y.2
    omega
  rw [h, Int32.add_sub_cancel]
theorem q_i_mul1 (rho : Nat → Nat) (x y : qI) (h : y.2 = []) : q_i rho x * q_i rho y = q_i rho (x.1 * y.1 % 4294967296, q_scale y.1 x.2) := by
  unfold q_i
  rw [pk_mul, h]
  apply q_nImod
  have h2 := q_ev_scale rho y.1 x.2
  show (x.1 + q_ev rho x.2) * (y.1 + 0) % 4294967296 = (x.1 * y.1 % 4294967296 + q_ev rho (q_scale y.1 x.2)) % 4294967296
  rw [Nat.add_zero, Nat.add_mul, Nat.add_mod, ← h2, ← Nat.add_mod, Nat.add_mod (x.1 * y.1 % 4294967296), Nat.mod_mod, ← Nat.add_mod]
theorem q_i_mul2 (rho : Nat → Nat) (x y : qI) (h : x.2 = []) : q_i rho x * q_i rho y = q_i rho (x.1 * y.1 % 4294967296, q_scale x.1 y.2) := by
  rw [Int32.mul_comm, q_i_mul1 rho y x h, Nat.mul_comm]
theorem q_i_c (rho : Nat → Nat) (c : Nat) : q_i rho (c, []) = nI c := rfl
/-- what an environment says -/
def qEok (E : qEnv) (rho : Nat → Nat) : Prop := ∀ x ∈ E, x.2.1 ≤ q_bz (q_ev rho x.1) ∧ q_bz (q_ev rho x.1) ≤ x.2.2
theorem q_find_ok {E : qEnv} {rho : Nat → Nat} (hE : qEok E rho) {t : qT} {r : Nat × Nat} (h : q_find t E = some r) : r.1 ≤ q_bz (q_ev rho t) ∧ q_bz (q_ev rho t) ≤ r.2 := by
  induction E with
  | nil => cases h
  | cons x E ih =>
    have h : (match q_teq t x.1 with
      | true => some x.2
      | false => q_find t E) = some r := h
    split at h
    · next hq =>
      have e := q_teq_eq hq
      cases h
      rw [e]
      exact hE x List.mem_cons_self
    · exact ih (fun y hy => hE y (List.mem_cons_of_mem _ hy)) h
theorem q_er_sub {t : qT} {x : qT × Nat × Nat} : ∀ {E : qEnv}, x ∈ q_er t E → x ∈ E
  | [], h => h
  | y :: E, h => by
    have h : x ∈ (match q_teq t y.1 with
      | true => q_er t E
      | false => y :: q_er t E) := h
    split at h
    · exact List.mem_cons_of_mem _ (q_er_sub h)
    · rcases List.mem_cons.mp h with rfl | h
      · exact List.mem_cons_self
      · exact List.mem_cons_of_mem _ (q_er_sub h)
theorem q_base_ok {E : qEnv} {rho : Nat → Nat} (hE : qEok E rho) (t : qT) : (q_base E t).1 ≤ q_bz (q_ev rho t) ∧ q_bz (q_ev rho t) ≤ (q_base E t).2 := by
  have hb := q_bz_lt (q_ev rho t)
  unfold q_base
  split
  · next r h => exact q_find_ok hE h
  · split
    · next r h =>
      have h1 := q_find_ok hE h
      have h2 := q_ev_neg rho t
      split
      · next h3 =>
        have h4 : 1 ≤ r.1 := Nat.le_of_ble_eq_true h3
        unfold q_bz at h1 hb ⊢
        dsimp only
        omega
      · dsimp only; omega
    · dsimp only; omega
theorem q_sh_ok {r : Nat × Nat} {c n : Nat} (h : r.1 ≤ q_bz n ∧ q_bz n ≤ r.2) : (q_sh r c).1 ≤ q_bz (c + n) ∧ q_bz (c + n) ≤ (q_sh r c).2 := by
  have hb := q_bz_lt (c + n)
  unfold q_sh
  split
  · next h1 =>
    have h2 := Nat.eq_of_beq_eq_true h1
    unfold q_bz at h ⊢
    dsimp only
    omega
  · dsimp only; omega
theorem q_iv_ok {E : qEnv} {rho : Nat → Nat} (hE : qEok E rho) (x : qI) : (q_iv E x).1 ≤ q_bz (x.1 + q_ev rho x.2) ∧ q_bz (x.1 + q_ev rho x.2) ≤ (q_iv E x).2 := by
  obtain ⟨c, t⟩ := x
  cases t with
  | nil =>
    simp only [q_iv, q_ev, q_bz, Nat.add_zero]
    exact ⟨Nat.le_refl _, Nat.le_refl _⟩
  | cons y t =>
    have h := q_sh_ok (c := c) (q_base_ok hE (y :: t))
    simp only [q_iv]
    exact h
theorem q_lt_ok {p q : Nat × Nat} {a b : Nat} (ha : p.1 ≤ q_bz a ∧ q_bz a ≤ p.2) (hb : q.1 ≤ q_bz b ∧ q_bz b ≤ q.2) {r : Bool} (h : q_lt p q = some r) : r = true ↔ nI a < nI b := by
  rw [q_lt_iff]
  unfold q_lt at h
  split at h
  · next h1 =>
    cases h
    have := Nat.blt_eq.mp h1
    simp; omega
  · split at h
    · next h2 =>
      cases h
      have := Nat.le_of_ble_eq_true h2
      simp; omega
    · cases h
theorem q_eq_ok {p q : Nat × Nat} {a b : Nat} (ha : p.1 ≤ q_bz a ∧ q_bz a ≤ p.2) (hb : q.1 ≤ q_bz b ∧ q_bz b ≤ q.2) {r : Bool} (h : q_eq p q = some r) : r = true ↔ nI a = nI b := by
  rw [q_eq_iff]
  unfold q_eq at h
  split at h
  · next h1 =>
    cases h
    simp only [Bool.and_eq_true, Nat.beq_eq] at h1
    simp; omega
  · split at h
    · next h2 =>
      cases h
      simp only [Bool.or_eq_true, Nat.blt_eq] at h2
      simp; omega
    · cases h
def q_ccP (cc : Nat) (x y : Int32) : Prop := match cc with
  | 0 => x = y
  | 1 => ¬ x = y
  | 2 => x < y
  | 3 => ¬ x < y
  | 4 => y < x
  | 5 => ¬ y < x
  | _ => False
theorem q_not_ok {o : Option Bool} {P : Prop} {r : Bool} (h0 : ∀ r, o = some r → (r = true ↔ P)) (h : q_not o = some r) : r = true ↔ ¬ P := by
  match o, h, h0 with
  | some true, h, h0 => cases h; simpa using (h0 true rfl)
  | some false, h, h0 => cases h; simpa using (h0 false rfl)
theorem q_cc_ok {E : qEnv} {rho : Nat → Nat} (hE : qEok E rho) (cc : Nat) (x y : qI) {r : Bool} (h : q_cc cc (q_iv E x) (q_iv E y) = some r) : r = true ↔ q_ccP cc (q_i rho x) (q_i rho y) := by
  have hx := q_iv_ok hE x
  have hy := q_iv_ok hE y
  unfold q_cc at h
  unfold q_ccP q_i
  split at h
  · exact q_eq_ok hx hy h
  · exact q_not_ok (fun r hr => q_eq_ok hx hy hr) h
  · exact q_lt_ok hx hy h
  · exact q_not_ok (fun r hr => q_lt_ok hx hy hr) h
  · exact q_lt_ok hy hx h
  · exact q_not_ok (fun r hr => q_lt_ok hy hx hr) h
  · cases h
/-- an index in its interval -/
theorem q_ix_ok {E : qEnv} {rho : Nat → Nat} (hE : qEok E rho) (x : qI) {q : Nat × Nat} (h : q_ix E x = some q) : ∃ j : Nat, q_i rho x = nI j ∧ q.1 ≤ j ∧ j ≤ q.2 ∧ j < 2147483648 := by
  have hx := q_iv_ok hE x
  unfold q_ix at h
  split at h
  · next h1 =>
    have h := Option.some.inj h
    subst h
    have h2 := Nat.le_of_ble_eq_true h1
    have hb := q_bz_lt (x.1 + q_ev rho x.2)
    refine ⟨q_bz (x.1 + q_ev rho x.2) - 2147483648, ?_, ?_, ?_, ?_⟩
    · unfold q_i
      apply q_nImod
      unfold q_bz at hx hb ⊢
      omega
    · dsimp only; omega
    · dsimp only; omega
    · omega
  · cases h
theorem q_all_ok {α : Type} {p : α → Bool} : ∀ {n : Nat} {l : List α}, q_all p n l = true → ∀ i, i < n → ∃ x, l[i]? = some x ∧ p x = true
  | 0, _, _, i, hi => absurd hi (Nat.not_lt_zero i)
  | n + 1, [], h, _, _ => absurd (show false = true from h) (by decide)
  | n + 1, x :: l, h, i, hi => by
    have h : (p x && q_all p n l) = true := h
    simp only [Bool.and_eq_true] at h
    cases i with
    | zero => exact ⟨x, rfl, h.1⟩
    | succ i =>
      obtain ⟨y, h1, h2⟩ := q_all_ok h.2 i (by omega)
      exact ⟨y, by rw [List.getElem?_cons_succ]; exact h1, h2⟩
theorem q_rd_ok {α : Type} {eq : α → α → Bool} (heq : ∀ {x y}, eq x y = true → x = y) {xs : List α} {l u j : Nat} {v : α} (h : q_rd eq xs l u = some (some v)) (h1 : l ≤ j) (h2 : j ≤ u) : xs[j]? = some v := by
  unfold q_rd at h
  split at h
  · cases h
  · next w r hd =>
    rw [q_drop_eq] at hd
    have hw : ∀ i, xs[l + i]? = (w :: r)[i]? := fun i => by rw [← hd, List.getElem?_drop]
    split at h
    · next hb =>
      cases h
      have hlu := Nat.eq_of_beq_eq_true hb
      have : j = l := by omega
      subst this
      have := hw 0
      simpa using this
    · split at h
      · cases h
      · split at h
        · next ha =>
          cases h
          have hj := hw (j - l)
          rw [show l + (j - l) = j by omega] at hj
          rw [hj]
          rcases Nat.eq_zero_or_pos (j - l) with z | z
          · rw [z]; rfl
          · obtain ⟨x, g1, g2⟩ := q_all_ok ha (j - l - 1) (by omega)
            rw [show j - l = (j - l - 1) + 1 by omega, List.getElem?_cons_succ, g1, heq g2]
        · cases h
theorem q_pop_ok : ∀ {n : Nat} {S acc As S' : List qV}, q_pop n S acc = some (As, S') → ∃ B, As = B.reverse ++ acc ∧ S = B ++ S' ∧ B.length = n ∧ ∀ v ∈ B, q_lng v = false
  | 0, S, acc, As, S', h => by
    simp only [q_pop, Option.some.injEq, Prod.mk.injEq] at h
    obtain ⟨rfl, rfl⟩ := h
    exact ⟨[], rfl, rfl, rfl, fun _ h => by cases h⟩
  | n + 1, [], acc, As, S', h => by cases h
  | n + 1, v :: S, acc, As, S', h => by
    simp only [q_pop] at h
    split at h
    · cases h
    · next hv =>
      obtain ⟨B, h1, h2, h3, h4⟩ := q_pop_ok h
      refine ⟨v :: B, by rw [h1]; simp, by rw [h2]; rfl, by rw [List.length_cons, h3], fun w hw => ?_⟩
      rcases List.mem_cons.mp hw with rfl | hw
      · exact hv
      · exact h4 w hw
theorem q_add_eq (dc ds : Nat) (r : qRes) : q_add dc ds r = q_add1 dc ds r := by
  have h0 : ∀ r : qRes, q_add1 0 0 r = r := fun r => by
    rcases r with ⟨v, h, a, b⟩ | ⟨X, h, a, b⟩ | x <;> simp [q_add1]
  unfold q_add
  split
  · split
    · exact (h0 r).symm
    · rfl
  · rfl
end
section
/-! WHAT THE EVALUATOR'S WORDS MEAN: values, cells, heaps, locals -/
def q_ad (N0 b : Nat) (k : Nat) : Nat := match k with
  | 0 => b
  | k + 1 => N0 + k
def q_l (n : Nat) : Int64 := (nI n).toInt64
def q_r (N0 b : Nat) (r : Option Nat) : Option Nat := r.map (q_ad N0 b)
def q_v (N0 b : Nat) (rho : Nat → Nat) (v : qV) : Value := match v with
  | .inl x => .int (q_i rho x)
  | .inr (.inl r) => va_rf (q_r N0 b r)
  | .inr (.inr n) => .long (q_l n)
def q_cA (tys : List (ClassId × FieldType)) (t : Nat) : ClassId := (tys.getD t (0, .int)).1
def q_c (N0 b : Nat) (rho : Nat → Nat) (tys : List (ClassId × FieldType)) (x : qC) : va_E := match x with
  | .inl (t, .inl l) => .inl (q_cA tys t, l.length, .inl (fun j => q_i rho (l.getD j (0, []))))
  | .inl (t, .inr (.inl l)) => .inl (q_cA tys t, l.length, .inr (.inl (fun j => q_l (l.getD j 0))))
  | .inl (t, .inr (.inr l)) => .inl (q_cA tys t, l.length, .inr (.inr (.inr (.inr (fun j => q_r N0 b (l.getD j none))))))
  | .inr (ci, fs) => .inr (ci, fs.map (q_v N0 b rho))
def qJ (N0 b : Nat) (H0 : Heap) (rho : Nat → Nat) (tys : List (ClassId × FieldType)) (D : va_G) (h : qHp) (H : Heap) : Prop :=
  (∀ q : Nat, q < N0 → H[q]? = H0[q]?) ∧ N0 + h.2.length ≤ H.size ∧ (h.1 = true → H.size = N0 + h.2.length) ∧ ∀ (k : Nat) (x : qC), h.2[k]? = some x → va_at D vwCl (N0 + k, q_c N0 b rho tys x) H
theorem q_lngc {N0 b : Nat} {rho : Nat → Nat} {v : qV} (h : q_lng v = false) : (q_v N0 b rho v).category = 1 := by
  rcases v with x | r | n
  · rfl
  · cases r <;> rfl
  · cases h
theorem q_catc {N0 b : Nat} {rho : Nat → Nat} (v : qV) : (q_v N0 b rho v).category = (match q_lng v with | true => 2 | false => 1) := by
  rcases v with x | r | n
  · rfl
  · cases r <;> rfl
  · rfl
theorem q_cats {N0 b : Nat} {rho : Nat → Nat} : ∀ (S : List qV), ((S.map (q_v N0 b rho)).map fun v => v.category).sum = q_cat S
  | [] => rfl
  | v :: S => by
    show (q_v N0 b rho v).category + ((S.map (q_v N0 b rho)).map fun v => v.category).sum = _
    rw [q_cats S, q_catc v]
    rfl
section QJ
variable {N0 b : Nat} {H0 : Heap} {rho : Nat → Nat} {tys : List (ClassId × FieldType)} {D : va_G} {h : qHp} {H H1 : Heap}
theorem qJ.one (hJ : qJ N0 b H0 rho tys D h H) {k : Nat} {x : qC} (hk : h.2[k]? = some x) : va_P D vwCl [(N0 + k, q_c N0 b rho tys x)] H := by
  intro i q hq
  cases i with
  | zero => cases hq; exact hJ.2.2.2 k x hk
  | succ i => simp at hq
theorem qJ.set (hJ : qJ N0 b H0 rho tys D h H) {k : Nat} {x0 x1 : qC} (hk : h.2[k]? = some x0) (z : H1.size = H.size) (oq : ∀ q : Nat, q ≠ N0 + k → H1[q]? = H[q]?) (hat : va_at D vwCl (N0 + k, q_c N0 b rho tys x1) H1) : qJ N0 b H0 rho tys D (h.1, h.2.set k x1) H1 := by
  obtain ⟨h1, h2, h3, h4⟩ := hJ
  have hl := (List.getElem?_eq_some_iff.mp hk).1
  refine ⟨fun q hq => by rw [oq q (by omega)]; exact h1 q hq, by rw [z, List.length_set]; exact h2, fun ht => by rw [z, List.length_set]; exact h3 ht, fun i x hi => ?_⟩
  by_cases e : i = k
  · subst e
    rw [List.getElem?_set_self hl] at hi
    cases hi
    exact hat
  · rw [List.getElem?_set_ne (Ne.symm e)] at hi
    exact (h4 i x hi).kept (oq _ (by show N0 + i ≠ N0 + k; omega))
theorem qJ.push (hJ : qJ N0 b H0 rho tys D h H) (hf : h.1 = true) {x : qC} (z : H1.size = H.size + 1) (o : ∀ q : Nat, q < H.size → H1[q]? = H[q]?) (hat : va_at D vwCl (H.size, q_c N0 b rho tys x) H1) : qJ N0 b H0 rho tys D (true, h.2 ++ [x]) H1 := by
  obtain ⟨h1, h2, h3, h4⟩ := hJ
  have e := h3 hf
  refine ⟨fun q hq => by rw [o q (by omega)]; exact h1 q hq, by rw [z, List.length_append]; simp; omega, fun _ => by rw [z, List.length_append]; simp; omega, fun i y hi => ?_⟩
  by_cases hl : i < h.2.length
  · rw [List.getElem?_append_left hl] at hi
    exact (h4 i y hi).kept (o _ (by show N0 + i < H.size; omega))
  · rw [List.getElem?_append_right (by omega)] at hi
    have hz : i - h.2.length < 1 := (List.getElem?_eq_some_iff.mp hi).1
    rw [show i - h.2.length = 0 by omega] at hi
    cases hi
    rw [show N0 + i = H.size by omega]
    exact hat
/-- what was thrown lies behind -/
theorem qJ.grow (hJ : qJ N0 b H0 rho tys D h H) (z : H.size ≤ H1.size) (o : ∀ q : Nat, q < H.size → H1[q]? = H[q]?) : qJ N0 b H0 rho tys D (false, h.2) H1 := by
  obtain ⟨h1, h2, h3, h4⟩ := hJ
  exact ⟨fun q hq => by rw [o q (by omega)]; exact h1 q hq, Nat.le_trans h2 z, fun ht => (by cases ht), fun i x hi => (h4 i x hi).kept (o _ (by have h9 : i < h.2.length := (List.getElem?_eq_some_iff.mp hi).1; show N0 + i < H.size; omega))⟩
end QJ
def qLoc (N0 b : Nat) (rho : Nat → Nat) (ls : Array Slot) (nL : Nat) (L : qL) : Prop := ls.size = nL ∧ lv_wf ls ∧ ∀ (i : Nat) (v : qV), L[i]? = some (some v) → ls[i]? = some (.val (q_v N0 b rho v)) ∧ q_lng v = false
def q_lv (N0 b : Nat) (rho : Nat → Nat) (nL : Nat) (L : qL) : List (Nat × Value) := (List.range nL).filterMap fun i => match L[i]? with
  | some (some v) => some (i, q_v N0 b rho v)
  | _ => none
section QL
variable {N0 b : Nat} {rho : Nat → Nat} {ls ls' : Array Slot} {nL : Nat} {L : qL}
theorem q_lv_mem {q : Nat × Value} (hq : q ∈ q_lv N0 b rho nL L) : ∃ v, L[q.1]? = some (some v) ∧ q.2 = q_v N0 b rho v := by
  obtain ⟨i, -, hi⟩ := List.mem_filterMap.mp hq
  split at hi
  · next v hv =>
    cases hi
    exact ⟨v, hv, rfl⟩
  · cases hi
theorem qLoc.lv (h : qLoc N0 b rho ls nL L) : lv_has ls nL (q_lv N0 b rho nL L) := by
  refine ⟨h.1, h.2.1, fun q hq => ?_⟩
  obtain ⟨v, h1, h2⟩ := q_lv_mem hq
  rw [h2]
  exact (h.2.2 q.1 v h1).1
theorem qLoc.st (h : qLoc N0 b rho ls nL L) {i : Nat} {val : Value} (h' : lv_has ls' nL ((i, val) :: (q_lv N0 b rho nL L).filter (fun q => !(q.1 == i) && !(q.1 + 1 == i && q.2.category == 2)))) (o : Option qV) (ho : ∀ v, o = some v → val = q_v N0 b rho v ∧ q_lng v = false) : qLoc N0 b rho ls' nL (L.set i o) := by
  refine ⟨h'.1, h'.2.1, fun j v hj => ?_⟩
  by_cases e : j = i
  · subst e
    have hl : j < L.length := by
      have := (List.getElem?_eq_some_iff.mp hj).1
      rwa [List.length_set] at this
    rw [List.getElem?_set_self hl] at hj
    have hj := Option.some.inj hj
    obtain ⟨h1, h2⟩ := ho v hj
    exact ⟨by rw [← h1]; exact h'.2.2 (j, val) List.mem_cons_self, h2⟩
  · rw [List.getElem?_set_ne (Ne.symm e)] at hj
    obtain ⟨h1, h2⟩ := h.2.2 j v hj
    have hjn : j < nL := by rw [← h.1]; exact (Array.getElem?_eq_some_iff.mp h1).1
    refine ⟨h'.2.2 (j, q_v N0 b rho v) (List.mem_cons_of_mem _ (List.mem_filter.mpr ⟨List.mem_filterMap.mpr ⟨j, List.mem_range.mpr hjn, by rw [hj]⟩, ?_⟩)), h2⟩
    have hc := q_lngc (N0 := N0) (b := b) (rho := rho) h2
    simp [e, hc]
end QL
def q_nestP (q : String × Nat × MethodName) : Jvm.Cond := .methodLinkNest q.1 q.2.1 q.2.2 "Treebark"
/-- what holds of the machine's tables and of the old heap, at every method's start -/
def qWd (N0 b : Nat) (H0 : Heap) (tys : List (ClassId × FieldType)) (D : va_G) (Lx : Nat) (xs : Nat → Int32) (s : State) : Prop :=
  va_K D vwCl tys s ∧ tys.map (fun q => q.2) = q_tys ∧ va_X b Lx xs s H0 ∧ b < N0 ∧ H0.size = N0 ∧
  vx_Zq Bundle.tN "UNASSIGNED_STACK" Bundle.steD (fun q => N0 ≤ q) s H0 ∧ vx_Zq Bundle.tN "SUPPRESSED_SENTINEL" Bundle.listD (fun q => N0 ≤ q) s H0 ∧
  (∀ q ∈ q_nests, va_Nw (q_nestP q) s) ∧ ((∀ X ∈ q_exc, va_Nw (.castable X X) s) ∧ ∀ y ∈ q_decl, va_Nw (.declares y) s) ∧ (∀ X ∈ q_exc, ∀ Y ∈ q_exc, X ≠ Y → va_Nc X Y s) ∧
  (∀ (t : Nat) (C : String), 1 < t → q_tys[t]? = some (.object C) → va_AO C s) ∧ va_Nw (.arrayOver (.array .int)) s
theorem q_ao6_moved {s U : State} (hW : s.WarmedH U.vm) (h : va_Nw (.arrayOver (.array .int)) s) : va_Nw (.arrayOver (.array .int)) U := Jvm.Stand.arrayOver_alikeB hW.alike h
theorem qWd.moved {N0 b : Nat} {H0 : Heap} {tys : List (ClassId × FieldType)} {D : va_G} {Lx : Nat} {xs : Nat → Int32} {s U : State} (hW : s.WarmedH U.vm) (h : qWd N0 b H0 tys D Lx xs s) : qWd N0 b H0 tys D Lx xs U := by
  obtain ⟨h1, h2, h3, h4, h5, h6, h7, h8, h9, h10, h11, h12⟩ := h
  exact ⟨va_K.moved hW.alike h1, h2, va_X.moved hW.alike h3, h4, h5, vx_Zq.moved hW.alike h6, vx_Zq.moved hW.alike h7, fun q hq => va_Nw.warmM hW (h8 q hq), ⟨fun X hX => va_Nw.warmC hW (h9.1 X hX), fun y hy => va_Nw.warmD hW (h9.2 y hy)⟩, fun X hX Y hY hn => va_Nc.moved hW.alike (h10 X hX Y hY hn), fun t C ht hC => va_AO.moved hW.alike (h11 t C ht hC), q_ao6_moved hW h12⟩
/-- a method at work: the machine, its code, the tables' words, its room -/
def qCtx (p : Program) (l : Launch) (R : Room) (s : State) (m : MethodId) (args : Array Value) (meth : Method) (c : Code) (own nm : String) (cc : ByteArray) (nL : Nat) (ret : Option FieldType) (hh : List (Nat × Nat × Nat × Nat)) (d : Nat) : Prop :=
  p.tables.exec = Jvm.exec ∧ c.code = cc ∧ c.maxLocals = nL ∧ s.vm.findClass own = some m.cls ∧ (∀ w ∈ q_TBL, w.before args s = true) ∧ meth.sig.returnType = ret ∧ meth.locks = false ∧ (meth.name = nm ∨ nm = "") ∧ (hh ≠ [] → c.exceptionTable.toList = tableOf hh) ∧ d ≤ R.frames ∧ 32 * d ≤ R.locals ∧ l.stackTraces = false
theorem q_w_in {j : Nat} {w : Jvm.Cond} (h : q_w j w = true) : w ∈ q_TBL ∧ goodWord w = true := by
  simp only [q_w, Bool.and_eq_true, decide_eq_true_eq] at h
  exact ⟨List.mem_filter.mpr ⟨List.mem_of_getElem? h.1, h.2⟩, h.2⟩
theorem q_TBL_good {w : Jvm.Cond} (h : w ∈ q_TBL) : goodWord w = true := (List.mem_filter.mp h).2
/-- the continuation's state: the row where it stands, the walk from there -/
def qSt (p : Program) (l : Launch) (e : Env) (R : Room) (s : State) (m : MethodId) (args : Array Value) (below : List Frame) (meth : Method) (c : Code) (N0 b : Nat) (H0 : Heap) (rho : Nat → Nat) (tys : List (ClassId × FieldType)) (D : va_G) (nL : Nat) (Rw : List qRow) (Qf : State → Prop) (j : Nat) (L : qL) (S : List qV) (h : qHp) (nc ns : Nat) : Prop :=
  ∃ (r : qRow) (K : List qRow), q_drop Rw j = r :: K ∧ ∀ (H : Heap) (locs : List Loc) (ls : Array Slot), qJ N0 b H0 rho tys D h H → (∀ z ∈ locs, N0 ≤ z.base) → qLoc N0 b rho ls nL L → W p l e R s m args below meth c H locs nc ns Qf (F0 m r.1 ls (S.map (q_v N0 b rho)))
end
section
/-! EACH OP IS SOUND -/
def qScr (rho : Nat → Nat) (Lx : Nat) (xs : Nat → Int32) : Prop := rho 0 = Lx ∧ Lx ≤ 8 ∧ (∀ i, i < 8 → nI (rho (i + 1)) = xs i) ∧ nI (rho 9) = xs 0 &&& 31
def qKok (p : Program) (l : Launch) (e : Env) (R : Room) (s : State) (m : MethodId) (args : Array Value) (below : List Frame) (meth : Method) (c : Code) (N0 b : Nat) (H0 : Heap) (rho : Nat → Nat) (tys : List (ClassId × FieldType)) (D : va_G) (nL : Nat) (Rw : List qRow) (Qf : State → Prop) (Rel : qRes → Nat → Nat → Prop) (kk : qKk) : Prop :=
  ∀ (j : Nat) (L : qL) (S : List qV) (h : qHp) (nc ns : Nat), Rel (kk (q_drop Rw j) L S h) nc ns → qSt p l e R s m args below meth c N0 b H0 rho tys D nL Rw Qf j L S h nc ns
def qAddR (R : Room) (Rel : qRes → Nat → Nat → Prop) : Prop := ∀ (dc ds : Nat) (r : qRes) (nc ns : Nat), Rel (q_add1 dc ds r) nc ns → Rel r (nc + dc) (ns + ds) ∧ nc + dc ≤ R.cells ∧ ns + ds ≤ R.slots

/-! rows of the ops -/
theorem q_nI_and (x y : Nat) : nI x &&& nI y = nI (Nat.land x y) := by
  apply Int32.toBitVec_inj.mp
  apply BitVec.eq_of_toNat_eq
  rw [Int32.toBitVec_and, BitVec.toNat_and, q_tn, q_tn, q_tn]
  show x % 2 ^ 32 &&& y % 2 ^ 32 = (x &&& y) % 2 ^ 32
  rw [Nat.and_mod_two_pow]
theorem q_nI_or (x y : Nat) : nI x ||| nI y = nI (Nat.lor x y) := by
  apply Int32.toBitVec_inj.mp
  apply BitVec.eq_of_toNat_eq
  rw [Int32.toBitVec_or, BitVec.toNat_or, q_tn, q_tn, q_tn]
  show x % 2 ^ 32 ||| y % 2 ^ 32 = (x ||| y) % 2 ^ 32
  rw [Nat.or_mod_two_pow]
theorem q_nI_xor (x y : Nat) : nI x ^^^ nI y = nI (Nat.xor x y) := by
  apply Int32.toBitVec_inj.mp
  apply BitVec.eq_of_toNat_eq
  rw [Int32.toBitVec_xor, BitVec.toNat_xor, q_tn, q_tn, q_tn]
  show x % 2 ^ 32 ^^^ y % 2 ^ 32 = (x ^^^ y) % 2 ^ 32
  rw [Nat.xor_mod_two_pow]
theorem q_cnt : ∀ k, k < 32 → ((nI k).toBitVec.smod 32).toNat = k := by decide +kernel
theorem q_nI_shl (x y : Nat) : nI x <<< (nI y &&& 31) = nI (Nat.shiftLeft x (y % 32) % 4294967296) := by
  have e : nI y &&& 31 = nI (y % 32) := by
    have h := q_nI_and y 31
    have h2 : Nat.land y 31 = y % 32 := Nat.and_two_pow_sub_one_eq_mod y 5
    rw [h2] at h
    exact h
  rw [e]
  apply Int32.toBitVec_inj.mp
  apply BitVec.eq_of_toNat_eq
  rw [pk_shl (nI x) (nI (y % 32)) (y % 32) (q_cnt _ (Nat.mod_lt _ (by omega))), q_tn, q_tn]
  show _ = (x <<< (y % 32)) % 4294967296 % 4294967296
  rw [Nat.shiftLeft_eq, Nat.mod_mod, Nat.mod_mul_mod]
theorem q_lcmp0 (x : Int64) (rho : Nat → Nat) : lg_cmp x x = q_i rho (0, []) := by
  have h : ¬ x < x := Int64.lt_irrefl
  unfold lg_cmp
  rw [if_neg h, if_pos rfl]
  rfl
theorem q_l01 : ∀ k : Fin 2, Int64.ofNat k.val = q_l k.val := by decide +kernel
theorem q_tgE {R : List qRow} {t pc : Nat} {off : Int} (h : q_tg R t pc off = true) : ∃ tgt : Nat, (pc : Int) + off = (tgt : Int) := by
  unfold q_tg at h
  split at h
  · cases h
  · next x _ _ => exact ⟨x.1, of_decide_eq_true h⟩
theorem q_ad_inj {b N0 : Nat} (h : b < N0) {i j : Nat} (hij : q_ad N0 b i = q_ad N0 b j) : i = j := by
  cases i <;> cases j <;> simp only [q_ad] at hij <;> omega
theorem q_r_inj {b N0 : Nat} (h : b < N0) {x y : Option Nat} (hxy : q_r N0 b x = q_r N0 b y) : x = y := by
  cases x with
  | none => cases y with
    | none => rfl
    | some j => cases hxy
  | some i => cases y with
    | none => cases hxy
    | some j => rw [q_ad_inj h (Option.some.inj hxy)]
section QB
variable {p : Program} {l : Launch} {e : Env} {R : Room} {s : State} {m : MethodId} {args : Array Value} {below : List Frame} {meth : Method} {c : Code} {H : Heap} {locs : List Loc} {cells slots : Nat} {Q : State → Prop}
variable {cc : ByteArray} {pc tgt : Nat} {ls : Array Slot} {rest : List Value} {a0 : Nat} {cd : ClassFile.Cond} {off : Int} {x y : Int32}
theorem q_if_t (hx : p.tables.exec = Jvm.exec) (hb : c.code = cc) (hd : decode cc pc = .ok (.ifCond cd off, 3)) (oc : Nat.beq (q_ccI cd) a0 = true) (ht : (pc : Int) + off = (tgt : Int)) (hP : q_ccP a0 x 0) (hn : W p l e R s m args below meth c H locs cells slots Q (F0 m tgt ls rest)) : W p l e R s m args below meth c H locs cells slots Q (F0 m pc ls (.int x :: rest)) := by
  have oc := Nat.eq_of_beq_eq_true oc
  subst oc
  cases cd
  · exact lv_if_eq hx hb hd ht (fun _ => hn) (fun z => absurd hP z)
  · exact lv_if_ne hx hb hd ht (fun _ => hn) (fun z => absurd (by first | exact z | exact Classical.not_not.mp z) hP)
  · exact lv_if_lt hx hb hd ht (fun _ => hn) (fun z => absurd hP z)
  · exact lv_if_ge hx hb hd ht (fun _ => hn) (fun z => absurd (Int32.not_lt.mp hP) z)
  · exact lv_if_gt hx hb hd ht (fun _ => hn) (fun z => absurd hP z)
  · exact lv_if_le hx hb hd ht (fun _ => hn) (fun z => absurd (Int32.not_lt.mp hP) z)
theorem q_if_f (hx : p.tables.exec = Jvm.exec) (hb : c.code = cc) (hd : decode cc pc = .ok (.ifCond cd off, 3)) (oc : Nat.beq (q_ccI cd) a0 = true) (ht : (pc : Int) + off = (tgt : Int)) (hP : ¬ q_ccP a0 x 0) (hn : W p l e R s m args below meth c H locs cells slots Q (F0 m (pc + 3) ls rest)) : W p l e R s m args below meth c H locs cells slots Q (F0 m pc ls (.int x :: rest)) := by
  have oc := Nat.eq_of_beq_eq_true oc
  subst oc
  cases cd
  · exact lv_if_eq hx hb hd ht (fun z => absurd z hP) (fun _ => hn)
  · exact lv_if_ne hx hb hd ht (fun z => absurd z hP) (fun _ => hn)
  · exact lv_if_lt hx hb hd ht (fun z => absurd z hP) (fun _ => hn)
  · exact lv_if_ge hx hb hd ht (fun z => absurd (Int32.not_lt.mpr z) hP) (fun _ => hn)
  · exact lv_if_gt hx hb hd ht (fun z => absurd z hP) (fun _ => hn)
  · exact lv_if_le hx hb hd ht (fun z => absurd (Int32.not_lt.mpr z) hP) (fun _ => hn)
theorem q_icmp_t (hx : p.tables.exec = Jvm.exec) (hb : c.code = cc) (hd : decode cc pc = .ok (.if_icmp cd off, 3)) (oc : Nat.beq (q_ccI cd) a0 = true) (ht : (pc : Int) + off = (tgt : Int)) (hP : q_ccP a0 x y) (hn : W p l e R s m args below meth c H locs cells slots Q (F0 m tgt ls rest)) : W p l e R s m args below meth c H locs cells slots Q (F0 m pc ls (.int y :: .int x :: rest)) := by
  have oc := Nat.eq_of_beq_eq_true oc
  subst oc
  cases cd
  · exact lv_icmp_eq hx hb hd ht (fun _ => hn) (fun z => absurd hP z)
  · exact lv_icmp_ne hx hb hd ht (fun _ => hn) (fun z => absurd (by first | exact z | exact Classical.not_not.mp z) hP)
  · exact lv_icmp_lt hx hb hd ht (fun _ => hn) (fun z => absurd hP z)
  · exact lv_icmp_ge hx hb hd ht (fun _ => hn) (fun z => absurd (Int32.not_lt.mp hP) z)
  · exact lv_icmp_gt hx hb hd ht (fun _ => hn) (fun z => absurd hP z)
  · exact lv_icmp_le hx hb hd ht (fun _ => hn) (fun z => absurd (Int32.not_lt.mp hP) z)
theorem q_icmp_f (hx : p.tables.exec = Jvm.exec) (hb : c.code = cc) (hd : decode cc pc = .ok (.if_icmp cd off, 3)) (oc : Nat.beq (q_ccI cd) a0 = true) (ht : (pc : Int) + off = (tgt : Int)) (hP : ¬ q_ccP a0 x y) (hn : W p l e R s m args below meth c H locs cells slots Q (F0 m (pc + 3) ls rest)) : W p l e R s m args below meth c H locs cells slots Q (F0 m pc ls (.int y :: .int x :: rest)) := by
  have oc := Nat.eq_of_beq_eq_true oc
  subst oc
  cases cd
  · exact lv_icmp_eq hx hb hd ht (fun z => absurd z hP) (fun _ => hn)
  · exact lv_icmp_ne hx hb hd ht (fun z => absurd z hP) (fun _ => hn)
  · exact lv_icmp_lt hx hb hd ht (fun z => absurd z hP) (fun _ => hn)
  · exact lv_icmp_ge hx hb hd ht (fun z => absurd (Int32.not_lt.mpr z) hP) (fun _ => hn)
  · exact lv_icmp_gt hx hb hd ht (fun z => absurd z hP) (fun _ => hn)
  · exact lv_icmp_le hx hb hd ht (fun z => absurd (Int32.not_lt.mpr z) hP) (fun _ => hn)
end QB
section QO
variable {p : Program} {l : Launch} {e : Env} {R : Room} {s : State} {m : MethodId} {args : Array Value} {below : List Frame} {meth : Method} {c : Code}
variable {N0 b : Nat} {H0 : Heap} {rho : Nat → Nat} {tys : List (ClassId × FieldType)} {D : va_G} {Lx : Nat} {xs : Nat → Int32}
variable {own nm : String} {cc : ByteArray} {nL : Nat} {ret : Option FieldType} {hh : List (Nat × Nat × Nat × Nat)} {d : Nat}
variable {Rw : List qRow} {hs : List qHd} {P : List qM} {I : List qInf} {sw : List Nat} {E : qEnv} {ih : qIh} {kk : qKk}
variable {Qf : State → Prop} {Rel : qRes → Nat → Nat → Prop}
variable {j pc op a0 b0 c0 len : Nat} {ins : Instr} {K : List qRow} {L : qL} {S : List qV} {h : qHp} {nc ns : Nat} {H : Heap} {locs : List Loc} {ls : Array Slot}

theorem q_next (hk : qKok p l e R s m args below meth c N0 b H0 rho tys D nL Rw Qf Rel kk) {x : qRow} (hj : q_drop Rw j = x :: K) {len : Nat} (hx : q_nx x.1 len K = true) (hr : Rel (kk K L S h) nc ns) (hJ : qJ N0 b H0 rho tys D h H) (hl : ∀ z ∈ locs, N0 ≤ z.base) (hL : qLoc N0 b rho ls nL L) : W p l e R s m args below meth c H locs nc ns Qf (F0 m (x.1 + len) ls (S.map (q_v N0 b rho))) := by
  have hK : q_drop Rw (j + 1) = K := by
    rw [q_drop_eq] at hj ⊢
    rw [← List.drop_drop, hj]
    rfl
  rw [← hK] at hr
  obtain ⟨r, K', e1, hW⟩ := hk (j + 1) _ _ _ _ _ hr
  rw [hK] at e1
  subst e1
  have e2 : r.1 = x.1 + len := Nat.eq_of_beq_eq_true hx
  rw [← e2]
  exact hW H locs ls hJ hl hL
theorem q_jump (hk : qKok p l e R s m args below meth c N0 b H0 rho tys D nL Rw Qf Rel kk) {t pc : Nat} {off : Int} (ht : q_tg Rw t pc off = true) (hr : Rel (kk (q_drop Rw t) L S h) nc ns) (hJ : qJ N0 b H0 rho tys D h H) (hl : ∀ z ∈ locs, N0 ≤ z.base) (hL : qLoc N0 b rho ls nL L) : ∃ tgt : Nat, (pc : Int) + off = (tgt : Int) ∧ W p l e R s m args below meth c H locs nc ns Qf (F0 m tgt ls (S.map (q_v N0 b rho))) := by
  obtain ⟨r, K', e1, hW⟩ := hk t _ _ _ _ _ hr
  refine ⟨r.1, ?_, hW H locs ls hJ hl hL⟩
  unfold q_tg at ht
  rw [e1] at ht
  exact of_decide_eq_true ht
theorem q_ask_no (hno : ∀ x nc ns, ¬ Rel (.inr (.inr x)) nc ns) {x : qI} {u : Nat} : ¬ Rel (q_ask E x u) nc ns := by
  unfold q_ask q_no q_sp
  repeat' split
  all_goals exact hno _ _ _
theorem q_askl_no (hno : ∀ x nc ns, ¬ Rel (.inr (.inr x)) nc ns) {x y : qI} : ¬ Rel (q_askl E x y) nc ns := by
  unfold q_askl
  repeat' split
  all_goals first | exact q_ask_no hno | exact hno _ _ _
theorem q_aske_no (hno : ∀ x nc ns, ¬ Rel (.inr (.inr x)) nc ns) {x y : qI} : ¬ Rel (q_aske E x y) nc ns := by
  unfold q_aske
  repeat' split
  all_goals first | exact q_ask_no hno | exact hno _ _ _
theorem q_askc_no (hno : ∀ x nc ns, ¬ Rel (.inr (.inr x)) nc ns) {cc : Nat} {x y : qI} : ¬ Rel (q_askc E cc x y) nc ns := by
  unfold q_askc
  split
  · exact q_aske_no hno
  · exact q_aske_no hno
  · exact q_askl_no hno
  · exact q_askl_no hno
  · exact q_askl_no hno

theorem qs_const (C : qCtx p l R s m args meth c own nm cc nL ret hh d) (Wd : qWd N0 b H0 tys D Lx xs s) (hE : qEok E rho) (hX : qScr rho Lx xs) (hk : qKok p l e R s m args below meth c N0 b H0 rho tys D nL Rw Qf Rel kk) (hno : ∀ x nc ns, ¬ Rel (.inr (.inr x)) nc ns) (hadd : qAddR R Rel) (hj : q_drop Rw j = (pc, op, a0, b0, c0, ins, len) :: K) (hd : decode cc pc = .ok (ins, len))
    (ok : q_opok P I sw own nm cc nL ret Rw K pc 0 a0 b0 c0 ins len = true) (hr : Rel (qo_const P E ih kk d Rw hs pc a0 b0 c0 K L S h) nc ns) (hJ : qJ N0 b H0 rho tys D h H) (hl : ∀ z ∈ locs, N0 ≤ z.base) (hL : qLoc N0 b rho ls nL L) : W p l e R s m args below meth c H locs nc ns Qf (F0 m pc ls (S.map (q_v N0 b rho))) := by
  obtain ⟨hx, hb, hml, hown, hts, hret, hlocks, hnm, htab, hfr, hlo, htr⟩ := id C
  replace hr : Rel (kk K L (.inl (a0, []) :: S) h) nc ns := hr
  simp only [q_opok, Bool.and_eq_true] at ok
  obtain ⟨ox, ok⟩ := ok
  have hn := q_next hk hj ox hr hJ hl hL
  split at ok
  all_goals first | (cases ok; done) | skip
  all_goals simp only [Bool.and_eq_true, decide_eq_true_eq] at ok
  all_goals obtain ⟨o1, o2⟩ := ok
  all_goals have o1 := Nat.eq_of_beq_eq_true o1
  all_goals subst o1
  · exact lv_iconst hx hb hd o2 hn
  · exact lv_bipush hx hb hd o2 hn
  · exact lv_sipush hx hb hd o2 hn

theorem qs_iload (C : qCtx p l R s m args meth c own nm cc nL ret hh d) (Wd : qWd N0 b H0 tys D Lx xs s) (hE : qEok E rho) (hX : qScr rho Lx xs) (hk : qKok p l e R s m args below meth c N0 b H0 rho tys D nL Rw Qf Rel kk) (hno : ∀ x nc ns, ¬ Rel (.inr (.inr x)) nc ns) (hadd : qAddR R Rel) (hj : q_drop Rw j = (pc, op, a0, b0, c0, ins, len) :: K) (hd : decode cc pc = .ok (ins, len))
    (ok : q_opok P I sw own nm cc nL ret Rw K pc 1 a0 b0 c0 ins len = true) (hr : Rel (qo_iload P E ih kk d Rw hs pc a0 b0 c0 K L S h) nc ns) (hJ : qJ N0 b H0 rho tys D h H) (hl : ∀ z ∈ locs, N0 ≤ z.base) (hL : qLoc N0 b rho ls nL L) : W p l e R s m args below meth c H locs nc ns Qf (F0 m pc ls (S.map (q_v N0 b rho))) := by
  obtain ⟨hx, hb, hml, hown, hts, hret, hlocks, hnm, htab, hfr, hlo, htr⟩ := id C
  unfold qo_iload at hr
  simp only [q_nth_eq, q_set_eq, q_fz_eq] at hr
  split at hr
  · next x hv =>
    simp only [q_opok, Bool.and_eq_true] at ok
    obtain ⟨ox, ok⟩ := ok
    have hn := q_next hk hj ox hr hJ hl hL
    obtain ⟨hv1, hv2⟩ := hL.2.2 a0 _ hv
    split at ok
    all_goals first | (cases ok; done) | skip
    all_goals simp only [Bool.and_eq_true] at ok
    all_goals obtain ⟨o1, o2⟩ := ok
    all_goals have o1 := Nat.eq_of_beq_eq_true o1
    all_goals have o2 := Nat.eq_of_beq_eq_true o2
    all_goals subst o1
    · exact lv_iload_n hx hb hd o2 hv1 hn
    · subst o2; exact lv_iload hx hb hd hv1 hn
  · exact absurd hr (hno _ _ _)

theorem qs_aload (C : qCtx p l R s m args meth c own nm cc nL ret hh d) (Wd : qWd N0 b H0 tys D Lx xs s) (hE : qEok E rho) (hX : qScr rho Lx xs) (hk : qKok p l e R s m args below meth c N0 b H0 rho tys D nL Rw Qf Rel kk) (hno : ∀ x nc ns, ¬ Rel (.inr (.inr x)) nc ns) (hadd : qAddR R Rel) (hj : q_drop Rw j = (pc, op, a0, b0, c0, ins, len) :: K) (hd : decode cc pc = .ok (ins, len))
    (ok : q_opok P I sw own nm cc nL ret Rw K pc 49 a0 b0 c0 ins len = true) (hr : Rel (qo_aload P E ih kk d Rw hs pc a0 b0 c0 K L S h) nc ns) (hJ : qJ N0 b H0 rho tys D h H) (hl : ∀ z ∈ locs, N0 ≤ z.base) (hL : qLoc N0 b rho ls nL L) : W p l e R s m args below meth c H locs nc ns Qf (F0 m pc ls (S.map (q_v N0 b rho))) := by
  obtain ⟨hx, hb, hml, hown, hts, hret, hlocks, hnm, htab, hfr, hlo, htr⟩ := id C
  unfold qo_aload at hr
  simp only [q_nth_eq, q_set_eq, q_fz_eq] at hr
  split at hr
  · next r hv =>
    simp only [q_opok, Bool.and_eq_true] at ok
    obtain ⟨ox, ok⟩ := ok
    have hn := q_next hk hj ox hr hJ hl hL
    obtain ⟨hv1, hv2⟩ := hL.2.2 a0 _ hv
    split at ok
    all_goals first | (cases ok; done) | skip
    all_goals simp only [Bool.and_eq_true] at ok
    all_goals obtain ⟨o1, o2⟩ := ok
    all_goals have o1 := Nat.eq_of_beq_eq_true o1
    all_goals have o2 := Nat.eq_of_beq_eq_true o2
    all_goals subst o1
    · cases r with
      | none => exact lv_aload_nN hx hb hd o2 hv1 hn
      | some r => exact lv_aload_n hx hb hd o2 hv1 hn
    · subst o2
      cases r with
      | none => exact lv_aloadN hx hb hd hv1 hn
      | some r => exact lv_aload hx hb hd hv1 hn
  · exact absurd hr (hno _ _ _)

theorem qs_istore (C : qCtx p l R s m args meth c own nm cc nL ret hh d) (Wd : qWd N0 b H0 tys D Lx xs s) (hE : qEok E rho) (hX : qScr rho Lx xs) (hk : qKok p l e R s m args below meth c N0 b H0 rho tys D nL Rw Qf Rel kk) (hno : ∀ x nc ns, ¬ Rel (.inr (.inr x)) nc ns) (hadd : qAddR R Rel) (hj : q_drop Rw j = (pc, op, a0, b0, c0, ins, len) :: K) (hd : decode cc pc = .ok (ins, len))
    (ok : q_opok P I sw own nm cc nL ret Rw K pc 2 a0 b0 c0 ins len = true) (hr : Rel (qo_istore P E ih kk d Rw hs pc a0 b0 c0 K L S h) nc ns) (hJ : qJ N0 b H0 rho tys D h H) (hl : ∀ z ∈ locs, N0 ≤ z.base) (hL : qLoc N0 b rho ls nL L) : W p l e R s m args below meth c H locs nc ns Qf (F0 m pc ls (S.map (q_v N0 b rho))) := by
  obtain ⟨hx, hb, hml, hown, hts, hret, hlocks, hnm, htab, hfr, hlo, htr⟩ := id C
  unfold qo_istore at hr
  simp only [q_set_eq] at hr
  split at hr
  · next x S' =>
    simp only [q_opok, Bool.and_eq_true] at ok
    obtain ⟨ox, on, ok⟩ := ok
    have on := Nat.blt_eq.mp on
    have hst : ∀ ls' : Array Slot, lv_has ls' nL ((a0, q_v N0 b rho (.inl x)) :: (q_lv N0 b rho nL L).filter (fun q => !(q.1 == a0) && !(q.1 + 1 == a0 && q.2.category == 2))) → W p l e R s m args below meth c H locs nc ns Qf (F0 m (pc + len) ls' (S'.map (q_v N0 b rho))) := fun ls' h' => q_next hk hj ox hr hJ hl (hL.st h' _ (fun v hv => by cases hv; exact ⟨rfl, rfl⟩))
    split at ok
    all_goals first | (cases ok; done) | skip
    all_goals simp only [Bool.and_eq_true] at ok
    all_goals obtain ⟨o1, o2⟩ := ok
    all_goals have o1 := Nat.eq_of_beq_eq_true o1
    all_goals have o2 := Nat.eq_of_beq_eq_true o2
    all_goals subst o1
    · exact lv_istore_n hx hb hd o2 hL.lv on rfl hst
    · subst o2; exact lv_istore hx hb hd hL.lv on rfl hst
  · exact absurd hr (hno _ _ _)

theorem qs_astore (C : qCtx p l R s m args meth c own nm cc nL ret hh d) (Wd : qWd N0 b H0 tys D Lx xs s) (hE : qEok E rho) (hX : qScr rho Lx xs) (hk : qKok p l e R s m args below meth c N0 b H0 rho tys D nL Rw Qf Rel kk) (hno : ∀ x nc ns, ¬ Rel (.inr (.inr x)) nc ns) (hadd : qAddR R Rel) (hj : q_drop Rw j = (pc, op, a0, b0, c0, ins, len) :: K) (hd : decode cc pc = .ok (ins, len))
    (ok : q_opok P I sw own nm cc nL ret Rw K pc 50 a0 b0 c0 ins len = true) (hr : Rel (qo_astore P E ih kk d Rw hs pc a0 b0 c0 K L S h) nc ns) (hJ : qJ N0 b H0 rho tys D h H) (hl : ∀ z ∈ locs, N0 ≤ z.base) (hL : qLoc N0 b rho ls nL L) : W p l e R s m args below meth c H locs nc ns Qf (F0 m pc ls (S.map (q_v N0 b rho))) := by
  obtain ⟨hx, hb, hml, hown, hts, hret, hlocks, hnm, htab, hfr, hlo, htr⟩ := id C
  unfold qo_astore at hr
  simp only [q_set_eq] at hr
  split at hr
  · next r S' =>
    simp only [q_opok, Bool.and_eq_true] at ok
    obtain ⟨ox, on, ok⟩ := ok
    have on := Nat.blt_eq.mp on
    have hst : ∀ ls' : Array Slot, lv_has ls' nL ((a0, q_v N0 b rho (.inr (.inl r))) :: (q_lv N0 b rho nL L).filter (fun q => !(q.1 == a0) && !(q.1 + 1 == a0 && q.2.category == 2))) → W p l e R s m args below meth c H locs nc ns Qf (F0 m (pc + len) ls' (S'.map (q_v N0 b rho))) := fun ls' h' => q_next hk hj ox hr hJ hl (hL.st h' _ (fun v hv => by cases hv; exact ⟨rfl, rfl⟩))
    split at ok
    all_goals first | (cases ok; done) | skip
    all_goals simp only [Bool.and_eq_true] at ok
    all_goals obtain ⟨o1, o2⟩ := ok
    all_goals have o1 := Nat.eq_of_beq_eq_true o1
    all_goals have o2 := Nat.eq_of_beq_eq_true o2
    all_goals subst o1
    · cases r with
      | none => exact lv_astore_nN hx hb hd o2 hL.lv on rfl hst
      | some r => exact lv_astore_n hx hb hd o2 hL.lv on rfl hst
    · subst o2
      cases r with
      | none => exact lv_astoreN hx hb hd hL.lv on rfl hst
      | some r => exact lv_astore hx hb hd hL.lv on rfl hst
  · exact absurd hr (hno _ _ _)

theorem qs_iinc (C : qCtx p l R s m args meth c own nm cc nL ret hh d) (Wd : qWd N0 b H0 tys D Lx xs s) (hE : qEok E rho) (hX : qScr rho Lx xs) (hk : qKok p l e R s m args below meth c N0 b H0 rho tys D nL Rw Qf Rel kk) (hno : ∀ x nc ns, ¬ Rel (.inr (.inr x)) nc ns) (hadd : qAddR R Rel) (hj : q_drop Rw j = (pc, op, a0, b0, c0, ins, len) :: K) (hd : decode cc pc = .ok (ins, len))
    (ok : q_opok P I sw own nm cc nL ret Rw K pc 3 a0 b0 c0 ins len = true) (hr : Rel (qo_iinc P E ih kk d Rw hs pc a0 b0 c0 K L S h) nc ns) (hJ : qJ N0 b H0 rho tys D h H) (hl : ∀ z ∈ locs, N0 ≤ z.base) (hL : qLoc N0 b rho ls nL L) : W p l e R s m args below meth c H locs nc ns Qf (F0 m pc ls (S.map (q_v N0 b rho))) := by
  obtain ⟨hx, hb, hml, hown, hts, hret, hlocks, hnm, htab, hfr, hlo, htr⟩ := id C
  unfold qo_iinc at hr
  simp only [q_nth_eq, q_set_eq, q_fz_eq] at hr
  split at hr
  · next x hv =>
    simp only [q_opok, Bool.and_eq_true] at ok
    obtain ⟨ox, on, ok⟩ := ok
    have on := Nat.blt_eq.mp on
    split at ok
    all_goals first | (cases ok; done) | skip
    next i n =>
    simp only [Bool.and_eq_true, decide_eq_true_eq] at ok
    obtain ⟨o1, o2, o3⟩ := ok
    have o1 := Nat.eq_of_beq_eq_true o1
    have o2 := Nat.eq_of_beq_eq_true o2
    subst o1; subst o2
    obtain ⟨hv1, hv2⟩ := hL.2.2 i _ hv
    have hm : (i, Value.int (q_i rho x)) ∈ q_lv N0 b rho nL L := List.mem_filterMap.mpr ⟨i, List.mem_range.mpr on, by rw [hv]; rfl⟩
    obtain ⟨k, hk1⟩ := List.getElem?_of_mem hm
    have hv3 : q_i rho x + Int32.ofInt n = q_i rho ((x.1 + b0) % 4294967296, x.2) := by
      rw [o3]
      have := q_i_add rho x (b0, [])
      rw [List.append_nil] at this
      exact this
    refine lv_iinc hx hb hd hL.lv hk1 hv3 on rfl (fun ls' h' => ?_)
    exact q_next hk hj ox hr hJ hl (hL.st h' _ (fun v hv => by cases hv; exact ⟨rfl, rfl⟩))
  · exact absurd hr (hno _ _ _)

theorem qs_add (C : qCtx p l R s m args meth c own nm cc nL ret hh d) (Wd : qWd N0 b H0 tys D Lx xs s) (hE : qEok E rho) (hX : qScr rho Lx xs) (hk : qKok p l e R s m args below meth c N0 b H0 rho tys D nL Rw Qf Rel kk) (hno : ∀ x nc ns, ¬ Rel (.inr (.inr x)) nc ns) (hadd : qAddR R Rel) (hj : q_drop Rw j = (pc, op, a0, b0, c0, ins, len) :: K) (hd : decode cc pc = .ok (ins, len))
    (ok : q_opok P I sw own nm cc nL ret Rw K pc 4 a0 b0 c0 ins len = true) (hr : Rel (qo_add P E ih kk d Rw hs pc a0 b0 c0 K L S h) nc ns) (hJ : qJ N0 b H0 rho tys D h H) (hl : ∀ z ∈ locs, N0 ≤ z.base) (hL : qLoc N0 b rho ls nL L) : W p l e R s m args below meth c H locs nc ns Qf (F0 m pc ls (S.map (q_v N0 b rho))) := by
  obtain ⟨hx, hb, hml, hown, hts, hret, hlocks, hnm, htab, hfr, hlo, htr⟩ := id C
  unfold qo_add at hr
  simp only [q_fz_eq] at hr
  split at hr
  · next y x S' =>
    have hr2 : Rel (kk K L (.inl ((x.1 + y.1) % 4294967296, x.2 ++ y.2) :: S') h) nc ns := by
      split at hr
      · exact hr
      · split at hr
        · exact absurd hr (q_ask_no hno)
        · split at hr
          · exact absurd hr (q_ask_no hno)
          · exact hr
    simp only [q_opok, Bool.and_eq_true, decide_eq_true_eq] at ok
    obtain ⟨ox, o1, o2⟩ := ok
    have o1 := Nat.eq_of_beq_eq_true o1
    subst o1; subst o2
    refine lv_iadd hx hb hd ?_
    rw [show q_i rho x + q_i rho y = _ from q_i_add rho x y]
    exact q_next hk hj ox hr2 hJ hl hL
  · exact absurd hr (hno _ _ _)

theorem qs_sub (C : qCtx p l R s m args meth c own nm cc nL ret hh d) (Wd : qWd N0 b H0 tys D Lx xs s) (hE : qEok E rho) (hX : qScr rho Lx xs) (hk : qKok p l e R s m args below meth c N0 b H0 rho tys D nL Rw Qf Rel kk) (hno : ∀ x nc ns, ¬ Rel (.inr (.inr x)) nc ns) (hadd : qAddR R Rel) (hj : q_drop Rw j = (pc, op, a0, b0, c0, ins, len) :: K) (hd : decode cc pc = .ok (ins, len))
    (ok : q_opok P I sw own nm cc nL ret Rw K pc 5 a0 b0 c0 ins len = true) (hr : Rel (qo_sub P E ih kk d Rw hs pc a0 b0 c0 K L S h) nc ns) (hJ : qJ N0 b H0 rho tys D h H) (hl : ∀ z ∈ locs, N0 ≤ z.base) (hL : qLoc N0 b rho ls nL L) : W p l e R s m args below meth c H locs nc ns Qf (F0 m pc ls (S.map (q_v N0 b rho))) := by
  obtain ⟨hx, hb, hml, hown, hts, hret, hlocks, hnm, htab, hfr, hlo, htr⟩ := id C
  unfold qo_sub at hr
  simp only [q_fz_eq] at hr
  split at hr
  · next y x S' =>
    simp only [q_opok, Bool.and_eq_true, decide_eq_true_eq] at ok
    obtain ⟨ox, o1, o2⟩ := ok
    have o1 := Nat.eq_of_beq_eq_true o1
    subst o1; subst o2
    refine lv_isub hx hb hd ?_
    rw [show q_i rho x - q_i rho y = _ from q_i_sub rho x y]
    exact q_next hk hj ox hr hJ hl hL
  · exact absurd hr (hno _ _ _)

theorem qs_mul (C : qCtx p l R s m args meth c own nm cc nL ret hh d) (Wd : qWd N0 b H0 tys D Lx xs s) (hE : qEok E rho) (hX : qScr rho Lx xs) (hk : qKok p l e R s m args below meth c N0 b H0 rho tys D nL Rw Qf Rel kk) (hno : ∀ x nc ns, ¬ Rel (.inr (.inr x)) nc ns) (hadd : qAddR R Rel) (hj : q_drop Rw j = (pc, op, a0, b0, c0, ins, len) :: K) (hd : decode cc pc = .ok (ins, len))
    (ok : q_opok P I sw own nm cc nL ret Rw K pc 6 a0 b0 c0 ins len = true) (hr : Rel (qo_mul P E ih kk d Rw hs pc a0 b0 c0 K L S h) nc ns) (hJ : qJ N0 b H0 rho tys D h H) (hl : ∀ z ∈ locs, N0 ≤ z.base) (hL : qLoc N0 b rho ls nL L) : W p l e R s m args below meth c H locs nc ns Qf (F0 m pc ls (S.map (q_v N0 b rho))) := by
  obtain ⟨hx, hb, hml, hown, hts, hret, hlocks, hnm, htab, hfr, hlo, htr⟩ := id C
  unfold qo_mul at hr
  split at hr
  · next y x S' =>
    simp only [q_opok, Bool.and_eq_true, decide_eq_true_eq] at ok
    obtain ⟨ox, o1, o2⟩ := ok
    have o1 := Nat.eq_of_beq_eq_true o1
    subst o1; subst o2
    refine lv_imul hx hb hd ?_
    split at hr
    · next hc =>
      rw [show q_i rho x * q_i rho y = _ from q_i_mul1 rho x y (q_isc_eq hc)]
      exact q_next hk hj ox hr hJ hl hL
    · split at hr
      · next hc =>
        rw [show q_i rho x * q_i rho y = _ from q_i_mul2 rho x y (q_isc_eq hc)]
        exact q_next hk hj ox hr hJ hl hL
      · split at hr
        · exact absurd hr (q_ask_no hno)
        · split at hr
          · exact absurd hr (q_ask_no hno)
          · exact absurd hr (hno _ _ _)
  · exact absurd hr (hno _ _ _)

theorem qs_and (C : qCtx p l R s m args meth c own nm cc nL ret hh d) (Wd : qWd N0 b H0 tys D Lx xs s) (hE : qEok E rho) (hX : qScr rho Lx xs) (hk : qKok p l e R s m args below meth c N0 b H0 rho tys D nL Rw Qf Rel kk) (hno : ∀ x nc ns, ¬ Rel (.inr (.inr x)) nc ns) (hadd : qAddR R Rel) (hj : q_drop Rw j = (pc, op, a0, b0, c0, ins, len) :: K) (hd : decode cc pc = .ok (ins, len))
    (ok : q_opok P I sw own nm cc nL ret Rw K pc 7 a0 b0 c0 ins len = true) (hr : Rel (qo_and P E ih kk d Rw hs pc a0 b0 c0 K L S h) nc ns) (hJ : qJ N0 b H0 rho tys D h H) (hl : ∀ z ∈ locs, N0 ≤ z.base) (hL : qLoc N0 b rho ls nL L) : W p l e R s m args below meth c H locs nc ns Qf (F0 m pc ls (S.map (q_v N0 b rho))) := by
  obtain ⟨hx, hb, hml, hown, hts, hret, hlocks, hnm, htab, hfr, hlo, htr⟩ := id C
  unfold qo_and at hr
  split at hr
  · next y x S' =>
    simp only [q_opok, Bool.and_eq_true, decide_eq_true_eq] at ok
    obtain ⟨ox, o1, o2⟩ := ok
    have o1 := Nat.eq_of_beq_eq_true o1
    subst o1; subst o2
    refine lv_iand hx hb hd ?_
    split at hr
    · next hc =>
      simp only [Bool.and_eq_true] at hc
      have e1 := q_isc_eq hc.1
      have e2 := q_isc_eq hc.2
      have e : q_i rho x &&& q_i rho y = q_i rho (Nat.land x.1 y.1, []) := by
        unfold q_i
        rw [e1, e2]
        exact q_nI_and x.1 y.1
      rw [e]
      exact q_next hk hj ox hr hJ hl hL
    · split at hr
      · next hc =>
        simp only [Bool.and_eq_true] at hc
        have e1 := q_ieq_eq hc.1
        have e2 := q_ieq_eq hc.2
        subst e1; subst e2
        have e : q_i rho (0, [(1, 1)]) &&& q_i rho (31, []) = q_i rho (0, [(9, 1)]) := by
          have e3 : q_i rho (0, [(1, 1)]) = nI (rho 1) := by
            show nI (0 + (rho 1 * 1 + 0)) = _
            congr 1; omega
          have e4 : q_i rho (0, [(9, 1)]) = nI (rho 9) := by
            show nI (0 + (rho 9 * 1 + 0)) = _
            congr 1; omega
          rw [e3, e4, hX.2.2.1 0 (by omega), hX.2.2.2]
          rfl
        rw [e]
        exact q_next hk hj ox hr hJ hl hL
      · exact absurd hr (hno _ _ _)
  · exact absurd hr (hno _ _ _)

theorem qs_or (C : qCtx p l R s m args meth c own nm cc nL ret hh d) (Wd : qWd N0 b H0 tys D Lx xs s) (hE : qEok E rho) (hX : qScr rho Lx xs) (hk : qKok p l e R s m args below meth c N0 b H0 rho tys D nL Rw Qf Rel kk) (hno : ∀ x nc ns, ¬ Rel (.inr (.inr x)) nc ns) (hadd : qAddR R Rel) (hj : q_drop Rw j = (pc, op, a0, b0, c0, ins, len) :: K) (hd : decode cc pc = .ok (ins, len))
    (ok : q_opok P I sw own nm cc nL ret Rw K pc 8 a0 b0 c0 ins len = true) (hr : Rel (qo_or P E ih kk d Rw hs pc a0 b0 c0 K L S h) nc ns) (hJ : qJ N0 b H0 rho tys D h H) (hl : ∀ z ∈ locs, N0 ≤ z.base) (hL : qLoc N0 b rho ls nL L) : W p l e R s m args below meth c H locs nc ns Qf (F0 m pc ls (S.map (q_v N0 b rho))) := by
  obtain ⟨hx, hb, hml, hown, hts, hret, hlocks, hnm, htab, hfr, hlo, htr⟩ := id C
  unfold qo_or q_bin at hr
  split at hr
  · next y x S' =>
    simp only [q_opok, Bool.and_eq_true, decide_eq_true_eq] at ok
    obtain ⟨ox, o1, o2⟩ := ok
    have o1 := Nat.eq_of_beq_eq_true o1
    subst o1; subst o2
    refine lv_ior hx hb hd ?_
    split at hr
    · next hc =>
      simp only [Bool.and_eq_true] at hc
      have e1 := q_isc_eq hc.1
      have e2 := q_isc_eq hc.2
      obtain ⟨x1, x2⟩ := x
      obtain ⟨y1, y2⟩ := y
      dsimp only at e1 e2
      subst e1; subst e2
      have e : q_i rho (x1, []) ||| q_i rho (y1, []) = q_i rho (Nat.lor x1 y1, []) := q_nI_or x1 y1
      rw [show q_i rho (x1, []) ||| q_i rho (y1, []) = _ from e]
      exact q_next hk hj ox hr hJ hl hL
    · exact absurd hr (hno _ _ _)
  · exact absurd hr (hno _ _ _)

theorem qs_xor (C : qCtx p l R s m args meth c own nm cc nL ret hh d) (Wd : qWd N0 b H0 tys D Lx xs s) (hE : qEok E rho) (hX : qScr rho Lx xs) (hk : qKok p l e R s m args below meth c N0 b H0 rho tys D nL Rw Qf Rel kk) (hno : ∀ x nc ns, ¬ Rel (.inr (.inr x)) nc ns) (hadd : qAddR R Rel) (hj : q_drop Rw j = (pc, op, a0, b0, c0, ins, len) :: K) (hd : decode cc pc = .ok (ins, len))
    (ok : q_opok P I sw own nm cc nL ret Rw K pc 9 a0 b0 c0 ins len = true) (hr : Rel (qo_xor P E ih kk d Rw hs pc a0 b0 c0 K L S h) nc ns) (hJ : qJ N0 b H0 rho tys D h H) (hl : ∀ z ∈ locs, N0 ≤ z.base) (hL : qLoc N0 b rho ls nL L) : W p l e R s m args below meth c H locs nc ns Qf (F0 m pc ls (S.map (q_v N0 b rho))) := by
  obtain ⟨hx, hb, hml, hown, hts, hret, hlocks, hnm, htab, hfr, hlo, htr⟩ := id C
  unfold qo_xor q_bin at hr
  split at hr
  · next y x S' =>
    simp only [q_opok, Bool.and_eq_true, decide_eq_true_eq] at ok
    obtain ⟨ox, o1, o2⟩ := ok
    have o1 := Nat.eq_of_beq_eq_true o1
    subst o1; subst o2
    refine lv_ixor hx hb hd ?_
    split at hr
    · next hc =>
      simp only [Bool.and_eq_true] at hc
      have e1 := q_isc_eq hc.1
      have e2 := q_isc_eq hc.2
      obtain ⟨x1, x2⟩ := x
      obtain ⟨y1, y2⟩ := y
      dsimp only at e1 e2
      subst e1; subst e2
      have e : q_i rho (x1, []) ^^^ q_i rho (y1, []) = q_i rho (Nat.xor x1 y1, []) := q_nI_xor x1 y1
      rw [show q_i rho (x1, []) ^^^ q_i rho (y1, []) = _ from e]
      exact q_next hk hj ox hr hJ hl hL
    · exact absurd hr (hno _ _ _)
  · exact absurd hr (hno _ _ _)

theorem qs_shl (C : qCtx p l R s m args meth c own nm cc nL ret hh d) (Wd : qWd N0 b H0 tys D Lx xs s) (hE : qEok E rho) (hX : qScr rho Lx xs) (hk : qKok p l e R s m args below meth c N0 b H0 rho tys D nL Rw Qf Rel kk) (hno : ∀ x nc ns, ¬ Rel (.inr (.inr x)) nc ns) (hadd : qAddR R Rel) (hj : q_drop Rw j = (pc, op, a0, b0, c0, ins, len) :: K) (hd : decode cc pc = .ok (ins, len))
    (ok : q_opok P I sw own nm cc nL ret Rw K pc 10 a0 b0 c0 ins len = true) (hr : Rel (qo_shl P E ih kk d Rw hs pc a0 b0 c0 K L S h) nc ns) (hJ : qJ N0 b H0 rho tys D h H) (hl : ∀ z ∈ locs, N0 ≤ z.base) (hL : qLoc N0 b rho ls nL L) : W p l e R s m args below meth c H locs nc ns Qf (F0 m pc ls (S.map (q_v N0 b rho))) := by
  obtain ⟨hx, hb, hml, hown, hts, hret, hlocks, hnm, htab, hfr, hlo, htr⟩ := id C
  unfold qo_shl q_bin at hr
  split at hr
  · next y x S' =>
    simp only [q_opok, Bool.and_eq_true, decide_eq_true_eq] at ok
    obtain ⟨ox, o1, o2⟩ := ok
    have o1 := Nat.eq_of_beq_eq_true o1
    subst o1; subst o2
    refine lv_ishl hx hb hd ?_
    split at hr
    · next hc =>
      simp only [Bool.and_eq_true] at hc
      have e1 := q_isc_eq hc.1
      have e2 := q_isc_eq hc.2
      obtain ⟨x1, x2⟩ := x
      obtain ⟨y1, y2⟩ := y
      dsimp only at e1 e2
      subst e1; subst e2
      have e : q_i rho (x1, []) <<< (q_i rho (y1, []) &&& 31) = q_i rho (Nat.shiftLeft x1 (y1 % 32) % 4294967296, []) := q_nI_shl x1 y1
      rw [show q_i rho (x1, []) <<< (q_i rho (y1, []) &&& 31) = _ from e]
      exact q_next hk hj ox hr hJ hl hL
    · exact absurd hr (hno _ _ _)
  · exact absurd hr (hno _ _ _)

theorem qs_rem (C : qCtx p l R s m args meth c own nm cc nL ret hh d) (Wd : qWd N0 b H0 tys D Lx xs s) (hE : qEok E rho) (hX : qScr rho Lx xs) (hk : qKok p l e R s m args below meth c N0 b H0 rho tys D nL Rw Qf Rel kk) (hno : ∀ x nc ns, ¬ Rel (.inr (.inr x)) nc ns) (hadd : qAddR R Rel) (hj : q_drop Rw j = (pc, op, a0, b0, c0, ins, len) :: K) (hd : decode cc pc = .ok (ins, len))
    (ok : q_opok P I sw own nm cc nL ret Rw K pc 48 a0 b0 c0 ins len = true) (hr : Rel (qo_rem P E ih kk d Rw hs pc a0 b0 c0 K L S h) nc ns) (hJ : qJ N0 b H0 rho tys D h H) (hl : ∀ z ∈ locs, N0 ≤ z.base) (hL : qLoc N0 b rho ls nL L) : W p l e R s m args below meth c H locs nc ns Qf (F0 m pc ls (S.map (q_v N0 b rho))) := by
  obtain ⟨hx, hb, hml, hown, hts, hret, hlocks, hnm, htab, hfr, hlo, htr⟩ := id C
  unfold qo_rem at hr
  split at hr
  · next y x S' =>
    simp only [q_opok, Bool.and_eq_true, decide_eq_true_eq] at ok
    obtain ⟨ox, o1, o2⟩ := ok
    have o1 := Nat.eq_of_beq_eq_true o1
    subst o1; subst o2
    split at hr
    · next hc =>
      simp only [Bool.and_eq_true] at hc
      obtain ⟨c1, c2, c3, c4, c5⟩ := hc
      have e1 := q_isc_eq c1
      have e2 := q_isc_eq c2
      clear c1 c2
      replace c3 := Nat.blt_eq.mp c3
      replace c4 := Nat.blt_eq.mp c4
      replace c5 := Nat.blt_eq.mp c5
      obtain ⟨x1, x2⟩ := x
      obtain ⟨y1, y2⟩ := y
      dsimp only at e1 e2 c3 c4 c5
      subst e1; subst e2
      refine lv_irem (x := nI x1) (y := nI y1) hx hb hd (nI_ne0 c5 c4) ?_
      rw [pk_rem c3 c5 c4]
      exact q_next hk hj ox hr hJ hl hL
    · exact absurd hr (hno _ _ _)
  · exact absurd hr (hno _ _ _)

theorem qs_null (C : qCtx p l R s m args meth c own nm cc nL ret hh d) (Wd : qWd N0 b H0 tys D Lx xs s) (hE : qEok E rho) (hX : qScr rho Lx xs) (hk : qKok p l e R s m args below meth c N0 b H0 rho tys D nL Rw Qf Rel kk) (hno : ∀ x nc ns, ¬ Rel (.inr (.inr x)) nc ns) (hadd : qAddR R Rel) (hj : q_drop Rw j = (pc, op, a0, b0, c0, ins, len) :: K) (hd : decode cc pc = .ok (ins, len))
    (ok : q_opok P I sw own nm cc nL ret Rw K pc 11 a0 b0 c0 ins len = true) (hr : Rel (qo_null P E ih kk d Rw hs pc a0 b0 c0 K L S h) nc ns) (hJ : qJ N0 b H0 rho tys D h H) (hl : ∀ z ∈ locs, N0 ≤ z.base) (hL : qLoc N0 b rho ls nL L) : W p l e R s m args below meth c H locs nc ns Qf (F0 m pc ls (S.map (q_v N0 b rho))) := by
  obtain ⟨hx, hb, hml, hown, hts, hret, hlocks, hnm, htab, hfr, hlo, htr⟩ := id C
  replace hr : Rel (kk K L (.inr (.inl none) :: S) h) nc ns := hr
  simp only [q_opok, Bool.and_eq_true, decide_eq_true_eq] at ok
  obtain ⟨ox, o1, o2⟩ := ok
  have o1 := Nat.eq_of_beq_eq_true o1
  subst o1; subst o2
  exact lv_null hx hb hd (q_next hk hj ox hr hJ hl hL)

theorem qs_dup (C : qCtx p l R s m args meth c own nm cc nL ret hh d) (Wd : qWd N0 b H0 tys D Lx xs s) (hE : qEok E rho) (hX : qScr rho Lx xs) (hk : qKok p l e R s m args below meth c N0 b H0 rho tys D nL Rw Qf Rel kk) (hno : ∀ x nc ns, ¬ Rel (.inr (.inr x)) nc ns) (hadd : qAddR R Rel) (hj : q_drop Rw j = (pc, op, a0, b0, c0, ins, len) :: K) (hd : decode cc pc = .ok (ins, len))
    (ok : q_opok P I sw own nm cc nL ret Rw K pc 12 a0 b0 c0 ins len = true) (hr : Rel (qo_dup P E ih kk d Rw hs pc a0 b0 c0 K L S h) nc ns) (hJ : qJ N0 b H0 rho tys D h H) (hl : ∀ z ∈ locs, N0 ≤ z.base) (hL : qLoc N0 b rho ls nL L) : W p l e R s m args below meth c H locs nc ns Qf (F0 m pc ls (S.map (q_v N0 b rho))) := by
  obtain ⟨hx, hb, hml, hown, hts, hret, hlocks, hnm, htab, hfr, hlo, htr⟩ := id C
  unfold qo_dup at hr
  split at hr
  · exact absurd hr (hno _ _ _)
  · next v S' =>
    split at hr
    · exact absurd hr (hno _ _ _)
    · next hv =>
      simp only [q_opok, Bool.and_eq_true, decide_eq_true_eq] at ok
      obtain ⟨ox, o1, o2⟩ := ok
      have o1 := Nat.eq_of_beq_eq_true o1
      subst o1; subst o2
      exact lv_dup hx hb hd (q_lngc hv) (q_next hk hj ox hr hJ hl hL)

theorem qs_pop (C : qCtx p l R s m args meth c own nm cc nL ret hh d) (Wd : qWd N0 b H0 tys D Lx xs s) (hE : qEok E rho) (hX : qScr rho Lx xs) (hk : qKok p l e R s m args below meth c N0 b H0 rho tys D nL Rw Qf Rel kk) (hno : ∀ x nc ns, ¬ Rel (.inr (.inr x)) nc ns) (hadd : qAddR R Rel) (hj : q_drop Rw j = (pc, op, a0, b0, c0, ins, len) :: K) (hd : decode cc pc = .ok (ins, len))
    (ok : q_opok P I sw own nm cc nL ret Rw K pc 13 a0 b0 c0 ins len = true) (hr : Rel (qo_pop P E ih kk d Rw hs pc a0 b0 c0 K L S h) nc ns) (hJ : qJ N0 b H0 rho tys D h H) (hl : ∀ z ∈ locs, N0 ≤ z.base) (hL : qLoc N0 b rho ls nL L) : W p l e R s m args below meth c H locs nc ns Qf (F0 m pc ls (S.map (q_v N0 b rho))) := by
  obtain ⟨hx, hb, hml, hown, hts, hret, hlocks, hnm, htab, hfr, hlo, htr⟩ := id C
  unfold qo_pop at hr
  split at hr
  · exact absurd hr (hno _ _ _)
  · next v S' =>
    split at hr
    · exact absurd hr (hno _ _ _)
    · next hv =>
      simp only [q_opok, Bool.and_eq_true, decide_eq_true_eq] at ok
      obtain ⟨ox, o1, o2⟩ := ok
      have o1 := Nat.eq_of_beq_eq_true o1
      subst o1; subst o2
      exact lv_pop hx hb hd (q_lngc hv) (q_next hk hj ox hr hJ hl hL)

theorem qs_if (C : qCtx p l R s m args meth c own nm cc nL ret hh d) (Wd : qWd N0 b H0 tys D Lx xs s) (hE : qEok E rho) (hX : qScr rho Lx xs) (hk : qKok p l e R s m args below meth c N0 b H0 rho tys D nL Rw Qf Rel kk) (hno : ∀ x nc ns, ¬ Rel (.inr (.inr x)) nc ns) (hadd : qAddR R Rel) (hj : q_drop Rw j = (pc, op, a0, b0, c0, ins, len) :: K) (hd : decode cc pc = .ok (ins, len))
    (ok : q_opok P I sw own nm cc nL ret Rw K pc 14 a0 b0 c0 ins len = true) (hr : Rel (qo_if P E ih kk d Rw hs pc a0 b0 c0 K L S h) nc ns) (hJ : qJ N0 b H0 rho tys D h H) (hl : ∀ z ∈ locs, N0 ≤ z.base) (hL : qLoc N0 b rho ls nL L) : W p l e R s m args below meth c H locs nc ns Qf (F0 m pc ls (S.map (q_v N0 b rho))) := by
  obtain ⟨hx, hb, hml, hown, hts, hret, hlocks, hnm, htab, hfr, hlo, htr⟩ := id C
  unfold qo_if at hr
  split at hr
  · next x S' =>
    simp only [q_opok, Bool.and_eq_true] at ok
    obtain ⟨ox, ok⟩ := ok
    split at ok
    all_goals first | (cases ok; done) | skip
    next cd off =>
    simp only [Bool.and_eq_true] at ok
    obtain ⟨o1, oc, ot⟩ := ok
    have o1 := Nat.eq_of_beq_eq_true o1
    subst o1
    unfold q_br at hr
    split at hr
    · next hc =>
      have hP := (q_cc_ok hE a0 x (0, []) hc).mp rfl
      obtain ⟨tgt, ht, hn⟩ := q_jump hk ot hr hJ hl hL
      exact q_if_t hx hb hd oc ht hP hn
    · next hc =>
      have hP : ¬ q_ccP a0 (q_i rho x) (q_i rho (0, [])) := fun z => absurd ((q_cc_ok hE a0 x (0, []) hc).mpr z) (by decide)
      have hn := q_next hk hj ox hr hJ hl hL
      obtain ⟨tgt, ht⟩ := q_tgE ot
      exact q_if_f hx hb hd oc ht hP hn
    · exact absurd hr (q_askc_no hno)
  · exact absurd hr (hno _ _ _)

theorem qs_icmp (C : qCtx p l R s m args meth c own nm cc nL ret hh d) (Wd : qWd N0 b H0 tys D Lx xs s) (hE : qEok E rho) (hX : qScr rho Lx xs) (hk : qKok p l e R s m args below meth c N0 b H0 rho tys D nL Rw Qf Rel kk) (hno : ∀ x nc ns, ¬ Rel (.inr (.inr x)) nc ns) (hadd : qAddR R Rel) (hj : q_drop Rw j = (pc, op, a0, b0, c0, ins, len) :: K) (hd : decode cc pc = .ok (ins, len))
    (ok : q_opok P I sw own nm cc nL ret Rw K pc 15 a0 b0 c0 ins len = true) (hr : Rel (qo_icmp P E ih kk d Rw hs pc a0 b0 c0 K L S h) nc ns) (hJ : qJ N0 b H0 rho tys D h H) (hl : ∀ z ∈ locs, N0 ≤ z.base) (hL : qLoc N0 b rho ls nL L) : W p l e R s m args below meth c H locs nc ns Qf (F0 m pc ls (S.map (q_v N0 b rho))) := by
  obtain ⟨hx, hb, hml, hown, hts, hret, hlocks, hnm, htab, hfr, hlo, htr⟩ := id C
  unfold qo_icmp at hr
  split at hr
  · next y x S' =>
    simp only [q_opok, Bool.and_eq_true] at ok
    obtain ⟨ox, ok⟩ := ok
    split at ok
    all_goals first | (cases ok; done) | skip
    next cd off =>
    simp only [Bool.and_eq_true] at ok
    obtain ⟨o1, oc, ot⟩ := ok
    have o1 := Nat.eq_of_beq_eq_true o1
    subst o1
    unfold q_br at hr
    split at hr
    · next hc =>
      have hP := (q_cc_ok hE a0 x y hc).mp rfl
      obtain ⟨tgt, ht, hn⟩ := q_jump hk ot hr hJ hl hL
      exact q_icmp_t hx hb hd oc ht hP hn
    · next hc =>
      have hP : ¬ q_ccP a0 (q_i rho x) (q_i rho y) := fun z => absurd ((q_cc_ok hE a0 x y hc).mpr z) (by decide)
      have hn := q_next hk hj ox hr hJ hl hL
      obtain ⟨tgt, ht⟩ := q_tgE ot
      exact q_icmp_f hx hb hd oc ht hP hn
    · exact absurd hr (q_askc_no hno)
  · exact absurd hr (hno _ _ _)

theorem qs_ifnull (C : qCtx p l R s m args meth c own nm cc nL ret hh d) (Wd : qWd N0 b H0 tys D Lx xs s) (hE : qEok E rho) (hX : qScr rho Lx xs) (hk : qKok p l e R s m args below meth c N0 b H0 rho tys D nL Rw Qf Rel kk) (hno : ∀ x nc ns, ¬ Rel (.inr (.inr x)) nc ns) (hadd : qAddR R Rel) (hj : q_drop Rw j = (pc, op, a0, b0, c0, ins, len) :: K) (hd : decode cc pc = .ok (ins, len))
    (ok : q_opok P I sw own nm cc nL ret Rw K pc 16 a0 b0 c0 ins len = true) (hr : Rel (qo_ifnull P E ih kk d Rw hs pc a0 b0 c0 K L S h) nc ns) (hJ : qJ N0 b H0 rho tys D h H) (hl : ∀ z ∈ locs, N0 ≤ z.base) (hL : qLoc N0 b rho ls nL L) : W p l e R s m args below meth c H locs nc ns Qf (F0 m pc ls (S.map (q_v N0 b rho))) := by
  obtain ⟨hx, hb, hml, hown, hts, hret, hlocks, hnm, htab, hfr, hlo, htr⟩ := id C
  simp only [q_opok, Bool.and_eq_true] at ok
  obtain ⟨ox, ok⟩ := ok
  split at ok
  all_goals first | (cases ok; done) | skip
  next off =>
  simp only [Bool.and_eq_true] at ok
  obtain ⟨o1, o2⟩ := ok
  have o1 := Nat.eq_of_beq_eq_true o1
  subst o1
  unfold qo_ifnull at hr
  split at hr
  · obtain ⟨tgt, ht, hn⟩ := q_jump hk o2 hr hJ hl hL
    exact lv_ifnullN hx hb hd ht hn
  · exact lv_ifnull hx hb hd (q_next hk hj ox hr hJ hl hL)
  · exact absurd hr (hno _ _ _)

theorem qs_ifnonnull (C : qCtx p l R s m args meth c own nm cc nL ret hh d) (Wd : qWd N0 b H0 tys D Lx xs s) (hE : qEok E rho) (hX : qScr rho Lx xs) (hk : qKok p l e R s m args below meth c N0 b H0 rho tys D nL Rw Qf Rel kk) (hno : ∀ x nc ns, ¬ Rel (.inr (.inr x)) nc ns) (hadd : qAddR R Rel) (hj : q_drop Rw j = (pc, op, a0, b0, c0, ins, len) :: K) (hd : decode cc pc = .ok (ins, len))
    (ok : q_opok P I sw own nm cc nL ret Rw K pc 17 a0 b0 c0 ins len = true) (hr : Rel (qo_ifnonnull P E ih kk d Rw hs pc a0 b0 c0 K L S h) nc ns) (hJ : qJ N0 b H0 rho tys D h H) (hl : ∀ z ∈ locs, N0 ≤ z.base) (hL : qLoc N0 b rho ls nL L) : W p l e R s m args below meth c H locs nc ns Qf (F0 m pc ls (S.map (q_v N0 b rho))) := by
  obtain ⟨hx, hb, hml, hown, hts, hret, hlocks, hnm, htab, hfr, hlo, htr⟩ := id C
  simp only [q_opok, Bool.and_eq_true] at ok
  obtain ⟨ox, ok⟩ := ok
  split at ok
  all_goals first | (cases ok; done) | skip
  next off =>
  simp only [Bool.and_eq_true] at ok
  obtain ⟨o1, o2⟩ := ok
  have o1 := Nat.eq_of_beq_eq_true o1
  subst o1
  unfold qo_ifnonnull at hr
  split at hr
  · exact lv_ifnonnullN hx hb hd (q_next hk hj ox hr hJ hl hL)
  · obtain ⟨tgt, ht, hn⟩ := q_jump hk o2 hr hJ hl hL
    exact lv_ifnonnull hx hb hd ht hn
  · exact absurd hr (hno _ _ _)

theorem qs_acmpeq (C : qCtx p l R s m args meth c own nm cc nL ret hh d) (Wd : qWd N0 b H0 tys D Lx xs s) (hE : qEok E rho) (hX : qScr rho Lx xs) (hk : qKok p l e R s m args below meth c N0 b H0 rho tys D nL Rw Qf Rel kk) (hno : ∀ x nc ns, ¬ Rel (.inr (.inr x)) nc ns) (hadd : qAddR R Rel) (hj : q_drop Rw j = (pc, op, a0, b0, c0, ins, len) :: K) (hd : decode cc pc = .ok (ins, len))
    (ok : q_opok P I sw own nm cc nL ret Rw K pc 18 a0 b0 c0 ins len = true) (hr : Rel (qo_acmpeq P E ih kk d Rw hs pc a0 b0 c0 K L S h) nc ns) (hJ : qJ N0 b H0 rho tys D h H) (hl : ∀ z ∈ locs, N0 ≤ z.base) (hL : qLoc N0 b rho ls nL L) : W p l e R s m args below meth c H locs nc ns Qf (F0 m pc ls (S.map (q_v N0 b rho))) := by
  obtain ⟨hx, hb, hml, hown, hts, hret, hlocks, hnm, htab, hfr, hlo, htr⟩ := id C
  simp only [q_opok, Bool.and_eq_true] at ok
  obtain ⟨ox, ok⟩ := ok
  split at ok
  all_goals first | (cases ok; done) | skip
  next off =>
  simp only [Bool.and_eq_true] at ok
  obtain ⟨o1, o2⟩ := ok
  have o1 := Nat.eq_of_beq_eq_true o1
  subst o1
  have hinj : ∀ {x y : Option Nat}, q_r N0 b x = q_r N0 b y → x = y := fun z => q_r_inj Wd.2.2.2.1 z
  unfold qo_acmpeq at hr
  split at hr
  · next y x S' =>
    split at hr
    · next hc =>
      have hxy := q_oeq_iff.mp hc
      obtain ⟨tgt, ht, hn⟩ := q_jump hk o2 hr hJ hl hL
      exact lv_acmp_eq (rx := q_r N0 b x) (ry := q_r N0 b y) hx hb hd ht (fun _ => hn) (fun z => absurd (by rw [hxy]) z)
    · next hc =>
      have hxy : ¬ x = y := fun z => absurd (q_oeq_iff.mpr z) (by rw [hc]; decide)
      obtain ⟨tgt, ht⟩ := q_tgE o2
      exact lv_acmp_eq (rx := q_r N0 b x) (ry := q_r N0 b y) hx hb hd ht (fun z => absurd (hinj z) hxy) (fun _ => q_next hk hj ox hr hJ hl hL)
  · exact absurd hr (hno _ _ _)

theorem qs_acmpne (C : qCtx p l R s m args meth c own nm cc nL ret hh d) (Wd : qWd N0 b H0 tys D Lx xs s) (hE : qEok E rho) (hX : qScr rho Lx xs) (hk : qKok p l e R s m args below meth c N0 b H0 rho tys D nL Rw Qf Rel kk) (hno : ∀ x nc ns, ¬ Rel (.inr (.inr x)) nc ns) (hadd : qAddR R Rel) (hj : q_drop Rw j = (pc, op, a0, b0, c0, ins, len) :: K) (hd : decode cc pc = .ok (ins, len))
    (ok : q_opok P I sw own nm cc nL ret Rw K pc 19 a0 b0 c0 ins len = true) (hr : Rel (qo_acmpne P E ih kk d Rw hs pc a0 b0 c0 K L S h) nc ns) (hJ : qJ N0 b H0 rho tys D h H) (hl : ∀ z ∈ locs, N0 ≤ z.base) (hL : qLoc N0 b rho ls nL L) : W p l e R s m args below meth c H locs nc ns Qf (F0 m pc ls (S.map (q_v N0 b rho))) := by
  obtain ⟨hx, hb, hml, hown, hts, hret, hlocks, hnm, htab, hfr, hlo, htr⟩ := id C
  simp only [q_opok, Bool.and_eq_true] at ok
  obtain ⟨ox, ok⟩ := ok
  split at ok
  all_goals first | (cases ok; done) | skip
  next off =>
  simp only [Bool.and_eq_true] at ok
  obtain ⟨o1, o2⟩ := ok
  have o1 := Nat.eq_of_beq_eq_true o1
  subst o1
  have hinj : ∀ {x y : Option Nat}, q_r N0 b x = q_r N0 b y → x = y := fun z => q_r_inj Wd.2.2.2.1 z
  unfold qo_acmpne at hr
  split at hr
  · next y x S' =>
    split at hr
    · next hc =>
      have hxy := q_oeq_iff.mp hc
      obtain ⟨tgt, ht⟩ := q_tgE o2
      exact lv_acmp_ne (rx := q_r N0 b x) (ry := q_r N0 b y) hx hb hd ht (fun z => absurd (by rw [hxy]) z) (fun _ => q_next hk hj ox hr hJ hl hL)
    · next hc =>
      have hxy : ¬ x = y := fun z => absurd (q_oeq_iff.mpr z) (by rw [hc]; decide)
      obtain ⟨tgt, ht, hn⟩ := q_jump hk o2 hr hJ hl hL
      exact lv_acmp_ne (rx := q_r N0 b x) (ry := q_r N0 b y) hx hb hd ht (fun _ => hn) (fun z => absurd (hinj z) hxy)
  · exact absurd hr (hno _ _ _)

theorem qs_goto (C : qCtx p l R s m args meth c own nm cc nL ret hh d) (Wd : qWd N0 b H0 tys D Lx xs s) (hE : qEok E rho) (hX : qScr rho Lx xs) (hk : qKok p l e R s m args below meth c N0 b H0 rho tys D nL Rw Qf Rel kk) (hno : ∀ x nc ns, ¬ Rel (.inr (.inr x)) nc ns) (hadd : qAddR R Rel) (hj : q_drop Rw j = (pc, op, a0, b0, c0, ins, len) :: K) (hd : decode cc pc = .ok (ins, len))
    (ok : q_opok P I sw own nm cc nL ret Rw K pc 20 a0 b0 c0 ins len = true) (hr : Rel (qo_goto P E ih kk d Rw hs pc a0 b0 c0 K L S h) nc ns) (hJ : qJ N0 b H0 rho tys D h H) (hl : ∀ z ∈ locs, N0 ≤ z.base) (hL : qLoc N0 b rho ls nL L) : W p l e R s m args below meth c H locs nc ns Qf (F0 m pc ls (S.map (q_v N0 b rho))) := by
  obtain ⟨hx, hb, hml, hown, hts, hret, hlocks, hnm, htab, hfr, hlo, htr⟩ := id C
  replace hr : Rel (kk (q_drop Rw a0) L S h) nc ns := hr
  simp only [q_opok] at ok
  split at ok
  all_goals first | (cases ok; done) | skip
  simp only [Bool.and_eq_true] at ok
  obtain ⟨o1, o2⟩ := ok
  have o1 := Nat.eq_of_beq_eq_true o1
  subst o1
  obtain ⟨tgt, ht, hn⟩ := q_jump hk o2 hr hJ hl hL
  exact lv_goto hx hb hd ht hn

theorem qs_i2l (C : qCtx p l R s m args meth c own nm cc nL ret hh d) (Wd : qWd N0 b H0 tys D Lx xs s) (hE : qEok E rho) (hX : qScr rho Lx xs) (hk : qKok p l e R s m args below meth c N0 b H0 rho tys D nL Rw Qf Rel kk) (hno : ∀ x nc ns, ¬ Rel (.inr (.inr x)) nc ns) (hadd : qAddR R Rel) (hj : q_drop Rw j = (pc, op, a0, b0, c0, ins, len) :: K) (hd : decode cc pc = .ok (ins, len))
    (ok : q_opok P I sw own nm cc nL ret Rw K pc 45 a0 b0 c0 ins len = true) (hr : Rel (qo_i2l P E ih kk d Rw hs pc a0 b0 c0 K L S h) nc ns) (hJ : qJ N0 b H0 rho tys D h H) (hl : ∀ z ∈ locs, N0 ≤ z.base) (hL : qLoc N0 b rho ls nL L) : W p l e R s m args below meth c H locs nc ns Qf (F0 m pc ls (S.map (q_v N0 b rho))) := by
  obtain ⟨hx, hb, hml, hown, hts, hret, hlocks, hnm, htab, hfr, hlo, htr⟩ := id C
  unfold qo_i2l at hr
  split at hr
  · next x S' =>
    simp only [q_opok, Bool.and_eq_true, decide_eq_true_eq] at ok
    obtain ⟨ox, o1, o2⟩ := ok
    have o1 := Nat.eq_of_beq_eq_true o1
    subst o1; subst o2
    obtain ⟨x1, x2⟩ := x
    split at hr
    · next hc =>
      have e1 : x2 = [] := q_isc_eq hc
      subst e1
      exact lv_i2l (x := nI x1) (v := q_l x1) hx hb hd rfl (q_next hk hj ox hr hJ hl hL)
    · exact absurd hr (hno _ _ _)
  · exact absurd hr (hno _ _ _)

theorem qs_lcmp (C : qCtx p l R s m args meth c own nm cc nL ret hh d) (Wd : qWd N0 b H0 tys D Lx xs s) (hE : qEok E rho) (hX : qScr rho Lx xs) (hk : qKok p l e R s m args below meth c N0 b H0 rho tys D nL Rw Qf Rel kk) (hno : ∀ x nc ns, ¬ Rel (.inr (.inr x)) nc ns) (hadd : qAddR R Rel) (hj : q_drop Rw j = (pc, op, a0, b0, c0, ins, len) :: K) (hd : decode cc pc = .ok (ins, len))
    (ok : q_opok P I sw own nm cc nL ret Rw K pc 46 a0 b0 c0 ins len = true) (hr : Rel (qo_lcmp P E ih kk d Rw hs pc a0 b0 c0 K L S h) nc ns) (hJ : qJ N0 b H0 rho tys D h H) (hl : ∀ z ∈ locs, N0 ≤ z.base) (hL : qLoc N0 b rho ls nL L) : W p l e R s m args below meth c H locs nc ns Qf (F0 m pc ls (S.map (q_v N0 b rho))) := by
  obtain ⟨hx, hb, hml, hown, hts, hret, hlocks, hnm, htab, hfr, hlo, htr⟩ := id C
  unfold qo_lcmp at hr
  split at hr
  · next y x S' =>
    simp only [q_opok, Bool.and_eq_true, decide_eq_true_eq] at ok
    obtain ⟨ox, o1, o2⟩ := ok
    have o1 := Nat.eq_of_beq_eq_true o1
    subst o1; subst o2
    split at hr
    · next hc =>
      have e1 := Nat.eq_of_beq_eq_true hc
      subst e1
      refine W.lcmp (x := q_l x) (y := q_l x) hx hb hd ?_
      rw [q_lcmp0 (q_l x) rho]
      exact q_next hk hj ox hr hJ hl hL
    · exact absurd hr (hno _ _ _)
  · exact absurd hr (hno _ _ _)

theorem qs_lconst (C : qCtx p l R s m args meth c own nm cc nL ret hh d) (Wd : qWd N0 b H0 tys D Lx xs s) (hE : qEok E rho) (hX : qScr rho Lx xs) (hk : qKok p l e R s m args below meth c N0 b H0 rho tys D nL Rw Qf Rel kk) (hno : ∀ x nc ns, ¬ Rel (.inr (.inr x)) nc ns) (hadd : qAddR R Rel) (hj : q_drop Rw j = (pc, op, a0, b0, c0, ins, len) :: K) (hd : decode cc pc = .ok (ins, len))
    (ok : q_opok P I sw own nm cc nL ret Rw K pc 47 a0 b0 c0 ins len = true) (hr : Rel (qo_lconst P E ih kk d Rw hs pc a0 b0 c0 K L S h) nc ns) (hJ : qJ N0 b H0 rho tys D h H) (hl : ∀ z ∈ locs, N0 ≤ z.base) (hL : qLoc N0 b rho ls nL L) : W p l e R s m args below meth c H locs nc ns Qf (F0 m pc ls (S.map (q_v N0 b rho))) := by
  obtain ⟨hx, hb, hml, hown, hts, hret, hlocks, hnm, htab, hfr, hlo, htr⟩ := id C
  replace hr : Rel (kk K L (.inr (.inr a0) :: S) h) nc ns := hr
  simp only [q_opok, Bool.and_eq_true] at ok
  obtain ⟨ox, o1, ok⟩ := ok
  have o1 := Nat.eq_of_beq_eq_true o1
  subst o1
  split at ok
  all_goals first | (cases ok; done) | skip
  next k =>
  have o2 := Nat.eq_of_beq_eq_true ok
  exact lv_lconst (v := q_l a0) hx hb hd (by rw [← o2]; exact q_l01 k) (q_next hk hj ox hr hJ hl hL)

end QO
end
section
/-! THE OPS ON THE HEAP -/
theorem q_cl0 : GoodIn lw_tbl (u_ws RX0 TX0 6) := goodIn_r _ [156, 158, 160, 162, 164, 166] (by decide +kernel) (by decide +kernel)
theorem q_cl1 : GoodIn lw_tbl (u_ws RX1 TX1 7) := goodIn_r _ [131, 133, 135, 137, 139, 141, 143] (by decide +kernel) (by decide +kernel)
theorem q_cl2 : GoodIn lw_tbl (u_ws RX2 TX2 4) := goodIn_r _ [903, 905, 907, 909] (by decide +kernel) (by decide +kernel)
theorem q_cl3 : GoodIn lw_tbl (u_ws RX3 TX3 3) := goodIn_r _ [412, 414, 416] (by decide +kernel) (by decide +kernel)
theorem q_cl4 : GoodIn lw_tbl (u_ws RX4 TX4 2) := goodIn_r _ [237, 239] (by decide +kernel) (by decide +kernel)
theorem q_cl5 : GoodIn lw_tbl (u_ws RX5 TX5 2) := goodIn_r _ [269, 271] (by decide +kernel) (by decide +kernel)
theorem q_cl6 : GoodIn lw_tbl (u_ws RX6 TX6 5) := goodIn_r _ [216, 218, 220, 222, 224] (by decide +kernel) (by decide +kernel)
theorem q_cl7 : GoodIn lw_tbl (u_ws RX7 TX7 4) := goodIn_r _ [187, 189, 191, 193] (by decide +kernel) (by decide +kernel)
theorem q_cl8 : GoodIn lw_tbl (u_ws RX8 TX8 2) := goodIn_r _ [252, 254] (by decide +kernel) (by decide +kernel)
theorem q_cl9 : GoodIn lw_tbl (u_ws RX9 TX9 13) := goodIn_r _ [320, 322, 324, 326, 328, 330, 332, 334, 336, 338, 340, 342, 344] (by decide +kernel) (by decide +kernel)
theorem q_cl10 : GoodIn lw_tbl (u_ws RX10 TX10 36) := goodIn_r _ [1069, 1071, 1073, 1075, 1077, 1079, 1081, 1083, 1085, 1087, 1089, 1091, 1093, 1095, 1097, 1099, 1101, 1103, 1105, 1107, 1109, 1111, 1113, 1115, 1117, 1119, 1121, 1123, 1125, 1127, 1129, 1131, 1133, 1135, 1137, 1139] (by decide +kernel) (by decide +kernel)
theorem q_cl : ∀ (a : Nat) (q : vw_C), vwCl[a]? = some q → GoodIn lw_tbl (u_ws q.1 q.2.1 q.2.2) ∧ (∀ a, a < q.2.2 → ∀ b, b < q.2.2 → a ≠ b → (q.2.1 a).2.1 ≠ (q.2.1 b).2.1) ∧ ∃ ty0 : Nat → FieldType, ∀ k, k < q.2.2 → parseFieldDescriptor (q.2.1 k).2.2.1 = some (ty0 k) := by
  intro a q h
  match a, h with
  | 0, h => cases h; exact ⟨q_cl0, nmX0, tyX0, tyX0_ok⟩
  | 1, h => cases h; exact ⟨q_cl1, nmX1, tyX1, tyX1_ok⟩
  | 2, h => cases h; exact ⟨q_cl2, nmX2, tyX2, tyX2_ok⟩
  | 3, h => cases h; exact ⟨q_cl3, nmX3, tyX3, tyX3_ok⟩
  | 4, h => cases h; exact ⟨q_cl4, nmX4, tyX4, tyX4_ok⟩
  | 5, h => cases h; exact ⟨q_cl5, nmX5, tyX5, tyX5_ok⟩
  | 6, h => cases h; exact ⟨q_cl6, nmX6, tyX6, tyX6_ok⟩
  | 7, h => cases h; exact ⟨q_cl7, nmX7, tyX7, tyX7_ok⟩
  | 8, h => cases h; exact ⟨q_cl8, nmX8, tyX8, tyX8_ok⟩
  | 9, h => cases h; exact ⟨q_cl9, nmX9, tyX9, tyX9_ok⟩
  | 10, h => cases h; exact ⟨q_cl10, nmX10, tyX10, tyX10_ok⟩
  | n + 11, h => simp [vwCl] at h


theorem q_goodB {w : Jvm.Cond} (h : (w.onTables && w.keeps) = true ∨ ∃ ty, w = .arrayClass ty) : goodWord w = true := by
  rcases h with h | ⟨ty, rfl⟩
  · cases w <;> first | rfl | exact h
  · rfl
theorem q_sv_ok {E : qEnv} {rho : Nat → Nat} (hE : qEok E rho) (i : Nat) : q_i rho (q_sv E i) = nI (rho i) := by
  have h0 : q_ev rho [(i, 1)] = rho i := by
    show rho i * 1 + 0 = rho i
    omega
  have h1 : q_i rho (0, [(i, 1)]) = nI (rho i) := by
    show nI (0 + q_ev rho [(i, 1)]) = _
    rw [h0, Nat.zero_add]
  unfold q_sv
  split
  · next r hr =>
    split
    · next hc =>
      have hc := Nat.eq_of_beq_eq_true hc
      have h2 := q_find_ok hE hr
      rw [h0] at h2
      apply q_nImod
      unfold q_bz at h2
      show ((r.1 + 2147483648) % 4294967296 + 0) % 4294967296 = _
      omega
    · exact h1
  · exact h1
theorem q_tys_obj {t : Nat} (h1 : 1 < t) (h2 : t < 6) : ∃ C, q_tys[t]? = some (.object C) := by
  match t, h1, h2 with
  | 2, _, _ => exact ⟨_, rfl⟩
  | 3, _, _ => exact ⟨_, rfl⟩
  | 4, _, _ => exact ⟨_, rfl⟩
  | 5, _, _ => exact ⟨_, rfl⟩
theorem q_isE_ok {h : List qC} {t : Nat} {v : Option Nat} (hv : q_isE h t v = true) : (v = none ∧ 1 < t ∧ t < 6) ∨ ∃ (r ci : Nat) (vs : List qV), v = some (r + 1) ∧ h[r]? = some (.inr (ci, vs)) ∧ ci = q_elem t := by
  unfold q_isE at hv
  split at hv
  · next r =>
    simp only [q_nth_eq] at hv
    split at hv
    · next o ho =>
      obtain ⟨ci, vs⟩ := o
      exact Or.inr ⟨r, ci, vs, rfl, ho, Nat.eq_of_beq_eq_true hv⟩
    · cases hv
  · cases hv
  · simp only [Bool.and_eq_true] at hv
    exact Or.inl ⟨rfl, Nat.blt_eq.mp hv.1, Nat.blt_eq.mp hv.2⟩
theorem q_tyO {t : Nat} (h1 : 1 < t) (h2 : t < 6) : ∃ C, q_tys[t]? = some (.object C) := by
  match t, h1, h2 with
  | 0, h, _ => exact absurd h (by decide)
  | 1, h, _ => exact absurd h (by decide)
  | 2, _, _ => exact ⟨_, rfl⟩
  | 3, _, _ => exact ⟨_, rfl⟩
  | 4, _, _ => exact ⟨_, rfl⟩
  | 5, _, _ => exact ⟨_, rfl⟩
  | n + 6, _, h => exact absurd h (by omega)
theorem q_elem_ok {t ci : Nat} (h : ci = q_elem t) (hc : ∃ r : vw_C, vwCl[ci]? = some r) : ∃ r : vw_C, vwCl[ci]? = some r ∧ q_tys[t]? = some (.object r.1) := by
  subst h
  unfold q_elem at hc ⊢
  split
  · exact ⟨_, rfl, rfl⟩
  · exact ⟨_, rfl, rfl⟩
  · exact ⟨_, rfl, rfl⟩
  · exact ⟨_, rfl, rfl⟩
  · obtain ⟨r, hr⟩ := hc
    exfalso
    split at hr <;> first | contradiction | (simp [vwCl] at hr)
theorem q_dv_ok {N0 b : Nat} {rho : Nat → Nat} (ty : FieldType) (h : q_tc ty < 3) : defaultValue ty = q_v N0 b rho (q_dv (q_tc ty)) := by
  cases ty <;> first | rfl | (exact absurd h (by decide))
theorem q_fty_ok {a : Nat} {fl : List Nat} (h : q_nth q_fty a = some fl) {k : Nat} (hk : k < fl.length) : fl[k] < 3 := by
  rw [q_nth_eq] at h
  have hall : q_fty.all (fun l => l.all (fun x => Nat.blt x 3)) = true := by decide +kernel
  have h1 := List.all_eq_true.mp hall fl (List.mem_of_getElem? h)
  exact Nat.blt_eq.mp (List.all_eq_true.mp h1 _ (List.getElem_mem hk))
theorem q_bool01 : ∀ k : Fin 2, narrow .boolean (.int (nI k.val)) = .int (nI k.val) ∧ fits .boolean (.int (nI k.val)) = true := by decide +kernel
theorem q_fit_ok {N0 b : Nat} {rho : Nat → Nat} {ty : FieldType} {tc : Nat} {v : qV} (ht : q_tc ty = tc) (hv : q_fit tc v = true) : narrow ty (q_v N0 b rho v) = q_v N0 b rho v ∧ fits ty (q_v N0 b rho v) = true := by
  subst ht
  rcases v with x | r | n
  · simp only [q_fit] at hv
    cases ty
    all_goals first | (exact absurd (show false = true from hv) (by decide)) | skip
    all_goals simp only [q_tc] at hv
    all_goals first | exact ⟨rfl, rfl⟩ | skip
    all_goals
      simp only [Bool.and_eq_true] at hv
      have e1 := q_isc_eq hv.1
      have e2 := Nat.blt_eq.mp hv.2
      obtain ⟨x1, x2⟩ := x
      dsimp only at e1 e2
      subst e1
      rcases (by omega : x1 = 0 ∨ x1 = 1) with rfl | rfl
      · exact q_bool01 0
      · exact q_bool01 1
  · have h2 : q_tc ty = 2 := Nat.eq_of_beq_eq_true hv
    cases ty
    all_goals first | (exact absurd h2 (by decide)) | skip
    all_goals cases r <;> exact ⟨rfl, rfl⟩
  · cases hv
section QH0
variable {p : Program} {l : Launch} {e : Env} {R : Room} {s : State} {m : MethodId} {args : Array Value} {below : List Frame} {meth : Method} {c : Code} {H : Heap} {locs : List Loc} {cells slots : Nat} {Q : State → Prop}
variable {cc : ByteArray} {pc : Nat} {ls : Array Slot} {rest : List Value} {D : va_G} {tys : List (ClassId × FieldType)} {ws : va_W} {a : Nat}
variable {N0 b : Nat} {H0 : Heap} {rho : Nat → Nat} {Lx : Nat} {xs : Nat → Int32}
theorem q_TBLin {own C : String} {T : u_T} {N : Nat} (h : GoodIn lw_tbl (u_ws C T N)) : ∀ w ∈ u_ws C T N, w ∈ q_TBL := fun w hw => List.mem_filter.mpr ⟨(h w hw).1, q_goodB (h w hw).2⟩
theorem q_inN {n j : Nat} (h : j < n) (hj : j < 2147483648) : vp_in (nI j) n := by
  intro z
  rcases z with z | z
  · exact nI_pos hj z
  · rw [nI_clamp hj] at z; omega
theorem q_ty (Wd : qWd N0 b H0 tys D Lx xs s) {t : Nat} {ty : FieldType} (ht : q_tys[t]? = some ty) : tys[t]? = some (q_cA tys t, ty) := by
  have h1 : (tys.map (fun q => q.2))[t]? = some ty := by rw [Wd.2.1]; exact ht
  rw [List.getElem?_map] at h1
  cases hq : tys[t]? with
  | none => rw [hq] at h1; cases h1
  | some q =>
    rw [hq] at h1
    have h2 : q.2 = ty := Option.some.inj h1
    have h3 : q_cA tys t = q.1 := by
      unfold q_cA
      rw [List.getD_eq_getElem?_getD, hq]
      rfl
    rw [h3, ← h2]
/-- putfield, with what stays of the heap's size -/
theorem q_put (hexec : p.tables.exec = Jvm.exec) (hb : c.code = cc) {own C : String} {T : u_T} {N ci index : Nat} {Ts : List Jvm.Cond} (hts : ∀ w ∈ Ts, w.before args s = true) (hin : ∀ w ∈ u_ws C T N, w ∈ Ts) (ty0 : Nat → FieldType) (hty : ∀ k, k < N → parseFieldDescriptor (T k).2.2.1 = some (ty0 k)) (hnm : ∀ a, a < N → ∀ b, b < N → a ≠ b → (T a).2.1 ≠ (T b).2.1) (hown : s.vm.findClass own = some m.cls) (hK : va_K D vwCl tys s) {fs : List Value} (hP : va_at D vwCl (a, .inr (ci, fs)) H) (hc : vwCl[ci]? = some (C, T, N)) (k : Nat) (hk : k < N) (hlink : (Jvm.Cond.fieldLink own index (T k).1 (T k).2.1 (T k).2.2.1).before args s = true)
    (hfin : (T k).2.2.2 = false ∨ ((T k).1 = own ∧ meth.name = "<init>")) {ty : FieldType} {v : Value} (hd : parseFieldDescriptor (T k).2.2.1 = some ty) (hn : narrow ty v = v) (hfit : fits ty v = true) (hl : k < fs.length) (hdg : decode cc pc = .ok (.putfield index, 3))
    (kk : ∀ (H1 : Heap) (locs1 : List Loc), va_at D vwCl (a, .inr (ci, fs.set k v)) H1 → H1.size = H.size → (∀ q : Nat, q ≠ a → H1[q]? = H[q]?) → (∀ z ∈ locs1, z ∈ locs ∨ z.base = a) → W p l e R s m args below meth c H1 locs1 cells slots Q (F0 m (pc + 3) ls rest)) : W p l e R s m args below meth c H locs cells slots Q (F0 m pc ls (v :: .ref a :: rest)) := by
  have hap := va_apart (own := own) hts hin ty0 hty hnm hK hc
  obtain ⟨r, h1, cell, q1, q2, q3, q4⟩ := hP
  have hr : r = (C, T, N) := Option.some.inj (h1.symm.trans hc)
  subst hr
  obtain ⟨hS, hfc, kC, hkC, hkind⟩ := hK.1 ci _ hc
  obtain ⟨cf, kf, fi, f, hi, hsl⟩ := hS k hk
  have hst := (u_facts hfc hkC (u_lays hts hin hk) hi).1
  have hlay := hts _ (hin _ (u_in_lay hk))
  have hlm : ∀ z ∈ locs ++ [(⟨a, f.slot⟩ : Loc)], z ∈ locs ∨ z.base = a := fun z hz => by
    rcases List.mem_append.mp hz with h | h
    · exact Or.inl h
    · rw [List.mem_singleton.mp h]; exact Or.inr rfl
  unfold u_lay at hlay
  by_cases hf0 : (T k).2.2.2 = true
  · obtain ⟨hdecl, hin2⟩ := hfin.resolve_left (by rw [hf0]; decide)
    rw [if_pos hf0] at hlay
    have hcf : m.cls = cf := by
      obtain ⟨_, _, c', _, _, _, -, -, hf', -, -, -, hown2, -⟩ := Cond.laysFinal_spec hlay
      have e1 : c' = cf := by have := hi.symm.trans hf'; simp at this; exact this.1.symm
      rw [hdecl] at hown2
      rw [← e1]; exact Option.some.inj (hown.symm.trans hown2)
    have h6 := u_fits hfc hkC hkind (Or.inr hlay) hi hd hn hfit
    refine W.putFinK hexec hb hown hlink hi hst hcf hin2 (by rw [q2]; exact h6) q1 q3 (by rw [hsl]; exact k2_hasslot (q4 k hk)) rfl rfl hdg fun H' e1 e2 e3 => ?_
    refine kk H' _ ?_ e2 e3 hlm
    rw [hsl] at e1
    exact ⟨_, hc, t_OB.to (V := updV (vp_V fs) k v) ⟨_, e1, q2, q3, t_set q4 hap hk v⟩ (fun j _ => vp_updV_set hl v j)⟩
  · rw [if_neg hf0] at hlay
    have h6 := u_store hfc hkC hkind hlay hi hd hn hfit
    refine W.putK hexec hb (f := f) ⟨hown, hlink, ⟨_, _, _, hi⟩, hst⟩ (by rw [q2]; exact h6) q1 q3 (by rw [hsl]; exact k2_hasslot (q4 k hk)) rfl rfl hdg fun H' e1 e2 e3 => ?_
    refine kk H' _ ?_ e2 e3 hlm
    rw [hsl] at e1
    exact ⟨_, hc, t_OB.to (V := updV (vp_V fs) k v) ⟨_, e1, q2, q3, t_set q4 hap hk v⟩ (fun j _ => vp_updV_set hl v j)⟩
theorem q_bases {locs : List Loc} {k : Nat} {x : Loc} (hl : ∀ z ∈ locs, N0 ≤ z.base) (hx : x.base = N0 + k) : ∀ z ∈ locs ++ [x], N0 ≤ z.base := fun z hz => by
  rcases List.mem_append.mp hz with h | h
  · exact hl z h
  · rw [List.mem_singleton.mp h, hx]; omega
theorem q_getD_set {α : Type} {l : List α} {i : Nat} {v d : α} (hi : i < l.length) (j : Nat) : (l.set i v).getD j d = if j = i then v else l.getD j d := by
  rw [List.getD_eq_getElem?_getD, List.getD_eq_getElem?_getD, List.getElem?_set]
  by_cases h : j = i
  · subst h; simp [hi]
  · simp [h, Ne.symm h]
theorem q_getD_rep {α : Type} (n : Nat) (d : α) (j : Nat) : (List.replicate n d).getD j d = d := by
  rw [List.getD_eq_getElem?_getD, List.getElem?_replicate]
  split <;> rfl
theorem q_getD_some {α : Type} {l : List α} {j : Nat} {v d : α} (h : l[j]? = some v) : l.getD j d = v := by
  rw [List.getD_eq_getElem?_getD, h]; rfl
end QH0
section QH
variable {p : Program} {l : Launch} {e : Env} {R : Room} {s : State} {m : MethodId} {args : Array Value} {below : List Frame} {meth : Method} {c : Code}
variable {N0 b : Nat} {H0 : Heap} {rho : Nat → Nat} {tys : List (ClassId × FieldType)} {D : va_G} {Lx : Nat} {xs : Nat → Int32}
variable {own nm : String} {cc : ByteArray} {nL : Nat} {ret : Option FieldType} {hh : List (Nat × Nat × Nat × Nat)} {d : Nat}
variable {Rw : List qRow} {hs : List qHd} {P : List qM} {I : List qInf} {sw : List Nat} {E : qEnv} {ih : qIh} {kk : qKk}
variable {Qf : State → Prop} {Rel : qRes → Nat → Nat → Prop}
variable {j pc op a0 b0 c0 len : Nat} {ins : Instr} {K : List qRow} {L : qL} {S : List qV} {h : qHp} {nc ns : Nat} {H : Heap} {locs : List Loc} {ls : Array Slot}
theorem qs_getf (C : qCtx p l R s m args meth c own nm cc nL ret hh d) (Wd : qWd N0 b H0 tys D Lx xs s) (hE : qEok E rho) (hX : qScr rho Lx xs) (hk : qKok p l e R s m args below meth c N0 b H0 rho tys D nL Rw Qf Rel kk) (hno : ∀ x nc ns, ¬ Rel (.inr (.inr x)) nc ns) (hadd : qAddR R Rel) (hj : q_drop Rw j = (pc, op, a0, b0, c0, ins, len) :: K) (hd : decode cc pc = .ok (ins, len))
    (ok : q_opok P I sw own nm cc nL ret Rw K pc 21 a0 b0 c0 ins len = true) (hr : Rel (qo_getf P E ih kk d Rw hs pc a0 b0 c0 K L S h) nc ns) (hJ : qJ N0 b H0 rho tys D h H) (hl : ∀ z ∈ locs, N0 ≤ z.base) (hL : qLoc N0 b rho ls nL L) : W p l e R s m args below meth c H locs nc ns Qf (F0 m pc ls (S.map (q_v N0 b rho))) := by
  obtain ⟨hx, hb, hml, hown, hts, hret, hlocks, hnm, htab, hfr, hlo, htr⟩ := id C
  unfold qo_getf at hr
  simp only [q_nth_eq, q_set_eq, q_has_eq, q_ln_eq, q_len_eq, q_fz_eq, q_svk_eq] at hr
  split at hr
  · next r S' =>
    split at hr
    · next o ho =>
      split at hr
      · next hc =>
        have hc := Nat.eq_of_beq_eq_true hc
        split at hr
        · next v hv =>
          simp only [q_opok, Bool.and_eq_true] at ok
          obtain ⟨ox, ok⟩ := ok
          split at ok
          all_goals first | (cases ok; done) | skip
          next idx =>
          simp only [Bool.and_eq_true] at ok
          obtain ⟨o1, ok⟩ := ok
          have o1 := Nat.eq_of_beq_eq_true o1
          subst o1
          split at ok
          · next C T N hcl =>
            simp only [Bool.and_eq_true] at ok
            obtain ⟨ob, ow⟩ := ok
            have ob := Nat.blt_eq.mp ob
            rw [q_nth_eq] at hcl
            obtain ⟨g1, g2, ty0, g3⟩ := q_cl a0 _ hcl
            obtain ⟨ci, fs⟩ := o
            dsimp only at hc hv
            subst hc
            have hP := hJ.one ho
            exact va_get hx hb hts (q_TBLin (own := own) g1) hown Wd.1 hP 0 rfl hcl b0 ob (hts _ (q_w_in ow).1) (fun _ z => z) (by rw [List.getElem?_map, hv]; rfl) hd (q_next hk hj ox hr hJ hl hL)
          · cases ok
        · exact absurd hr (hno _ _ _)
      · exact absurd hr (hno _ _ _)
    · exact absurd hr (hno _ _ _)
  · exact absurd hr (hno _ _ _)

theorem qs_putf (C : qCtx p l R s m args meth c own nm cc nL ret hh d) (Wd : qWd N0 b H0 tys D Lx xs s) (hE : qEok E rho) (hX : qScr rho Lx xs) (hk : qKok p l e R s m args below meth c N0 b H0 rho tys D nL Rw Qf Rel kk) (hno : ∀ x nc ns, ¬ Rel (.inr (.inr x)) nc ns) (hadd : qAddR R Rel) (hj : q_drop Rw j = (pc, op, a0, b0, c0, ins, len) :: K) (hd : decode cc pc = .ok (ins, len))
    (ok : q_opok P I sw own nm cc nL ret Rw K pc 22 a0 b0 c0 ins len = true) (hr : Rel (qo_putf P E ih kk d Rw hs pc a0 b0 c0 K L S h) nc ns) (hJ : qJ N0 b H0 rho tys D h H) (hl : ∀ z ∈ locs, N0 ≤ z.base) (hL : qLoc N0 b rho ls nL L) : W p l e R s m args below meth c H locs nc ns Qf (F0 m pc ls (S.map (q_v N0 b rho))) := by
  obtain ⟨hx, hb, hml, hown, hts, hret, hlocks, hnm, htab, hfr, hlo, htr⟩ := id C
  unfold qo_putf at hr
  simp only [q_nth_eq, q_set_eq, q_has_eq, q_ln_eq, q_len_eq, q_fz_eq, q_svk_eq] at hr
  split at hr
  · next v r S' =>
    split at hr
    · next o ho =>
      split at hr
      · next hc =>
        simp only [Bool.and_eq_true] at hc
        obtain ⟨hc, hv, hlen⟩ := hc
        have hc := Nat.eq_of_beq_eq_true hc
        have hlen := Nat.blt_eq.mp hlen
        simp only [q_opok, Bool.and_eq_true] at ok
        obtain ⟨ox, ok⟩ := ok
        split at ok
        all_goals first | (cases ok; done) | skip
        next idx =>
        simp only [Bool.and_eq_true] at ok
        obtain ⟨o1, ok⟩ := ok
        have o1 := Nat.eq_of_beq_eq_true o1
        subst o1
        split at ok
        · next C T N hcl =>
          simp only [Bool.and_eq_true] at ok
          obtain ⟨ob, ow, ok⟩ := ok
          have ob := Nat.blt_eq.mp ob
          rw [q_nth_eq] at hcl
          obtain ⟨g1, g2, ty0, g3⟩ := q_cl a0 _ hcl
          split at ok
          · next ty hty =>
            simp only [Bool.and_eq_true, Bool.or_eq_true, Bool.not_eq_true', decide_eq_true_eq] at ok
            obtain ⟨otc, ofin⟩ := ok
            have otc := Nat.eq_of_beq_eq_true otc
            obtain ⟨ci, fs⟩ := o
            dsimp only at hc hv hlen hr
            subst hc
            have hfit := q_fit_ok (N0 := N0) (b := b) (rho := rho) otc hv
            refine q_put (C := C) hx hb hts (q_TBLin (own := own) g1) ty0 g3 g2 hown Wd.1 (hJ.2.2.2 r _ ho) hcl b0 ob (hts _ (q_w_in ow).1) (ofin.imp id (fun z => ⟨z.1, (hnm.resolve_right (by rw [z.2]; decide)).trans z.2⟩)) hty hfit.1 hfit.2 (by rw [List.length_map]; exact hlen) hd (fun H1 locs1 e1 e2 e3 e4 => ?_)
            refine q_next hk hj ox hr (hJ.set ho e2 e3 ?_) (fun z hz => (e4 z hz).elim (hl z) (fun y => by rw [y]; omega)) hL
            rw [← List.map_set] at e1
            exact e1
          · cases ok
        · cases ok
      · exact absurd hr (hno _ _ _)
    · exact absurd hr (hno _ _ _)
  · exact absurd hr (hno _ _ _)

theorem qs_alen (C : qCtx p l R s m args meth c own nm cc nL ret hh d) (Wd : qWd N0 b H0 tys D Lx xs s) (hE : qEok E rho) (hX : qScr rho Lx xs) (hk : qKok p l e R s m args below meth c N0 b H0 rho tys D nL Rw Qf Rel kk) (hno : ∀ x nc ns, ¬ Rel (.inr (.inr x)) nc ns) (hadd : qAddR R Rel) (hj : q_drop Rw j = (pc, op, a0, b0, c0, ins, len) :: K) (hd : decode cc pc = .ok (ins, len))
    (ok : q_opok P I sw own nm cc nL ret Rw K pc 23 a0 b0 c0 ins len = true) (hr : Rel (qo_alen P E ih kk d Rw hs pc a0 b0 c0 K L S h) nc ns) (hJ : qJ N0 b H0 rho tys D h H) (hl : ∀ z ∈ locs, N0 ≤ z.base) (hL : qLoc N0 b rho ls nL L) : W p l e R s m args below meth c H locs nc ns Qf (F0 m pc ls (S.map (q_v N0 b rho))) := by
  obtain ⟨hx, hb, hml, hown, hts, hret, hlocks, hnm, htab, hfr, hlo, htr⟩ := id C
  have hS : va_S (fun q => N0 ≤ q) H0 H locs := ⟨by have := hJ.2.1; have := Wd.2.2.2.2.1; omega, fun q h1 h2 => hJ.1 q (Nat.not_le.mp h2), hl⟩
  unfold qo_alen at hr
  simp only [q_nth_eq, q_set_eq, q_has_eq, q_ln_eq, q_len_eq, q_fz_eq, q_svk_eq] at hr
  split at hr
  · next S' =>
    simp only [q_opok, Bool.and_eq_true, decide_eq_true_eq] at ok
    obtain ⟨ox, o1, o2⟩ := ok
    have o1 := Nat.eq_of_beq_eq_true o1
    subst o1; subst o2
    refine va_slen (A := fun q => N0 ≤ q) hx hb Wd.2.2.1 (by rw [Wd.2.2.2.2.1]; exact Wd.2.2.2.1) (Nat.not_le.mpr Wd.2.2.2.1) hS hd ?_
    have e1 : Int32.ofNat Lx = q_i rho (q_sv E 0) := by
      rw [q_sv_ok hE 0, hX.1]; rfl
    rw [e1]
    exact q_next hk hj ox hr hJ hl hL
  · next r S' =>
    split at hr
    · next o ho =>
      split at hr
      · next hc =>
        simp only [Bool.and_eq_true] at hc
        have hc := Nat.blt_eq.mp hc.2
        simp only [q_opok, Bool.and_eq_true, decide_eq_true_eq] at ok
        obtain ⟨ox, o1, o2⟩ := ok
        have o1 := Nat.eq_of_beq_eq_true o1
        subst o1; subst o2
        obtain ⟨t, o⟩ := o
        dsimp only at hc hr
        obtain ⟨ty, hty⟩ : ∃ ty, q_tys[t]? = some ty := ⟨_, List.getElem?_eq_getElem (show t < q_tys.length from hc)⟩
        have hP := hJ.one ho
        rcases o with f | f | f
        · exact va_alen hx hb Wd.1 hP 0 t rfl (q_ty Wd hty) rfl hd (q_next hk hj ox hr hJ hl hL)
        · exact va_alen hx hb Wd.1 hP 0 t rfl (q_ty Wd hty) rfl hd (q_next hk hj ox hr hJ hl hL)
        · exact va_alen hx hb Wd.1 hP 0 t rfl (q_ty Wd hty) rfl hd (q_next hk hj ox hr hJ hl hL)
      · exact absurd hr (hno _ _ _)
    · exact absurd hr (hno _ _ _)
  · exact absurd hr (hno _ _ _)

theorem qs_iald (C : qCtx p l R s m args meth c own nm cc nL ret hh d) (Wd : qWd N0 b H0 tys D Lx xs s) (hE : qEok E rho) (hX : qScr rho Lx xs) (hk : qKok p l e R s m args below meth c N0 b H0 rho tys D nL Rw Qf Rel kk) (hno : ∀ x nc ns, ¬ Rel (.inr (.inr x)) nc ns) (hadd : qAddR R Rel) (hj : q_drop Rw j = (pc, op, a0, b0, c0, ins, len) :: K) (hd : decode cc pc = .ok (ins, len))
    (ok : q_opok P I sw own nm cc nL ret Rw K pc 24 a0 b0 c0 ins len = true) (hr : Rel (qo_iald P E ih kk d Rw hs pc a0 b0 c0 K L S h) nc ns) (hJ : qJ N0 b H0 rho tys D h H) (hl : ∀ z ∈ locs, N0 ≤ z.base) (hL : qLoc N0 b rho ls nL L) : W p l e R s m args below meth c H locs nc ns Qf (F0 m pc ls (S.map (q_v N0 b rho))) := by
  obtain ⟨hx, hb, hml, hown, hts, hret, hlocks, hnm, htab, hfr, hlo, htr⟩ := id C
  have hS : va_S (fun q => N0 ≤ q) H0 H locs := ⟨by have := hJ.2.1; have := Wd.2.2.2.2.1; omega, fun q h1 h2 => hJ.1 q (Nat.not_le.mp h2), hl⟩
  unfold qo_iald at hr
  simp only [q_nth_eq, q_set_eq, q_has_eq, q_ln_eq, q_len_eq, q_fz_eq, q_svk_eq] at hr
  split at hr
  · next x S' =>
    split at hr
    · next q hq =>
      obtain ⟨j0, g1, g2, g3, g4⟩ := q_ix_ok hE x hq
      split at hr
      · next hc =>
        simp only [Bool.and_eq_true] at hc
        obtain ⟨c1, c2, c3⟩ := hc
        have c1 := Nat.eq_of_beq_eq_true c1
        have c2 := Nat.blt_eq.mp c2
        have c3 := Nat.blt_eq.mp c3
        have hLx : j0 < Lx := by
          have h1 := (q_iv_ok hE (0, [(0, 1)])).1
          have h2 : q_ev rho [(0, 1)] = Lx := by
            show rho 0 * 1 + 0 = Lx
            rw [hX.1]; omega
          rw [h2] at h1
          have h3 := hX.2.1
          unfold q_bz at h1
          omega
        simp only [q_opok, Bool.and_eq_true, decide_eq_true_eq] at ok
        obtain ⟨ox, o1, o2⟩ := ok
        have o1 := Nat.eq_of_beq_eq_true o1
        subst o1; subst o2
        rw [List.map_cons, List.map_cons]
        show W p l e R s m args below meth c H locs nc ns Qf (F0 m pc ls (.int (q_i rho x) :: .ref b :: S'.map (q_v N0 b rho)))
        rw [g1]
        refine va_sld (A := fun q => N0 ≤ q) hx hb Wd.2.2.1 (by rw [Wd.2.2.2.2.1]; exact Wd.2.2.2.1) (Nat.not_le.mpr Wd.2.2.2.1) hS (q_inN hLx g4) hd ?_
        have e1 : xs (nI j0).toNatClampNeg = q_i rho (q_sv E (q.1 + 1)) := by
          rw [nI_clamp g4, q_sv_ok hE (q.1 + 1), ← hX.2.2.1 j0 (by omega)]
          congr 2; omega
        rw [e1]
        exact q_next hk hj ox hr hJ hl hL
      · exact absurd hr (hno _ _ _)
    · exact absurd hr (hno _ _ _)
  · next x r S' =>
    split at hr
    · next v0 ho =>
      split at hr
      · next q hq =>
        obtain ⟨j0, g1, g2, g3, g4⟩ := q_ix_ok hE x hq
        split at hr
        · next v hv =>
          have hv := q_rd_ok (fun z => q_ieq_eq z) hv g2 g3
          simp only [q_opok, Bool.and_eq_true, decide_eq_true_eq] at ok
          obtain ⟨ox, o1, o2⟩ := ok
          have o1 := Nat.eq_of_beq_eq_true o1
          subst o1; subst o2
          show W p l e R s m args below meth c H locs nc ns Qf (F0 m pc ls (.int (q_i rho x) :: .ref (N0 + r) :: S'.map (q_v N0 b rho)))
          rw [g1]
          refine va_iald hx hb Wd.1 (hJ.one ho) 0 0 rfl (q_ty Wd (t := 0) rfl) (q_inN (List.getElem?_eq_some_iff.mp hv).1 g4) hd ?_
          rw [nI_clamp g4, q_getD_some hv]
          exact q_next hk hj ox hr hJ hl hL
        · exact absurd hr (q_ask_no hno)
        · exact absurd hr (hno _ _ _)
      · exact absurd hr (hno _ _ _)
    · exact absurd hr (hno _ _ _)
  · exact absurd hr (hno _ _ _)

theorem qs_aald (C : qCtx p l R s m args meth c own nm cc nL ret hh d) (Wd : qWd N0 b H0 tys D Lx xs s) (hE : qEok E rho) (hX : qScr rho Lx xs) (hk : qKok p l e R s m args below meth c N0 b H0 rho tys D nL Rw Qf Rel kk) (hno : ∀ x nc ns, ¬ Rel (.inr (.inr x)) nc ns) (hadd : qAddR R Rel) (hj : q_drop Rw j = (pc, op, a0, b0, c0, ins, len) :: K) (hd : decode cc pc = .ok (ins, len))
    (ok : q_opok P I sw own nm cc nL ret Rw K pc 28 a0 b0 c0 ins len = true) (hr : Rel (qo_aald P E ih kk d Rw hs pc a0 b0 c0 K L S h) nc ns) (hJ : qJ N0 b H0 rho tys D h H) (hl : ∀ z ∈ locs, N0 ≤ z.base) (hL : qLoc N0 b rho ls nL L) : W p l e R s m args below meth c H locs nc ns Qf (F0 m pc ls (S.map (q_v N0 b rho))) := by
  obtain ⟨hx, hb, hml, hown, hts, hret, hlocks, hnm, htab, hfr, hlo, htr⟩ := id C
  unfold qo_aald at hr
  simp only [q_nth_eq, q_set_eq, q_has_eq, q_ln_eq, q_len_eq, q_fz_eq, q_svk_eq] at hr
  split at hr
  · next x r S' =>
    split at hr
    · next t l0 ho =>
      split at hr
      · next q hq =>
        obtain ⟨j0, g1, g2, g3, g4⟩ := q_ix_ok hE x hq
        split at hr
        · next hc =>
          simp only [Bool.and_eq_true] at hc
          obtain ⟨C, hC⟩ := q_tys_obj (Nat.blt_eq.mp hc.1) (Nat.blt_eq.mp hc.2)
          split at hr
          · next v hv =>
            have hv := q_rd_ok (fun z => q_oeq_iff.mp z) hv g2 g3
            simp only [q_opok, Bool.and_eq_true, decide_eq_true_eq] at ok
            obtain ⟨ox, o1, o2⟩ := ok
            have o1 := Nat.eq_of_beq_eq_true o1
            subst o1; subst o2
            show W p l e R s m args below meth c H locs nc ns Qf (F0 m pc ls (.int (q_i rho x) :: .ref (N0 + r) :: S'.map (q_v N0 b rho)))
            rw [g1]
            refine va_aldq hx hb Wd.1 (hJ.one ho) 0 t rfl (q_ty Wd hC) (q_inN (List.getElem?_eq_some_iff.mp hv).1 g4) hd ?_
            rw [nI_clamp g4, q_getD_some hv]
            exact q_next hk hj ox hr hJ hl hL
          · exact absurd hr (q_ask_no hno)
          · exact absurd hr (hno _ _ _)
        · exact absurd hr (hno _ _ _)
      · exact absurd hr (hno _ _ _)
    · exact absurd hr (hno _ _ _)
  · exact absurd hr (hno _ _ _)

theorem qs_lald (C : qCtx p l R s m args meth c own nm cc nL ret hh d) (Wd : qWd N0 b H0 tys D Lx xs s) (hE : qEok E rho) (hX : qScr rho Lx xs) (hk : qKok p l e R s m args below meth c N0 b H0 rho tys D nL Rw Qf Rel kk) (hno : ∀ x nc ns, ¬ Rel (.inr (.inr x)) nc ns) (hadd : qAddR R Rel) (hj : q_drop Rw j = (pc, op, a0, b0, c0, ins, len) :: K) (hd : decode cc pc = .ok (ins, len))
    (ok : q_opok P I sw own nm cc nL ret Rw K pc 26 a0 b0 c0 ins len = true) (hr : Rel (qo_lald P E ih kk d Rw hs pc a0 b0 c0 K L S h) nc ns) (hJ : qJ N0 b H0 rho tys D h H) (hl : ∀ z ∈ locs, N0 ≤ z.base) (hL : qLoc N0 b rho ls nL L) : W p l e R s m args below meth c H locs nc ns Qf (F0 m pc ls (S.map (q_v N0 b rho))) := by
  obtain ⟨hx, hb, hml, hown, hts, hret, hlocks, hnm, htab, hfr, hlo, htr⟩ := id C
  unfold qo_lald at hr
  simp only [q_nth_eq, q_set_eq, q_has_eq, q_ln_eq, q_len_eq, q_fz_eq, q_svk_eq] at hr
  split at hr
  · next x r S' =>
    split at hr
    · next l0 ho =>
      split at hr
      · next q hq =>
        obtain ⟨j0, g1, g2, g3, g4⟩ := q_ix_ok hE x hq
        split at hr
        · next hc =>
          have hc := Nat.eq_of_beq_eq_true hc
          split at hr
          · next v hv =>
            have hj0 : j0 = q.1 := by omega
            subst hj0
            simp only [q_opok, Bool.and_eq_true, decide_eq_true_eq] at ok
            obtain ⟨ox, o1, o2⟩ := ok
            have o1 := Nat.eq_of_beq_eq_true o1
            subst o1; subst o2
            show W p l e R s m args below meth c H locs nc ns Qf (F0 m pc ls (.int (q_i rho x) :: .ref (N0 + r) :: S'.map (q_v N0 b rho)))
            rw [g1]
            refine va_lald hx hb Wd.1 (hJ.one ho) 0 1 rfl (q_ty Wd (t := 1) rfl) (q_inN (List.getElem?_eq_some_iff.mp hv).1 g4) hd ?_
            rw [nI_clamp g4, q_getD_some hv]
            exact q_next hk hj ox hr hJ hl hL
          · exact absurd hr (hno _ _ _)
        · exact absurd hr (hno _ _ _)
      · exact absurd hr (hno _ _ _)
    · exact absurd hr (hno _ _ _)
  · exact absurd hr (hno _ _ _)

theorem qs_iast (C : qCtx p l R s m args meth c own nm cc nL ret hh d) (Wd : qWd N0 b H0 tys D Lx xs s) (hE : qEok E rho) (hX : qScr rho Lx xs) (hk : qKok p l e R s m args below meth c N0 b H0 rho tys D nL Rw Qf Rel kk) (hno : ∀ x nc ns, ¬ Rel (.inr (.inr x)) nc ns) (hadd : qAddR R Rel) (hj : q_drop Rw j = (pc, op, a0, b0, c0, ins, len) :: K) (hd : decode cc pc = .ok (ins, len))
    (ok : q_opok P I sw own nm cc nL ret Rw K pc 25 a0 b0 c0 ins len = true) (hr : Rel (qo_iast P E ih kk d Rw hs pc a0 b0 c0 K L S h) nc ns) (hJ : qJ N0 b H0 rho tys D h H) (hl : ∀ z ∈ locs, N0 ≤ z.base) (hL : qLoc N0 b rho ls nL L) : W p l e R s m args below meth c H locs nc ns Qf (F0 m pc ls (S.map (q_v N0 b rho))) := by
  obtain ⟨hx, hb, hml, hown, hts, hret, hlocks, hnm, htab, hfr, hlo, htr⟩ := id C
  unfold qo_iast at hr
  simp only [q_nth_eq, q_set_eq, q_has_eq, q_ln_eq, q_len_eq, q_fz_eq, q_svk_eq] at hr
  split at hr
  · next v x r S' =>
    split at hr
    · next l0 ho =>
      split at hr
      · next q hq =>
        obtain ⟨j0, g1, g2, g3, g4⟩ := q_ix_ok hE x hq
        split at hr
        · next hc =>
          have hc := Nat.eq_of_beq_eq_true hc
          split at hr
          · next hlen =>
            have hlen := Nat.blt_eq.mp hlen
            have hj0 : j0 = q.1 := by omega
            subst hj0
            simp only [q_opok, Bool.and_eq_true, decide_eq_true_eq] at ok
            obtain ⟨ox, o1, o2⟩ := ok
            have o1 := Nat.eq_of_beq_eq_true o1
            subst o1; subst o2
            show W p l e R s m args below meth c H locs nc ns Qf (F0 m pc ls (.int (q_i rho v) :: .int (q_i rho x) :: .ref (N0 + r) :: S'.map (q_v N0 b rho)))
            rw [g1]
            have hcell := hJ.2.2.2 r _ ho
            have hty := q_ty Wd (t := 0) rfl
            refine W.iast hx hb hcell ((Wd.1.2 0 _ hty).1 l0.length (fun j => .int (q_i rho (l0.getD j (0, []))))) (fun q => by cases q) (by show ¬ (_ ∨ (arrV _ _ _).slots.size ≤ _); rw [arrV_size]; exact q_inN hlen g4) rfl rfl hd fun H1 e1 z oq => ?_
            refine q_next hk hj ox hr (hJ.set ho z oq ?_) (q_bases hl rfl) hL
            rw [nI_clamp g4] at e1
            refine Eq.trans e1 (congrArg some ?_)
            show (vp_cell _ _).setSlot _ _ = vp_cell _ _
            rw [vp_cell_i, vp_cell_i, arrV_store, List.length_set]
            congr 1
            funext j1
            rw [q_getD_set hlen]
            by_cases hq : j1 = q.1
            · subst hq; simp [updV]
            · simp [updV, hq]
          · exact absurd hr (hno _ _ _)
        · exact absurd hr (q_ask_no hno)
      · exact absurd hr (hno _ _ _)
    · exact absurd hr (hno _ _ _)
  · exact absurd hr (hno _ _ _)

theorem qs_last (C : qCtx p l R s m args meth c own nm cc nL ret hh d) (Wd : qWd N0 b H0 tys D Lx xs s) (hE : qEok E rho) (hX : qScr rho Lx xs) (hk : qKok p l e R s m args below meth c N0 b H0 rho tys D nL Rw Qf Rel kk) (hno : ∀ x nc ns, ¬ Rel (.inr (.inr x)) nc ns) (hadd : qAddR R Rel) (hj : q_drop Rw j = (pc, op, a0, b0, c0, ins, len) :: K) (hd : decode cc pc = .ok (ins, len))
    (ok : q_opok P I sw own nm cc nL ret Rw K pc 27 a0 b0 c0 ins len = true) (hr : Rel (qo_last P E ih kk d Rw hs pc a0 b0 c0 K L S h) nc ns) (hJ : qJ N0 b H0 rho tys D h H) (hl : ∀ z ∈ locs, N0 ≤ z.base) (hL : qLoc N0 b rho ls nL L) : W p l e R s m args below meth c H locs nc ns Qf (F0 m pc ls (S.map (q_v N0 b rho))) := by
  obtain ⟨hx, hb, hml, hown, hts, hret, hlocks, hnm, htab, hfr, hlo, htr⟩ := id C
  unfold qo_last at hr
  simp only [q_nth_eq, q_set_eq, q_has_eq, q_ln_eq, q_len_eq, q_fz_eq, q_svk_eq] at hr
  split at hr
  · next v x r S' =>
    split at hr
    · next l0 ho =>
      split at hr
      · next q hq =>
        obtain ⟨j0, g1, g2, g3, g4⟩ := q_ix_ok hE x hq
        split at hr
        · next hc =>
          simp only [Bool.and_eq_true] at hc
          have hlen := Nat.blt_eq.mp hc.2
          have hc := Nat.eq_of_beq_eq_true hc.1
          have hj0 : j0 = q.1 := by omega
          subst hj0
          simp only [q_opok, Bool.and_eq_true, decide_eq_true_eq] at ok
          obtain ⟨ox, o1, o2⟩ := ok
          have o1 := Nat.eq_of_beq_eq_true o1
          subst o1; subst o2
          show W p l e R s m args below meth c H locs nc ns Qf (F0 m pc ls (.long (q_l v) :: .int (q_i rho x) :: .ref (N0 + r) :: S'.map (q_v N0 b rho)))
          rw [g1]
          have hcell := hJ.2.2.2 r _ ho
          have hty := q_ty Wd (t := 1) rfl
          refine W.last hx hb hcell ((Wd.1.2 1 _ hty).1 l0.length (fun j => .long (q_l (l0.getD j 0)))) (fun q => by cases q) (by show ¬ (_ ∨ (arrV _ _ _).slots.size ≤ _); rw [arrV_size]; exact q_inN hlen g4) rfl rfl hd fun H1 e1 z oq => ?_
          refine q_next hk hj ox hr (hJ.set ho z oq ?_) (q_bases hl rfl) hL
          rw [nI_clamp g4] at e1
          refine Eq.trans e1 (congrArg some ?_)
          show (vp_cell _ _).setSlot _ _ = vp_cell _ _
          rw [vp_cell_l, vp_cell_l, arrV_store, List.length_set]
          congr 1
          funext j1
          rw [q_getD_set hlen]
          by_cases hq : j1 = q.1
          · subst hq; simp [updV]
          · simp [updV, hq]
        · exact absurd hr (hno _ _ _)
      · exact absurd hr (hno _ _ _)
    · exact absurd hr (hno _ _ _)
  · exact absurd hr (hno _ _ _)

theorem qs_aast (C : qCtx p l R s m args meth c own nm cc nL ret hh d) (Wd : qWd N0 b H0 tys D Lx xs s) (hE : qEok E rho) (hX : qScr rho Lx xs) (hk : qKok p l e R s m args below meth c N0 b H0 rho tys D nL Rw Qf Rel kk) (hno : ∀ x nc ns, ¬ Rel (.inr (.inr x)) nc ns) (hadd : qAddR R Rel) (hj : q_drop Rw j = (pc, op, a0, b0, c0, ins, len) :: K) (hd : decode cc pc = .ok (ins, len))
    (ok : q_opok P I sw own nm cc nL ret Rw K pc 29 a0 b0 c0 ins len = true) (hr : Rel (qo_aast P E ih kk d Rw hs pc a0 b0 c0 K L S h) nc ns) (hJ : qJ N0 b H0 rho tys D h H) (hl : ∀ z ∈ locs, N0 ≤ z.base) (hL : qLoc N0 b rho ls nL L) : W p l e R s m args below meth c H locs nc ns Qf (F0 m pc ls (S.map (q_v N0 b rho))) := by
  obtain ⟨hx, hb, hml, hown, hts, hret, hlocks, hnm, htab, hfr, hlo, htr⟩ := id C
  unfold qo_aast at hr
  simp only [q_nth_eq, q_set_eq, q_has_eq, q_ln_eq, q_len_eq, q_fz_eq, q_svk_eq] at hr
  split at hr
  · next v x r S' =>
    split at hr
    · next t l0 ho =>
      split at hr
      · next q hq =>
        obtain ⟨j0, g1, g2, g3, g4⟩ := q_ix_ok hE x hq
        split at hr
        · next hc =>
          simp only [Bool.and_eq_true] at hc
          have hlen := Nat.blt_eq.mp hc.2
          have hE9 := q_isE_ok hc.1
          split at hr
          · next hc =>
            have hc := Nat.eq_of_beq_eq_true hc
            have hj0 : j0 = q.1 := by omega
            subst hj0
            simp only [q_opok, Bool.and_eq_true, decide_eq_true_eq] at ok
            obtain ⟨ox, o1, o2⟩ := ok
            have o1 := Nat.eq_of_beq_eq_true o1
            subst o1; subst o2
            rcases hE9 with ⟨hvn, ht1, ht2⟩ | ⟨rv, ci, vs, hv1, hv2, hv3⟩
            · subst hvn
              show W p l e R s m args below meth c H locs nc ns Qf (F0 m pc ls (.null :: .int (q_i rho x) :: .ref (N0 + r) :: S'.map (q_v N0 b rho)))
              rw [g1]
              have hcell := hJ.2.2.2 r _ ho
              obtain ⟨C9, hC9⟩ := q_tyO ht1 ht2
              have hty := q_ty Wd hC9
              refine va_WaastN hx hb hcell ((Wd.1.2 t _ hty).1 l0.length (fun j => va_rf (q_r N0 b (l0.getD j none)))) (fun q => by cases q) (by show ¬ (_ ∨ (arrV _ _ _).slots.size ≤ _); rw [arrV_size]; exact q_inN hlen g4) rfl rfl hd fun H1 e1 z oq => ?_
              refine q_next hk hj ox hr (hJ.set ho z oq ?_) (q_bases hl rfl) hL
              rw [nI_clamp g4] at e1
              refine Eq.trans e1 (congrArg some ?_)
              show (vp_cell _ _).setSlot _ _ = vp_cell _ _
              rw [vp_cell_q, vp_cell_q, arrV_store, List.length_set]
              congr 1
              funext j1
              rw [q_getD_set hlen]
              by_cases hq : j1 = q.1
              · subst hq; simp [updV, q_r, q_ad, va_rf]
              · simp [updV, hq]
            · subst hv1
              show W p l e R s m args below meth c H locs nc ns Qf (F0 m pc ls (.ref (N0 + rv) :: .int (q_i rho x) :: .ref (N0 + r) :: S'.map (q_v N0 b rho)))
              rw [g1]
              have hcell := hJ.2.2.2 r _ ho
              obtain ⟨r', hr', cellV, k1, k2, k3, -⟩ := hJ.2.2.2 rv _ hv2
              obtain ⟨rc, hrc, hty0⟩ := q_elem_ok hv3 ⟨r', hr'⟩
              have hty := q_ty Wd hty0
              have hcls := (Wd.1.1 ci rc hrc).2
              obtain ⟨kA, comp, m1, m2, m3, -⟩ := (Wd.1.2 t _ hty).2
              have hcomp : comp = D.1 ci := Option.some.inj (m3.symm.trans hcls.1)
              subst hcomp
              obtain ⟨kC, hkC, -⟩ := hcls.2
              refine W.aast hx hb hcell (fun q h => by cases h) (fun h => by cases h) m1 m2 rfl hkC ⟨nI_pos g4, by show _ < (arrV _ _ _).slots.size; rw [arrV_size, nI_clamp g4]; exact hlen⟩ k1 (fun q h => by rw [k3] at h; cases h) (by rw [k2]; exact hkC) (by rw [k2]; exact va_assign hcls) rfl rfl hd fun H1 e1 z oq => ?_
              refine q_next hk hj ox hr (hJ.set ho z oq ?_) (q_bases hl rfl) hL
              rw [nI_clamp g4] at e1
              refine Eq.trans e1 (congrArg some ?_)
              show (vp_cell _ _).setSlot _ _ = vp_cell _ _
              rw [vp_cell_q, vp_cell_q, arrV_store, List.length_set]
              congr 1
              funext j1
              rw [q_getD_set hlen]
              by_cases hq : j1 = q.1
              · subst hq; simp [updV, q_r, q_ad, va_rf]
              · simp [updV, hq]
          · exact absurd hr (q_ask_no hno)
        · exact absurd hr (hno _ _ _)
      · exact absurd hr (hno _ _ _)
    · exact absurd hr (hno _ _ _)
  · exact absurd hr (hno _ _ _)

theorem qs_newa (C : qCtx p l R s m args meth c own nm cc nL ret hh d) (Wd : qWd N0 b H0 tys D Lx xs s) (hE : qEok E rho) (hX : qScr rho Lx xs) (hk : qKok p l e R s m args below meth c N0 b H0 rho tys D nL Rw Qf Rel kk) (hno : ∀ x nc ns, ¬ Rel (.inr (.inr x)) nc ns) (hadd : qAddR R Rel) (hj : q_drop Rw j = (pc, op, a0, b0, c0, ins, len) :: K) (hd : decode cc pc = .ok (ins, len))
    (ok : q_opok P I sw own nm cc nL ret Rw K pc 30 a0 b0 c0 ins len = true) (hr : Rel (qo_newa P E ih kk d Rw hs pc a0 b0 c0 K L S h) nc ns) (hJ : qJ N0 b H0 rho tys D h H) (hl : ∀ z ∈ locs, N0 ≤ z.base) (hL : qLoc N0 b rho ls nL L) : W p l e R s m args below meth c H locs nc ns Qf (F0 m pc ls (S.map (q_v N0 b rho))) := by
  obtain ⟨hx, hb, hml, hown, hts, hret, hlocks, hnm, htab, hfr, hlo, htr⟩ := id C
  simp only [q_opok, Bool.and_eq_true] at ok
  obtain ⟨ox, o1, ok⟩ := ok
  have o1 := Nat.eq_of_beq_eq_true o1
  subst o1
  unfold qo_newa at hr
  split at hr
  · next n S' =>
    split at hr
    · next hc =>
      simp only [Bool.and_eq_true] at hc
      obtain ⟨hc0, hc1, hc2⟩ := hc
      have hc0 := q_isc_eq hc0
      have hc2 := Nat.blt_eq.mp hc2
      show W p l e R s m args below meth c H locs nc ns Qf (F0 m pc ls (.int (q_i rho n) :: S'.map (q_v N0 b rho)))
      have hni : q_i rho n = nI n.1 := by unfold q_i; rw [hc0]; rfl
      rw [hni]
      split at hr
      · rw [q_add_eq] at hr
        obtain ⟨hr, h1, h2⟩ := hadd _ _ _ _ _ hr
        simp only [Bool.and_eq_true, decide_eq_true_eq] at ok
        obtain ⟨ok1, ok2⟩ := ok
        subst ok1
        have hcb : componentBytes (newarray.typeOf .int) ≤ 8 := by decide
        refine va_newaK (atype := .int) (N := n.1) hx hb (hts _ (q_w_in ok2).1) rfl hd rfl (nI_pos (by omega)) (nI_clamp (by omega)) (Nat.le_trans (Nat.mul_le_mul_left _ hcb) (by omega)) h1 h2 rfl fun H1 cA e1 z o _ hfc => ?_
        have hcA : cA = q_cA tys 0 := by
          have h3 := (Wd.1.2 0 _ (q_ty Wd (t := 0) rfl)).2
          exact Option.some.inj (hfc.symm.trans h3)
        have hn := q_next (locs := locs) (ls := ls) hk hj ox hr (hJ.push (x := .inl (0, .inl (List.replicate n.1 (0, [])))) hc1 z o ?_) hl hL
        · have hsz := hJ.2.2.1 hc1
          rw [hsz]
          exact hn
        · rw [hcA] at e1
          refine e1.trans (congrArg some ?_)
          show _ = vp_cell _ _
          rw [vp_cell_i, List.length_replicate]
          congr 1
          funext j1
          rw [q_getD_rep]
          rfl
      · rw [q_add_eq] at hr
        obtain ⟨hr, h1, h2⟩ := hadd _ _ _ _ _ hr
        simp only [Bool.and_eq_true, decide_eq_true_eq] at ok
        obtain ⟨ok1, ok2⟩ := ok
        subst ok1
        have hcb : componentBytes (newarray.typeOf .long) ≤ 8 := by decide
        refine va_newaK (atype := .long) (N := n.1) hx hb (hts _ (q_w_in ok2).1) rfl hd rfl (nI_pos (by omega)) (nI_clamp (by omega)) (Nat.le_trans (Nat.mul_le_mul_left _ hcb) (by omega)) h1 h2 rfl fun H1 cA e1 z o _ hfc => ?_
        have hcA : cA = q_cA tys 1 := by
          have h3 := (Wd.1.2 1 _ (q_ty Wd (t := 1) rfl)).2
          exact Option.some.inj (hfc.symm.trans h3)
        have hn := q_next (locs := locs) (ls := ls) hk hj ox hr (hJ.push (x := .inl (1, .inr (.inl (List.replicate n.1 0)))) hc1 z o ?_) hl hL
        · have hsz := hJ.2.2.1 hc1
          rw [hsz]
          exact hn
        · rw [hcA] at e1
          refine e1.trans (congrArg some ?_)
          show _ = vp_cell _ _
          rw [vp_cell_l, List.length_replicate]
          congr 1
          funext j1
          rw [q_getD_rep]
          rfl
      · exact absurd hr (hno _ _ _)
    · exact absurd hr (hno _ _ _)
  · exact absurd hr (hno _ _ _)

theorem qs_anew (C : qCtx p l R s m args meth c own nm cc nL ret hh d) (Wd : qWd N0 b H0 tys D Lx xs s) (hE : qEok E rho) (hX : qScr rho Lx xs) (hk : qKok p l e R s m args below meth c N0 b H0 rho tys D nL Rw Qf Rel kk) (hno : ∀ x nc ns, ¬ Rel (.inr (.inr x)) nc ns) (hadd : qAddR R Rel) (hj : q_drop Rw j = (pc, op, a0, b0, c0, ins, len) :: K) (hd : decode cc pc = .ok (ins, len))
    (ok : q_opok P I sw own nm cc nL ret Rw K pc 31 a0 b0 c0 ins len = true) (hr : Rel (qo_anew P E ih kk d Rw hs pc a0 b0 c0 K L S h) nc ns) (hJ : qJ N0 b H0 rho tys D h H) (hl : ∀ z ∈ locs, N0 ≤ z.base) (hL : qLoc N0 b rho ls nL L) : W p l e R s m args below meth c H locs nc ns Qf (F0 m pc ls (S.map (q_v N0 b rho))) := by
  obtain ⟨hx, hb, hml, hown, hts, hret, hlocks, hnm, htab, hfr, hlo, htr⟩ := id C
  simp only [q_opok, Bool.and_eq_true] at ok
  obtain ⟨ox, ok⟩ := ok
  split at ok
  all_goals first | (cases ok; done) | skip
  next idx =>
  simp only [Bool.and_eq_true] at ok
  obtain ⟨o1, oa, oa2, ok⟩ := ok
  have o1 := Nat.eq_of_beq_eq_true o1
  subst o1
  have oa := Nat.blt_eq.mp oa
  split at ok
  all_goals first | (cases ok; done) | skip
  next C hC =>
  rw [q_nth_eq] at hC
  unfold qo_anew at hr
  split at hr
  · next n S' =>
    split at hr
    · next hc =>
      simp only [Bool.and_eq_true] at hc
      obtain ⟨hc0, hc1, hc2⟩ := hc
      have hc0 := q_isc_eq hc0
      have hc2 := Nat.blt_eq.mp hc2
      show W p l e R s m args below meth c H locs nc ns Qf (F0 m pc ls (.int (q_i rho n) :: S'.map (q_v N0 b rho)))
      have hni : q_i rho n = nI n.1 := by unfold q_i; rw [hc0]; rfl
      rw [hni]
      rw [q_add_eq] at hr
      obtain ⟨hr, h1, h2⟩ := hadd _ _ _ _ _ hr
      have hcl : (nI n.1).toNatClampNeg = n.1 := nI_clamp (by omega)
      refine W.anew (n := nI n.1) hx hb hown (hts _ (q_w_in ok).1) ((Wd.2.2.2.2.2.2.2.2.2.2.1 a0 C oa hC).use) rfl hd rfl (nI_pos (by omega)) (by rw [hcl]; omega) h1 (by rw [hcl]; exact h2) fun cA kA comp f1 f2 f3 f4 => ?_
      rw [hcl]
      have hcA : cA = q_cA tys a0 := by
        obtain ⟨kA', comp', _, _, _, h3⟩ := (Wd.1.2 a0 _ (q_ty Wd hC)).2
        exact Option.some.inj (f1.symm.trans h3)
      have hn := q_next (locs := locs) (ls := ls) hk hj ox hr (hJ.push (H1 := H.push { cls := cA, slots := Array.replicate n.1 .null, vm := .none }) (x := .inl (a0, .inr (.inr (List.replicate n.1 none)))) hc1 (Array.size_push ..) (fun q hq => by rw [Array.getElem?_push, if_neg (Nat.ne_of_lt hq)]) ?_) hl hL
      · have hsz := hJ.2.2.1 hc1
        rw [hsz]
        exact hn
      · show (H.push _)[H.size]? = _
        rw [Array.getElem?_push_size, hcA]
        refine congrArg some ?_
        show _ = vp_cell _ _
        rw [vp_cell_q, List.length_replicate, arrV_new]
        congr 1
        funext j1
        rw [q_getD_rep]
        rfl
    · exact absurd hr (hno _ _ _)
  · exact absurd hr (hno _ _ _)

theorem qs_new (C : qCtx p l R s m args meth c own nm cc nL ret hh d) (Wd : qWd N0 b H0 tys D Lx xs s) (hE : qEok E rho) (hX : qScr rho Lx xs) (hk : qKok p l e R s m args below meth c N0 b H0 rho tys D nL Rw Qf Rel kk) (hno : ∀ x nc ns, ¬ Rel (.inr (.inr x)) nc ns) (hadd : qAddR R Rel) (hj : q_drop Rw j = (pc, op, a0, b0, c0, ins, len) :: K) (hd : decode cc pc = .ok (ins, len))
    (ok : q_opok P I sw own nm cc nL ret Rw K pc 33 a0 b0 c0 ins len = true) (hr : Rel (qo_new P E ih kk d Rw hs pc a0 b0 c0 K L S h) nc ns) (hJ : qJ N0 b H0 rho tys D h H) (hl : ∀ z ∈ locs, N0 ≤ z.base) (hL : qLoc N0 b rho ls nL L) : W p l e R s m args below meth c H locs nc ns Qf (F0 m pc ls (S.map (q_v N0 b rho))) := by
  obtain ⟨hx, hb, hml, hown, hts, hret, hlocks, hnm, htab, hfr, hlo, htr⟩ := id C
  simp only [q_opok, Bool.and_eq_true] at ok
  obtain ⟨ox, ok⟩ := ok
  split at ok
  all_goals first | (cases ok; done) | skip
  next idx =>
  simp only [Bool.and_eq_true] at ok
  obtain ⟨o1, ok⟩ := ok
  have o1 := Nat.eq_of_beq_eq_true o1
  subst o1
  split at ok
  all_goals first | (cases ok; done) | skip
  next C T N hcl =>
  split at ok
  all_goals first | (cases ok; done) | skip
  next fl hfl =>
  split at ok
  all_goals first | (cases ok; done) | skip
  next ji hji =>
  simp only [Bool.and_eq_true, decide_eq_true_eq] at ok
  obtain ⟨oty, ow1, ow2, ow3⟩ := ok
  rw [q_nth_eq] at hcl
  obtain ⟨g1, g2, ty0, g3⟩ := q_cl a0 _ hcl
  have hlen : fl.length = N := by
    have := congrArg List.length oty
    simpa using this.symm
  unfold qo_new at hr
  rw [hfl] at hr
  split at hr
  · next hc1 =>
    dsimp only at hr
    rw [q_add_eq] at hr
    obtain ⟨hr, h1, h2⟩ := hadd _ _ _ _ _ hr
    have hKn := Wd.1.1 a0 _ hcl
    rw [hlen] at hr h2
    refine W.newcK hx hb hown (hts _ (q_w_in ow1).1) (hts _ (q_w_in ow2).1) (hts _ (q_w_in ow3).1) rfl hd h1 h2 hKn.2.1 rfl fun H1 kC hkC e1 z o => ?_
    have hn := q_next (locs := locs) (ls := ls) hk hj ox hr (hJ.push (x := .inr (a0, fl.map q_dv)) hc1 z o ?_) hl hL
    · have hsz := hJ.2.2.1 hc1
      rw [hsz]
      exact hn
    · refine ⟨_, hcl, (u_born ty0 hts (q_TBLin (own := own) g1) hKn hkC e1 g3).to (fun k hk => ?_)⟩
      have h5 := congrArg (fun z : List (Option Nat) => z[k]?) oty
      simp only [List.getElem?_map, List.getElem?_range hk, Option.map_some] at h5
      have h6 : k < fl.length := by rw [hlen]; exact hk
      rw [List.getElem?_eq_getElem h6, Option.map_some, g3 k hk, Option.map_some] at h5
      have h7 : q_tc (ty0 k) = fl[k] := Option.some.inj (Option.some.inj h5)
      have h8 : vp_V ((fl.map q_dv).map (q_v N0 b rho)) k = q_v N0 b rho (q_dv fl[k]) := by
        unfold vp_V
        rw [List.getD_eq_getElem?_getD, List.getElem?_map, List.getElem?_map, List.getElem?_eq_getElem h6]
        rfl
      show defaultValue (ty0 k) = _
      rw [h8, ← h7]
      exact q_dv_ok _ (by rw [h7]; exact q_fty_ok hfl h6)
  · exact absurd hr (hno _ _ _)

theorem qs_objinit (C : qCtx p l R s m args meth c own nm cc nL ret hh d) (Wd : qWd N0 b H0 tys D Lx xs s) (hE : qEok E rho) (hX : qScr rho Lx xs) (hk : qKok p l e R s m args below meth c N0 b H0 rho tys D nL Rw Qf Rel kk) (hno : ∀ x nc ns, ¬ Rel (.inr (.inr x)) nc ns) (hadd : qAddR R Rel) (hj : q_drop Rw j = (pc, op, a0, b0, c0, ins, len) :: K) (hd : decode cc pc = .ok (ins, len))
    (ok : q_opok P I sw own nm cc nL ret Rw K pc 34 a0 b0 c0 ins len = true) (hr : Rel (qo_objinit P E ih kk d Rw hs pc a0 b0 c0 K L S h) nc ns) (hJ : qJ N0 b H0 rho tys D h H) (hl : ∀ z ∈ locs, N0 ≤ z.base) (hL : qLoc N0 b rho ls nL L) : W p l e R s m args below meth c H locs nc ns Qf (F0 m pc ls (S.map (q_v N0 b rho))) := by
  obtain ⟨hx, hb, hml, hown, hts, hret, hlocks, hnm, htab, hfr, hlo, htr⟩ := id C
  simp only [q_opok, Bool.and_eq_true] at ok
  obtain ⟨ox, ok⟩ := ok
  split at ok
  all_goals first | (cases ok; done) | skip
  next idx =>
  simp only [Bool.and_eq_true] at ok
  obtain ⟨o1, ow1, ow2, ow3⟩ := ok
  have o1 := Nat.eq_of_beq_eq_true o1
  subst o1
  unfold qo_objinit at hr
  split at hr
  · next r S' =>
    split at hr
    · next hc =>
      simp only [Bool.and_eq_true] at hc
      have h1 := Nat.le_of_ble_eq_true hc.1
      have h2 := Nat.blt_eq.mp hc.2
      refine W.objInit hx hb hown (hts _ (q_w_in ow1).1) (hts _ (q_w_in ow2).1) (hts _ (q_w_in ow3).1) rfl (by rw [hml]; exact hL.1) rfl hd (by omega) ?_ ?_
      · show 0 + ((S'.map (q_v N0 b rho)).map fun v => v.category).sum + 12 ≤ R.locals
        rw [q_cats]
        omega
      · exact q_next hk hj ox hr hJ hl hL
    · exact absurd hr (hno _ _ _)
  · exact absurd hr (hno _ _ _)
end QH
end
