section
-- ===== PART A: goes FIRST, ahead of the names: the tables' words, and 'selects' of the private methods out of them =====
/-- a private method of a class that the tables say can be made, by its rows of tables_1 -/
def lw_okq (q : MethodName × Nat) : Prop := (q.1.cls ≠ "java/lang/invoke/MethodHandle" ∧ q.1.cls ≠ "java/lang/invoke/VarHandle") ∧ Cond.instantiable q.1.cls q.2 ∈ tables_1 ∧ Cond.privateMethod q.1 ∈ tables_1 ∧ Cond.instanceMethod q.1 ∈ tables_1
theorem lw_p0 : lw_okq (⟨"SliceDepot$Tree", "isChild", "(II)Z"⟩, 4) := ⟨⟨by decide +kernel, by decide +kernel⟩, List.mem_of_getElem? (i := 104) (by decide +kernel), List.mem_of_getElem? (i := 184) (by decide +kernel), List.mem_of_getElem? (i := 185) (by decide +kernel)⟩
theorem lw_p1 : lw_okq (⟨"SliceDepot$Tree", "liesIn", "(II)Z"⟩, 4) := ⟨⟨by decide +kernel, by decide +kernel⟩, List.mem_of_getElem? (i := 104) (by decide +kernel), List.mem_of_getElem? (i := 249) (by decide +kernel), List.mem_of_getElem? (i := 250) (by decide +kernel)⟩
theorem lw_p2 : lw_okq (⟨"SliceDepot", "freeImage", "()I"⟩, 10) := ⟨⟨by decide +kernel, by decide +kernel⟩, List.mem_of_getElem? (i := 12) (by decide +kernel), List.mem_of_getElem? (i := 261) (by decide +kernel), List.mem_of_getElem? (i := 262) (by decide +kernel)⟩
theorem lw_p3 : lw_okq (⟨"SliceDepot", "imageNumbered", "(I)LSliceDepot$PieceList;"⟩, 10) := ⟨⟨by decide +kernel, by decide +kernel⟩, List.mem_of_getElem? (i := 12) (by decide +kernel), List.mem_of_getElem? (i := 265) (by decide +kernel), List.mem_of_getElem? (i := 266) (by decide +kernel)⟩
theorem lw_p4 : lw_okq (⟨"SliceDepot$Tree", "childBehind", "(II)I"⟩, 4) := ⟨⟨by decide +kernel, by decide +kernel⟩, List.mem_of_getElem? (i := 104) (by decide +kernel), List.mem_of_getElem? (i := 277) (by decide +kernel), List.mem_of_getElem? (i := 278) (by decide +kernel)⟩
theorem lw_p5 : lw_okq (⟨"SliceDepot$Tree", "writeFile", "(ILSliceDepot$Bytes;)V"⟩, 4) := ⟨⟨by decide +kernel, by decide +kernel⟩, List.mem_of_getElem? (i := 104) (by decide +kernel), List.mem_of_getElem? (i := 286) (by decide +kernel), List.mem_of_getElem? (i := 287) (by decide +kernel)⟩
theorem lw_p6 : lw_okq (⟨"SliceDepot$Cutter", "isEnd", "(LSliceDepot$Bytes;II)Z"⟩, 3) := ⟨⟨by decide +kernel, by decide +kernel⟩, List.mem_of_getElem? (i := 20) (by decide +kernel), List.mem_of_getElem? (i := 308) (by decide +kernel), List.mem_of_getElem? (i := 309) (by decide +kernel)⟩
theorem lw_p7 : lw_okq (⟨"SliceDepot", "idsNewToStore", "(LSliceDepot$PieceList;)I"⟩, 10) := ⟨⟨by decide +kernel, by decide +kernel⟩, List.mem_of_getElem? (i := 12) (by decide +kernel), List.mem_of_getElem? (i := 336) (by decide +kernel), List.mem_of_getElem? (i := 337) (by decide +kernel)⟩
theorem lw_p8 : lw_okq (⟨"SliceDepot", "storePieces", "(LSliceDepot$PieceList;)V"⟩, 10) := ⟨⟨by decide +kernel, by decide +kernel⟩, List.mem_of_getElem? (i := 12) (by decide +kernel), List.mem_of_getElem? (i := 357) (by decide +kernel), List.mem_of_getElem? (i := 358) (by decide +kernel)⟩
theorem lw_p9 : lw_okq (⟨"SliceDepot$Keep", "placeForNew", "(I)I"⟩, 3) := ⟨⟨by decide +kernel, by decide +kernel⟩, List.mem_of_getElem? (i := 54) (by decide +kernel), List.mem_of_getElem? (i := 379) (by decide +kernel), List.mem_of_getElem? (i := 380) (by decide +kernel)⟩
theorem lw_p10 : lw_okq (⟨"SliceDepot", "isIdOfAnImage", "(I)Z"⟩, 10) := ⟨⟨by decide +kernel, by decide +kernel⟩, List.mem_of_getElem? (i := 12) (by decide +kernel), List.mem_of_getElem? (i := 401) (by decide +kernel), List.mem_of_getElem? (i := 402) (by decide +kernel)⟩
theorem lw_p11 : lw_okq (⟨"SliceDepot", "writePiece", "(LSliceDepot$PieceList;I)Z"⟩, 10) := ⟨⟨by decide +kernel, by decide +kernel⟩, List.mem_of_getElem? (i := 12) (by decide +kernel), List.mem_of_getElem? (i := 476) (by decide +kernel), List.mem_of_getElem? (i := 477) (by decide +kernel)⟩
theorem lw_p12 : lw_okq (⟨"SliceDepot", "writeAgain", "(LSliceDepot$PieceList;I)Z"⟩, 10) := ⟨⟨by decide +kernel, by decide +kernel⟩, List.mem_of_getElem? (i := 12) (by decide +kernel), List.mem_of_getElem? (i := 480) (by decide +kernel), List.mem_of_getElem? (i := 481) (by decide +kernel)⟩
theorem lw_p13 : lw_okq (⟨"SliceDepot", "writeCached", "(II)Z"⟩, 10) := ⟨⟨by decide +kernel, by decide +kernel⟩, List.mem_of_getElem? (i := 12) (by decide +kernel), List.mem_of_getElem? (i := 490) (by decide +kernel), List.mem_of_getElem? (i := 491) (by decide +kernel)⟩
theorem lw_p14 : lw_okq (⟨"SliceDepot", "writeSeeded", "(II)Z"⟩, 10) := ⟨⟨by decide +kernel, by decide +kernel⟩, List.mem_of_getElem? (i := 12) (by decide +kernel), List.mem_of_getElem? (i := 501) (by decide +kernel), List.mem_of_getElem? (i := 502) (by decide +kernel)⟩
theorem lw_p15 : lw_okq (⟨"SliceDepot", "writeAsked", "(II)Z"⟩, 10) := ⟨⟨by decide +kernel, by decide +kernel⟩, List.mem_of_getElem? (i := 12) (by decide +kernel), List.mem_of_getElem? (i := 513) (by decide +kernel), List.mem_of_getElem? (i := 514) (by decide +kernel)⟩
def lw_privs_1 : List (MethodName × Nat) := [(⟨"SliceDepot$Tree", "isChild", "(II)Z"⟩, 4), (⟨"SliceDepot$Tree", "liesIn", "(II)Z"⟩, 4), (⟨"SliceDepot", "freeImage", "()I"⟩, 10), (⟨"SliceDepot", "imageNumbered", "(I)LSliceDepot$PieceList;"⟩, 10), (⟨"SliceDepot$Tree", "childBehind", "(II)I"⟩, 4), (⟨"SliceDepot$Tree", "writeFile", "(ILSliceDepot$Bytes;)V"⟩, 4), (⟨"SliceDepot$Cutter", "isEnd", "(LSliceDepot$Bytes;II)Z"⟩, 3), (⟨"SliceDepot", "idsNewToStore", "(LSliceDepot$PieceList;)I"⟩, 10), (⟨"SliceDepot", "storePieces", "(LSliceDepot$PieceList;)V"⟩, 10), (⟨"SliceDepot$Keep", "placeForNew", "(I)I"⟩, 3), (⟨"SliceDepot", "isIdOfAnImage", "(I)Z"⟩, 10), (⟨"SliceDepot", "writePiece", "(LSliceDepot$PieceList;I)Z"⟩, 10), (⟨"SliceDepot", "writeAgain", "(LSliceDepot$PieceList;I)Z"⟩, 10), (⟨"SliceDepot", "writeCached", "(II)Z"⟩, 10), (⟨"SliceDepot", "writeSeeded", "(II)Z"⟩, 10), (⟨"SliceDepot", "writeAsked", "(II)Z"⟩, 10)]
theorem lw_r1 : ∀ q ∈ lw_privs_1, lw_okq q := List.forall_mem_cons.mpr ⟨lw_p0, List.forall_mem_cons.mpr ⟨lw_p1, List.forall_mem_cons.mpr ⟨lw_p2, List.forall_mem_cons.mpr ⟨lw_p3, List.forall_mem_cons.mpr ⟨lw_p4, List.forall_mem_cons.mpr ⟨lw_p5, List.forall_mem_cons.mpr ⟨lw_p6, List.forall_mem_cons.mpr ⟨lw_p7, List.forall_mem_cons.mpr ⟨lw_p8, List.forall_mem_cons.mpr ⟨lw_p9, List.forall_mem_cons.mpr ⟨lw_p10, List.forall_mem_cons.mpr ⟨lw_p11, List.forall_mem_cons.mpr ⟨lw_p12, List.forall_mem_cons.mpr ⟨lw_p13, List.forall_mem_cons.mpr ⟨lw_p14, List.forall_mem_cons.mpr ⟨lw_p15, fun _ h => absurd h List.not_mem_nil⟩⟩⟩⟩⟩⟩⟩⟩⟩⟩⟩⟩⟩⟩⟩⟩
theorem lw_p16 : lw_okq (⟨"SliceDepot$TreeReader", "readPart", "(I)I"⟩, 4) := ⟨⟨by decide +kernel, by decide +kernel⟩, List.mem_of_getElem? (i := 539) (by decide +kernel), List.mem_of_getElem? (i := 567) (by decide +kernel), List.mem_of_getElem? (i := 568) (by decide +kernel)⟩
theorem lw_p17 : lw_okq (⟨"SliceDepot$TreeReader", "takeKind", "(I)I"⟩, 4) := ⟨⟨by decide +kernel, by decide +kernel⟩, List.mem_of_getElem? (i := 539) (by decide +kernel), List.mem_of_getElem? (i := 571) (by decide +kernel), List.mem_of_getElem? (i := 572) (by decide +kernel)⟩
theorem lw_p18 : lw_okq (⟨"SliceDepot$TreeReader", "take", "(II)I"⟩, 4) := ⟨⟨by decide +kernel, by decide +kernel⟩, List.mem_of_getElem? (i := 539) (by decide +kernel), List.mem_of_getElem? (i := 584) (by decide +kernel), List.mem_of_getElem? (i := 585) (by decide +kernel)⟩
theorem lw_p19 : lw_okq (⟨"SliceDepot$TreeReader", "readFile", "(LSliceDepot$Bytes;)V"⟩, 4) := ⟨⟨by decide +kernel, by decide +kernel⟩, List.mem_of_getElem? (i := 539) (by decide +kernel), List.mem_of_getElem? (i := 600) (by decide +kernel), List.mem_of_getElem? (i := 601) (by decide +kernel)⟩
theorem lw_p20 : lw_okq (⟨"SliceDepot", "imagesThere", "()I"⟩, 10) := ⟨⟨by decide +kernel, by decide +kernel⟩, List.mem_of_getElem? (i := 12) (by decide +kernel), List.mem_of_getElem? (i := 614) (by decide +kernel), List.mem_of_getElem? (i := 615) (by decide +kernel)⟩
theorem lw_p21 : lw_okq (⟨"SliceDepotModel", "slot", "(II)I"⟩, 25) := ⟨⟨by decide +kernel, by decide +kernel⟩, List.mem_of_getElem? (i := 625) (by decide +kernel), List.mem_of_getElem? (i := 718) (by decide +kernel), List.mem_of_getElem? (i := 719) (by decide +kernel)⟩
theorem lw_p22 : lw_okq (⟨"SliceDepotModel", "file", "(I)I"⟩, 25) := ⟨⟨by decide +kernel, by decide +kernel⟩, List.mem_of_getElem? (i := 625) (by decide +kernel), List.mem_of_getElem? (i := 729) (by decide +kernel), List.mem_of_getElem? (i := 730) (by decide +kernel)⟩
theorem lw_p23 : lw_okq (⟨"SliceDepotModel", "fileBytes", "()I"⟩, 25) := ⟨⟨by decide +kernel, by decide +kernel⟩, List.mem_of_getElem? (i := 625) (by decide +kernel), List.mem_of_getElem? (i := 733) (by decide +kernel), List.mem_of_getElem? (i := 734) (by decide +kernel)⟩
theorem lw_p24 : lw_okq (⟨"SliceDepotModel", "emit", "(I)V"⟩, 25) := ⟨⟨by decide +kernel, by decide +kernel⟩, List.mem_of_getElem? (i := 625) (by decide +kernel), List.mem_of_getElem? (i := 749) (by decide +kernel), List.mem_of_getElem? (i := 750) (by decide +kernel)⟩
theorem lw_p25 : lw_okq (⟨"SliceDepotModel", "next", "(II)I"⟩, 25) := ⟨⟨by decide +kernel, by decide +kernel⟩, List.mem_of_getElem? (i := 625) (by decide +kernel), List.mem_of_getElem? (i := 753) (by decide +kernel), List.mem_of_getElem? (i := 754) (by decide +kernel)⟩
theorem lw_p26 : lw_okq (⟨"SliceDepotModel", "children", "(II)I"⟩, 25) := ⟨⟨by decide +kernel, by decide +kernel⟩, List.mem_of_getElem? (i := 625) (by decide +kernel), List.mem_of_getElem? (i := 760) (by decide +kernel), List.mem_of_getElem? (i := 761) (by decide +kernel)⟩
theorem lw_p27 : lw_okq (⟨"SliceDepotModel", "begin", "(I)V"⟩, 25) := ⟨⟨by decide +kernel, by decide +kernel⟩, List.mem_of_getElem? (i := 625) (by decide +kernel), List.mem_of_getElem? (i := 764) (by decide +kernel), List.mem_of_getElem? (i := 765) (by decide +kernel)⟩
theorem lw_p28 : lw_okq (⟨"SliceDepotModel", "cut", "(III)V"⟩, 25) := ⟨⟨by decide +kernel, by decide +kernel⟩, List.mem_of_getElem? (i := 625) (by decide +kernel), List.mem_of_getElem? (i := 768) (by decide +kernel), List.mem_of_getElem? (i := 769) (by decide +kernel)⟩
theorem lw_p29 : lw_okq (⟨"SliceDepotModel", "mark", "(I)I"⟩, 25) := ⟨⟨by decide +kernel, by decide +kernel⟩, List.mem_of_getElem? (i := 625) (by decide +kernel), List.mem_of_getElem? (i := 772) (by decide +kernel), List.mem_of_getElem? (i := 773) (by decide +kernel)⟩
theorem lw_p30 : lw_okq (⟨"SliceDepotModel", "term", "(I)I"⟩, 25) := ⟨⟨by decide +kernel, by decide +kernel⟩, List.mem_of_getElem? (i := 625) (by decide +kernel), List.mem_of_getElem? (i := 776) (by decide +kernel), List.mem_of_getElem? (i := 777) (by decide +kernel)⟩
theorem lw_p31 : lw_okq (⟨"SliceDepotModel", "digest", "(II)I"⟩, 25) := ⟨⟨by decide +kernel, by decide +kernel⟩, List.mem_of_getElem? (i := 625) (by decide +kernel), List.mem_of_getElem? (i := 784) (by decide +kernel), List.mem_of_getElem? (i := 785) (by decide +kernel)⟩
def lw_privs_2 : List (MethodName × Nat) := [(⟨"SliceDepot$TreeReader", "readPart", "(I)I"⟩, 4), (⟨"SliceDepot$TreeReader", "takeKind", "(I)I"⟩, 4), (⟨"SliceDepot$TreeReader", "take", "(II)I"⟩, 4), (⟨"SliceDepot$TreeReader", "readFile", "(LSliceDepot$Bytes;)V"⟩, 4), (⟨"SliceDepot", "imagesThere", "()I"⟩, 10), (⟨"SliceDepotModel", "slot", "(II)I"⟩, 25), (⟨"SliceDepotModel", "file", "(I)I"⟩, 25), (⟨"SliceDepotModel", "fileBytes", "()I"⟩, 25), (⟨"SliceDepotModel", "emit", "(I)V"⟩, 25), (⟨"SliceDepotModel", "next", "(II)I"⟩, 25), (⟨"SliceDepotModel", "children", "(II)I"⟩, 25), (⟨"SliceDepotModel", "begin", "(I)V"⟩, 25), (⟨"SliceDepotModel", "cut", "(III)V"⟩, 25), (⟨"SliceDepotModel", "mark", "(I)I"⟩, 25), (⟨"SliceDepotModel", "term", "(I)I"⟩, 25), (⟨"SliceDepotModel", "digest", "(II)I"⟩, 25)]
theorem lw_r2 : ∀ q ∈ lw_privs_2, lw_okq q := List.forall_mem_cons.mpr ⟨lw_p16, List.forall_mem_cons.mpr ⟨lw_p17, List.forall_mem_cons.mpr ⟨lw_p18, List.forall_mem_cons.mpr ⟨lw_p19, List.forall_mem_cons.mpr ⟨lw_p20, List.forall_mem_cons.mpr ⟨lw_p21, List.forall_mem_cons.mpr ⟨lw_p22, List.forall_mem_cons.mpr ⟨lw_p23, List.forall_mem_cons.mpr ⟨lw_p24, List.forall_mem_cons.mpr ⟨lw_p25, List.forall_mem_cons.mpr ⟨lw_p26, List.forall_mem_cons.mpr ⟨lw_p27, List.forall_mem_cons.mpr ⟨lw_p28, List.forall_mem_cons.mpr ⟨lw_p29, List.forall_mem_cons.mpr ⟨lw_p30, List.forall_mem_cons.mpr ⟨lw_p31, fun _ h => absurd h List.not_mem_nil⟩⟩⟩⟩⟩⟩⟩⟩⟩⟩⟩⟩⟩⟩⟩⟩
theorem lw_p32 : lw_okq (⟨"SliceDepotModel", "find", "(II)I"⟩, 25) := ⟨⟨by decide +kernel, by decide +kernel⟩, List.mem_of_getElem? (i := 625) (by decide +kernel), List.mem_of_getElem? (i := 789) (by decide +kernel), List.mem_of_getElem? (i := 790) (by decide +kernel)⟩
theorem lw_p33 : lw_okq (⟨"SliceDepotModel", "keep", "(IIII)V"⟩, 25) := ⟨⟨by decide +kernel, by decide +kernel⟩, List.mem_of_getElem? (i := 625) (by decide +kernel), List.mem_of_getElem? (i := 793) (by decide +kernel), List.mem_of_getElem? (i := 794) (by decide +kernel)⟩
theorem lw_p34 : lw_okq (⟨"SliceDepotModel", "there", "(I)Z"⟩, 25) := ⟨⟨by decide +kernel, by decide +kernel⟩, List.mem_of_getElem? (i := 625) (by decide +kernel), List.mem_of_getElem? (i := 801) (by decide +kernel), List.mem_of_getElem? (i := 802) (by decide +kernel)⟩
theorem lw_p35 : lw_okq (⟨"SliceDepotModel", "inImages", "(I)Z"⟩, 25) := ⟨⟨by decide +kernel, by decide +kernel⟩, List.mem_of_getElem? (i := 625) (by decide +kernel), List.mem_of_getElem? (i := 809) (by decide +kernel), List.mem_of_getElem? (i := 810) (by decide +kernel)⟩
theorem lw_p36 : lw_okq (⟨"SliceDepotModel", "drop", "(I)V"⟩, 25) := ⟨⟨by decide +kernel, by decide +kernel⟩, List.mem_of_getElem? (i := 625) (by decide +kernel), List.mem_of_getElem? (i := 813) (by decide +kernel), List.mem_of_getElem? (i := 814) (by decide +kernel)⟩
theorem lw_p37 : lw_okq (⟨"SliceDepotModel", "has", "(II)Z"⟩, 25) := ⟨⟨by decide +kernel, by decide +kernel⟩, List.mem_of_getElem? (i := 625) (by decide +kernel), List.mem_of_getElem? (i := 825) (by decide +kernel), List.mem_of_getElem? (i := 826) (by decide +kernel)⟩
theorem lw_p38 : lw_okq (⟨"SliceDepotModel", "source", "(II)I"⟩, 25) := ⟨⟨by decide +kernel, by decide +kernel⟩, List.mem_of_getElem? (i := 625) (by decide +kernel), List.mem_of_getElem? (i := 852) (by decide +kernel), List.mem_of_getElem? (i := 853) (by decide +kernel)⟩
theorem lw_p39 : lw_okq (⟨"SliceDepotModel", "good", "(III)Z"⟩, 25) := ⟨⟨by decide +kernel, by decide +kernel⟩, List.mem_of_getElem? (i := 625) (by decide +kernel), List.mem_of_getElem? (i := 856) (by decide +kernel), List.mem_of_getElem? (i := 857) (by decide +kernel)⟩
theorem lw_p40 : lw_okq (⟨"SliceDepotModel", "enter", "(III)V"⟩, 25) := ⟨⟨by decide +kernel, by decide +kernel⟩, List.mem_of_getElem? (i := 625) (by decide +kernel), List.mem_of_getElem? (i := 860) (by decide +kernel), List.mem_of_getElem? (i := 861) (by decide +kernel)⟩
theorem lw_p41 : lw_okq (⟨"SliceDepotModel", "byteAt", "(I)I"⟩, 25) := ⟨⟨by decide +kernel, by decide +kernel⟩, List.mem_of_getElem? (i := 625) (by decide +kernel), List.mem_of_getElem? (i := 880) (by decide +kernel), List.mem_of_getElem? (i := 881) (by decide +kernel)⟩
theorem lw_p42 : lw_okq (⟨"SliceDepotModel", "entry", "(IIII)I"⟩, 25) := ⟨⟨by decide +kernel, by decide +kernel⟩, List.mem_of_getElem? (i := 625) (by decide +kernel), List.mem_of_getElem? (i := 884) (by decide +kernel), List.mem_of_getElem? (i := 885) (by decide +kernel)⟩
theorem lw_p43 : lw_okq (⟨"SliceDepotModel", "greatest", "(I)I"⟩, 25) := ⟨⟨by decide +kernel, by decide +kernel⟩, List.mem_of_getElem? (i := 625) (by decide +kernel), List.mem_of_getElem? (i := 888) (by decide +kernel), List.mem_of_getElem? (i := 889) (by decide +kernel)⟩
theorem lw_p44 : lw_okq (⟨"SliceDepotModel", "taken", "(I)I"⟩, 25) := ⟨⟨by decide +kernel, by decide +kernel⟩, List.mem_of_getElem? (i := 625) (by decide +kernel), List.mem_of_getElem? (i := 892) (by decide +kernel), List.mem_of_getElem? (i := 893) (by decide +kernel)⟩
theorem lw_p45 : lw_okq (⟨"SliceDepotModel", "entries", "()I"⟩, 25) := ⟨⟨by decide +kernel, by decide +kernel⟩, List.mem_of_getElem? (i := 625) (by decide +kernel), List.mem_of_getElem? (i := 900) (by decide +kernel), List.mem_of_getElem? (i := 901) (by decide +kernel)⟩
def lw_privs_3 : List (MethodName × Nat) := [(⟨"SliceDepotModel", "find", "(II)I"⟩, 25), (⟨"SliceDepotModel", "keep", "(IIII)V"⟩, 25), (⟨"SliceDepotModel", "there", "(I)Z"⟩, 25), (⟨"SliceDepotModel", "inImages", "(I)Z"⟩, 25), (⟨"SliceDepotModel", "drop", "(I)V"⟩, 25), (⟨"SliceDepotModel", "has", "(II)Z"⟩, 25), (⟨"SliceDepotModel", "source", "(II)I"⟩, 25), (⟨"SliceDepotModel", "good", "(III)Z"⟩, 25), (⟨"SliceDepotModel", "enter", "(III)V"⟩, 25), (⟨"SliceDepotModel", "byteAt", "(I)I"⟩, 25), (⟨"SliceDepotModel", "entry", "(IIII)I"⟩, 25), (⟨"SliceDepotModel", "greatest", "(I)I"⟩, 25), (⟨"SliceDepotModel", "taken", "(I)I"⟩, 25), (⟨"SliceDepotModel", "entries", "()I"⟩, 25)]
theorem lw_r3 : ∀ q ∈ lw_privs_3, lw_okq q := List.forall_mem_cons.mpr ⟨lw_p32, List.forall_mem_cons.mpr ⟨lw_p33, List.forall_mem_cons.mpr ⟨lw_p34, List.forall_mem_cons.mpr ⟨lw_p35, List.forall_mem_cons.mpr ⟨lw_p36, List.forall_mem_cons.mpr ⟨lw_p37, List.forall_mem_cons.mpr ⟨lw_p38, List.forall_mem_cons.mpr ⟨lw_p39, List.forall_mem_cons.mpr ⟨lw_p40, List.forall_mem_cons.mpr ⟨lw_p41, List.forall_mem_cons.mpr ⟨lw_p42, List.forall_mem_cons.mpr ⟨lw_p43, List.forall_mem_cons.mpr ⟨lw_p44, List.forall_mem_cons.mpr ⟨lw_p45, fun _ h => absurd h List.not_mem_nil⟩⟩⟩⟩⟩⟩⟩⟩⟩⟩⟩⟩⟩⟩
def lw_privs : List (MethodName × Nat) := lw_privs_1 ++ (lw_privs_2 ++ (lw_privs_3))
def lw_tbl : List Cond := k2_sels lw_privs ++ tables_1
theorem lw_privs_ok : ∀ q ∈ lw_privs, lw_okq q := by
  show ∀ q ∈ lw_privs_1 ++ (lw_privs_2 ++ (lw_privs_3)), lw_okq q
  exact List.forall_mem_append.mpr ⟨lw_r1, List.forall_mem_append.mpr ⟨lw_r2, lw_r3⟩⟩
end
section
/-! THE CLAIM OUT OF ONE WALK OF THE LAW'S BODY. Your part is whole_start (and what it stands on); all else here is the same for every law, but numbers. -/
def R_law : String := "SliceDepotLaw"
def lw_P (b : Addr) (xs : List Int32) (args : Array Value) (s : State) : Prop := args = #[.ref b] ∧ s.IntsAt b xs ∧ xs.length ≤ 3075 ∧ (Jvm.Cond.and given_1 narrow_1).before args s = true
def lw_Q (_ : Array Value) (s : State) (o : Outcome) (t : State) : Prop := o = .returned (some (.int 1)) ∧ Framed s o t [] 600000 7302250
def lw_Z (below : List Frame) (a : Array Value) (s : State) : State → Prop := fun t => ∃ o, t.status = .running ∧ Ended t below o ∧ lw_Q a s o t
/-- the law's own end, with 1 on the stack, nothing written that was there before, its room as the claim has it -/
theorem lw_ret {p : Program} {l : Launch} {e : Env} {s : State} {m : MethodId} {below : List Frame} {meth : Method} {c : Code} {b : Nat} (hx : p.tables.exec = Jvm.exec) (hb : c.code = code) (hr : meth.sig.returnType = ret) (hlocks : meth.locks = false) {pc : Nat} {H : Heap} {ls : Array Slot} (hdg : decode code pc = .ok (.ireturn, 1)) : W p l e room_1 s m #[Value.ref b] below meth c H [] 600000 7302250 (lw_Z below #[Value.ref b] s) (F0 m pc ls [.int 1]) := by
  intro T hT X
  obtain ⟨fs, hret, hrun, hended, hW, hframe⟩ := X.leave (v := some (.int 1)) (hlocks := hlocks) (fun h => by rw [hr] at h; cases h)
  have hmeth' : T.vm.method? m = some meth := X.method'
  refine ⟨T.setFrames fs, ?_, .returned (some (.int 1)), hrun, hended, rfl, ⟨_, rfl⟩, hW, hframe⟩
  jvm_step X.here [X.here.top, hx, hb, hdg, hmeth', hr, ret, narrow_b1]
  (try refine ⟨rfl, ?_⟩); (try refine ⟨rfl, ?_⟩)
  first | (intro acts; rw [hret _ acts rfl rfl rfl]) | rw [hret _ _ rfl rfl rfl]
  exact Steps.refl _
/-- what holds at the law's entry: the machine, the code, the tables' words (any of lw_tbl by 'hts w (by decide +kernel)'), the script of L ints xs at the cell b, what the Statement gives of the start (any of its parts by flat_of_before) -/
def lw_At (p : Program) (s : State) (m : MethodId) (meth : Method) (c : Code) (b L : Nat) (xs : Nat → Int32) : Prop :=
  p.tables.exec = Jvm.exec ∧ c.code = code ∧ meth.sig.returnType = ret ∧ c.maxLocals = 4 ∧ s.vm.findClass R_law = some m.cls ∧ (∀ w ∈ lw_tbl, w.before #[Value.ref b] s = true) ∧ va_X b L xs s s.heap ∧ b < s.heap.size ∧ meth.locks = false ∧ (Jvm.Cond.and given_1 narrow_1).before #[Value.ref b] s = true
end
section
abbrev pm_C : Type := (Bool × List Int32) ⊕ (Nat × List (Option Nat)) ⊕ (Nat × List Value)
abbrev pm_E : Type := Nat × Instr × Nat × Nat
abbrev pm_MT : Type := Nat × Nat × Bool × Option FieldType × MethodName × ByteArray × List pm_E
def pm_len (pc : Nat) (i : Instr) : Nat := match i with
  | .bipush _ => 2
  | .ldc _ => 2
  | .aload _ => 2
  | .astore _ => 2
  | .iload _ => 2
  | .istore _ => 2
  | .lload _ => 2
  | .lstore _ => 2
  | .newarray _ => 2
  | .sipush _ => 3
  | .ldc_w _ => 3
  | .ldc2_w _ => 3
  | .iinc _ _ => 3
  | .ifCond _ _ => 3
  | .if_icmp _ _ => 3
  | .if_acmp _ _ => 3
  | .ifnull _ => 3
  | .ifnonnull _ => 3
  | .goto _ => 3
  | .getfield _ => 3
  | .putfield _ => 3
  | .getstatic _ => 3
  | .new _ => 3
  | .anewarray _ => 3
  | .checkcast _ => 3
  | .invokevirtual _ => 3
  | .invokespecial _ => 3
  | .invokestatic _ => 3
  | .tableswitch _ _ _ offs => 1 + (3 - pc % 4) + 12 + 4 * offs.size
  | .lookupswitch _ ps => 1 + (3 - pc % 4) + 8 + 8 * ps.size
  | _ => 1
def pm_off (i : Instr) : Option Int := match i with
  | .ifCond _ o => some o
  | .if_icmp _ o => some o
  | .ifnull o => some o
  | .ifnonnull o => some o
  | .goto o => some o
  | _ => none
def pm_look : List pm_E → Nat → Option (Instr × Nat × Nat)
  | [], _ => none
  | e :: l, pc => match Nat.beq e.1 pc with
    | true => some e.2
    | false => pm_look l pc
theorem pm_look_mem {l : List pm_E} {pc : Nat} {q : Instr × Nat × Nat} (h : pm_look l pc = some q) : (pc, q) ∈ l := by
  induction l with
  | nil => cases h
  | cons e l ih =>
    obtain ⟨a, b⟩ := e
    unfold pm_look at h
    split at h
    · rename_i hb
      have hb : a = pc := Nat.eq_of_beq_eq_true hb
      cases h
      subst hb
      exact List.mem_cons_self
    · exact List.mem_cons_of_mem _ (ih h)
def pm_ck1 (code : ByteArray) (e : pm_E) : Bool := decide (decode code e.1 = .ok (e.2.1, pm_len e.1 e.2.1)) && (Nat.beq e.2.2.1 (e.1 + pm_len e.1 e.2.1) && (match pm_off e.2.1 with
  | some o => decide ((e.1 : Int) + o = (e.2.2.2 : Int))
  | none => true))
def pm_ck (r : pm_MT) : Bool := r.2.2.2.2.2.2.all (pm_ck1 r.2.2.2.2.2.1)
theorem pm_ck_all {l : List pm_MT} {r : pm_MT} (h : pm_ck r = true) (k : ∀ x ∈ l, pm_ck x = true) : ∀ x ∈ r :: l, pm_ck x = true := by
  intro x hx
  rcases List.mem_cons.mp hx with rfl | hx
  · exact h
  · exact k x hx
theorem pm_ck_nil : ∀ x ∈ ([] : List pm_MT), pm_ck x = true := by
  intro x hx
  cases hx
end
section
/-! TABLES of the pure machine, printed by wip/whole/tools/tab.py out of the listing and the Statement's rows. -/
abbrev kD : Nat := 0
abbrev kB : Nat := 1
abbrev kC : Nat := 2
abbrev kP : Nat := 3
abbrev kK : Nat := 4
abbrev kS : Nat := 5
abbrev kT : Nat := 6
abbrev kR : Nat := 7
abbrev kM : Nat := 8
abbrev kL : Nat := 9
abbrev mD_init : Nat := 0
abbrev mD_create : Nat := 1
abbrev mD_append : Nat := 2
abbrev mD_edit : Nat := 3
abbrev mD_remove : Nat := 4
abbrev mD_make : Nat := 5
abbrev mD_discard : Nat := 6
abbrev mD_collect : Nat := 7
abbrev mD_root : Nat := 8
abbrev mD_piece : Nat := 9
abbrev mD_damage : Nat := 10
abbrev mD_seed : Nat := 11
abbrev mD_alter : Nat := 12
abbrev mD_scan : Nat := 13
abbrev mD_extract : Nat := 14
abbrev mD_counts : Nat := 15
abbrev mD_output : Nat := 16
abbrev mD_spoil : Nat := 17
abbrev mD_unpack : Nat := 18
abbrev mD_size : Nat := 19
abbrev mD_isByte : Nat := 20
abbrev mD_isSeed : Nat := 21
abbrev mD_imageNumbered : Nat := 22
abbrev mD_freeImage : Nat := 23
abbrev mD_imagesThere : Nat := 24
abbrev mD_isIdOfAnImage : Nat := 25
abbrev mD_idsNewToStore : Nat := 26
abbrev mD_storePieces : Nat := 27
abbrev mD_writePiece : Nat := 28
abbrev mD_writeAgain : Nat := 29
abbrev mD_writeCached : Nat := 30
abbrev mD_writeSeeded : Nat := 31
abbrev mD_writeAsked : Nat := 32
abbrev mB_init : Nat := 33
abbrev mB_count : Nat := 34
abbrev mB_has : Nat := 35
abbrev mB_at : Nat := 36
abbrev mB_change : Nat := 37
abbrev mB_add : Nat := 38
abbrev mB_addFrom : Nat := 39
abbrev mB_keepFirst : Nat := 40
abbrev mB_clear : Nat := 41
abbrev mB_idOf : Nat := 42
abbrev mC_init : Nat := 43
abbrev mC_cut : Nat := 44
abbrev mC_isEnd : Nat := 45
abbrev mC_markBefore : Nat := 46
abbrev mC_spread : Nat := 47
abbrev mC_turnLeft : Nat := 48
abbrev mP_init : Nat := 49
abbrev mP_count : Nat := 50
abbrev mP_has : Nat := 51
abbrev mP_endOf : Nat := 52
abbrev mP_startOf : Nat := 53
abbrev mP_lengthOf : Nat := 54
abbrev mP_idOf : Nat := 55
abbrev mP_add : Nat := 56
abbrev mP_clear : Nat := 57
abbrev mP_firstWithId : Nat := 58
abbrev mP_firstLike : Nat := 59
abbrev mP_rootId : Nat := 60
abbrev mP_joinPairs : Nat := 61
abbrev mP_joined : Nat := 62
abbrev mK_init : Nat := 63
abbrev mK_count : Nat := 64
abbrev mK_idAt : Nat := 65
abbrev mK_placeOf : Nat := 66
abbrev mK_bytesUnder : Nat := 67
abbrev mK_goodBytes : Nat := 68
abbrev mK_put : Nat := 69
abbrev mK_placeForNew : Nat := 70
abbrev mK_takeOut : Nat := 71
abbrev mK_bytesInAll : Nat := 72
abbrev mS_init : Nat := 73
abbrev mS_bytes : Nat := 74
abbrev mS_cutWith : Nat := 75
abbrev mS_startOfGood : Nat := 76
abbrev mT_init : Nat := 77
abbrev mT_namesIn : Nat := 78
abbrev mT_nameIn : Nat := 79
abbrev mT_isPath : Nat := 80
abbrev mT_lastNameOf : Nat := 81
abbrev mT_pathOfParent : Nat := 82
abbrev mT_clear : Nat := 83
abbrev mT_find : Nat := 84
abbrev mT_isDirectory : Nat := 85
abbrev mT_fileAt : Nat := 86
abbrev mT_contentOf : Nat := 87
abbrev mT_parentOf : Nat := 88
abbrev mT_childNamed : Nat := 89
abbrev mT_childrenOf : Nat := 90
abbrev mT_greatestNameIn : Nat := 91
abbrev mT_depthOf : Nat := 92
abbrev mT_addEntry : Nat := 93
abbrev mT_takeAway : Nat := 94
abbrev mT_entries : Nat := 95
abbrev mT_fileBytes : Nat := 96
abbrev mT_writeStream : Nat := 97
abbrev mT_writeFile : Nat := 98
abbrev mT_childBehind : Nat := 99
abbrev mT_isChild : Nat := 100
abbrev mT_liesIn : Nat := 101
abbrev mT_isSlot : Nat := 102
abbrev mR_init : Nat := 103
abbrev mR_readAll : Nat := 104
abbrev mR_readPart : Nat := 105
abbrev mR_takeKind : Nat := 106
abbrev mR_readFile : Nat := 107
abbrev mR_take : Nat := 108
abbrev mM_init : Nat := 109
abbrev mM_depth : Nat := 110
abbrev mM_isPath : Nat := 111
abbrev mM_up : Nat := 112
abbrev mM_order : Nat := 113
abbrev mM_slot : Nat := 114
abbrev mM_entries : Nat := 115
abbrev mM_fileBytes : Nat := 116
abbrev mM_file : Nat := 117
abbrev mM_create : Nat := 118
abbrev mM_append : Nat := 119
abbrev mM_edit : Nat := 120
abbrev mM_remove : Nat := 121
abbrev mM_next : Nat := 122
abbrev mM_children : Nat := 123
abbrev mM_emit : Nat := 124
abbrev mM_begin : Nat := 125
abbrev mM_term : Nat := 126
abbrev mM_turned : Nat := 127
abbrev mM_mark : Nat := 128
abbrev mM_digest : Nat := 129
abbrev mM_cut : Nat := 130
abbrev mM_find : Nat := 131
abbrev mM_good : Nat := 132
abbrev mM_keep : Nat := 133
abbrev mM_drop : Nat := 134
abbrev mM_enter : Nat := 135
abbrev mM_there : Nat := 136
abbrev mM_make : Nat := 137
abbrev mM_discard : Nat := 138
abbrev mM_inImages : Nat := 139
abbrev mM_collect : Nat := 140
abbrev mM_root : Nat := 141
abbrev mM_has : Nat := 142
abbrev mM_piece : Nat := 143
abbrev mM_damage : Nat := 144
abbrev mM_seed : Nat := 145
abbrev mM_alter : Nat := 146
abbrev mM_scan : Nat := 147
abbrev mM_source : Nat := 148
abbrev mM_extract : Nat := 149
abbrev mM_counts : Nat := 150
abbrev mM_byteAt : Nat := 151
abbrev mM_output : Nat := 152
abbrev mM_spoil : Nat := 153
abbrev mM_greatest : Nat := 154
abbrev mM_entry : Nat := 155
abbrev mM_unpack : Nat := 156
abbrev mM_taken : Nat := 157
abbrev mM_size : Nat := 158
abbrev mL_cell : Nat := 159
abbrev mL_law : Nat := 160
def pm_cn (o : Nat) : String := match o with
  | 0 => "SliceDepot"
  | 1 => "SliceDepot$Bytes"
  | 2 => "SliceDepot$Cutter"
  | 3 => "SliceDepot$PieceList"
  | 4 => "SliceDepot$Keep"
  | 5 => "SliceDepot$Seed"
  | 6 => "SliceDepot$Tree"
  | 7 => "SliceDepot$TreeReader"
  | 8 => "SliceDepotModel"
  | 9 => "SliceDepotLaw"
  | _ => ""
def pt_TD : u_T := fun k => match k with
  | 0 => ("SliceDepot", "cutter", "LSliceDepot$Cutter;", true)
  | 1 => ("SliceDepot", "images", "[LSliceDepot$PieceList;", true)
  | 2 => ("SliceDepot", "store", "LSliceDepot$Keep;", true)
  | 3 => ("SliceDepot", "cache", "LSliceDepot$Keep;", true)
  | 4 => ("SliceDepot", "seeds", "[LSliceDepot$Seed;", true)
  | 5 => ("SliceDepot", "stream", "LSliceDepot$Bytes;", true)
  | 6 => ("SliceDepot", "written", "LSliceDepot$Bytes;", true)
  | 7 => ("SliceDepot", "tally", "[I", true)
  | 8 => ("SliceDepot", "tree", "LSliceDepot$Tree;", false)
  | _ => ("SliceDepot", "spareTree", "LSliceDepot$Tree;", false)
def pt_TB : u_T := fun k => match k with
  | 0 => ("SliceDepot$Bytes", "data", "[I", true)
  | _ => ("SliceDepot$Bytes", "count", "I", false)
def pt_TC : u_T := fun k => match k with
  | 0 => ("SliceDepot$Cutter", "least", "I", true)
  | 1 => ("SliceDepot$Cutter", "mean", "I", true)
  | _ => ("SliceDepot$Cutter", "most", "I", true)
def pt_TP : u_T := fun k => match k with
  | 0 => ("SliceDepot$PieceList", "ends", "[I", true)
  | 1 => ("SliceDepot$PieceList", "ids", "[I", true)
  | _ => ("SliceDepot$PieceList", "count", "I", false)
def pt_TK : u_T := fun k => match k with
  | 0 => ("SliceDepot$Keep", "ids", "[I", true)
  | 1 => ("SliceDepot$Keep", "rows", "[LSliceDepot$Bytes;", true)
  | _ => ("SliceDepot$Keep", "count", "I", false)
def pt_TS : u_T := fun k => match k with
  | 0 => ("SliceDepot$Seed", "bytes", "LSliceDepot$Bytes;", true)
  | _ => ("SliceDepot$Seed", "pieces", "LSliceDepot$PieceList;", true)
def pt_TT : u_T := fun k => match k with
  | 0 => ("SliceDepot$Tree", "kinds", "[I", true)
  | 1 => ("SliceDepot$Tree", "names", "[I", true)
  | 2 => ("SliceDepot$Tree", "parents", "[I", true)
  | _ => ("SliceDepot$Tree", "contents", "[LSliceDepot$Bytes;", true)
def pt_TR : u_T := fun k => match k with
  | 0 => ("SliceDepot$TreeReader", "from", "LSliceDepot$Bytes;", true)
  | 1 => ("SliceDepot$TreeReader", "into", "LSliceDepot$Tree;", true)
  | 2 => ("SliceDepot$TreeReader", "place", "I", false)
  | _ => ("SliceDepot$TreeReader", "faulty", "Z", false)
def pt_TM : u_T := fun k => match k with
  | 0 => ("SliceDepotModel", "mem", "[I", true)
  | 1 => ("SliceDepotModel", "streamN", "I", false)
  | 2 => ("SliceDepotModel", "outN", "I", false)
  | 3 => ("SliceDepotModel", "seedN", "[I", true)
  | 4 => ("SliceDepotModel", "least", "I", true)
  | 5 => ("SliceDepotModel", "mean", "I", true)
  | 6 => ("SliceDepotModel", "most", "I", true)
  | 7 => ("SliceDepotModel", "path", "[I", true)
  | 8 => ("SliceDepotModel", "kind", "[I", true)
  | 9 => ("SliceDepotModel", "len", "[I", true)
  | 10 => ("SliceDepotModel", "data", "[I", true)
  | 11 => ("SliceDepotModel", "pieces", "[I", true)
  | 12 => ("SliceDepotModel", "at", "[I", true)
  | 13 => ("SliceDepotModel", "many", "[I", true)
  | 14 => ("SliceDepotModel", "id", "[I", true)
  | 15 => ("SliceDepotModel", "made", "[Z", true)
  | 16 => ("SliceDepotModel", "fold", "[I", true)
  | 17 => ("SliceDepotModel", "stored", "I", false)
  | 18 => ("SliceDepotModel", "cached", "I", false)
  | 19 => ("SliceDepotModel", "keptId", "[I", true)
  | 20 => ("SliceDepotModel", "keptN", "[I", true)
  | 21 => ("SliceDepotModel", "asked", "I", false)
  | 22 => ("SliceDepotModel", "fromCache", "I", false)
  | 23 => ("SliceDepotModel", "fromSeeds", "I", false)
  | _ => ("SliceDepotModel", "again", "I", false)
abbrev vwCl : List vw_C := [("SliceDepot", pt_TD, 10), ("SliceDepot$Bytes", pt_TB, 2), ("SliceDepot$Cutter", pt_TC, 3), ("SliceDepot$PieceList", pt_TP, 3), ("SliceDepot$Keep", pt_TK, 3), ("SliceDepot$Seed", pt_TS, 2), ("SliceDepot$Tree", pt_TT, 4), ("SliceDepot$TreeReader", pt_TR, 4), ("SliceDepotModel", pt_TM, 25)]
def pm_T (c : Nat) : u_T := match c with
  | 0 => pt_TD
  | 1 => pt_TB
  | 2 => pt_TC
  | 3 => pt_TP
  | 4 => pt_TK
  | 5 => pt_TS
  | 6 => pt_TT
  | 7 => pt_TR
  | 8 => pt_TM
  | _ => pt_TD
def pm_N (c : Nat) : Nat := match c with
  | 0 => 10
  | 1 => 2
  | 2 => 3
  | 3 => 3
  | 4 => 3
  | 5 => 2
  | 6 => 4
  | 7 => 4
  | 8 => 25
  | _ => 0
def pt_yD (k : Nat) : FieldType := match k with
  | 0 => (.object "SliceDepot$Cutter")
  | 1 => (.array (.object "SliceDepot$PieceList"))
  | 2 => (.object "SliceDepot$Keep")
  | 3 => (.object "SliceDepot$Keep")
  | 4 => (.array (.object "SliceDepot$Seed"))
  | 5 => (.object "SliceDepot$Bytes")
  | 6 => (.object "SliceDepot$Bytes")
  | 7 => (.array .int)
  | 8 => (.object "SliceDepot$Tree")
  | _ => (.object "SliceDepot$Tree")
def pt_yB (k : Nat) : FieldType := match k with
  | 0 => (.array .int)
  | _ => .int
def pt_yC (k : Nat) : FieldType := match k with
  | 0 => .int
  | 1 => .int
  | _ => .int
def pt_yP (k : Nat) : FieldType := match k with
  | 0 => (.array .int)
  | 1 => (.array .int)
  | _ => .int
def pt_yK (k : Nat) : FieldType := match k with
  | 0 => (.array .int)
  | 1 => (.array (.object "SliceDepot$Bytes"))
  | _ => .int
def pt_yS (k : Nat) : FieldType := match k with
  | 0 => (.object "SliceDepot$Bytes")
  | _ => (.object "SliceDepot$PieceList")
def pt_yT (k : Nat) : FieldType := match k with
  | 0 => (.array .int)
  | 1 => (.array .int)
  | 2 => (.array .int)
  | _ => (.array (.object "SliceDepot$Bytes"))
def pt_yR (k : Nat) : FieldType := match k with
  | 0 => (.object "SliceDepot$Bytes")
  | 1 => (.object "SliceDepot$Tree")
  | 2 => .int
  | _ => .boolean
def pt_yM (k : Nat) : FieldType := match k with
  | 0 => (.array .int)
  | 1 => .int
  | 2 => .int
  | 3 => (.array .int)
  | 4 => .int
  | 5 => .int
  | 6 => .int
  | 7 => (.array .int)
  | 8 => (.array .int)
  | 9 => (.array .int)
  | 10 => (.array .int)
  | 11 => (.array .int)
  | 12 => (.array .int)
  | 13 => (.array .int)
  | 14 => (.array .int)
  | 15 => (.array .boolean)
  | 16 => (.array .int)
  | 17 => .int
  | 18 => .int
  | 19 => (.array .int)
  | 20 => (.array .int)
  | 21 => .int
  | 22 => .int
  | 23 => .int
  | _ => .int
def pm_fty (c k : Nat) : FieldType := match c with
  | 0 => pt_yD k
  | 1 => pt_yB k
  | 2 => pt_yC k
  | 3 => pt_yP k
  | 4 => pt_yK k
  | 5 => pt_yS k
  | 6 => pt_yT k
  | 7 => pt_yR k
  | 8 => pt_yM k
  | _ => .int
def pm_fin (c k : Nat) : Bool := (pm_T c k).2.2.2
def pm_dfl (c : Nat) : List Value := match c with
  | 0 => [.null, .null, .null, .null, .null, .null, .null, .null, .null, .null]
  | 1 => [.null, .int 0]
  | 2 => [.int 0, .int 0, .int 0]
  | 3 => [.null, .null, .int 0]
  | 4 => [.null, .null, .int 0]
  | 5 => [.null, .null]
  | 6 => [.null, .null, .null, .null]
  | 7 => [.null, .null, .int 0, .int 0]
  | 8 => [.null, .int 0, .int 0, .null, .int 0, .int 0, .int 0, .null, .null, .null, .null, .null, .null, .null, .null, .null, .null, .int 0, .int 0, .null, .null, .int 0, .int 0, .int 0, .int 0]
  | _ => []
def pt_fld (o : Nat) : List (Nat × Nat × Nat × Nat × Bool) := match o with
  | 0 => [(12, 0, 0, 170, false), (20, 0, 1, 171, false), (30, 0, 2, 172, false), (34, 0, 3, 173, false), (39, 0, 4, 174, false), (47, 0, 5, 175, false), (51, 0, 6, 176, false), (54, 0, 7, 177, false), (61, 0, 8, 178, false), (65, 0, 9, 179, false)]
  | 1 => [(7, 1, 0, 112, false), (13, 1, 1, 113, false)]
  | 2 => [(9, 2, 0, 71, false), (15, 2, 1, 72, false), (18, 2, 2, 73, false)]
  | 3 => [(9, 3, 0, 88, false), (15, 3, 1, 89, false), (18, 3, 2, 90, false)]
  | 4 => [(9, 4, 0, 119, false), (17, 4, 1, 120, false), (24, 4, 2, 121, false)]
  | 5 => [(14, 5, 0, 140, false), (23, 5, 1, 141, false)]
  | 6 => [(11, 6, 0, 157, false), (15, 6, 1, 158, false), (18, 6, 2, 159, false), (23, 6, 3, 160, false)]
  | 7 => [(9, 7, 0, 590, false), (15, 7, 1, 591, false), (30, 7, 3, 593, false), (38, 7, 2, 592, false)]
  | 8 => [(7, 8, 0, 676, false), (13, 8, 3, 679, false), (16, 8, 7, 683, false), (19, 8, 8, 684, false), (22, 8, 9, 685, false), (25, 8, 10, 686, false), (28, 8, 11, 687, false), (31, 8, 12, 688, false), (34, 8, 13, 689, false), (37, 8, 14, 690, false), (40, 8, 15, 691, false), (44, 8, 16, 692, false), (47, 8, 19, 695, false), (50, 8, 20, 696, false), (53, 8, 4, 680, false), (57, 8, 5, 681, false), (60, 8, 6, 682, false), (88, 8, 1, 677, false), (115, 8, 17, 693, false), (118, 8, 18, 694, false), (154, 8, 24, 700, false), (161, 8, 22, 698, false), (164, 8, 23, 699, false), (167, 8, 21, 697, false), (173, 8, 2, 678, false)]
  | _ => []
def pt_new (o : Nat) : List (Nat × Nat × Nat × Nat × Nat) := match o with
  | 0 => [(7, 2, 65, 66, 48), (18, 3, 81, 83, 49), (25, 4, 99, 100, 50), (37, 5, 129, 131, 52), (44, 1, 147, 107, 51), (58, 6, 149, 150, 53), (199, 7, 584, 585, 56)]
  | 4 => [(15, 1, 105, 107, 51)]
  | 5 => [(9, 1, 136, 107, 51), (20, 3, 138, 83, 49)]
  | 6 => [(21, 1, 155, 107, 51)]
  | 9 => [(7, 0, 57, 58, 47), (18, 8, 670, 671, 54)]
  | _ => []
def pt_anew (o : Nat) : List (Nat × Nat × Nat × Nat) := match o with
  | 0 => [(18, 3, 81, 82), (37, 5, 129, 130)]
  | 4 => [(15, 1, 105, 106)]
  | 6 => [(21, 1, 155, 106)]
  | _ => []
def pt_con (o : Nat) : List (Nat × Int32 × Nat) := match o with
  | 1 => [(28, (16777619), 372)]
  | 2 => [(58, (-1640531535), 364)]
  | 8 => [(101, (-1640531535), 825), (108, (16777619), 833)]
  | _ => []
def pt_con2 (o : Nat) : List (Nat × Int64 × Nat) := match o with
  | 0 => [(156, (-1), 477), (164, (4294967295), 479)]
  | 8 => [(148, (-1), 874), (150, (4294967296), 875), (152, (4294967295), 876)]
  | _ => []
def pt_inv (o : Nat) : List (Nat × Nat × Nat × Nat × Nat × Bool × Nat × Nat) := match o with
  | 0 => [(9, 43, 3, 2, 67, false, 68, 0), (24, 49, 0, 2, 84, true, 85, 0), (27, 63, 1, 2, 101, false, 102, 0), (43, 73, 0, 2, 132, true, 133, 0), (46, 33, 1, 2, 148, false, 109, 0), (60, 77, 0, 2, 151, false, 152, 0), (68, 80, 1, 0, 205, false, 206, 0), (72, 82, 1, 0, 214, false, 215, 0), (76, 84, 1, 1, 220, false, 221, 222), (79, 81, 1, 0, 233, false, 234, 0), (82, 85, 1, 1, 236, false, 237, 238), (85, 89, 2, 1, 243, false, 226, 227), (89, 93, 3, 1, 244, false, 245, 246), (93, 86, 1, 1, 256, false, 257, 258), (97, 34, 0, 1, 261, false, 262, 263), (101, 96, 0, 1, 265, false, 266, 267), (104, 38, 1, 1, 270, false, 271, 272), (107, 37, 2, 1, 278, false, 279, 280), (111, 94, 1, 1, 290, false, 291, 292), (114, 23, 0, 1, 306, false, 308, 2), (117, 97, 1, 1, 318, false, 319, 320), (121, 44, 2, 1, 344, false, 345, 346), (125, 64, 0, 1, 377, false, 378, 379), (126, 26, 1, 1, 381, false, 383, 7), (130, 57, 0, 1, 401, false, 349, 350), (133, 27, 1, 1, 402, false, 404, 8), (137, 22, 1, 1, 310, false, 312, 3), (141, 65, 1, 1, 442, false, 443, 444), (144, 25, 1, 1, 446, false, 448, 10), (147, 71, 1, 1, 450, false, 429, 430), (150, 60, 0, 1, 455, false, 456, 457), (153, 51, 1, 1, 476, false, 390, 391), (158, 52, 1, 1, 478, false, 411, 412), (161, 55, 1, 1, 385, false, 386, 387), (166, 66, 1, 1, 393, false, 394, 395), (169, 67, 1, 1, 484, false, 485, 486), (172, 20, 1, 0, 488, false, 489, 0), (175, 21, 1, 0, 495, false, 496, 0), (178, 74, 0, 1, 498, false, 499, 500), (182, 75, 1, 1, 502, false, 503, 504), (186, 41, 0, 1, 520, false, 249, 250), (187, 50, 0, 1, 314, false, 315, 316), (188, 28, 2, 1, 521, false, 523, 11), (192, 35, 1, 1, 570, false, 283, 284), (193, 36, 1, 1, 571, false, 340, 341), (196, 40, 1, 1, 576, false, 577, 578), (201, 103, 2, 2, 586, false, 587, 0), (204, 104, 0, 1, 603, false, 604, 605), (207, 95, 0, 1, 658, false, 621, 622), (210, 24, 0, 1, 659, false, 661, 20), (213, 72, 0, 1, 663, false, 664, 665), (216, 58, 1, 1, 397, false, 398, 399), (219, 53, 1, 1, 406, false, 407, 408), (222, 54, 1, 1, 414, false, 415, 416), (225, 69, 4, 1, 419, false, 420, 421), (229, 29, 2, 1, 525, false, 527, 12), (232, 30, 2, 1, 535, false, 537, 13), (235, 31, 2, 1, 546, false, 548, 14), (238, 32, 2, 1, 558, false, 560, 15), (241, 59, 2, 1, 529, false, 530, 531), (244, 39, 3, 1, 534, false, 336, 337), (248, 68, 2, 1, 539, false, 540, 541), (252, 76, 2, 1, 550, false, 551, 552)]
  | 1 => [(17, 35, 1, 1, 282, false, 283, 284), (21, 36, 1, 1, 339, false, 340, 341), (25, 38, 1, 1, 343, false, 271, 272)]
  | 2 => [(21, 57, 0, 1, 348, false, 349, 350), (26, 34, 0, 1, 352, false, 262, 263), (32, 45, 3, 1, 353, false, 355, 6), (36, 42, 2, 1, 368, false, 369, 370), (40, 56, 2, 1, 373, false, 374, 375), (44, 46, 2, 0, 357, false, 358, 0), (48, 36, 1, 1, 360, false, 340, 341), (52, 47, 1, 0, 361, false, 362, 0), (55, 48, 2, 0, 365, false, 366, 0)]
  | 3 => [(22, 52, 1, 1, 410, false, 411, 412), (26, 53, 1, 1, 418, false, 407, 408), (29, 51, 1, 1, 389, false, 390, 391), (33, 54, 1, 1, 533, false, 415, 416), (41, 61, 2, 0, 466, false, 467, 0), (45, 62, 2, 0, 469, false, 470, 0)]
  | 4 => [(21, 33, 1, 2, 108, false, 109, 0), (28, 66, 1, 1, 423, false, 394, 395), (32, 67, 1, 1, 543, false, 485, 486), (36, 34, 0, 1, 544, false, 262, 263), (39, 42, 2, 1, 545, false, 369, 370), (43, 70, 1, 1, 424, false, 426, 9), (46, 41, 0, 1, 432, false, 249, 250), (49, 39, 3, 1, 433, false, 336, 337), (53, 71, 1, 1, 428, false, 429, 430)]
  | 5 => [(11, 33, 1, 2, 137, false, 109, 0), (22, 49, 0, 2, 139, true, 85, 0), (27, 44, 2, 1, 506, false, 345, 346), (33, 50, 0, 1, 507, false, 315, 316), (37, 53, 1, 1, 554, false, 407, 408), (41, 55, 1, 1, 555, false, 386, 387), (44, 54, 1, 1, 556, false, 415, 416), (47, 42, 2, 1, 557, false, 369, 370)]
  | 6 => [(27, 33, 1, 2, 156, false, 109, 0), (30, 79, 2, 0, 211, false, 212, 0), (34, 78, 1, 0, 208, false, 209, 0), (43, 80, 1, 0, 224, false, 206, 0), (47, 89, 2, 1, 225, false, 226, 227), (50, 102, 1, 0, 240, false, 241, 0), (53, 84, 1, 1, 260, false, 221, 222), (56, 100, 2, 1, 229, false, 231, 0), (60, 88, 1, 1, 298, false, 299, 300), (63, 41, 0, 1, 248, false, 249, 250), (66, 101, 2, 1, 294, false, 296, 1), (69, 34, 0, 1, 269, false, 262, 263), (73, 99, 2, 1, 322, false, 324, 4), (76, 38, 1, 1, 326, false, 271, 272), (79, 90, 1, 1, 327, false, 328, 329), (82, 98, 2, 1, 331, false, 333, 5), (86, 39, 3, 1, 335, false, 336, 337)]
  | 7 => [(19, 83, 0, 1, 607, false, 608, 609), (24, 34, 0, 1, 611, false, 262, 263), (34, 105, 1, 1, 612, false, 614, 16), (42, 95, 0, 1, 620, false, 621, 622), (45, 106, 1, 1, 616, false, 618, 17), (48, 90, 1, 1, 634, false, 328, 329), (51, 108, 2, 1, 629, false, 631, 18), (55, 88, 1, 1, 635, false, 299, 300), (58, 91, 1, 1, 636, false, 637, 638), (61, 93, 3, 1, 640, false, 245, 246), (65, 87, 1, 1, 641, false, 642, 643), (69, 107, 1, 1, 645, false, 647, 19), (73, 92, 1, 1, 624, false, 625, 626), (76, 36, 1, 1, 628, false, 340, 341), (79, 96, 0, 1, 649, false, 266, 267), (87, 38, 1, 1, 653, false, 271, 272), (91, 35, 1, 1, 633, false, 283, 284)]
  | 8 => [(63, 110, 1, 0, 760, false, 761, 0), (67, 111, 1, 0, 757, false, 758, 0), (71, 114, 2, 1, 763, false, 765, 21), (75, 112, 1, 0, 767, false, 768, 0), (78, 117, 1, 1, 774, false, 776, 22), (81, 116, 0, 1, 778, false, 780, 23), (85, 113, 1, 0, 802, false, 803, 0), (91, 122, 2, 1, 798, false, 800, 25), (94, 123, 2, 1, 805, false, 807, 26), (97, 125, 1, 1, 809, false, 811, 27), (102, 126, 1, 1, 821, false, 823, 30), (105, 127, 2, 0, 826, false, 827, 0), (109, 128, 1, 1, 817, false, 819, 29), (112, 129, 2, 1, 829, false, 831, 31), (121, 133, 4, 1, 838, false, 840, 33), (125, 131, 2, 1, 834, false, 836, 32), (128, 134, 1, 1, 858, false, 860, 36), (131, 124, 1, 1, 794, false, 796, 24), (134, 130, 3, 1, 813, false, 815, 28), (138, 136, 1, 1, 846, false, 848, 34), (141, 139, 1, 1, 854, false, 856, 35), (144, 142, 2, 1, 870, false, 872, 37), (157, 132, 3, 1, 901, false, 903, 39), (170, 135, 3, 1, 905, false, 907, 40), (176, 148, 2, 1, 897, false, 899, 38), (179, 151, 1, 1, 925, false, 927, 41), (182, 154, 1, 1, 933, false, 935, 43), (185, 155, 4, 1, 929, false, 931, 42), (189, 157, 1, 1, 937, false, 939, 44), (192, 115, 0, 1, 945, false, 947, 45)]
  | 9 => [(9, 159, 2, 0, 667, false, 668, 0), (15, 0, 3, 2, 59, false, 60, 0), (20, 109, 3, 2, 672, false, 673, 0), (21, 1, 2, 1, 201, false, 202, 203), (25, 118, 2, 1, 753, false, 754, 755), (26, 2, 3, 1, 252, false, 253, 254), (30, 119, 3, 1, 770, false, 771, 772), (31, 3, 3, 1, 274, false, 275, 276), (35, 120, 3, 1, 782, false, 783, 784), (36, 4, 1, 1, 286, false, 287, 288), (40, 121, 1, 1, 786, false, 787, 788), (41, 5, 0, 1, 302, false, 303, 304), (45, 137, 0, 1, 790, false, 791, 792), (46, 6, 1, 1, 434, false, 435, 436), (50, 138, 1, 1, 842, false, 843, 844), (51, 7, 0, 1, 438, false, 439, 440), (54, 140, 0, 1, 850, false, 851, 852), (55, 8, 1, 1, 451, false, 452, 453), (58, 141, 1, 1, 862, false, 863, 864), (59, 9, 2, 1, 472, false, 473, 474), (63, 143, 2, 1, 866, false, 867, 868), (64, 10, 5, 1, 480, false, 481, 482), (68, 144, 5, 1, 877, false, 878, 879), (69, 11, 1, 1, 491, false, 492, 493), (72, 145, 1, 1, 881, false, 882, 883), (73, 12, 3, 1, 508, false, 509, 510), (76, 146, 3, 1, 885, false, 886, 887), (77, 13, 1, 1, 512, false, 513, 514), (80, 147, 1, 1, 889, false, 890, 891), (81, 14, 1, 1, 516, false, 517, 518), (84, 149, 1, 1, 893, false, 894, 895), (85, 15, 1, 1, 562, false, 563, 564), (88, 150, 1, 1, 909, false, 910, 911), (89, 16, 1, 1, 566, false, 567, 568), (92, 152, 1, 1, 913, false, 914, 915), (93, 17, 2, 1, 572, false, 573, 574), (96, 153, 2, 1, 917, false, 918, 919), (97, 18, 0, 1, 580, false, 581, 582), (100, 156, 0, 1, 921, false, 922, 923), (101, 19, 1, 1, 654, false, 655, 656), (104, 158, 1, 1, 941, false, 942, 943)]
  | _ => []
def pt_lib (o : Nat) : List (Nat × Nat × Nat) := match o with
  | 0 => [(1, 1, 62)]
  | 1 => [(1, 1, 111)]
  | 2 => [(3, 1, 70)]
  | 3 => [(3, 1, 87), (36, 4, 459), (37, 5, 465)]
  | 4 => [(3, 1, 104)]
  | 5 => [(3, 1, 135)]
  | 6 => [(3, 1, 154), (38, 2, 217)]
  | 7 => [(3, 1, 589), (82, 3, 650)]
  | 8 => [(1, 1, 675)]
  | _ => []
def pm_ra : List Nat := [3, 5, 1]
abbrev pt_o1 : Nat := 63
abbrev pt_o2 : Nat := 64
abbrev pt_max1 : Nat := 218
abbrev pt_max2 : Nat := 219
abbrev pt_min1 : Nat := 651
abbrev pt_min2 : Nat := 652
abbrev pt_ma : Nat := 55
abbrev pt_c1 : Nat := 460
abbrev pt_c2 : Nat := 461
abbrev pt_c3 : Nat := 462
abbrev pt_c4 : Nat := 463
abbrev pt_c5 : Nat := 464
abbrev pt_ai : Nat := 98
abbrev pt_az : Nat := 752
def pt_ini (o : Nat) : Nat := match o with
  | 0 => 47
  | 1 => 51
  | 2 => 48
  | 3 => 49
  | 4 => 50
  | 5 => 52
  | 6 => 53
  | 7 => 56
  | 8 => 54
  | 9 => 46
  | _ => 99999
def pt_ins (o : Nat) : Nat := match o with
  | 0 => 58
  | 1 => 107
  | 2 => 66
  | 3 => 83
  | 4 => 100
  | 5 => 131
  | 6 => 150
  | 7 => 585
  | 8 => 671
  | _ => 99999
def pt_lay (o : Nat) : List Nat := match o with
  | 0 => [180, 182, 184, 186, 188, 190, 192, 194, 196, 198]
  | 1 => [114, 116]
  | 2 => [74, 76, 78]
  | 3 => [91, 93, 95]
  | 4 => [122, 124, 126]
  | 5 => [142, 144]
  | 6 => [161, 163, 165, 167]
  | 7 => [594, 596, 598, 600]
  | 8 => [701, 703, 705, 707, 709, 711, 713, 715, 717, 719, 721, 723, 725, 727, 729, 731, 733, 735, 737, 739, 741, 743, 745, 747, 749]
  | _ => []
end
section
/-! METHODS of the pure machine, printed by wip/whole/tools/tab.py. -/
def pt_I0 : List pm_E := [(0, .aload_n 0, 1, 0), (1, .invokespecial 1, 4, 0), (4, .aload_n 0, 5, 0), (5, .new 7, 8, 0), (8, .dup, 9, 0), (9, .iload_n 1, 10, 0), (10, .iload_n 2, 11, 0), (11, .iload_n 3, 12, 0), (12, .invokespecial 9, 15, 0), (15, .putfield 12, 18, 0), (18, .aload_n 0, 19, 0), (19, .iconst (4), 20, 0), (20, .anewarray 18, 23, 0), (23, .putfield 20, 26, 0), (26, .iconst (0), 27, 0), (27, .istore 4, 29, 0), (29, .iload 4, 31, 0), (31, .iconst (4), 32, 0), (32, .if_icmp .ge (23), 35, 55), (35, .aload_n 0, 36, 0), (36, .getfield 20, 39, 0), (39, .iload 4, 41, 0), (41, .new 18, 44, 0), (44, .dup, 45, 0), (45, .invokespecial 24, 48, 0), (48, .aastore, 49, 0), (49, .iinc 4 (1), 52, 0), (52, .goto (-23), 55, 29), (55, .aload_n 0, 56, 0), (56, .new 25, 59, 0), (59, .dup, 60, 0), (60, .bipush (40), 62, 0), (62, .invokespecial 27, 65, 0), (65, .putfield 30, 68, 0), (68, .aload_n 0, 69, 0), (69, .new 25, 72, 0), (72, .dup, 73, 0), (73, .bipush (6), 75, 0), (75, .invokespecial 27, 78, 0), (78, .putfield 34, 81, 0), (81, .aload_n 0, 82, 0), (82, .iconst (2), 83, 0), (83, .anewarray 37, 86, 0), (86, .putfield 39, 89, 0), (89, .iconst (0), 90, 0), (90, .istore 4, 92, 0), (92, .iload 4, 94, 0), (94, .iconst (2), 95, 0), (95, .if_icmp .ge (23), 98, 118), (98, .aload_n 0, 99, 0), (99, .getfield 39, 102, 0), (102, .iload 4, 104, 0), (104, .new 37, 107, 0), (107, .dup, 108, 0), (108, .invokespecial 43, 111, 0), (111, .aastore, 112, 0), (112, .iinc 4 (1), 115, 0), (115, .goto (-23), 118, 92), (118, .aload_n 0, 119, 0), (119, .new 44, 122, 0), (122, .dup, 123, 0), (123, .bipush (117), 125, 0), (125, .invokespecial 46, 128, 0), (128, .putfield 47, 131, 0), (131, .aload_n 0, 132, 0), (132, .new 44, 135, 0), (135, .dup, 136, 0), (136, .bipush (120), 138, 0), (138, .invokespecial 46, 141, 0), (141, .putfield 51, 144, 0), (144, .aload_n 0, 145, 0), (145, .iconst (4), 146, 0), (146, .newarray .int, 148, 0), (148, .putfield 54, 151, 0), (151, .aload_n 0, 152, 0), (152, .new 58, 155, 0), (155, .dup, 156, 0), (156, .invokespecial 60, 159, 0), (159, .putfield 61, 162, 0), (162, .aload_n 0, 163, 0), (163, .new 58, 166, 0), (166, .dup, 167, 0), (167, .invokespecial 60, 170, 0), (170, .putfield 65, 173, 0), (173, .return_, 174, 0)]
abbrev pt_m0 : pm_MT := (0, 5, true, none, ⟨"SliceDepot", "<init>", "(III)V"⟩, prog_1_method_1_code, pt_I0)
def pt_I1 : List pm_E := [(0, .iload_n 1, 1, 0), (1, .invokestatic 68, 4, 0), (4, .ifCond .eq (17), 7, 21), (7, .iload_n 1, 8, 0), (8, .ifCond .eq (13), 11, 21), (11, .iload_n 2, 12, 0), (12, .iconst (1), 13, 0), (13, .if_icmp .eq (10), 16, 23), (16, .iload_n 2, 17, 0), (17, .iconst (2), 18, 0), (18, .if_icmp .eq (5), 21, 23), (21, .iconst (0), 22, 0), (22, .ireturn, 23, 0), (23, .aload_n 0, 24, 0), (24, .getfield 61, 27, 0), (27, .iload_n 1, 28, 0), (28, .invokestatic 72, 31, 0), (31, .invokevirtual 76, 34, 0), (34, .istore_n 3, 35, 0), (35, .iload_n 1, 36, 0), (36, .invokestatic 79, 39, 0), (39, .istore 4, 41, 0), (41, .aload_n 0, 42, 0), (42, .getfield 61, 45, 0), (45, .iload_n 3, 46, 0), (46, .invokevirtual 82, 49, 0), (49, .ifCond .eq (17), 52, 66), (52, .aload_n 0, 53, 0), (53, .getfield 61, 56, 0), (56, .iload_n 3, 57, 0), (57, .iload 4, 59, 0), (59, .invokevirtual 85, 62, 0), (62, .iconst (-1), 63, 0), (63, .if_icmp .eq (5), 66, 68), (66, .iconst (0), 67, 0), (67, .ireturn, 68, 0), (68, .aload_n 0, 69, 0), (69, .getfield 61, 72, 0), (72, .iload_n 3, 73, 0), (73, .iload 4, 75, 0), (75, .iload_n 2, 76, 0), (76, .invokevirtual 89, 79, 0), (79, .iconst (-1), 80, 0), (80, .if_icmp .eq (7), 83, 87), (83, .iconst (1), 84, 0), (84, .goto (4), 87, 88), (87, .iconst (0), 88, 0), (88, .ireturn, 89, 0)]
abbrev pt_m1 : pm_MT := (0, 5, false, (some .boolean), ⟨"SliceDepot", "create", "(II)Z"⟩, prog_1_method_2_code, pt_I1)
def pt_I2 : List pm_E := [(0, .aload_n 0, 1, 0), (1, .getfield 61, 4, 0), (4, .iload_n 1, 5, 0), (5, .invokevirtual 93, 8, 0), (8, .astore 4, 10, 0), (10, .aload 4, 12, 0), (12, .ifnull (14), 15, 26), (15, .iload_n 3, 16, 0), (16, .iconst (1), 17, 0), (17, .if_icmp .lt (9), 20, 26), (20, .iload_n 3, 21, 0), (21, .bipush (16), 23, 0), (23, .if_icmp .le (5), 26, 28), (26, .iconst (-1), 27, 0), (27, .ireturn, 28, 0), (28, .aload 4, 30, 0), (30, .invokevirtual 97, 33, 0), (33, .iload_n 3, 34, 0), (34, .iadd, 35, 0), (35, .bipush (16), 37, 0), (37, .if_icmp .gt (17), 40, 54), (40, .aload_n 0, 41, 0), (41, .getfield 61, 44, 0), (44, .invokevirtual 101, 47, 0), (47, .iload_n 3, 48, 0), (48, .iadd, 49, 0), (49, .bipush (80), 51, 0), (51, .if_icmp .le (5), 54, 56), (54, .iconst (-1), 55, 0), (55, .ireturn, 56, 0), (56, .iconst (0), 57, 0), (57, .istore 5, 59, 0), (59, .iload 5, 61, 0), (61, .iload_n 3, 62, 0), (62, .if_icmp .ge (22), 65, 84), (65, .aload 4, 67, 0), (67, .iload_n 2, 68, 0), (68, .bipush (37), 70, 0), (70, .iload 5, 72, 0), (72, .imul, 73, 0), (73, .iadd, 74, 0), (74, .invokevirtual 104, 77, 0), (77, .pop, 78, 0), (78, .iinc 5 (1), 81, 0), (81, .goto (-22), 84, 59), (84, .aload 4, 86, 0), (86, .invokevirtual 97, 89, 0), (89, .ireturn, 90, 0)]
abbrev pt_m2 : pm_MT := (0, 6, false, (some .int), ⟨"SliceDepot", "append", "(III)I"⟩, prog_1_method_3_code, pt_I2)
def pt_I3 : List pm_E := [(0, .aload_n 0, 1, 0), (1, .getfield 61, 4, 0), (4, .iload_n 1, 5, 0), (5, .invokevirtual 93, 8, 0), (8, .astore 4, 10, 0), (10, .aload 4, 12, 0), (12, .ifnull (17), 15, 29), (15, .aload 4, 17, 0), (17, .iload_n 2, 18, 0), (18, .iload_n 3, 19, 0), (19, .invokevirtual 107, 22, 0), (22, .ifCond .eq (7), 25, 29), (25, .iconst (1), 26, 0), (26, .goto (4), 29, 30), (29, .iconst (0), 30, 0), (30, .ireturn, 31, 0)]
abbrev pt_m3 : pm_MT := (0, 5, false, (some .boolean), ⟨"SliceDepot", "edit", "(III)Z"⟩, prog_1_method_4_code, pt_I3)
def pt_I4 : List pm_E := [(0, .aload_n 0, 1, 0), (1, .getfield 61, 4, 0), (4, .iload_n 1, 5, 0), (5, .invokevirtual 76, 8, 0), (8, .istore_n 2, 9, 0), (9, .iload_n 2, 10, 0), (10, .iconst (-1), 11, 0), (11, .if_icmp .eq (7), 14, 18), (14, .iload_n 2, 15, 0), (15, .ifCond .ne (5), 18, 20), (18, .iconst (-1), 19, 0), (19, .ireturn, 20, 0), (20, .aload_n 0, 21, 0), (21, .getfield 61, 24, 0), (24, .iload_n 2, 25, 0), (25, .invokevirtual 111, 28, 0), (28, .ireturn, 29, 0)]
abbrev pt_m4 : pm_MT := (0, 3, false, (some .int), ⟨"SliceDepot", "remove", "(I)I"⟩, prog_1_method_5_code, pt_I4)
def pt_I5 : List pm_E := [(0, .aload_n 0, 1, 0), (1, .invokevirtual 114, 4, 0), (4, .istore_n 1, 5, 0), (5, .iload_n 1, 6, 0), (6, .iconst (-1), 7, 0), (7, .if_icmp .ne (5), 10, 12), (10, .iconst (-1), 11, 0), (11, .ireturn, 12, 0), (12, .aload_n 0, 13, 0), (13, .getfield 20, 16, 0), (16, .iload_n 1, 17, 0), (17, .aaload, 18, 0), (18, .astore_n 2, 19, 0), (19, .aload_n 0, 20, 0), (20, .getfield 61, 23, 0), (23, .aload_n 0, 24, 0), (24, .getfield 47, 27, 0), (27, .invokevirtual 117, 30, 0), (30, .aload_n 0, 31, 0), (31, .getfield 12, 34, 0), (34, .aload_n 0, 35, 0), (35, .getfield 47, 38, 0), (38, .aload_n 2, 39, 0), (39, .invokevirtual 121, 42, 0), (42, .aload_n 0, 43, 0), (43, .getfield 30, 46, 0), (46, .invokevirtual 125, 49, 0), (49, .aload_n 0, 50, 0), (50, .aload_n 2, 51, 0), (51, .invokevirtual 126, 54, 0), (54, .iadd, 55, 0), (55, .bipush (40), 57, 0), (57, .if_icmp .le (10), 60, 67), (60, .aload_n 2, 61, 0), (61, .invokevirtual 130, 64, 0), (64, .bipush (-2), 66, 0), (66, .ireturn, 67, 0), (67, .aload_n 0, 68, 0), (68, .aload_n 2, 69, 0), (69, .invokevirtual 133, 72, 0), (72, .iload_n 1, 73, 0), (73, .ireturn, 74, 0)]
abbrev pt_m5 : pm_MT := (0, 3, false, (some .int), ⟨"SliceDepot", "make", "()I"⟩, prog_1_method_6_code, pt_I5)
def pt_I6 : List pm_E := [(0, .aload_n 0, 1, 0), (1, .iload_n 1, 2, 0), (2, .invokevirtual 137, 5, 0), (5, .astore_n 2, 6, 0), (6, .aload_n 2, 7, 0), (7, .ifnonnull (5), 10, 12), (10, .iconst (0), 11, 0), (11, .ireturn, 12, 0), (12, .aload_n 2, 13, 0), (13, .invokevirtual 130, 16, 0), (16, .iconst (1), 17, 0), (17, .ireturn, 18, 0)]
abbrev pt_m6 : pm_MT := (0, 3, false, (some .boolean), ⟨"SliceDepot", "discard", "(I)Z"⟩, prog_1_method_7_code, pt_I6)
def pt_I7 : List pm_E := [(0, .iconst (0), 1, 0), (1, .istore_n 1, 2, 0), (2, .aload_n 0, 3, 0), (3, .getfield 30, 6, 0), (6, .invokevirtual 125, 9, 0), (9, .iconst (1), 10, 0), (10, .isub, 11, 0), (11, .istore_n 2, 12, 0), (12, .iload_n 2, 13, 0), (13, .ifCond .lt (36), 16, 49), (16, .aload_n 0, 17, 0), (17, .aload_n 0, 18, 0), (18, .getfield 30, 21, 0), (21, .iload_n 2, 22, 0), (22, .invokevirtual 141, 25, 0), (25, .invokevirtual 144, 28, 0), (28, .ifCond .ne (15), 31, 43), (31, .aload_n 0, 32, 0), (32, .getfield 30, 35, 0), (35, .iload_n 2, 36, 0), (36, .invokevirtual 147, 39, 0), (39, .pop, 40, 0), (40, .iinc 1 (1), 43, 0), (43, .iinc 2 (-1), 46, 0), (46, .goto (-34), 49, 12), (49, .iload_n 1, 50, 0), (50, .ireturn, 51, 0)]
abbrev pt_m7 : pm_MT := (0, 3, false, (some .int), ⟨"SliceDepot", "collect", "()I"⟩, prog_1_method_8_code, pt_I7)
def pt_I8 : List pm_E := [(0, .aload_n 0, 1, 0), (1, .iload_n 1, 2, 0), (2, .invokevirtual 137, 5, 0), (5, .astore_n 2, 6, 0), (6, .aload_n 2, 7, 0), (7, .ifnonnull (7), 10, 14), (10, .iconst (0), 11, 0), (11, .goto (7), 14, 18), (14, .aload_n 2, 15, 0), (15, .invokevirtual 150, 18, 0), (18, .ireturn, 19, 0)]
abbrev pt_m8 : pm_MT := (0, 3, false, (some .int), ⟨"SliceDepot", "root", "(I)I"⟩, prog_1_method_9_code, pt_I8)
def pt_I9 : List pm_E := [(0, .aload_n 0, 1, 0), (1, .iload_n 1, 2, 0), (2, .invokevirtual 137, 5, 0), (5, .astore_n 3, 6, 0), (6, .aload_n 3, 7, 0), (7, .ifnull (11), 10, 18), (10, .aload_n 3, 11, 0), (11, .iload_n 2, 12, 0), (12, .invokevirtual 153, 15, 0), (15, .ifCond .ne (7), 18, 22), (18, .ldc2_w 156, 21, 0), (21, .lreturn, 22, 0), (22, .aload_n 3, 23, 0), (23, .iload_n 2, 24, 0), (24, .invokevirtual 158, 27, 0), (27, .i2l, 28, 0), (28, .bipush (32), 30, 0), (30, .lshl, 31, 0), (31, .aload_n 3, 32, 0), (32, .iload_n 2, 33, 0), (33, .invokevirtual 161, 36, 0), (36, .i2l, 37, 0), (37, .ldc2_w 164, 40, 0), (40, .land, 41, 0), (41, .ladd, 42, 0), (42, .lreturn, 43, 0)]
abbrev pt_m9 : pm_MT := (0, 4, false, (some .long), ⟨"SliceDepot", "piece", "(II)J"⟩, prog_1_method_10_code, pt_I9)
def pt_I10 : List pm_E := [(0, .aload_n 0, 1, 0), (1, .iload_n 2, 2, 0), (2, .invokevirtual 137, 5, 0), (5, .astore 6, 7, 0), (7, .iload_n 1, 8, 0), (8, .ifCond .eq (8), 11, 16), (11, .iload_n 1, 12, 0), (12, .iconst (1), 13, 0), (13, .if_icmp .ne (17), 16, 30), (16, .aload 6, 18, 0), (18, .ifnull (12), 21, 30), (21, .aload 6, 23, 0), (23, .iload_n 3, 24, 0), (24, .invokevirtual 153, 27, 0), (27, .ifCond .ne (5), 30, 32), (30, .iconst (0), 31, 0), (31, .ireturn, 32, 0), (32, .iload_n 1, 33, 0), (33, .ifCond .ne (10), 36, 43), (36, .aload_n 0, 37, 0), (37, .getfield 30, 40, 0), (40, .goto (7), 43, 47), (43, .aload_n 0, 44, 0), (44, .getfield 34, 47, 0), (47, .astore 7, 49, 0), (49, .aload 6, 51, 0), (51, .iload_n 3, 52, 0), (52, .invokevirtual 161, 55, 0), (55, .istore 8, 57, 0), (57, .iload 4, 59, 0), (59, .iconst (-1), 60, 0), (60, .if_icmp .ne (16), 63, 76), (63, .aload 7, 65, 0), (65, .aload 7, 67, 0), (67, .iload 8, 69, 0), (69, .invokevirtual 166, 72, 0), (72, .invokevirtual 147, 75, 0), (75, .ireturn, 76, 0), (76, .aload 7, 78, 0), (78, .iload 8, 80, 0), (80, .invokevirtual 169, 83, 0), (83, .astore 9, 85, 0), (85, .aload 9, 87, 0), (87, .ifnull (27), 90, 114), (90, .iload 5, 92, 0), (92, .invokestatic 172, 95, 0), (95, .ifCond .eq (19), 98, 114), (98, .aload 9, 100, 0), (100, .iload 4, 102, 0), (102, .iload 5, 104, 0), (104, .invokevirtual 107, 107, 0), (107, .ifCond .eq (7), 110, 114), (110, .iconst (1), 111, 0), (111, .goto (4), 114, 115), (114, .iconst (0), 115, 0), (115, .ireturn, 116, 0)]
abbrev pt_m10 : pm_MT := (0, 10, false, (some .boolean), ⟨"SliceDepot", "damage", "(IIIII)Z"⟩, prog_1_method_11_code, pt_I10)
def pt_I11 : List pm_E := [(0, .iload_n 1, 1, 0), (1, .invokestatic 175, 4, 0), (4, .ifCond .ne (5), 7, 9), (7, .iconst (0), 8, 0), (8, .ireturn, 9, 0), (9, .aload_n 0, 10, 0), (10, .getfield 61, 13, 0), (13, .aload_n 0, 14, 0), (14, .getfield 39, 17, 0), (17, .iload_n 1, 18, 0), (18, .aaload, 19, 0), (19, .invokevirtual 178, 22, 0), (22, .invokevirtual 117, 25, 0), (25, .aload_n 0, 26, 0), (26, .getfield 39, 29, 0), (29, .iload_n 1, 30, 0), (30, .aaload, 31, 0), (31, .aload_n 0, 32, 0), (32, .getfield 12, 35, 0), (35, .invokevirtual 182, 38, 0), (38, .pop, 39, 0), (39, .iconst (1), 40, 0), (40, .ireturn, 41, 0)]
abbrev pt_m11 : pm_MT := (0, 2, false, (some .boolean), ⟨"SliceDepot", "seed", "(I)Z"⟩, prog_1_method_12_code, pt_I11)
def pt_I12 : List pm_E := [(0, .iload_n 1, 1, 0), (1, .invokestatic 175, 4, 0), (4, .ifCond .eq (31), 7, 35), (7, .iload_n 3, 8, 0), (8, .invokestatic 172, 11, 0), (11, .ifCond .eq (24), 14, 35), (14, .aload_n 0, 15, 0), (15, .getfield 39, 18, 0), (18, .iload_n 1, 19, 0), (19, .aaload, 20, 0), (20, .invokevirtual 178, 23, 0), (23, .iload_n 2, 24, 0), (24, .iload_n 3, 25, 0), (25, .invokevirtual 107, 28, 0), (28, .ifCond .eq (7), 31, 35), (31, .iconst (1), 32, 0), (32, .goto (4), 35, 36), (35, .iconst (0), 36, 0), (36, .ireturn, 37, 0)]
abbrev pt_m12 : pm_MT := (0, 4, false, (some .boolean), ⟨"SliceDepot", "alter", "(III)Z"⟩, prog_1_method_13_code, pt_I12)
def pt_I13 : List pm_E := [(0, .iload_n 1, 1, 0), (1, .invokestatic 175, 4, 0), (4, .ifCond .eq (19), 7, 23), (7, .aload_n 0, 8, 0), (8, .getfield 39, 11, 0), (11, .iload_n 1, 12, 0), (12, .aaload, 13, 0), (13, .aload_n 0, 14, 0), (14, .getfield 12, 17, 0), (17, .invokevirtual 182, 20, 0), (20, .goto (4), 23, 24), (23, .iconst (-1), 24, 0), (24, .ireturn, 25, 0)]
abbrev pt_m13 : pm_MT := (0, 2, false, (some .int), ⟨"SliceDepot", "scan", "(I)I"⟩, prog_1_method_14_code, pt_I13)
def pt_I14 : List pm_E := [(0, .aload_n 0, 1, 0), (1, .iload_n 1, 2, 0), (2, .invokevirtual 137, 5, 0), (5, .astore_n 2, 6, 0), (6, .aload_n 2, 7, 0), (7, .ifnonnull (5), 10, 12), (10, .iconst (-1), 11, 0), (11, .ireturn, 12, 0), (12, .aload_n 0, 13, 0), (13, .getfield 51, 16, 0), (16, .invokevirtual 186, 19, 0), (19, .iconst (0), 20, 0), (20, .istore_n 3, 21, 0), (21, .iload_n 3, 22, 0), (22, .iconst (4), 23, 0), (23, .if_icmp .ge (16), 26, 39), (26, .aload_n 0, 27, 0), (27, .getfield 54, 30, 0), (30, .iload_n 3, 31, 0), (31, .iconst (0), 32, 0), (32, .iastore, 33, 0), (33, .iinc 3 (1), 36, 0), (36, .goto (-15), 39, 21), (39, .iconst (0), 40, 0), (40, .istore_n 3, 41, 0), (41, .iload_n 3, 42, 0), (42, .aload_n 2, 43, 0), (43, .invokevirtual 187, 46, 0), (46, .if_icmp .ge (30), 49, 76), (49, .aload_n 0, 50, 0), (50, .aload_n 2, 51, 0), (51, .iload_n 3, 52, 0), (52, .invokevirtual 188, 55, 0), (55, .ifCond .ne (15), 58, 70), (58, .aload_n 0, 59, 0), (59, .getfield 51, 62, 0), (62, .invokevirtual 186, 65, 0), (65, .bipush (-2), 67, 0), (67, .iload_n 3, 68, 0), (68, .isub, 69, 0), (69, .ireturn, 70, 0), (70, .iinc 3 (1), 73, 0), (73, .goto (-32), 76, 41), (76, .aload_n 0, 77, 0), (77, .getfield 51, 80, 0), (80, .invokevirtual 97, 83, 0), (83, .ireturn, 84, 0)]
abbrev pt_m14 : pm_MT := (0, 4, false, (some .int), ⟨"SliceDepot", "extract", "(I)I"⟩, prog_1_method_15_code, pt_I14)
def pt_I15 : List pm_E := [(0, .iload_n 1, 1, 0), (1, .ifCond .lt (17), 4, 18), (4, .iload_n 1, 5, 0), (5, .iconst (4), 6, 0), (6, .if_icmp .ge (12), 9, 18), (9, .aload_n 0, 10, 0), (10, .getfield 54, 13, 0), (13, .iload_n 1, 14, 0), (14, .iaload, 15, 0), (15, .goto (4), 18, 19), (18, .iconst (-1), 19, 0), (19, .ireturn, 20, 0)]
abbrev pt_m15 : pm_MT := (0, 2, false, (some .int), ⟨"SliceDepot", "counts", "(I)I"⟩, prog_1_method_16_code, pt_I15)
def pt_I16 : List pm_E := [(0, .iload_n 1, 1, 0), (1, .iconst (-1), 2, 0), (2, .if_icmp .ne (11), 5, 13), (5, .aload_n 0, 6, 0), (6, .getfield 51, 9, 0), (9, .invokevirtual 97, 12, 0), (12, .ireturn, 13, 0), (13, .aload_n 0, 14, 0), (14, .getfield 51, 17, 0), (17, .iload_n 1, 18, 0), (18, .invokevirtual 192, 21, 0), (21, .ifCond .eq (14), 24, 35), (24, .aload_n 0, 25, 0), (25, .getfield 51, 28, 0), (28, .iload_n 1, 29, 0), (29, .invokevirtual 193, 32, 0), (32, .goto (5), 35, 37), (35, .bipush (-2), 37, 0), (37, .ireturn, 38, 0)]
abbrev pt_m16 : pm_MT := (0, 2, false, (some .int), ⟨"SliceDepot", "output", "(I)I"⟩, prog_1_method_17_code, pt_I16)
def pt_I17 : List pm_E := [(0, .iload_n 2, 1, 0), (1, .iconst (-1), 2, 0), (2, .if_icmp .ne (12), 5, 14), (5, .aload_n 0, 6, 0), (6, .getfield 51, 9, 0), (9, .iload_n 1, 10, 0), (10, .invokevirtual 196, 13, 0), (13, .ireturn, 14, 0), (14, .iload_n 2, 15, 0), (15, .invokestatic 172, 18, 0), (18, .ifCond .ne (5), 21, 23), (21, .iconst (0), 22, 0), (22, .ireturn, 23, 0), (23, .iload_n 1, 24, 0), (24, .aload_n 0, 25, 0), (25, .getfield 51, 28, 0), (28, .invokevirtual 97, 31, 0), (31, .if_icmp .ne (14), 34, 45), (34, .aload_n 0, 35, 0), (35, .getfield 51, 38, 0), (38, .iload_n 2, 39, 0), (39, .invokevirtual 104, 42, 0), (42, .goto (12), 45, 54), (45, .aload_n 0, 46, 0), (46, .getfield 51, 49, 0), (49, .iload_n 1, 50, 0), (50, .iload_n 2, 51, 0), (51, .invokevirtual 107, 54, 0), (54, .ireturn, 55, 0)]
abbrev pt_m17 : pm_MT := (0, 3, false, (some .boolean), ⟨"SliceDepot", "spoil", "(II)Z"⟩, prog_1_method_18_code, pt_I17)
def pt_I18 : List pm_E := [(0, .new 199, 3, 0), (3, .dup, 4, 0), (4, .aload_n 0, 5, 0), (5, .getfield 51, 8, 0), (8, .aload_n 0, 9, 0), (9, .getfield 65, 12, 0), (12, .invokespecial 201, 15, 0), (15, .invokevirtual 204, 18, 0), (18, .istore_n 1, 19, 0), (19, .iload_n 1, 20, 0), (20, .ifCond .lt (21), 23, 41), (23, .aload_n 0, 24, 0), (24, .getfield 61, 27, 0), (27, .astore_n 2, 28, 0), (28, .aload_n 0, 29, 0), (29, .aload_n 0, 30, 0), (30, .getfield 65, 33, 0), (33, .putfield 61, 36, 0), (36, .aload_n 0, 37, 0), (37, .aload_n 2, 38, 0), (38, .putfield 65, 41, 0), (41, .iload_n 1, 42, 0), (42, .ireturn, 43, 0)]
abbrev pt_m18 : pm_MT := (0, 3, false, (some .int), ⟨"SliceDepot", "unpack", "()I"⟩, prog_1_method_19_code, pt_I18)
def pt_I19 : List pm_E := [(0, .iload_n 1, 1, 0), (1, .tableswitch (119) (0) (7) #[(47), (55), (63), (82), (87), (95), (103), (111)], 48, 0), (48, .aload_n 0, 49, 0), (49, .getfield 61, 52, 0), (52, .invokevirtual 207, 55, 0), (55, .ireturn, 56, 0), (56, .aload_n 0, 57, 0), (57, .getfield 61, 60, 0), (60, .invokevirtual 101, 63, 0), (63, .ireturn, 64, 0), (64, .aload_n 0, 65, 0), (65, .getfield 61, 68, 0), (68, .aload_n 0, 69, 0), (69, .getfield 47, 72, 0), (72, .invokevirtual 117, 75, 0), (75, .aload_n 0, 76, 0), (76, .getfield 47, 79, 0), (79, .invokevirtual 97, 82, 0), (82, .ireturn, 83, 0), (83, .aload_n 0, 84, 0), (84, .invokevirtual 210, 87, 0), (87, .ireturn, 88, 0), (88, .aload_n 0, 89, 0), (89, .getfield 30, 92, 0), (92, .invokevirtual 125, 95, 0), (95, .ireturn, 96, 0), (96, .aload_n 0, 97, 0), (97, .getfield 30, 100, 0), (100, .invokevirtual 213, 103, 0), (103, .ireturn, 104, 0), (104, .aload_n 0, 105, 0), (105, .getfield 34, 108, 0), (108, .invokevirtual 125, 111, 0), (111, .ireturn, 112, 0), (112, .aload_n 0, 113, 0), (113, .getfield 34, 116, 0), (116, .invokevirtual 213, 119, 0), (119, .ireturn, 120, 0), (120, .iconst (-1), 121, 0), (121, .ireturn, 122, 0)]
abbrev pt_m19 : pm_MT := (0, 2, false, (some .int), ⟨"SliceDepot", "size", "(I)I"⟩, prog_1_method_20_code, pt_I19)
def pt_I20 : List pm_E := [(0, .iload_n 0, 1, 0), (1, .ifCond .lt (14), 4, 15), (4, .iload_n 0, 5, 0), (5, .sipush (255), 8, 0), (8, .if_icmp .gt (7), 11, 15), (11, .iconst (1), 12, 0), (12, .goto (4), 15, 16), (15, .iconst (0), 16, 0), (16, .ireturn, 17, 0)]
abbrev pt_m20 : pm_MT := (0, 1, false, (some .boolean), ⟨"SliceDepot", "isByte", "(I)Z"⟩, prog_1_method_21_code, pt_I20)
def pt_I21 : List pm_E := [(0, .iload_n 0, 1, 0), (1, .ifCond .lt (12), 4, 13), (4, .iload_n 0, 5, 0), (5, .iconst (2), 6, 0), (6, .if_icmp .ge (7), 9, 13), (9, .iconst (1), 10, 0), (10, .goto (4), 13, 14), (13, .iconst (0), 14, 0), (14, .ireturn, 15, 0)]
abbrev pt_m21 : pm_MT := (0, 1, false, (some .boolean), ⟨"SliceDepot", "isSeed", "(I)Z"⟩, prog_1_method_22_code, pt_I21)
def pt_I22 : List pm_E := [(0, .iload_n 1, 1, 0), (1, .ifCond .lt (20), 4, 21), (4, .iload_n 1, 5, 0), (5, .iconst (4), 6, 0), (6, .if_icmp .ge (15), 9, 21), (9, .aload_n 0, 10, 0), (10, .getfield 20, 13, 0), (13, .iload_n 1, 14, 0), (14, .aaload, 15, 0), (15, .invokevirtual 187, 18, 0), (18, .ifCond .ne (5), 21, 23), (21, .aconst_null, 22, 0), (22, .areturn, 23, 0), (23, .aload_n 0, 24, 0), (24, .getfield 20, 27, 0), (27, .iload_n 1, 28, 0), (28, .aaload, 29, 0), (29, .areturn, 30, 0)]
abbrev pt_m22 : pm_MT := (0, 2, false, (some (.object "SliceDepot$PieceList")), ⟨"SliceDepot", "imageNumbered", "(I)LSliceDepot$PieceList;"⟩, prog_1_method_23_code, pt_I22)
def pt_I23 : List pm_E := [(0, .iconst (0), 1, 0), (1, .istore_n 1, 2, 0), (2, .iload_n 1, 3, 0), (3, .iconst (4), 4, 0), (4, .if_icmp .ge (19), 7, 23), (7, .aload_n 0, 8, 0), (8, .iload_n 1, 9, 0), (9, .invokevirtual 137, 12, 0), (12, .ifnonnull (5), 15, 17), (15, .iload_n 1, 16, 0), (16, .ireturn, 17, 0), (17, .iinc 1 (1), 20, 0), (20, .goto (-18), 23, 2), (23, .iconst (-1), 24, 0), (24, .ireturn, 25, 0)]
abbrev pt_m23 : pm_MT := (0, 2, false, (some .int), ⟨"SliceDepot", "freeImage", "()I"⟩, prog_1_method_24_code, pt_I23)
def pt_I24 : List pm_E := [(0, .iconst (0), 1, 0), (1, .istore_n 1, 2, 0), (2, .iconst (0), 3, 0), (3, .istore_n 2, 4, 0), (4, .iload_n 2, 5, 0), (5, .iconst (4), 6, 0), (6, .if_icmp .ge (20), 9, 26), (9, .aload_n 0, 10, 0), (10, .iload_n 2, 11, 0), (11, .invokevirtual 137, 14, 0), (14, .ifnull (6), 17, 20), (17, .iinc 1 (1), 20, 0), (20, .iinc 2 (1), 23, 0), (23, .goto (-19), 26, 4), (26, .iload_n 1, 27, 0), (27, .ireturn, 28, 0)]
abbrev pt_m24 : pm_MT := (0, 3, false, (some .int), ⟨"SliceDepot", "imagesThere", "()I"⟩, prog_1_method_25_code, pt_I24)
def pt_I25 : List pm_E := [(0, .iconst (0), 1, 0), (1, .istore_n 2, 2, 0), (2, .iload_n 2, 3, 0), (3, .iconst (4), 4, 0), (4, .if_icmp .ge (25), 7, 29), (7, .aload_n 0, 8, 0), (8, .getfield 20, 11, 0), (11, .iload_n 2, 12, 0), (12, .aaload, 13, 0), (13, .iload_n 1, 14, 0), (14, .invokevirtual 216, 17, 0), (17, .iconst (-1), 18, 0), (18, .if_icmp .eq (5), 21, 23), (21, .iconst (1), 22, 0), (22, .ireturn, 23, 0), (23, .iinc 2 (1), 26, 0), (26, .goto (-24), 29, 2), (29, .iconst (0), 30, 0), (30, .ireturn, 31, 0)]
abbrev pt_m25 : pm_MT := (0, 3, false, (some .boolean), ⟨"SliceDepot", "isIdOfAnImage", "(I)Z"⟩, prog_1_method_26_code, pt_I25)
def pt_I26 : List pm_E := [(0, .iconst (0), 1, 0), (1, .istore_n 2, 2, 0), (2, .iconst (0), 3, 0), (3, .istore_n 3, 4, 0), (4, .iload_n 3, 5, 0), (5, .aload_n 1, 6, 0), (6, .invokevirtual 187, 9, 0), (9, .if_icmp .ge (42), 12, 51), (12, .aload_n 1, 13, 0), (13, .iload_n 3, 14, 0), (14, .invokevirtual 161, 17, 0), (17, .istore 4, 19, 0), (19, .aload_n 0, 20, 0), (20, .getfield 30, 23, 0), (23, .iload 4, 25, 0), (25, .invokevirtual 166, 28, 0), (28, .iconst (-1), 29, 0), (29, .if_icmp .ne (16), 32, 45), (32, .aload_n 1, 33, 0), (33, .iload 4, 35, 0), (35, .invokevirtual 216, 38, 0), (38, .iload_n 3, 39, 0), (39, .if_icmp .ne (6), 42, 45), (42, .iinc 2 (1), 45, 0), (45, .iinc 3 (1), 48, 0), (48, .goto (-44), 51, 4), (51, .iload_n 2, 52, 0), (52, .ireturn, 53, 0)]
abbrev pt_m26 : pm_MT := (0, 5, false, (some .int), ⟨"SliceDepot", "idsNewToStore", "(LSliceDepot$PieceList;)I"⟩, prog_1_method_27_code, pt_I26)
def pt_I27 : List pm_E := [(0, .iconst (0), 1, 0), (1, .istore_n 2, 2, 0), (2, .iload_n 2, 3, 0), (3, .aload_n 1, 4, 0), (4, .invokevirtual 187, 7, 0), (7, .if_icmp .ge (49), 10, 56), (10, .aload_n 1, 11, 0), (11, .iload_n 2, 12, 0), (12, .invokevirtual 161, 15, 0), (15, .istore_n 3, 16, 0), (16, .aload_n 0, 17, 0), (17, .getfield 30, 20, 0), (20, .iload_n 3, 21, 0), (21, .invokevirtual 166, 24, 0), (24, .iconst (-1), 25, 0), (25, .if_icmp .ne (25), 28, 50), (28, .aload_n 0, 29, 0), (29, .getfield 30, 32, 0), (32, .iload_n 3, 33, 0), (33, .aload_n 0, 34, 0), (34, .getfield 47, 37, 0), (37, .aload_n 1, 38, 0), (38, .iload_n 2, 39, 0), (39, .invokevirtual 219, 42, 0), (42, .aload_n 1, 43, 0), (43, .iload_n 2, 44, 0), (44, .invokevirtual 222, 47, 0), (47, .invokevirtual 225, 50, 0), (50, .iinc 2 (1), 53, 0), (53, .goto (-51), 56, 2), (56, .return_, 57, 0)]
abbrev pt_m27 : pm_MT := (0, 4, false, none, ⟨"SliceDepot", "storePieces", "(LSliceDepot$PieceList;)V"⟩, prog_1_method_28_code, pt_I27)
def pt_I28 : List pm_E := [(0, .aload_n 1, 1, 0), (1, .iload_n 2, 2, 0), (2, .invokevirtual 161, 5, 0), (5, .istore_n 3, 6, 0), (6, .aload_n 1, 7, 0), (7, .iload_n 2, 8, 0), (8, .invokevirtual 222, 11, 0), (11, .istore 4, 13, 0), (13, .aload_n 0, 14, 0), (14, .aload_n 1, 15, 0), (15, .iload_n 2, 16, 0), (16, .invokevirtual 229, 19, 0), (19, .ifCond .ne (33), 22, 52), (22, .aload_n 0, 23, 0), (23, .iload_n 3, 24, 0), (24, .iload 4, 26, 0), (26, .invokevirtual 232, 29, 0), (29, .ifCond .ne (23), 32, 52), (32, .aload_n 0, 33, 0), (33, .iload_n 3, 34, 0), (34, .iload 4, 36, 0), (36, .invokevirtual 235, 39, 0), (39, .ifCond .ne (13), 42, 52), (42, .aload_n 0, 43, 0), (43, .iload_n 3, 44, 0), (44, .iload 4, 46, 0), (46, .invokevirtual 238, 49, 0), (49, .ifCond .eq (7), 52, 56), (52, .iconst (1), 53, 0), (53, .goto (4), 56, 57), (56, .iconst (0), 57, 0), (57, .ireturn, 58, 0)]
abbrev pt_m28 : pm_MT := (0, 5, false, (some .boolean), ⟨"SliceDepot", "writePiece", "(LSliceDepot$PieceList;I)Z"⟩, prog_1_method_29_code, pt_I28)
def pt_I29 : List pm_E := [(0, .aload_n 1, 1, 0), (1, .aload_n 1, 2, 0), (2, .iload_n 2, 3, 0), (3, .invokevirtual 161, 6, 0), (6, .aload_n 1, 7, 0), (7, .iload_n 2, 8, 0), (8, .invokevirtual 222, 11, 0), (11, .invokevirtual 241, 14, 0), (14, .istore_n 3, 15, 0), (15, .iload_n 3, 16, 0), (16, .iconst (-1), 17, 0), (17, .if_icmp .eq (8), 20, 25), (20, .iload_n 3, 21, 0), (21, .iload_n 2, 22, 0), (22, .if_icmp .lt (5), 25, 27), (25, .iconst (0), 26, 0), (26, .ireturn, 27, 0), (27, .aload_n 0, 28, 0), (28, .getfield 51, 31, 0), (31, .aload_n 0, 32, 0), (32, .getfield 51, 35, 0), (35, .aload_n 1, 36, 0), (36, .iload_n 3, 37, 0), (37, .invokevirtual 219, 40, 0), (40, .aload_n 1, 41, 0), (41, .iload_n 3, 42, 0), (42, .invokevirtual 222, 45, 0), (45, .invokevirtual 244, 48, 0), (48, .aload_n 0, 49, 0), (49, .getfield 54, 52, 0), (52, .iconst (3), 53, 0), (53, .dup2, 54, 0), (54, .iaload, 55, 0), (55, .iconst (1), 56, 0), (56, .iadd, 57, 0), (57, .iastore, 58, 0), (58, .iconst (1), 59, 0), (59, .ireturn, 60, 0)]
abbrev pt_m29 : pm_MT := (0, 4, false, (some .boolean), ⟨"SliceDepot", "writeAgain", "(LSliceDepot$PieceList;I)Z"⟩, prog_1_method_30_code, pt_I29)
def pt_I30 : List pm_E := [(0, .aload_n 0, 1, 0), (1, .getfield 34, 4, 0), (4, .iload_n 1, 5, 0), (5, .iload_n 2, 6, 0), (6, .invokevirtual 248, 9, 0), (9, .astore_n 3, 10, 0), (10, .aload_n 3, 11, 0), (11, .ifnonnull (5), 14, 16), (14, .iconst (0), 15, 0), (15, .ireturn, 16, 0), (16, .aload_n 0, 17, 0), (17, .getfield 51, 20, 0), (20, .aload_n 3, 21, 0), (21, .iconst (0), 22, 0), (22, .iload_n 2, 23, 0), (23, .invokevirtual 244, 26, 0), (26, .aload_n 0, 27, 0), (27, .getfield 54, 30, 0), (30, .iconst (1), 31, 0), (31, .dup2, 32, 0), (32, .iaload, 33, 0), (33, .iconst (1), 34, 0), (34, .iadd, 35, 0), (35, .iastore, 36, 0), (36, .iconst (1), 37, 0), (37, .ireturn, 38, 0)]
abbrev pt_m30 : pm_MT := (0, 4, false, (some .boolean), ⟨"SliceDepot", "writeCached", "(II)Z"⟩, prog_1_method_31_code, pt_I30)
def pt_I31 : List pm_E := [(0, .iconst (0), 1, 0), (1, .istore_n 3, 2, 0), (2, .iload_n 3, 3, 0), (3, .iconst (2), 4, 0), (4, .if_icmp .ge (59), 7, 63), (7, .aload_n 0, 8, 0), (8, .getfield 39, 11, 0), (11, .iload_n 3, 12, 0), (12, .aaload, 13, 0), (13, .iload_n 1, 14, 0), (14, .iload_n 2, 15, 0), (15, .invokevirtual 252, 18, 0), (18, .istore 4, 20, 0), (20, .iload 4, 22, 0), (22, .iconst (-1), 23, 0), (23, .if_icmp .eq (34), 26, 57), (26, .aload_n 0, 27, 0), (27, .getfield 51, 30, 0), (30, .aload_n 0, 31, 0), (31, .getfield 39, 34, 0), (34, .iload_n 3, 35, 0), (35, .aaload, 36, 0), (36, .invokevirtual 178, 39, 0), (39, .iload 4, 41, 0), (41, .iload_n 2, 42, 0), (42, .invokevirtual 244, 45, 0), (45, .aload_n 0, 46, 0), (46, .getfield 54, 49, 0), (49, .iconst (2), 50, 0), (50, .dup2, 51, 0), (51, .iaload, 52, 0), (52, .iconst (1), 53, 0), (53, .iadd, 54, 0), (54, .iastore, 55, 0), (55, .iconst (1), 56, 0), (56, .ireturn, 57, 0), (57, .iinc 3 (1), 60, 0), (60, .goto (-58), 63, 2), (63, .iconst (0), 64, 0), (64, .ireturn, 65, 0)]
abbrev pt_m31 : pm_MT := (0, 5, false, (some .boolean), ⟨"SliceDepot", "writeSeeded", "(II)Z"⟩, prog_1_method_32_code, pt_I31)
def pt_I32 : List pm_E := [(0, .aload_n 0, 1, 0), (1, .getfield 54, 4, 0), (4, .iconst (0), 5, 0), (5, .dup2, 6, 0), (6, .iaload, 7, 0), (7, .iconst (1), 8, 0), (8, .iadd, 9, 0), (9, .iastore, 10, 0), (10, .aload_n 0, 11, 0), (11, .getfield 30, 14, 0), (14, .iload_n 1, 15, 0), (15, .iload_n 2, 16, 0), (16, .invokevirtual 248, 19, 0), (19, .astore_n 3, 20, 0), (20, .aload_n 3, 21, 0), (21, .ifnonnull (5), 24, 26), (24, .iconst (0), 25, 0), (25, .ireturn, 26, 0), (26, .aload_n 0, 27, 0), (27, .getfield 51, 30, 0), (30, .aload_n 3, 31, 0), (31, .iconst (0), 32, 0), (32, .iload_n 2, 33, 0), (33, .invokevirtual 244, 36, 0), (36, .aload_n 0, 37, 0), (37, .getfield 34, 40, 0), (40, .iload_n 1, 41, 0), (41, .aload_n 3, 42, 0), (42, .iconst (0), 43, 0), (43, .iload_n 2, 44, 0), (44, .invokevirtual 225, 47, 0), (47, .iconst (1), 48, 0), (48, .ireturn, 49, 0)]
abbrev pt_m32 : pm_MT := (0, 4, false, (some .boolean), ⟨"SliceDepot", "writeAsked", "(II)Z"⟩, prog_1_method_33_code, pt_I32)
def pt_I33 : List pm_E := [(0, .aload_n 0, 1, 0), (1, .invokespecial 1, 4, 0), (4, .aload_n 0, 5, 0), (5, .iload_n 1, 6, 0), (6, .newarray .int, 8, 0), (8, .putfield 7, 11, 0), (11, .return_, 12, 0)]
abbrev pt_m33 : pm_MT := (1, 2, true, none, ⟨"SliceDepot$Bytes", "<init>", "(I)V"⟩, prog_2_method_1_code, pt_I33)
def pt_I34 : List pm_E := [(0, .aload_n 0, 1, 0), (1, .getfield 13, 4, 0), (4, .ireturn, 5, 0)]
abbrev pt_m34 : pm_MT := (1, 1, false, (some .int), ⟨"SliceDepot$Bytes", "count", "()I"⟩, prog_2_method_2_code, pt_I34)
def pt_I35 : List pm_E := [(0, .iload_n 1, 1, 0), (1, .ifCond .lt (15), 4, 16), (4, .iload_n 1, 5, 0), (5, .aload_n 0, 6, 0), (6, .getfield 13, 9, 0), (9, .if_icmp .ge (7), 12, 16), (12, .iconst (1), 13, 0), (13, .goto (4), 16, 17), (16, .iconst (0), 17, 0), (17, .ireturn, 18, 0)]
abbrev pt_m35 : pm_MT := (1, 2, false, (some .boolean), ⟨"SliceDepot$Bytes", "has", "(I)Z"⟩, prog_2_method_3_code, pt_I35)
def pt_I36 : List pm_E := [(0, .aload_n 0, 1, 0), (1, .iload_n 1, 2, 0), (2, .invokevirtual 17, 5, 0), (5, .ifCond .eq (12), 8, 17), (8, .aload_n 0, 9, 0), (9, .getfield 7, 12, 0), (12, .iload_n 1, 13, 0), (13, .iaload, 14, 0), (14, .goto (4), 17, 18), (17, .iconst (0), 18, 0), (18, .ireturn, 19, 0)]
abbrev pt_m36 : pm_MT := (1, 2, false, (some .int), ⟨"SliceDepot$Bytes", "at", "(I)I"⟩, prog_2_method_4_code, pt_I36)
def pt_I37 : List pm_E := [(0, .aload_n 0, 1, 0), (1, .iload_n 1, 2, 0), (2, .invokevirtual 17, 5, 0), (5, .ifCond .ne (5), 8, 10), (8, .iconst (0), 9, 0), (9, .ireturn, 10, 0), (10, .aload_n 0, 11, 0), (11, .getfield 7, 14, 0), (14, .iload_n 1, 15, 0), (15, .iload_n 2, 16, 0), (16, .sipush (255), 19, 0), (19, .iand, 20, 0), (20, .iastore, 21, 0), (21, .iconst (1), 22, 0), (22, .ireturn, 23, 0)]
abbrev pt_m37 : pm_MT := (1, 3, false, (some .boolean), ⟨"SliceDepot$Bytes", "change", "(II)Z"⟩, prog_2_method_5_code, pt_I37)
def pt_I38 : List pm_E := [(0, .aload_n 0, 1, 0), (1, .getfield 13, 4, 0), (4, .aload_n 0, 5, 0), (5, .getfield 7, 8, 0), (8, .arraylength, 9, 0), (9, .if_icmp .lt (5), 12, 14), (12, .iconst (0), 13, 0), (13, .ireturn, 14, 0), (14, .aload_n 0, 15, 0), (15, .getfield 7, 18, 0), (18, .aload_n 0, 19, 0), (19, .getfield 13, 22, 0), (22, .iload_n 1, 23, 0), (23, .sipush (255), 26, 0), (26, .iand, 27, 0), (27, .iastore, 28, 0), (28, .aload_n 0, 29, 0), (29, .dup, 30, 0), (30, .getfield 13, 33, 0), (33, .iconst (1), 34, 0), (34, .iadd, 35, 0), (35, .putfield 13, 38, 0), (38, .iconst (1), 39, 0), (39, .ireturn, 40, 0)]
abbrev pt_m38 : pm_MT := (1, 2, false, (some .boolean), ⟨"SliceDepot$Bytes", "add", "(I)Z"⟩, prog_2_method_6_code, pt_I38)
def pt_I39 : List pm_E := [(0, .iconst (0), 1, 0), (1, .istore 4, 3, 0), (3, .iload 4, 5, 0), (5, .iload_n 3, 6, 0), (6, .if_icmp .ge (22), 9, 28), (9, .aload_n 0, 10, 0), (10, .aload_n 1, 11, 0), (11, .iload_n 2, 12, 0), (12, .iload 4, 14, 0), (14, .iadd, 15, 0), (15, .invokevirtual 21, 18, 0), (18, .invokevirtual 25, 21, 0), (21, .pop, 22, 0), (22, .iinc 4 (1), 25, 0), (25, .goto (-22), 28, 3), (28, .return_, 29, 0)]
abbrev pt_m39 : pm_MT := (1, 5, false, none, ⟨"SliceDepot$Bytes", "addFrom", "(LSliceDepot$Bytes;II)V"⟩, prog_2_method_7_code, pt_I39)
def pt_I40 : List pm_E := [(0, .iload_n 1, 1, 0), (1, .ifCond .lt (11), 4, 12), (4, .iload_n 1, 5, 0), (5, .aload_n 0, 6, 0), (6, .getfield 13, 9, 0), (9, .if_icmp .le (5), 12, 14), (12, .iconst (0), 13, 0), (13, .ireturn, 14, 0), (14, .aload_n 0, 15, 0), (15, .iload_n 1, 16, 0), (16, .putfield 13, 19, 0), (19, .iconst (1), 20, 0), (20, .ireturn, 21, 0)]
abbrev pt_m40 : pm_MT := (1, 2, false, (some .boolean), ⟨"SliceDepot$Bytes", "keepFirst", "(I)Z"⟩, prog_2_method_8_code, pt_I40)
def pt_I41 : List pm_E := [(0, .aload_n 0, 1, 0), (1, .iconst (0), 2, 0), (2, .putfield 13, 5, 0), (5, .return_, 6, 0)]
abbrev pt_m41 : pm_MT := (1, 1, false, none, ⟨"SliceDepot$Bytes", "clear", "()V"⟩, prog_2_method_9_code, pt_I41)
def pt_I42 : List pm_E := [(0, .bipush (17), 2, 0), (2, .istore_n 3, 3, 0), (3, .iconst (0), 4, 0), (4, .istore 4, 6, 0), (6, .iload 4, 8, 0), (8, .iload_n 2, 9, 0), (9, .if_icmp .ge (23), 12, 32), (12, .iload_n 3, 13, 0), (13, .aload_n 0, 14, 0), (14, .iload_n 1, 15, 0), (15, .iload 4, 17, 0), (17, .iadd, 18, 0), (18, .invokevirtual 21, 21, 0), (21, .ixor, 22, 0), (22, .ldc 28, 24, 0), (24, .imul, 25, 0), (25, .istore_n 3, 26, 0), (26, .iinc 4 (1), 29, 0), (29, .goto (-23), 32, 6), (32, .iload_n 3, 33, 0), (33, .iload_n 3, 34, 0), (34, .bipush (16), 36, 0), (36, .iushr, 37, 0), (37, .ixor, 38, 0), (38, .ireturn, 39, 0)]
abbrev pt_m42 : pm_MT := (1, 5, false, (some .int), ⟨"SliceDepot$Bytes", "idOf", "(II)I"⟩, prog_2_method_10_code, pt_I42)
def pt_I43 : List pm_E := [(0, .aload_n 0, 1, 0), (1, .invokespecial 3, 4, 0), (4, .bipush (8), 6, 0), (6, .iload_n 1, 7, 0), (7, .if_icmp .gt (23), 10, 30), (10, .iload_n 1, 11, 0), (11, .iload_n 2, 12, 0), (12, .if_icmp .gt (18), 15, 30), (15, .iload_n 2, 16, 0), (16, .iload_n 3, 17, 0), (17, .if_icmp .gt (13), 20, 30), (20, .iload_n 3, 21, 0), (21, .bipush (32), 23, 0), (23, .if_icmp .gt (7), 26, 30), (26, .iconst (1), 27, 0), (27, .goto (4), 30, 31), (30, .iconst (0), 31, 0), (31, .istore 4, 33, 0), (33, .aload_n 0, 34, 0), (34, .iload 4, 36, 0), (36, .ifCond .eq (7), 39, 43), (39, .iload_n 1, 40, 0), (40, .goto (5), 43, 45), (43, .bipush (8), 45, 0), (45, .putfield 9, 48, 0), (48, .aload_n 0, 49, 0), (49, .iload 4, 51, 0), (51, .ifCond .eq (7), 54, 58), (54, .iload_n 2, 55, 0), (55, .goto (5), 58, 60), (58, .bipush (12), 60, 0), (60, .putfield 15, 63, 0), (63, .aload_n 0, 64, 0), (64, .iload 4, 66, 0), (66, .ifCond .eq (7), 69, 73), (69, .iload_n 3, 70, 0), (70, .goto (5), 73, 75), (73, .bipush (24), 75, 0), (75, .putfield 18, 78, 0), (78, .return_, 79, 0)]
abbrev pt_m43 : pm_MT := (2, 5, true, none, ⟨"SliceDepot$Cutter", "<init>", "(III)V"⟩, prog_3_method_1_code, pt_I43)
def pt_I44 : List pm_E := [(0, .aload_n 2, 1, 0), (1, .invokevirtual 21, 4, 0), (4, .iconst (0), 5, 0), (5, .istore_n 3, 6, 0), (6, .iconst (1), 7, 0), (7, .istore 4, 9, 0), (9, .iload 4, 11, 0), (11, .aload_n 1, 12, 0), (12, .invokevirtual 26, 15, 0), (15, .if_icmp .gt (38), 18, 53), (18, .aload_n 0, 19, 0), (19, .aload_n 1, 20, 0), (20, .iload_n 3, 21, 0), (21, .iload 4, 23, 0), (23, .invokevirtual 32, 26, 0), (26, .ifCond .eq (21), 29, 47), (29, .aload_n 2, 30, 0), (30, .iload 4, 32, 0), (32, .aload_n 1, 33, 0), (33, .iload_n 3, 34, 0), (34, .iload 4, 36, 0), (36, .iload_n 3, 37, 0), (37, .isub, 38, 0), (38, .invokevirtual 36, 41, 0), (41, .invokevirtual 40, 44, 0), (44, .iload 4, 46, 0), (46, .istore_n 3, 47, 0), (47, .iinc 4 (1), 50, 0), (50, .goto (-41), 53, 9), (53, .return_, 54, 0)]
abbrev pt_m44 : pm_MT := (2, 5, false, none, ⟨"SliceDepot$Cutter", "cut", "(LSliceDepot$Bytes;LSliceDepot$PieceList;)V"⟩, prog_3_method_2_code, pt_I44)
def pt_I45 : List pm_E := [(0, .iload_n 3, 1, 0), (1, .iload_n 2, 2, 0), (2, .isub, 3, 0), (3, .istore 4, 5, 0), (5, .iload_n 3, 6, 0), (6, .aload_n 1, 7, 0), (7, .invokevirtual 26, 10, 0), (10, .if_icmp .eq (12), 13, 22), (13, .iload 4, 15, 0), (15, .aload_n 0, 16, 0), (16, .getfield 18, 19, 0), (19, .if_icmp .ne (5), 22, 24), (22, .iconst (1), 23, 0), (23, .ireturn, 24, 0), (24, .iload 4, 26, 0), (26, .aload_n 0, 27, 0), (27, .getfield 9, 30, 0), (30, .if_icmp .lt (26), 33, 56), (33, .aload_n 1, 34, 0), (34, .iload_n 3, 35, 0), (35, .invokestatic 44, 38, 0), (38, .aload_n 0, 39, 0), (39, .getfield 15, 42, 0), (42, .irem, 43, 0), (43, .aload_n 0, 44, 0), (44, .getfield 15, 47, 0), (47, .iconst (1), 48, 0), (48, .isub, 49, 0), (49, .if_icmp .ne (7), 52, 56), (52, .iconst (1), 53, 0), (53, .goto (4), 56, 57), (56, .iconst (0), 57, 0), (57, .ireturn, 58, 0)]
abbrev pt_m45 : pm_MT := (2, 5, false, (some .boolean), ⟨"SliceDepot$Cutter", "isEnd", "(LSliceDepot$Bytes;II)Z"⟩, prog_3_method_3_code, pt_I45)
def pt_I46 : List pm_E := [(0, .aload_n 0, 1, 0), (1, .iload_n 1, 2, 0), (2, .iconst (4), 3, 0), (3, .isub, 4, 0), (4, .invokevirtual 48, 7, 0), (7, .invokestatic 52, 10, 0), (10, .istore_n 2, 11, 0), (11, .aload_n 0, 12, 0), (12, .iload_n 1, 13, 0), (13, .iconst (3), 14, 0), (14, .isub, 15, 0), (15, .invokevirtual 48, 18, 0), (18, .invokestatic 52, 21, 0), (21, .istore_n 3, 22, 0), (22, .aload_n 0, 23, 0), (23, .iload_n 1, 24, 0), (24, .iconst (2), 25, 0), (25, .isub, 26, 0), (26, .invokevirtual 48, 29, 0), (29, .invokestatic 52, 32, 0), (32, .istore 4, 34, 0), (34, .aload_n 0, 35, 0), (35, .iload_n 1, 36, 0), (36, .iconst (1), 37, 0), (37, .isub, 38, 0), (38, .invokevirtual 48, 41, 0), (41, .invokestatic 52, 44, 0), (44, .istore 5, 46, 0), (46, .iload_n 2, 47, 0), (47, .iconst (3), 48, 0), (48, .invokestatic 55, 51, 0), (51, .iload_n 3, 52, 0), (52, .iconst (2), 53, 0), (53, .invokestatic 55, 56, 0), (56, .ixor, 57, 0), (57, .iload 4, 59, 0), (59, .iconst (1), 60, 0), (60, .invokestatic 55, 63, 0), (63, .ixor, 64, 0), (64, .iload 5, 66, 0), (66, .ixor, 67, 0), (67, .iconst (1), 68, 0), (68, .iushr, 69, 0), (69, .ireturn, 70, 0)]
abbrev pt_m46 : pm_MT := (2, 6, false, (some .int), ⟨"SliceDepot$Cutter", "markBefore", "(LSliceDepot$Bytes;I)I"⟩, prog_3_method_4_code, pt_I46)
def pt_I47 : List pm_E := [(0, .iload_n 0, 1, 0), (1, .iconst (1), 2, 0), (2, .iadd, 3, 0), (3, .ldc 58, 5, 0), (5, .imul, 6, 0), (6, .ireturn, 7, 0)]
abbrev pt_m47 : pm_MT := (2, 1, false, (some .int), ⟨"SliceDepot$Cutter", "spread", "(I)I"⟩, prog_3_method_5_code, pt_I47)
def pt_I48 : List pm_E := [(0, .iload_n 0, 1, 0), (1, .iload_n 1, 2, 0), (2, .ishl, 3, 0), (3, .iload_n 0, 4, 0), (4, .bipush (32), 6, 0), (6, .iload_n 1, 7, 0), (7, .isub, 8, 0), (8, .iushr, 9, 0), (9, .ior, 10, 0), (10, .ireturn, 11, 0)]
abbrev pt_m48 : pm_MT := (2, 2, false, (some .int), ⟨"SliceDepot$Cutter", "turnLeft", "(II)I"⟩, prog_3_method_6_code, pt_I48)
def pt_I49 : List pm_E := [(0, .aload_n 0, 1, 0), (1, .invokespecial 3, 4, 0), (4, .aload_n 0, 5, 0), (5, .bipush (15), 7, 0), (7, .newarray .int, 9, 0), (9, .putfield 9, 12, 0), (12, .aload_n 0, 13, 0), (13, .bipush (15), 15, 0), (15, .newarray .int, 17, 0), (17, .putfield 15, 20, 0), (20, .return_, 21, 0)]
abbrev pt_m49 : pm_MT := (3, 1, true, none, ⟨"SliceDepot$PieceList", "<init>", "()V"⟩, prog_5_method_1_code, pt_I49)
def pt_I50 : List pm_E := [(0, .aload_n 0, 1, 0), (1, .getfield 18, 4, 0), (4, .ireturn, 5, 0)]
abbrev pt_m50 : pm_MT := (3, 1, false, (some .int), ⟨"SliceDepot$PieceList", "count", "()I"⟩, prog_5_method_2_code, pt_I50)
def pt_I51 : List pm_E := [(0, .iload_n 1, 1, 0), (1, .ifCond .lt (15), 4, 16), (4, .iload_n 1, 5, 0), (5, .aload_n 0, 6, 0), (6, .getfield 18, 9, 0), (9, .if_icmp .ge (7), 12, 16), (12, .iconst (1), 13, 0), (13, .goto (4), 16, 17), (16, .iconst (0), 17, 0), (17, .ireturn, 18, 0)]
abbrev pt_m51 : pm_MT := (3, 2, false, (some .boolean), ⟨"SliceDepot$PieceList", "has", "(I)Z"⟩, prog_5_method_3_code, pt_I51)
def pt_I52 : List pm_E := [(0, .iload_n 1, 1, 0), (1, .ifCond .lt (20), 4, 21), (4, .iload_n 1, 5, 0), (5, .aload_n 0, 6, 0), (6, .getfield 18, 9, 0), (9, .if_icmp .ge (12), 12, 21), (12, .aload_n 0, 13, 0), (13, .getfield 9, 16, 0), (16, .iload_n 1, 17, 0), (17, .iaload, 18, 0), (18, .goto (4), 21, 22), (21, .iconst (0), 22, 0), (22, .ireturn, 23, 0)]
abbrev pt_m52 : pm_MT := (3, 2, false, (some .int), ⟨"SliceDepot$PieceList", "endOf", "(I)I"⟩, prog_5_method_4_code, pt_I52)
def pt_I53 : List pm_E := [(0, .aload_n 0, 1, 0), (1, .iload_n 1, 2, 0), (2, .iconst (1), 3, 0), (3, .isub, 4, 0), (4, .invokevirtual 22, 7, 0), (7, .ireturn, 8, 0)]
abbrev pt_m53 : pm_MT := (3, 2, false, (some .int), ⟨"SliceDepot$PieceList", "startOf", "(I)I"⟩, prog_5_method_5_code, pt_I53)
def pt_I54 : List pm_E := [(0, .aload_n 0, 1, 0), (1, .iload_n 1, 2, 0), (2, .invokevirtual 22, 5, 0), (5, .aload_n 0, 6, 0), (6, .iload_n 1, 7, 0), (7, .invokevirtual 26, 10, 0), (10, .isub, 11, 0), (11, .ireturn, 12, 0)]
abbrev pt_m54 : pm_MT := (3, 2, false, (some .int), ⟨"SliceDepot$PieceList", "lengthOf", "(I)I"⟩, prog_5_method_6_code, pt_I54)
def pt_I55 : List pm_E := [(0, .aload_n 0, 1, 0), (1, .iload_n 1, 2, 0), (2, .invokevirtual 29, 5, 0), (5, .ifCond .eq (12), 8, 17), (8, .aload_n 0, 9, 0), (9, .getfield 15, 12, 0), (12, .iload_n 1, 13, 0), (13, .iaload, 14, 0), (14, .goto (4), 17, 18), (17, .iconst (0), 18, 0), (18, .ireturn, 19, 0)]
abbrev pt_m55 : pm_MT := (3, 2, false, (some .int), ⟨"SliceDepot$PieceList", "idOf", "(I)I"⟩, prog_5_method_7_code, pt_I55)
def pt_I56 : List pm_E := [(0, .aload_n 0, 1, 0), (1, .getfield 18, 4, 0), (4, .bipush (15), 6, 0), (6, .if_icmp .ge (33), 9, 39), (9, .aload_n 0, 10, 0), (10, .getfield 9, 13, 0), (13, .aload_n 0, 14, 0), (14, .getfield 18, 17, 0), (17, .iload_n 1, 18, 0), (18, .iastore, 19, 0), (19, .aload_n 0, 20, 0), (20, .getfield 15, 23, 0), (23, .aload_n 0, 24, 0), (24, .getfield 18, 27, 0), (27, .iload_n 2, 28, 0), (28, .iastore, 29, 0), (29, .aload_n 0, 30, 0), (30, .dup, 31, 0), (31, .getfield 18, 34, 0), (34, .iconst (1), 35, 0), (35, .iadd, 36, 0), (36, .putfield 18, 39, 0), (39, .return_, 40, 0)]
abbrev pt_m56 : pm_MT := (3, 3, false, none, ⟨"SliceDepot$PieceList", "add", "(II)V"⟩, prog_5_method_8_code, pt_I56)
def pt_I57 : List pm_E := [(0, .aload_n 0, 1, 0), (1, .iconst (0), 2, 0), (2, .putfield 18, 5, 0), (5, .return_, 6, 0)]
abbrev pt_m57 : pm_MT := (3, 1, false, none, ⟨"SliceDepot$PieceList", "clear", "()V"⟩, prog_5_method_9_code, pt_I57)
def pt_I58 : List pm_E := [(0, .iconst (0), 1, 0), (1, .istore_n 2, 2, 0), (2, .iload_n 2, 3, 0), (3, .aload_n 0, 4, 0), (4, .getfield 18, 7, 0), (7, .if_icmp .ge (21), 10, 28), (10, .aload_n 0, 11, 0), (11, .getfield 15, 14, 0), (14, .iload_n 2, 15, 0), (15, .iaload, 16, 0), (16, .iload_n 1, 17, 0), (17, .if_icmp .ne (5), 20, 22), (20, .iload_n 2, 21, 0), (21, .ireturn, 22, 0), (22, .iinc 2 (1), 25, 0), (25, .goto (-23), 28, 2), (28, .iconst (-1), 29, 0), (29, .ireturn, 30, 0)]
abbrev pt_m58 : pm_MT := (3, 3, false, (some .int), ⟨"SliceDepot$PieceList", "firstWithId", "(I)I"⟩, prog_5_method_10_code, pt_I58)
def pt_I59 : List pm_E := [(0, .iconst (0), 1, 0), (1, .istore_n 3, 2, 0), (2, .iload_n 3, 3, 0), (3, .aload_n 0, 4, 0), (4, .getfield 18, 7, 0), (7, .if_icmp .ge (30), 10, 37), (10, .aload_n 0, 11, 0), (11, .getfield 15, 14, 0), (14, .iload_n 3, 15, 0), (15, .iaload, 16, 0), (16, .iload_n 1, 17, 0), (17, .if_icmp .ne (14), 20, 31), (20, .aload_n 0, 21, 0), (21, .iload_n 3, 22, 0), (22, .invokevirtual 33, 25, 0), (25, .iload_n 2, 26, 0), (26, .if_icmp .ne (5), 29, 31), (29, .iload_n 3, 30, 0), (30, .ireturn, 31, 0), (31, .iinc 3 (1), 34, 0), (34, .goto (-32), 37, 2), (37, .iconst (-1), 38, 0), (38, .ireturn, 39, 0)]
abbrev pt_m59 : pm_MT := (3, 4, false, (some .int), ⟨"SliceDepot$PieceList", "firstLike", "(II)I"⟩, prog_5_method_11_code, pt_I59)
def pt_I60 : List pm_E := [(0, .aload_n 0, 1, 0), (1, .getfield 15, 4, 0), (4, .invokevirtual 36, 7, 0), (7, .checkcast 37, 10, 0), (10, .astore_n 1, 11, 0), (11, .aload_n 0, 12, 0), (12, .getfield 18, 15, 0), (15, .istore_n 2, 16, 0), (16, .iload_n 2, 17, 0), (17, .iconst (1), 18, 0), (18, .if_icmp .le (17), 21, 35), (21, .aload_n 1, 22, 0), (22, .iload_n 2, 23, 0), (23, .invokestatic 41, 26, 0), (26, .iload_n 2, 27, 0), (27, .iconst (1), 28, 0), (28, .iadd, 29, 0), (29, .iconst (2), 30, 0), (30, .idiv, 31, 0), (31, .istore_n 2, 32, 0), (32, .goto (-16), 35, 16), (35, .aload_n 1, 36, 0), (36, .iconst (0), 37, 0), (37, .iaload, 38, 0), (38, .ireturn, 39, 0)]
abbrev pt_m60 : pm_MT := (3, 3, false, (some .int), ⟨"SliceDepot$PieceList", "rootId", "()I"⟩, prog_5_method_12_code, pt_I60)
def pt_I61 : List pm_E := [(0, .iconst (0), 1, 0), (1, .istore_n 2, 2, 0), (2, .iload_n 2, 3, 0), (3, .iload_n 1, 4, 0), (4, .if_icmp .ge (38), 7, 42), (7, .aload_n 0, 8, 0), (8, .iload_n 2, 9, 0), (9, .iconst (2), 10, 0), (10, .idiv, 11, 0), (11, .iload_n 2, 12, 0), (12, .iconst (1), 13, 0), (13, .iadd, 14, 0), (14, .iload_n 1, 15, 0), (15, .if_icmp .ge (17), 18, 32), (18, .aload_n 0, 19, 0), (19, .iload_n 2, 20, 0), (20, .iaload, 21, 0), (21, .aload_n 0, 22, 0), (22, .iload_n 2, 23, 0), (23, .iconst (1), 24, 0), (24, .iadd, 25, 0), (25, .iaload, 26, 0), (26, .invokestatic 45, 29, 0), (29, .goto (6), 32, 35), (32, .aload_n 0, 33, 0), (33, .iload_n 2, 34, 0), (34, .iaload, 35, 0), (35, .iastore, 36, 0), (36, .iinc 2 (2), 39, 0), (39, .goto (-37), 42, 2), (42, .return_, 43, 0)]
abbrev pt_m61 : pm_MT := (3, 3, false, none, ⟨"SliceDepot$PieceList", "joinPairs", "([II)V"⟩, prog_5_method_13_code, pt_I61)
def pt_I62 : List pm_E := [(0, .iload_n 0, 1, 0), (1, .bipush (31), 3, 0), (3, .imul, 4, 0), (4, .iload_n 1, 5, 0), (5, .iadd, 6, 0), (6, .iload_n 1, 7, 0), (7, .bipush (7), 9, 0), (9, .iushr, 10, 0), (10, .ixor, 11, 0), (11, .ireturn, 12, 0)]
abbrev pt_m62 : pm_MT := (3, 2, false, (some .int), ⟨"SliceDepot$PieceList", "joined", "(II)I"⟩, prog_5_method_14_code, pt_I62)
def pt_I63 : List pm_E := [(0, .aload_n 0, 1, 0), (1, .invokespecial 3, 4, 0), (4, .aload_n 0, 5, 0), (5, .iload_n 1, 6, 0), (6, .newarray .int, 8, 0), (8, .putfield 9, 11, 0), (11, .aload_n 0, 12, 0), (12, .iload_n 1, 13, 0), (13, .anewarray 15, 16, 0), (16, .putfield 17, 19, 0), (19, .iconst (0), 20, 0), (20, .istore_n 2, 21, 0), (21, .iload_n 2, 22, 0), (22, .iload_n 1, 23, 0), (23, .if_icmp .ge (24), 26, 47), (26, .aload_n 0, 27, 0), (27, .getfield 17, 30, 0), (30, .iload_n 2, 31, 0), (31, .new 15, 34, 0), (34, .dup, 35, 0), (35, .bipush (32), 37, 0), (37, .invokespecial 21, 40, 0), (40, .aastore, 41, 0), (41, .iinc 2 (1), 44, 0), (44, .goto (-23), 47, 21), (47, .return_, 48, 0)]
abbrev pt_m63 : pm_MT := (4, 3, true, none, ⟨"SliceDepot$Keep", "<init>", "(I)V"⟩, prog_4_method_1_code, pt_I63)
def pt_I64 : List pm_E := [(0, .aload_n 0, 1, 0), (1, .getfield 24, 4, 0), (4, .ireturn, 5, 0)]
abbrev pt_m64 : pm_MT := (4, 1, false, (some .int), ⟨"SliceDepot$Keep", "count", "()I"⟩, prog_4_method_2_code, pt_I64)
def pt_I65 : List pm_E := [(0, .iload_n 1, 1, 0), (1, .ifCond .lt (20), 4, 21), (4, .iload_n 1, 5, 0), (5, .aload_n 0, 6, 0), (6, .getfield 24, 9, 0), (9, .if_icmp .ge (12), 12, 21), (12, .aload_n 0, 13, 0), (13, .getfield 9, 16, 0), (16, .iload_n 1, 17, 0), (17, .iaload, 18, 0), (18, .goto (4), 21, 22), (21, .iconst (0), 22, 0), (22, .ireturn, 23, 0)]
abbrev pt_m65 : pm_MT := (4, 2, false, (some .int), ⟨"SliceDepot$Keep", "idAt", "(I)I"⟩, prog_4_method_3_code, pt_I65)
def pt_I66 : List pm_E := [(0, .iconst (0), 1, 0), (1, .istore_n 2, 2, 0), (2, .iload_n 2, 3, 0), (3, .aload_n 0, 4, 0), (4, .getfield 24, 7, 0), (7, .if_icmp .ge (21), 10, 28), (10, .aload_n 0, 11, 0), (11, .getfield 9, 14, 0), (14, .iload_n 2, 15, 0), (15, .iaload, 16, 0), (16, .iload_n 1, 17, 0), (17, .if_icmp .ne (5), 20, 22), (20, .iload_n 2, 21, 0), (21, .ireturn, 22, 0), (22, .iinc 2 (1), 25, 0), (25, .goto (-23), 28, 2), (28, .iconst (-1), 29, 0), (29, .ireturn, 30, 0)]
abbrev pt_m66 : pm_MT := (4, 3, false, (some .int), ⟨"SliceDepot$Keep", "placeOf", "(I)I"⟩, prog_4_method_4_code, pt_I66)
def pt_I67 : List pm_E := [(0, .aload_n 0, 1, 0), (1, .iload_n 1, 2, 0), (2, .invokevirtual 28, 5, 0), (5, .istore_n 2, 6, 0), (6, .iload_n 2, 7, 0), (7, .iconst (-1), 8, 0), (8, .if_icmp .ne (7), 11, 15), (11, .aconst_null, 12, 0), (12, .goto (9), 15, 21), (15, .aload_n 0, 16, 0), (16, .getfield 17, 19, 0), (19, .iload_n 2, 20, 0), (20, .aaload, 21, 0), (21, .areturn, 22, 0)]
abbrev pt_m67 : pm_MT := (4, 3, false, (some (.object "SliceDepot$Bytes")), ⟨"SliceDepot$Keep", "bytesUnder", "(I)LSliceDepot$Bytes;"⟩, prog_4_method_5_code, pt_I67)
def pt_I68 : List pm_E := [(0, .aload_n 0, 1, 0), (1, .iload_n 1, 2, 0), (2, .invokevirtual 32, 5, 0), (5, .astore_n 3, 6, 0), (6, .aload_n 3, 7, 0), (7, .ifnull (25), 10, 32), (10, .aload_n 3, 11, 0), (11, .invokevirtual 36, 14, 0), (14, .iload_n 2, 15, 0), (15, .if_icmp .ne (17), 18, 32), (18, .aload_n 3, 19, 0), (19, .iconst (0), 20, 0), (20, .iload_n 2, 21, 0), (21, .invokevirtual 39, 24, 0), (24, .iload_n 1, 25, 0), (25, .if_icmp .ne (7), 28, 32), (28, .iconst (1), 29, 0), (29, .goto (4), 32, 33), (32, .iconst (0), 33, 0), (33, .istore 4, 35, 0), (35, .iload 4, 37, 0), (37, .ifCond .eq (7), 40, 44), (40, .aload_n 3, 41, 0), (41, .goto (4), 44, 45), (44, .aconst_null, 45, 0), (45, .areturn, 46, 0)]
abbrev pt_m68 : pm_MT := (4, 5, false, (some (.object "SliceDepot$Bytes")), ⟨"SliceDepot$Keep", "goodBytes", "(II)LSliceDepot$Bytes;"⟩, prog_4_method_6_code, pt_I68)
def pt_I69 : List pm_E := [(0, .aload_n 0, 1, 0), (1, .iload_n 1, 2, 0), (2, .invokevirtual 28, 5, 0), (5, .istore 5, 7, 0), (7, .iload 5, 9, 0), (9, .iconst (-1), 10, 0), (10, .if_icmp .ne (10), 13, 20), (13, .aload_n 0, 14, 0), (14, .iload_n 1, 15, 0), (15, .invokevirtual 43, 18, 0), (18, .istore 5, 20, 0), (20, .aload_n 0, 21, 0), (21, .getfield 17, 24, 0), (24, .iload 5, 26, 0), (26, .aaload, 27, 0), (27, .invokevirtual 46, 30, 0), (30, .aload_n 0, 31, 0), (31, .getfield 17, 34, 0), (34, .iload 5, 36, 0), (36, .aaload, 37, 0), (37, .aload_n 2, 38, 0), (38, .iload_n 3, 39, 0), (39, .iload 4, 41, 0), (41, .invokevirtual 49, 44, 0), (44, .return_, 45, 0)]
abbrev pt_m69 : pm_MT := (4, 6, false, none, ⟨"SliceDepot$Keep", "put", "(ILSliceDepot$Bytes;II)V"⟩, prog_4_method_7_code, pt_I69)
def pt_I70 : List pm_E := [(0, .aload_n 0, 1, 0), (1, .getfield 24, 4, 0), (4, .aload_n 0, 5, 0), (5, .getfield 9, 8, 0), (8, .arraylength, 9, 0), (9, .if_icmp .ne (9), 12, 18), (12, .aload_n 0, 13, 0), (13, .iconst (0), 14, 0), (14, .invokevirtual 53, 17, 0), (17, .pop, 18, 0), (18, .aload_n 0, 19, 0), (19, .getfield 9, 22, 0), (22, .aload_n 0, 23, 0), (23, .getfield 24, 26, 0), (26, .iload_n 1, 27, 0), (27, .iastore, 28, 0), (28, .aload_n 0, 29, 0), (29, .dup, 30, 0), (30, .getfield 24, 33, 0), (33, .iconst (1), 34, 0), (34, .iadd, 35, 0), (35, .putfield 24, 38, 0), (38, .aload_n 0, 39, 0), (39, .getfield 24, 42, 0), (42, .iconst (1), 43, 0), (43, .isub, 44, 0), (44, .ireturn, 45, 0)]
abbrev pt_m70 : pm_MT := (4, 2, false, (some .int), ⟨"SliceDepot$Keep", "placeForNew", "(I)I"⟩, prog_4_method_8_code, pt_I70)
def pt_I71 : List pm_E := [(0, .iload_n 1, 1, 0), (1, .ifCond .lt (11), 4, 12), (4, .iload_n 1, 5, 0), (5, .aload_n 0, 6, 0), (6, .getfield 24, 9, 0), (9, .if_icmp .lt (5), 12, 14), (12, .iconst (0), 13, 0), (13, .ireturn, 14, 0), (14, .aload_n 0, 15, 0), (15, .getfield 17, 18, 0), (18, .iload_n 1, 19, 0), (19, .aaload, 20, 0), (20, .astore_n 2, 21, 0), (21, .aload_n 0, 22, 0), (22, .dup, 23, 0), (23, .getfield 24, 26, 0), (26, .iconst (1), 27, 0), (27, .isub, 28, 0), (28, .putfield 24, 31, 0), (31, .iload_n 1, 32, 0), (32, .istore_n 3, 33, 0), (33, .iload_n 3, 34, 0), (34, .aload_n 0, 35, 0), (35, .getfield 24, 38, 0), (38, .if_icmp .ge (37), 41, 75), (41, .aload_n 0, 42, 0), (42, .getfield 9, 45, 0), (45, .iload_n 3, 46, 0), (46, .aload_n 0, 47, 0), (47, .getfield 9, 50, 0), (50, .iload_n 3, 51, 0), (51, .iconst (1), 52, 0), (52, .iadd, 53, 0), (53, .iaload, 54, 0), (54, .iastore, 55, 0), (55, .aload_n 0, 56, 0), (56, .getfield 17, 59, 0), (59, .iload_n 3, 60, 0), (60, .aload_n 0, 61, 0), (61, .getfield 17, 64, 0), (64, .iload_n 3, 65, 0), (65, .iconst (1), 66, 0), (66, .iadd, 67, 0), (67, .aaload, 68, 0), (68, .aastore, 69, 0), (69, .iinc 3 (1), 72, 0), (72, .goto (-39), 75, 33), (75, .aload_n 0, 76, 0), (76, .getfield 17, 79, 0), (79, .aload_n 0, 80, 0), (80, .getfield 24, 83, 0), (83, .aload_n 2, 84, 0), (84, .aastore, 85, 0), (85, .iconst (1), 86, 0), (86, .ireturn, 87, 0)]
abbrev pt_m71 : pm_MT := (4, 4, false, (some .boolean), ⟨"SliceDepot$Keep", "takeOut", "(I)Z"⟩, prog_4_method_9_code, pt_I71)
def pt_I72 : List pm_E := [(0, .iconst (0), 1, 0), (1, .istore_n 1, 2, 0), (2, .iconst (0), 3, 0), (3, .istore_n 2, 4, 0), (4, .iload_n 2, 5, 0), (5, .aload_n 0, 6, 0), (6, .getfield 24, 9, 0), (9, .if_icmp .ge (21), 12, 30), (12, .iload_n 1, 13, 0), (13, .aload_n 0, 14, 0), (14, .getfield 17, 17, 0), (17, .iload_n 2, 18, 0), (18, .aaload, 19, 0), (19, .invokevirtual 36, 22, 0), (22, .iadd, 23, 0), (23, .istore_n 1, 24, 0), (24, .iinc 2 (1), 27, 0), (27, .goto (-23), 30, 4), (30, .iload_n 1, 31, 0), (31, .ireturn, 32, 0)]
abbrev pt_m72 : pm_MT := (4, 3, false, (some .int), ⟨"SliceDepot$Keep", "bytesInAll", "()I"⟩, prog_4_method_10_code, pt_I72)
def pt_I73 : List pm_E := [(0, .aload_n 0, 1, 0), (1, .invokespecial 3, 4, 0), (4, .aload_n 0, 5, 0), (5, .new 9, 8, 0), (8, .dup, 9, 0), (9, .bipush (117), 11, 0), (11, .invokespecial 11, 14, 0), (14, .putfield 14, 17, 0), (17, .aload_n 0, 18, 0), (18, .new 20, 21, 0), (21, .dup, 22, 0), (22, .invokespecial 22, 25, 0), (25, .putfield 23, 28, 0), (28, .return_, 29, 0)]
abbrev pt_m73 : pm_MT := (5, 1, true, none, ⟨"SliceDepot$Seed", "<init>", "()V"⟩, prog_6_method_1_code, pt_I73)
def pt_I74 : List pm_E := [(0, .aload_n 0, 1, 0), (1, .getfield 14, 4, 0), (4, .areturn, 5, 0)]
abbrev pt_m74 : pm_MT := (5, 1, false, (some (.object "SliceDepot$Bytes")), ⟨"SliceDepot$Seed", "bytes", "()LSliceDepot$Bytes;"⟩, prog_6_method_2_code, pt_I74)
def pt_I75 : List pm_E := [(0, .aload_n 1, 1, 0), (1, .aload_n 0, 2, 0), (2, .getfield 14, 5, 0), (5, .aload_n 0, 6, 0), (6, .getfield 23, 9, 0), (9, .invokevirtual 27, 12, 0), (12, .aload_n 0, 13, 0), (13, .getfield 23, 16, 0), (16, .invokevirtual 33, 19, 0), (19, .ireturn, 20, 0)]
abbrev pt_m75 : pm_MT := (5, 2, false, (some .int), ⟨"SliceDepot$Seed", "cutWith", "(LSliceDepot$Cutter;)I"⟩, prog_6_method_3_code, pt_I75)
def pt_I76 : List pm_E := [(0, .iconst (0), 1, 0), (1, .istore_n 3, 2, 0), (2, .iload_n 3, 3, 0), (3, .aload_n 0, 4, 0), (4, .getfield 23, 7, 0), (7, .invokevirtual 33, 10, 0), (10, .if_icmp .ge (60), 13, 70), (13, .aload_n 0, 14, 0), (14, .getfield 23, 17, 0), (17, .iload_n 3, 18, 0), (18, .invokevirtual 37, 21, 0), (21, .istore 4, 23, 0), (23, .aload_n 0, 24, 0), (24, .getfield 23, 27, 0), (27, .iload_n 3, 28, 0), (28, .invokevirtual 41, 31, 0), (31, .iload_n 1, 32, 0), (32, .if_icmp .ne (32), 35, 64), (35, .aload_n 0, 36, 0), (36, .getfield 23, 39, 0), (39, .iload_n 3, 40, 0), (40, .invokevirtual 44, 43, 0), (43, .iload_n 2, 44, 0), (44, .if_icmp .ne (20), 47, 64), (47, .aload_n 0, 48, 0), (48, .getfield 14, 51, 0), (51, .iload 4, 53, 0), (53, .iload_n 2, 54, 0), (54, .invokevirtual 47, 57, 0), (57, .iload_n 1, 58, 0), (58, .if_icmp .ne (6), 61, 64), (61, .iload 4, 63, 0), (63, .ireturn, 64, 0), (64, .iinc 3 (1), 67, 0), (67, .goto (-65), 70, 2), (70, .iconst (-1), 71, 0), (71, .ireturn, 72, 0)]
abbrev pt_m76 : pm_MT := (5, 5, false, (some .int), ⟨"SliceDepot$Seed", "startOfGood", "(II)I"⟩, prog_6_method_4_code, pt_I76)
def pt_I77 : List pm_E := [(0, .aload_n 0, 1, 0), (1, .invokespecial 3, 4, 0), (4, .aload_n 0, 5, 0), (5, .bipush (11), 7, 0), (7, .newarray .int, 9, 0), (9, .putfield 11, 12, 0), (12, .aload_n 0, 13, 0), (13, .bipush (11), 15, 0), (15, .newarray .int, 17, 0), (17, .putfield 15, 20, 0), (20, .aload_n 0, 21, 0), (21, .bipush (11), 23, 0), (23, .newarray .int, 25, 0), (25, .putfield 18, 28, 0), (28, .aload_n 0, 29, 0), (29, .bipush (11), 31, 0), (31, .anewarray 21, 34, 0), (34, .putfield 23, 37, 0), (37, .iconst (0), 38, 0), (38, .istore_n 1, 39, 0), (39, .iload_n 1, 40, 0), (40, .bipush (11), 42, 0), (42, .if_icmp .ge (24), 45, 66), (45, .aload_n 0, 46, 0), (46, .getfield 23, 49, 0), (49, .iload_n 1, 50, 0), (50, .new 21, 53, 0), (53, .dup, 54, 0), (54, .bipush (16), 56, 0), (56, .invokespecial 27, 59, 0), (59, .aastore, 60, 0), (60, .iinc 1 (1), 63, 0), (63, .goto (-24), 66, 39), (66, .aload_n 0, 67, 0), (67, .getfield 11, 70, 0), (70, .iconst (0), 71, 0), (71, .iconst (2), 72, 0), (72, .iastore, 73, 0), (73, .aload_n 0, 74, 0), (74, .getfield 18, 77, 0), (77, .iconst (0), 78, 0), (78, .iconst (-1), 79, 0), (79, .iastore, 80, 0), (80, .return_, 81, 0)]
abbrev pt_m77 : pm_MT := (6, 2, true, none, ⟨"SliceDepot$Tree", "<init>", "()V"⟩, prog_7_method_1_code, pt_I77)
def pt_I78 : List pm_E := [(0, .iconst (0), 1, 0), (1, .istore_n 1, 2, 0), (2, .iload_n 1, 3, 0), (3, .bipush (6), 5, 0), (5, .if_icmp .ge (17), 8, 22), (8, .iload_n 0, 9, 0), (9, .iload_n 1, 10, 0), (10, .invokestatic 30, 13, 0), (13, .ifCond .eq (9), 16, 22), (16, .iinc 1 (1), 19, 0), (19, .goto (-17), 22, 2), (22, .iload_n 1, 23, 0), (23, .ireturn, 24, 0)]
abbrev pt_m78 : pm_MT := (6, 2, false, (some .int), ⟨"SliceDepot$Tree", "namesIn", "(I)I"⟩, prog_7_method_2_code, pt_I78)
def pt_I79 : List pm_E := [(0, .iload_n 0, 1, 0), (1, .iconst (5), 2, 0), (2, .iload_n 1, 3, 0), (3, .imul, 4, 0), (4, .iushr, 5, 0), (5, .bipush (31), 7, 0), (7, .iand, 8, 0), (8, .ireturn, 9, 0)]
abbrev pt_m79 : pm_MT := (6, 2, false, (some .int), ⟨"SliceDepot$Tree", "nameIn", "(II)I"⟩, prog_7_method_3_code, pt_I79)
def pt_I80 : List pm_E := [(0, .iload_n 0, 1, 0), (1, .iconst (5), 2, 0), (2, .iload_n 0, 3, 0), (3, .invokestatic 34, 6, 0), (6, .imul, 7, 0), (7, .iushr, 8, 0), (8, .ifCond .ne (7), 11, 15), (11, .iconst (1), 12, 0), (12, .goto (4), 15, 16), (15, .iconst (0), 16, 0), (16, .ireturn, 17, 0)]
abbrev pt_m80 : pm_MT := (6, 1, false, (some .boolean), ⟨"SliceDepot$Tree", "isPath", "(I)Z"⟩, prog_7_method_4_code, pt_I80)
def pt_I81 : List pm_E := [(0, .iload_n 0, 1, 0), (1, .iconst (0), 2, 0), (2, .iload_n 0, 3, 0), (3, .invokestatic 34, 6, 0), (6, .iconst (1), 7, 0), (7, .isub, 8, 0), (8, .invokestatic 38, 11, 0), (11, .invokestatic 30, 14, 0), (14, .ireturn, 15, 0)]
abbrev pt_m81 : pm_MT := (6, 1, false, (some .int), ⟨"SliceDepot$Tree", "lastNameOf", "(I)I"⟩, prog_7_method_5_code, pt_I81)
def pt_I82 : List pm_E := [(0, .iconst (0), 1, 0), (1, .iload_n 0, 2, 0), (2, .invokestatic 34, 5, 0), (5, .iconst (1), 6, 0), (6, .isub, 7, 0), (7, .invokestatic 38, 10, 0), (10, .istore_n 1, 11, 0), (11, .iload_n 0, 12, 0), (12, .iconst (1), 13, 0), (13, .iconst (5), 14, 0), (14, .iload_n 1, 15, 0), (15, .imul, 16, 0), (16, .ishl, 17, 0), (17, .iconst (1), 18, 0), (18, .isub, 19, 0), (19, .iand, 20, 0), (20, .ireturn, 21, 0)]
abbrev pt_m82 : pm_MT := (6, 2, false, (some .int), ⟨"SliceDepot$Tree", "pathOfParent", "(I)I"⟩, prog_7_method_6_code, pt_I82)
def pt_I83 : List pm_E := [(0, .iconst (1), 1, 0), (1, .istore_n 1, 2, 0), (2, .iload_n 1, 3, 0), (3, .bipush (11), 5, 0), (5, .if_icmp .ge (16), 8, 21), (8, .aload_n 0, 9, 0), (9, .getfield 11, 12, 0), (12, .iload_n 1, 13, 0), (13, .iconst (0), 14, 0), (14, .iastore, 15, 0), (15, .iinc 1 (1), 18, 0), (18, .goto (-16), 21, 2), (21, .return_, 22, 0)]
abbrev pt_m83 : pm_MT := (6, 2, false, none, ⟨"SliceDepot$Tree", "clear", "()V"⟩, prog_7_method_7_code, pt_I83)
def pt_I84 : List pm_E := [(0, .iload_n 1, 1, 0), (1, .invokestatic 43, 4, 0), (4, .ifCond .ne (5), 7, 9), (7, .iconst (-1), 8, 0), (8, .ireturn, 9, 0), (9, .iconst (0), 10, 0), (10, .istore_n 2, 11, 0), (11, .iload_n 1, 12, 0), (12, .invokestatic 34, 15, 0), (15, .istore_n 3, 16, 0), (16, .iconst (0), 17, 0), (17, .istore 4, 19, 0), (19, .iload 4, 21, 0), (21, .iload_n 3, 22, 0), (22, .if_icmp .ge (26), 25, 48), (25, .iload_n 2, 26, 0), (26, .iconst (-1), 27, 0), (27, .if_icmp .eq (21), 30, 48), (30, .aload_n 0, 31, 0), (31, .iload_n 2, 32, 0), (32, .iload_n 1, 33, 0), (33, .iload 4, 35, 0), (35, .invokestatic 30, 38, 0), (38, .invokevirtual 47, 41, 0), (41, .istore_n 2, 42, 0), (42, .iinc 4 (1), 45, 0), (45, .goto (-26), 48, 19), (48, .iload_n 2, 49, 0), (49, .ireturn, 50, 0)]
abbrev pt_m84 : pm_MT := (6, 5, false, (some .int), ⟨"SliceDepot$Tree", "find", "(I)I"⟩, prog_7_method_8_code, pt_I84)
def pt_I85 : List pm_E := [(0, .iload_n 1, 1, 0), (1, .invokestatic 50, 4, 0), (4, .ifCond .eq (17), 7, 21), (7, .aload_n 0, 8, 0), (8, .getfield 11, 11, 0), (11, .iload_n 1, 12, 0), (12, .iaload, 13, 0), (13, .iconst (2), 14, 0), (14, .if_icmp .ne (7), 17, 21), (17, .iconst (1), 18, 0), (18, .goto (4), 21, 22), (21, .iconst (0), 22, 0), (22, .ireturn, 23, 0)]
abbrev pt_m85 : pm_MT := (6, 2, false, (some .boolean), ⟨"SliceDepot$Tree", "isDirectory", "(I)Z"⟩, prog_7_method_9_code, pt_I85)
def pt_I86 : List pm_E := [(0, .aload_n 0, 1, 0), (1, .iload_n 1, 2, 0), (2, .invokevirtual 53, 5, 0), (5, .istore_n 2, 6, 0), (6, .iload_n 2, 7, 0), (7, .invokestatic 50, 10, 0), (10, .ifCond .eq (22), 13, 32), (13, .aload_n 0, 14, 0), (14, .getfield 11, 17, 0), (17, .iload_n 2, 18, 0), (18, .iaload, 19, 0), (19, .iconst (1), 20, 0), (20, .if_icmp .ne (12), 23, 32), (23, .aload_n 0, 24, 0), (24, .getfield 23, 27, 0), (27, .iload_n 2, 28, 0), (28, .aaload, 29, 0), (29, .goto (4), 32, 33), (32, .aconst_null, 33, 0), (33, .areturn, 34, 0)]
abbrev pt_m86 : pm_MT := (6, 3, false, (some (.object "SliceDepot$Bytes")), ⟨"SliceDepot$Tree", "fileAt", "(I)LSliceDepot$Bytes;"⟩, prog_7_method_10_code, pt_I86)
def pt_I87 : List pm_E := [(0, .iload_n 1, 1, 0), (1, .invokestatic 50, 4, 0), (4, .ifCond .eq (12), 7, 16), (7, .aload_n 0, 8, 0), (8, .getfield 23, 11, 0), (11, .iload_n 1, 12, 0), (12, .aaload, 13, 0), (13, .goto (4), 16, 17), (16, .aconst_null, 17, 0), (17, .areturn, 18, 0)]
abbrev pt_m87 : pm_MT := (6, 2, false, (some (.object "SliceDepot$Bytes")), ⟨"SliceDepot$Tree", "contentOf", "(I)LSliceDepot$Bytes;"⟩, prog_7_method_11_code, pt_I87)
def pt_I88 : List pm_E := [(0, .iload_n 1, 1, 0), (1, .invokestatic 50, 4, 0), (4, .ifCond .eq (12), 7, 16), (7, .aload_n 0, 8, 0), (8, .getfield 18, 11, 0), (11, .iload_n 1, 12, 0), (12, .iaload, 13, 0), (13, .goto (4), 16, 17), (16, .iconst (-1), 17, 0), (17, .ireturn, 18, 0)]
abbrev pt_m88 : pm_MT := (6, 2, false, (some .int), ⟨"SliceDepot$Tree", "parentOf", "(I)I"⟩, prog_7_method_12_code, pt_I88)
def pt_I89 : List pm_E := [(0, .iconst (1), 1, 0), (1, .istore_n 3, 2, 0), (2, .iload_n 3, 3, 0), (3, .bipush (11), 5, 0), (5, .if_icmp .ge (30), 8, 35), (8, .aload_n 0, 9, 0), (9, .iload_n 3, 10, 0), (10, .iload_n 1, 11, 0), (11, .invokevirtual 56, 14, 0), (14, .ifCond .eq (15), 17, 29), (17, .aload_n 0, 18, 0), (18, .getfield 15, 21, 0), (21, .iload_n 3, 22, 0), (22, .iaload, 23, 0), (23, .iload_n 2, 24, 0), (24, .if_icmp .ne (5), 27, 29), (27, .iload_n 3, 28, 0), (28, .ireturn, 29, 0), (29, .iinc 3 (1), 32, 0), (32, .goto (-30), 35, 2), (35, .iconst (-1), 36, 0), (36, .ireturn, 37, 0)]
abbrev pt_m89 : pm_MT := (6, 4, false, (some .int), ⟨"SliceDepot$Tree", "childNamed", "(II)I"⟩, prog_7_method_13_code, pt_I89)
def pt_I90 : List pm_E := [(0, .iconst (0), 1, 0), (1, .istore_n 2, 2, 0), (2, .iconst (1), 3, 0), (3, .istore_n 3, 4, 0), (4, .iload_n 3, 5, 0), (5, .bipush (11), 7, 0), (7, .if_icmp .ge (21), 10, 28), (10, .aload_n 0, 11, 0), (11, .iload_n 3, 12, 0), (12, .iload_n 1, 13, 0), (13, .invokevirtual 56, 16, 0), (16, .ifCond .eq (6), 19, 22), (19, .iinc 2 (1), 22, 0), (22, .iinc 3 (1), 25, 0), (25, .goto (-21), 28, 4), (28, .iload_n 2, 29, 0), (29, .ireturn, 30, 0)]
abbrev pt_m90 : pm_MT := (6, 4, false, (some .int), ⟨"SliceDepot$Tree", "childrenOf", "(I)I"⟩, prog_7_method_14_code, pt_I90)
def pt_I91 : List pm_E := [(0, .iconst (0), 1, 0), (1, .istore_n 2, 2, 0), (2, .iconst (1), 3, 0), (3, .istore_n 3, 4, 0), (4, .iload_n 3, 5, 0), (5, .bipush (11), 7, 0), (7, .if_icmp .ge (29), 10, 36), (10, .aload_n 0, 11, 0), (11, .iload_n 3, 12, 0), (12, .iload_n 1, 13, 0), (13, .invokevirtual 56, 16, 0), (16, .ifCond .eq (14), 19, 30), (19, .iload_n 2, 20, 0), (20, .aload_n 0, 21, 0), (21, .getfield 15, 24, 0), (24, .iload_n 3, 25, 0), (25, .iaload, 26, 0), (26, .invokestatic 38, 29, 0), (29, .istore_n 2, 30, 0), (30, .iinc 3 (1), 33, 0), (33, .goto (-29), 36, 4), (36, .iload_n 2, 37, 0), (37, .ireturn, 38, 0)]
abbrev pt_m91 : pm_MT := (6, 4, false, (some .int), ⟨"SliceDepot$Tree", "greatestNameIn", "(I)I"⟩, prog_7_method_15_code, pt_I91)
def pt_I92 : List pm_E := [(0, .iconst (0), 1, 0), (1, .istore_n 2, 2, 0), (2, .aload_n 0, 3, 0), (3, .iload_n 1, 4, 0), (4, .invokevirtual 60, 7, 0), (7, .istore_n 3, 8, 0), (8, .iload_n 3, 9, 0), (9, .iconst (-1), 10, 0), (10, .if_icmp .eq (21), 13, 31), (13, .iload_n 2, 14, 0), (14, .bipush (6), 16, 0), (16, .if_icmp .ge (15), 19, 31), (19, .iinc 2 (1), 22, 0), (22, .aload_n 0, 23, 0), (23, .iload_n 3, 24, 0), (24, .invokevirtual 60, 27, 0), (27, .istore_n 3, 28, 0), (28, .goto (-20), 31, 8), (31, .iload_n 2, 32, 0), (32, .ireturn, 33, 0)]
abbrev pt_m92 : pm_MT := (6, 4, false, (some .int), ⟨"SliceDepot$Tree", "depthOf", "(I)I"⟩, prog_7_method_16_code, pt_I92)
def pt_I93 : List pm_E := [(0, .iconst (1), 1, 0), (1, .istore 4, 3, 0), (3, .iload 4, 5, 0), (5, .bipush (11), 7, 0), (7, .if_icmp .ge (56), 10, 63), (10, .aload_n 0, 11, 0), (11, .getfield 11, 14, 0), (14, .iload 4, 16, 0), (16, .iaload, 17, 0), (17, .ifCond .ne (40), 20, 57), (20, .aload_n 0, 21, 0), (21, .getfield 11, 24, 0), (24, .iload 4, 26, 0), (26, .iload_n 3, 27, 0), (27, .iastore, 28, 0), (28, .aload_n 0, 29, 0), (29, .getfield 15, 32, 0), (32, .iload 4, 34, 0), (34, .iload_n 2, 35, 0), (35, .iastore, 36, 0), (36, .aload_n 0, 37, 0), (37, .getfield 18, 40, 0), (40, .iload 4, 42, 0), (42, .iload_n 1, 43, 0), (43, .iastore, 44, 0), (44, .aload_n 0, 45, 0), (45, .getfield 23, 48, 0), (48, .iload 4, 50, 0), (50, .aaload, 51, 0), (51, .invokevirtual 63, 54, 0), (54, .iload 4, 56, 0), (56, .ireturn, 57, 0), (57, .iinc 4 (1), 60, 0), (60, .goto (-57), 63, 3), (63, .iconst (-1), 64, 0), (64, .ireturn, 65, 0)]
abbrev pt_m93 : pm_MT := (6, 5, false, (some .int), ⟨"SliceDepot$Tree", "addEntry", "(III)I"⟩, prog_7_method_17_code, pt_I93)
def pt_I94 : List pm_E := [(0, .iconst (0), 1, 0), (1, .istore_n 2, 2, 0), (2, .iconst (1), 3, 0), (3, .istore_n 3, 4, 0), (4, .iload_n 3, 5, 0), (5, .bipush (11), 7, 0), (7, .if_icmp .ge (37), 10, 44), (10, .aload_n 0, 11, 0), (11, .getfield 11, 14, 0), (14, .iload_n 3, 15, 0), (15, .iaload, 16, 0), (16, .ifCond .eq (22), 19, 38), (19, .aload_n 0, 20, 0), (20, .iload_n 3, 21, 0), (21, .iload_n 1, 22, 0), (22, .invokevirtual 66, 25, 0), (25, .ifCond .eq (13), 28, 38), (28, .aload_n 0, 29, 0), (29, .getfield 11, 32, 0), (32, .iload_n 3, 33, 0), (33, .iconst (0), 34, 0), (34, .iastore, 35, 0), (35, .iinc 2 (1), 38, 0), (38, .iinc 3 (1), 41, 0), (41, .goto (-37), 44, 4), (44, .iload_n 2, 45, 0), (45, .ireturn, 46, 0)]
abbrev pt_m94 : pm_MT := (6, 4, false, (some .int), ⟨"SliceDepot$Tree", "takeAway", "(I)I"⟩, prog_7_method_18_code, pt_I94)
def pt_I95 : List pm_E := [(0, .iconst (0), 1, 0), (1, .istore_n 1, 2, 0), (2, .iconst (1), 3, 0), (3, .istore_n 2, 4, 0), (4, .iload_n 2, 5, 0), (5, .bipush (11), 7, 0), (7, .if_icmp .ge (21), 10, 28), (10, .aload_n 0, 11, 0), (11, .getfield 11, 14, 0), (14, .iload_n 2, 15, 0), (15, .iaload, 16, 0), (16, .ifCond .eq (6), 19, 22), (19, .iinc 1 (1), 22, 0), (22, .iinc 2 (1), 25, 0), (25, .goto (-21), 28, 4), (28, .iload_n 1, 29, 0), (29, .ireturn, 30, 0)]
abbrev pt_m95 : pm_MT := (6, 3, false, (some .int), ⟨"SliceDepot$Tree", "entries", "()I"⟩, prog_7_method_19_code, pt_I95)
def pt_I96 : List pm_E := [(0, .iconst (0), 1, 0), (1, .istore_n 1, 2, 0), (2, .iconst (1), 3, 0), (3, .istore_n 2, 4, 0), (4, .iload_n 2, 5, 0), (5, .bipush (11), 7, 0), (7, .if_icmp .ge (31), 10, 38), (10, .aload_n 0, 11, 0), (11, .getfield 11, 14, 0), (14, .iload_n 2, 15, 0), (15, .iaload, 16, 0), (16, .iconst (1), 17, 0), (17, .if_icmp .ne (15), 20, 32), (20, .iload_n 1, 21, 0), (21, .aload_n 0, 22, 0), (22, .getfield 23, 25, 0), (25, .iload_n 2, 26, 0), (26, .aaload, 27, 0), (27, .invokevirtual 69, 30, 0), (30, .iadd, 31, 0), (31, .istore_n 1, 32, 0), (32, .iinc 2 (1), 35, 0), (35, .goto (-31), 38, 4), (38, .iload_n 1, 39, 0), (39, .ireturn, 40, 0)]
abbrev pt_m96 : pm_MT := (6, 3, false, (some .int), ⟨"SliceDepot$Tree", "fileBytes", "()I"⟩, prog_7_method_20_code, pt_I96)
def pt_I97 : List pm_E := [(0, .aload_n 1, 1, 0), (1, .invokevirtual 63, 4, 0), (4, .iconst (0), 5, 0), (5, .istore_n 2, 6, 0), (6, .iconst (0), 7, 0), (7, .istore_n 3, 8, 0), (8, .iconst (0), 9, 0), (9, .istore 4, 11, 0), (11, .iload 4, 13, 0), (13, .bipush (22), 15, 0), (15, .if_icmp .ge (114), 18, 129), (18, .iload_n 2, 19, 0), (19, .iconst (-1), 20, 0), (20, .if_icmp .eq (109), 23, 129), (23, .aload_n 0, 24, 0), (24, .iload_n 2, 25, 0), (25, .iload_n 3, 26, 0), (26, .invokevirtual 73, 29, 0), (29, .istore 5, 31, 0), (31, .iload 5, 33, 0), (33, .iconst (-1), 34, 0), (34, .if_icmp .ne (37), 37, 71), (37, .aload_n 1, 38, 0), (38, .bipush (9), 40, 0), (40, .invokevirtual 76, 43, 0), (43, .pop, 44, 0), (44, .aload_n 1, 45, 0), (45, .aload_n 0, 46, 0), (46, .iload_n 2, 47, 0), (47, .invokevirtual 79, 50, 0), (50, .invokevirtual 76, 53, 0), (53, .pop, 54, 0), (54, .aload_n 0, 55, 0), (55, .getfield 15, 58, 0), (58, .iload_n 2, 59, 0), (59, .iaload, 60, 0), (60, .istore_n 3, 61, 0), (61, .aload_n 0, 62, 0), (62, .getfield 18, 65, 0), (65, .iload_n 2, 66, 0), (66, .iaload, 67, 0), (67, .istore_n 2, 68, 0), (68, .goto (55), 71, 123), (71, .aload_n 0, 72, 0), (72, .getfield 11, 75, 0), (75, .iload 5, 77, 0), (77, .iaload, 78, 0), (78, .iconst (1), 79, 0), (79, .if_icmp .ne (21), 82, 100), (82, .aload_n 0, 83, 0), (83, .iload 5, 85, 0), (85, .aload_n 1, 86, 0), (86, .invokevirtual 82, 89, 0), (89, .aload_n 0, 90, 0), (90, .getfield 15, 93, 0), (93, .iload 5, 95, 0), (95, .iaload, 96, 0), (96, .istore_n 3, 97, 0), (97, .goto (26), 100, 123), (100, .aload_n 1, 101, 0), (101, .iconst (2), 102, 0), (102, .invokevirtual 76, 105, 0), (105, .pop, 106, 0), (106, .aload_n 1, 107, 0), (107, .aload_n 0, 108, 0), (108, .getfield 15, 111, 0), (111, .iload 5, 113, 0), (113, .iaload, 114, 0), (114, .invokevirtual 76, 117, 0), (117, .pop, 118, 0), (118, .iconst (0), 119, 0), (119, .istore_n 3, 120, 0), (120, .iload 5, 122, 0), (122, .istore_n 2, 123, 0), (123, .iinc 4 (1), 126, 0), (126, .goto (-115), 129, 11), (129, .return_, 130, 0)]
abbrev pt_m97 : pm_MT := (6, 6, false, none, ⟨"SliceDepot$Tree", "writeStream", "(LSliceDepot$Bytes;)V"⟩, prog_7_method_21_code, pt_I97)
def pt_I98 : List pm_E := [(0, .aload_n 0, 1, 0), (1, .getfield 23, 4, 0), (4, .iload_n 1, 5, 0), (5, .aaload, 6, 0), (6, .astore_n 3, 7, 0), (7, .aload_n 2, 8, 0), (8, .iconst (1), 9, 0), (9, .invokevirtual 76, 12, 0), (12, .pop, 13, 0), (13, .aload_n 2, 14, 0), (14, .aload_n 0, 15, 0), (15, .getfield 15, 18, 0), (18, .iload_n 1, 19, 0), (19, .iaload, 20, 0), (20, .invokevirtual 76, 23, 0), (23, .pop, 24, 0), (24, .aload_n 2, 25, 0), (25, .aload_n 3, 26, 0), (26, .invokevirtual 69, 29, 0), (29, .invokevirtual 76, 32, 0), (32, .pop, 33, 0), (33, .aload_n 2, 34, 0), (34, .aload_n 3, 35, 0), (35, .iconst (0), 36, 0), (36, .aload_n 3, 37, 0), (37, .invokevirtual 69, 40, 0), (40, .invokevirtual 86, 43, 0), (43, .return_, 44, 0)]
abbrev pt_m98 : pm_MT := (6, 4, false, none, ⟨"SliceDepot$Tree", "writeFile", "(ILSliceDepot$Bytes;)V"⟩, prog_7_method_22_code, pt_I98)
def pt_I99 : List pm_E := [(0, .iconst (-1), 1, 0), (1, .istore_n 3, 2, 0), (2, .iconst (1), 3, 0), (3, .istore 4, 5, 0), (5, .iload 4, 7, 0), (7, .bipush (11), 9, 0), (9, .if_icmp .ge (54), 12, 63), (12, .aload_n 0, 13, 0), (13, .iload 4, 15, 0), (15, .iload_n 1, 16, 0), (16, .invokevirtual 56, 19, 0), (19, .ifCond .eq (38), 22, 57), (22, .aload_n 0, 23, 0), (23, .getfield 15, 26, 0), (26, .iload 4, 28, 0), (28, .iaload, 29, 0), (29, .iload_n 2, 30, 0), (30, .if_icmp .le (27), 33, 57), (33, .iload_n 3, 34, 0), (34, .iconst (-1), 35, 0), (35, .if_icmp .eq (19), 38, 54), (38, .aload_n 0, 39, 0), (39, .getfield 15, 42, 0), (42, .iload 4, 44, 0), (44, .iaload, 45, 0), (45, .aload_n 0, 46, 0), (46, .getfield 15, 49, 0), (49, .iload_n 3, 50, 0), (50, .iaload, 51, 0), (51, .if_icmp .ge (6), 54, 57), (54, .iload 4, 56, 0), (56, .istore_n 3, 57, 0), (57, .iinc 4 (1), 60, 0), (60, .goto (-55), 63, 5), (63, .iload_n 3, 64, 0), (64, .ireturn, 65, 0)]
abbrev pt_m99 : pm_MT := (6, 5, false, (some .int), ⟨"SliceDepot$Tree", "childBehind", "(II)I"⟩, prog_7_method_23_code, pt_I99)
def pt_I100 : List pm_E := [(0, .aload_n 0, 1, 0), (1, .getfield 11, 4, 0), (4, .iload_n 1, 5, 0), (5, .iaload, 6, 0), (6, .ifCond .eq (17), 9, 23), (9, .aload_n 0, 10, 0), (10, .getfield 18, 13, 0), (13, .iload_n 1, 14, 0), (14, .iaload, 15, 0), (15, .iload_n 2, 16, 0), (16, .if_icmp .ne (7), 19, 23), (19, .iconst (1), 20, 0), (20, .goto (4), 23, 24), (23, .iconst (0), 24, 0), (24, .ireturn, 25, 0)]
abbrev pt_m100 : pm_MT := (6, 3, false, (some .boolean), ⟨"SliceDepot$Tree", "isChild", "(II)Z"⟩, prog_7_method_24_code, pt_I100)
def pt_I101 : List pm_E := [(0, .iload_n 1, 1, 0), (1, .istore_n 3, 2, 0), (2, .iconst (0), 3, 0), (3, .istore 4, 5, 0), (5, .iload 4, 7, 0), (7, .bipush (6), 9, 0), (9, .if_icmp .gt (27), 12, 36), (12, .iload_n 3, 13, 0), (13, .iconst (-1), 14, 0), (14, .if_icmp .eq (22), 17, 36), (17, .iload_n 3, 18, 0), (18, .iload_n 2, 19, 0), (19, .if_icmp .ne (5), 22, 24), (22, .iconst (1), 23, 0), (23, .ireturn, 24, 0), (24, .aload_n 0, 25, 0), (25, .iload_n 3, 26, 0), (26, .invokevirtual 60, 29, 0), (29, .istore_n 3, 30, 0), (30, .iinc 4 (1), 33, 0), (33, .goto (-28), 36, 5), (36, .iconst (0), 37, 0), (37, .ireturn, 38, 0)]
abbrev pt_m101 : pm_MT := (6, 5, false, (some .boolean), ⟨"SliceDepot$Tree", "liesIn", "(II)Z"⟩, prog_7_method_25_code, pt_I101)
def pt_I102 : List pm_E := [(0, .iload_n 0, 1, 0), (1, .ifCond .lt (13), 4, 14), (4, .iload_n 0, 5, 0), (5, .bipush (11), 7, 0), (7, .if_icmp .ge (7), 10, 14), (10, .iconst (1), 11, 0), (11, .goto (4), 14, 15), (14, .iconst (0), 15, 0), (15, .ireturn, 16, 0)]
abbrev pt_m102 : pm_MT := (6, 1, false, (some .boolean), ⟨"SliceDepot$Tree", "isSlot", "(I)Z"⟩, prog_7_method_26_code, pt_I102)
def pt_I103 : List pm_E := [(0, .aload_n 0, 1, 0), (1, .invokespecial 3, 4, 0), (4, .aload_n 0, 5, 0), (5, .aload_n 1, 6, 0), (6, .putfield 9, 9, 0), (9, .aload_n 0, 10, 0), (10, .aload_n 2, 11, 0), (11, .putfield 15, 14, 0), (14, .return_, 15, 0)]
abbrev pt_m103 : pm_MT := (7, 3, true, none, ⟨"SliceDepot$TreeReader", "<init>", "(LSliceDepot$Bytes;LSliceDepot$Tree;)V"⟩, prog_8_method_1_code, pt_I103)
def pt_I104 : List pm_E := [(0, .aload_n 0, 1, 0), (1, .getfield 15, 4, 0), (4, .invokevirtual 19, 7, 0), (7, .iconst (0), 8, 0), (8, .istore_n 1, 9, 0), (9, .iconst (0), 10, 0), (10, .istore_n 2, 11, 0), (11, .iload_n 2, 12, 0), (12, .aload_n 0, 13, 0), (13, .getfield 9, 16, 0), (16, .invokevirtual 24, 19, 0), (19, .if_icmp .gt (27), 22, 46), (22, .iload_n 1, 23, 0), (23, .iconst (-1), 24, 0), (24, .if_icmp .eq (22), 27, 46), (27, .aload_n 0, 28, 0), (28, .getfield 30, 31, 0), (31, .ifCond .ne (15), 34, 46), (34, .aload_n 0, 35, 0), (35, .iload_n 1, 36, 0), (36, .invokevirtual 34, 39, 0), (39, .istore_n 1, 40, 0), (40, .iinc 2 (1), 43, 0), (43, .goto (-32), 46, 11), (46, .aload_n 0, 47, 0), (47, .getfield 30, 50, 0), (50, .ifCond .ne (17), 53, 67), (53, .aload_n 0, 54, 0), (54, .getfield 38, 57, 0), (57, .aload_n 0, 58, 0), (58, .getfield 9, 61, 0), (61, .invokevirtual 24, 64, 0), (64, .if_icmp .ge (10), 67, 74), (67, .iconst (-1), 68, 0), (68, .aload_n 0, 69, 0), (69, .getfield 38, 72, 0), (72, .isub, 73, 0), (73, .ireturn, 74, 0), (74, .aload_n 0, 75, 0), (75, .getfield 15, 78, 0), (78, .invokevirtual 42, 81, 0), (81, .ireturn, 82, 0)]
abbrev pt_m104 : pm_MT := (7, 3, false, (some .int), ⟨"SliceDepot$TreeReader", "readAll", "()I"⟩, prog_8_method_2_code, pt_I104)
def pt_I105 : List pm_E := [(0, .aload_n 0, 1, 0), (1, .iload_n 1, 2, 0), (2, .invokevirtual 45, 5, 0), (5, .istore_n 2, 6, 0), (6, .iload_n 2, 7, 0), (7, .bipush (9), 9, 0), (9, .if_icmp .ne (28), 12, 37), (12, .aload_n 0, 13, 0), (13, .getfield 15, 16, 0), (16, .iload_n 1, 17, 0), (17, .invokevirtual 48, 20, 0), (20, .istore_n 3, 21, 0), (21, .aload_n 0, 22, 0), (22, .iload_n 3, 23, 0), (23, .iload_n 3, 24, 0), (24, .invokevirtual 51, 27, 0), (27, .pop, 28, 0), (28, .aload_n 0, 29, 0), (29, .getfield 15, 32, 0), (32, .iload_n 1, 33, 0), (33, .invokevirtual 55, 36, 0), (36, .ireturn, 37, 0), (37, .aload_n 0, 38, 0), (38, .aload_n 0, 39, 0), (39, .getfield 15, 42, 0), (42, .iload_n 1, 43, 0), (43, .invokevirtual 58, 46, 0), (46, .iconst (1), 47, 0), (47, .iadd, 48, 0), (48, .bipush (31), 50, 0), (50, .invokevirtual 51, 53, 0), (53, .istore_n 3, 54, 0), (54, .aload_n 0, 55, 0), (55, .getfield 30, 58, 0), (58, .ifCond .eq (5), 61, 63), (61, .iload_n 1, 62, 0), (62, .ireturn, 63, 0), (63, .aload_n 0, 64, 0), (64, .getfield 15, 67, 0), (67, .iload_n 1, 68, 0), (68, .iload_n 3, 69, 0), (69, .iload_n 2, 70, 0), (70, .invokevirtual 61, 73, 0), (73, .istore 4, 75, 0), (75, .iload_n 2, 76, 0), (76, .iconst (2), 77, 0), (77, .if_icmp .ne (6), 80, 83), (80, .iload 4, 82, 0), (82, .ireturn, 83, 0), (83, .aload_n 0, 84, 0), (84, .aload_n 0, 85, 0), (85, .getfield 15, 88, 0), (88, .iload 4, 90, 0), (90, .invokevirtual 65, 93, 0), (93, .invokevirtual 69, 96, 0), (96, .iload_n 1, 97, 0), (97, .ireturn, 98, 0)]
abbrev pt_m105 : pm_MT := (7, 5, false, (some .int), ⟨"SliceDepot$TreeReader", "readPart", "(I)I"⟩, prog_8_method_3_code, pt_I105)
def pt_I106 : List pm_E := [(0, .aload_n 0, 1, 0), (1, .getfield 15, 4, 0), (4, .invokevirtual 42, 7, 0), (7, .bipush (10), 9, 0), (9, .if_icmp .ge (20), 12, 29), (12, .aload_n 0, 13, 0), (13, .getfield 15, 16, 0), (16, .iload_n 1, 17, 0), (17, .invokevirtual 73, 20, 0), (20, .bipush (6), 22, 0), (22, .if_icmp .ge (7), 25, 29), (25, .iconst (1), 26, 0), (26, .goto (4), 29, 30), (29, .iconst (0), 30, 0), (30, .istore_n 2, 31, 0), (31, .aload_n 0, 32, 0), (32, .getfield 9, 35, 0), (35, .aload_n 0, 36, 0), (36, .getfield 38, 39, 0), (39, .invokevirtual 76, 42, 0), (42, .iconst (1), 43, 0), (43, .if_icmp .eq (18), 46, 61), (46, .aload_n 0, 47, 0), (47, .getfield 9, 50, 0), (50, .aload_n 0, 51, 0), (51, .getfield 38, 54, 0), (54, .invokevirtual 76, 57, 0), (57, .iconst (2), 58, 0), (58, .if_icmp .ne (7), 61, 65), (61, .iconst (1), 62, 0), (62, .goto (4), 65, 66), (65, .iconst (0), 66, 0), (66, .istore_n 3, 67, 0), (67, .iload_n 2, 68, 0), (68, .ifCond .eq (16), 71, 84), (71, .iload_n 3, 72, 0), (72, .ifCond .eq (12), 75, 84), (75, .aload_n 0, 76, 0), (76, .iconst (1), 77, 0), (77, .iconst (2), 78, 0), (78, .invokevirtual 51, 81, 0), (81, .goto (11), 84, 92), (84, .aload_n 0, 85, 0), (85, .bipush (9), 87, 0), (87, .bipush (9), 89, 0), (89, .invokevirtual 51, 92, 0), (92, .ireturn, 93, 0)]
abbrev pt_m106 : pm_MT := (7, 4, false, (some .int), ⟨"SliceDepot$TreeReader", "takeKind", "(I)I"⟩, prog_8_method_4_code, pt_I106)
def pt_I107 : List pm_E := [(0, .aload_n 0, 1, 0), (1, .iconst (0), 2, 0), (2, .bipush (16), 4, 0), (4, .bipush (80), 6, 0), (6, .aload_n 0, 7, 0), (7, .getfield 15, 10, 0), (10, .invokevirtual 79, 13, 0), (13, .isub, 14, 0), (14, .invokestatic 82, 17, 0), (17, .invokevirtual 51, 20, 0), (20, .istore_n 2, 21, 0), (21, .iconst (0), 22, 0), (22, .istore_n 3, 23, 0), (23, .iload_n 3, 24, 0), (24, .iload_n 2, 25, 0), (25, .if_icmp .ge (26), 28, 51), (28, .aload_n 1, 29, 0), (29, .ifnull (22), 32, 51), (32, .aload_n 1, 33, 0), (33, .aload_n 0, 34, 0), (34, .iconst (0), 35, 0), (35, .sipush (255), 38, 0), (38, .invokevirtual 51, 41, 0), (41, .invokevirtual 87, 44, 0), (44, .pop, 45, 0), (45, .iinc 3 (1), 48, 0), (48, .goto (-25), 51, 23), (51, .return_, 52, 0)]
abbrev pt_m107 : pm_MT := (7, 4, false, none, ⟨"SliceDepot$TreeReader", "readFile", "(LSliceDepot$Bytes;)V"⟩, prog_8_method_5_code, pt_I107)
def pt_I108 : List pm_E := [(0, .aload_n 0, 1, 0), (1, .getfield 9, 4, 0), (4, .aload_n 0, 5, 0), (5, .getfield 38, 8, 0), (8, .invokevirtual 76, 11, 0), (11, .istore_n 3, 12, 0), (12, .aload_n 0, 13, 0), (13, .getfield 30, 16, 0), (16, .ifCond .ne (27), 19, 43), (19, .aload_n 0, 20, 0), (20, .getfield 9, 23, 0), (23, .aload_n 0, 24, 0), (24, .getfield 38, 27, 0), (27, .invokevirtual 91, 30, 0), (30, .ifCond .eq (13), 33, 43), (33, .iload_n 3, 34, 0), (34, .iload_n 1, 35, 0), (35, .if_icmp .lt (8), 38, 43), (38, .iload_n 3, 39, 0), (39, .iload_n 2, 40, 0), (40, .if_icmp .le (10), 43, 50), (43, .aload_n 0, 44, 0), (44, .iconst (1), 45, 0), (45, .putfield 30, 48, 0), (48, .iconst (-1), 49, 0), (49, .ireturn, 50, 0), (50, .aload_n 0, 51, 0), (51, .dup, 52, 0), (52, .getfield 38, 55, 0), (55, .iconst (1), 56, 0), (56, .iadd, 57, 0), (57, .putfield 38, 60, 0), (60, .iload_n 3, 61, 0), (61, .ireturn, 62, 0)]
abbrev pt_m108 : pm_MT := (7, 4, false, (some .int), ⟨"SliceDepot$TreeReader", "take", "(II)I"⟩, prog_8_method_6_code, pt_I108)
def pt_I109 : List pm_E := [(0, .aload_n 0, 1, 0), (1, .invokespecial 1, 4, 0), (4, .aload_n 0, 5, 0), (5, .sipush (1952), 8, 0), (8, .newarray .int, 10, 0), (10, .putfield 7, 13, 0), (13, .aload_n 0, 14, 0), (14, .iconst (2), 15, 0), (15, .newarray .int, 17, 0), (17, .putfield 13, 20, 0), (20, .aload_n 0, 21, 0), (21, .bipush (20), 23, 0), (23, .newarray .int, 25, 0), (25, .putfield 16, 28, 0), (28, .aload_n 0, 29, 0), (29, .bipush (20), 31, 0), (31, .newarray .int, 33, 0), (33, .putfield 19, 36, 0), (36, .aload_n 0, 37, 0), (37, .bipush (20), 39, 0), (39, .newarray .int, 41, 0), (41, .putfield 22, 44, 0), (44, .aload_n 0, 45, 0), (45, .sipush (320), 48, 0), (48, .newarray .int, 50, 0), (50, .putfield 25, 53, 0), (53, .aload_n 0, 54, 0), (54, .bipush (7), 56, 0), (56, .newarray .int, 58, 0), (58, .putfield 28, 61, 0), (61, .aload_n 0, 62, 0), (62, .bipush (112), 64, 0), (64, .newarray .int, 66, 0), (66, .putfield 31, 69, 0), (69, .aload_n 0, 70, 0), (70, .bipush (112), 72, 0), (72, .newarray .int, 74, 0), (74, .putfield 34, 77, 0), (77, .aload_n 0, 78, 0), (78, .bipush (112), 80, 0), (80, .newarray .int, 82, 0), (82, .putfield 37, 85, 0), (85, .aload_n 0, 86, 0), (86, .iconst (4), 87, 0), (87, .newarray .boolean, 89, 0), (89, .putfield 40, 92, 0), (92, .aload_n 0, 93, 0), (93, .bipush (16), 95, 0), (95, .newarray .int, 97, 0), (97, .putfield 44, 100, 0), (100, .aload_n 0, 101, 0), (101, .bipush (46), 103, 0), (103, .newarray .int, 105, 0), (105, .putfield 47, 108, 0), (108, .aload_n 0, 109, 0), (109, .bipush (46), 111, 0), (111, .newarray .int, 113, 0), (113, .putfield 50, 116, 0), (116, .bipush (8), 118, 0), (118, .iload_n 1, 119, 0), (119, .if_icmp .gt (23), 122, 142), (122, .iload_n 1, 123, 0), (123, .iload_n 2, 124, 0), (124, .if_icmp .gt (18), 127, 142), (127, .iload_n 2, 128, 0), (128, .iload_n 3, 129, 0), (129, .if_icmp .gt (13), 132, 142), (132, .iload_n 3, 133, 0), (133, .bipush (32), 135, 0), (135, .if_icmp .gt (7), 138, 142), (138, .iconst (1), 139, 0), (139, .goto (4), 142, 143), (142, .iconst (0), 143, 0), (143, .istore 4, 145, 0), (145, .aload_n 0, 146, 0), (146, .iload 4, 148, 0), (148, .ifCond .eq (7), 151, 155), (151, .iload_n 1, 152, 0), (152, .goto (5), 155, 157), (155, .bipush (8), 157, 0), (157, .putfield 53, 160, 0), (160, .aload_n 0, 161, 0), (161, .iload 4, 163, 0), (163, .ifCond .eq (7), 166, 170), (166, .iload_n 2, 167, 0), (167, .goto (5), 170, 172), (170, .bipush (12), 172, 0), (172, .putfield 57, 175, 0), (175, .aload_n 0, 176, 0), (176, .iload 4, 178, 0), (178, .ifCond .eq (7), 181, 185), (181, .iload_n 3, 182, 0), (182, .goto (5), 185, 187), (185, .bipush (24), 187, 0), (187, .putfield 60, 190, 0), (190, .return_, 191, 0)]
abbrev pt_m109 : pm_MT := (8, 5, true, none, ⟨"SliceDepotModel", "<init>", "(III)V"⟩, prog_10_method_1_code, pt_I109)
def pt_I110 : List pm_E := [(0, .iconst (0), 1, 0), (1, .istore_n 1, 2, 0), (2, .iload_n 1, 3, 0), (3, .bipush (6), 5, 0), (5, .if_icmp .ge (20), 8, 25), (8, .iload_n 0, 9, 0), (9, .iconst (5), 10, 0), (10, .iload_n 1, 11, 0), (11, .imul, 12, 0), (12, .ishr, 13, 0), (13, .bipush (31), 15, 0), (15, .iand, 16, 0), (16, .ifCond .eq (9), 19, 25), (19, .iinc 1 (1), 22, 0), (22, .goto (-20), 25, 2), (25, .iload_n 1, 26, 0), (26, .ireturn, 27, 0)]
abbrev pt_m110 : pm_MT := (8, 2, false, (some .int), ⟨"SliceDepotModel", "depth", "(I)I"⟩, prog_10_method_2_code, pt_I110)
def pt_I111 : List pm_E := [(0, .iload_n 0, 1, 0), (1, .ifCond .lt (25), 4, 26), (4, .iload_n 0, 5, 0), (5, .bipush (30), 7, 0), (7, .ishr, 8, 0), (8, .ifCond .ne (18), 11, 26), (11, .iload_n 0, 12, 0), (12, .iconst (5), 13, 0), (13, .iload_n 0, 14, 0), (14, .invokestatic 63, 17, 0), (17, .imul, 18, 0), (18, .ishr, 19, 0), (19, .ifCond .ne (7), 22, 26), (22, .iconst (1), 23, 0), (23, .goto (4), 26, 27), (26, .iconst (0), 27, 0), (27, .ireturn, 28, 0)]
abbrev pt_m111 : pm_MT := (8, 1, false, (some .boolean), ⟨"SliceDepotModel", "isPath", "(I)Z"⟩, prog_10_method_3_code, pt_I111)
def pt_I112 : List pm_E := [(0, .iload_n 0, 1, 0), (1, .iconst (1), 2, 0), (2, .iconst (5), 3, 0), (3, .iload_n 0, 4, 0), (4, .invokestatic 63, 7, 0), (7, .iconst (1), 8, 0), (8, .isub, 9, 0), (9, .imul, 10, 0), (10, .ishl, 11, 0), (11, .iconst (1), 12, 0), (12, .isub, 13, 0), (13, .iand, 14, 0), (14, .ireturn, 15, 0)]
abbrev pt_m112 : pm_MT := (8, 1, false, (some .int), ⟨"SliceDepotModel", "up", "(I)I"⟩, prog_10_method_4_code, pt_I112)
def pt_I113 : List pm_E := [(0, .iconst (0), 1, 0), (1, .istore_n 1, 2, 0), (2, .iconst (0), 3, 0), (3, .istore_n 2, 4, 0), (4, .iload_n 2, 5, 0), (5, .bipush (6), 7, 0), (7, .if_icmp .ge (22), 10, 29), (10, .iload_n 1, 11, 0), (11, .iconst (5), 12, 0), (12, .ishl, 13, 0), (13, .iload_n 0, 14, 0), (14, .iconst (5), 15, 0), (15, .iload_n 2, 16, 0), (16, .imul, 17, 0), (17, .ishr, 18, 0), (18, .bipush (31), 20, 0), (20, .iand, 21, 0), (21, .ior, 22, 0), (22, .istore_n 1, 23, 0), (23, .iinc 2 (1), 26, 0), (26, .goto (-22), 29, 4), (29, .iload_n 1, 30, 0), (30, .ireturn, 31, 0)]
abbrev pt_m113 : pm_MT := (8, 3, false, (some .int), ⟨"SliceDepotModel", "order", "(I)I"⟩, prog_10_method_5_code, pt_I113)
def pt_I114 : List pm_E := [(0, .iload_n 1, 1, 0), (1, .istore_n 3, 2, 0), (2, .iload_n 3, 3, 0), (3, .iload_n 1, 4, 0), (4, .bipush (10), 6, 0), (6, .iadd, 7, 0), (7, .if_icmp .ge (21), 10, 28), (10, .aload_n 0, 11, 0), (11, .getfield 16, 14, 0), (14, .iload_n 3, 15, 0), (15, .iaload, 16, 0), (16, .iload_n 2, 17, 0), (17, .if_icmp .ne (5), 20, 22), (20, .iload_n 3, 21, 0), (21, .ireturn, 22, 0), (22, .iinc 3 (1), 25, 0), (25, .goto (-23), 28, 2), (28, .iconst (-1), 29, 0), (29, .ireturn, 30, 0)]
abbrev pt_m114 : pm_MT := (8, 4, false, (some .int), ⟨"SliceDepotModel", "slot", "(II)I"⟩, prog_10_method_6_code, pt_I114)
def pt_I115 : List pm_E := [(0, .iconst (0), 1, 0), (1, .istore_n 1, 2, 0), (2, .iconst (0), 3, 0), (3, .istore_n 2, 4, 0), (4, .iload_n 2, 5, 0), (5, .bipush (10), 7, 0), (7, .if_icmp .ge (26), 10, 33), (10, .aload_n 0, 11, 0), (11, .getfield 16, 14, 0), (14, .iload_n 2, 15, 0), (15, .iaload, 16, 0), (16, .ifCond .eq (9), 19, 25), (19, .iload_n 1, 20, 0), (20, .iconst (1), 21, 0), (21, .iadd, 22, 0), (22, .goto (4), 25, 26), (25, .iload_n 1, 26, 0), (26, .istore_n 1, 27, 0), (27, .iinc 2 (1), 30, 0), (30, .goto (-26), 33, 4), (33, .iload_n 1, 34, 0), (34, .ireturn, 35, 0)]
abbrev pt_m115 : pm_MT := (8, 3, false, (some .int), ⟨"SliceDepotModel", "entries", "()I"⟩, prog_10_method_7_code, pt_I115)
def pt_I116 : List pm_E := [(0, .iconst (0), 1, 0), (1, .istore_n 1, 2, 0), (2, .iconst (0), 3, 0), (3, .istore_n 2, 4, 0), (4, .iload_n 2, 5, 0), (5, .bipush (10), 7, 0), (7, .if_icmp .ge (41), 10, 48), (10, .aload_n 0, 11, 0), (11, .getfield 16, 14, 0), (14, .iload_n 2, 15, 0), (15, .iaload, 16, 0), (16, .ifCond .eq (24), 19, 40), (19, .aload_n 0, 20, 0), (20, .getfield 19, 23, 0), (23, .iload_n 2, 24, 0), (24, .iaload, 25, 0), (25, .iconst (1), 26, 0), (26, .if_icmp .ne (14), 29, 40), (29, .iload_n 1, 30, 0), (30, .aload_n 0, 31, 0), (31, .getfield 22, 34, 0), (34, .iload_n 2, 35, 0), (35, .iaload, 36, 0), (36, .iadd, 37, 0), (37, .goto (4), 40, 41), (40, .iload_n 1, 41, 0), (41, .istore_n 1, 42, 0), (42, .iinc 2 (1), 45, 0), (45, .goto (-41), 48, 4), (48, .iload_n 1, 49, 0), (49, .ireturn, 50, 0)]
abbrev pt_m116 : pm_MT := (8, 3, false, (some .int), ⟨"SliceDepotModel", "fileBytes", "()I"⟩, prog_10_method_8_code, pt_I116)
def pt_I117 : List pm_E := [(0, .iload_n 1, 1, 0), (1, .invokestatic 67, 4, 0), (4, .ifCond .eq (16), 7, 20), (7, .iload_n 1, 8, 0), (8, .ifCond .eq (12), 11, 20), (11, .aload_n 0, 12, 0), (12, .iconst (0), 13, 0), (13, .iload_n 1, 14, 0), (14, .invokevirtual 71, 17, 0), (17, .goto (4), 20, 21), (20, .iconst (-1), 21, 0), (21, .istore_n 2, 22, 0), (22, .iload_n 2, 23, 0), (23, .ifCond .lt (17), 26, 40), (26, .aload_n 0, 27, 0), (27, .getfield 19, 30, 0), (30, .iload_n 2, 31, 0), (31, .iaload, 32, 0), (32, .iconst (1), 33, 0), (33, .if_icmp .ne (7), 36, 40), (36, .iload_n 2, 37, 0), (37, .goto (4), 40, 41), (40, .iconst (-1), 41, 0), (41, .ireturn, 42, 0)]
abbrev pt_m117 : pm_MT := (8, 3, false, (some .int), ⟨"SliceDepotModel", "file", "(I)I"⟩, prog_10_method_9_code, pt_I117)
def pt_I118 : List pm_E := [(0, .iload_n 1, 1, 0), (1, .invokestatic 67, 4, 0), (4, .ifCond .eq (26), 7, 30), (7, .iload_n 1, 8, 0), (8, .ifCond .eq (22), 11, 30), (11, .iload_n 2, 12, 0), (12, .iconst (1), 13, 0), (13, .if_icmp .eq (8), 16, 21), (16, .iload_n 2, 17, 0), (17, .iconst (2), 18, 0), (18, .if_icmp .ne (12), 21, 30), (21, .aload_n 0, 22, 0), (22, .iconst (0), 23, 0), (23, .iload_n 1, 24, 0), (24, .invokevirtual 71, 27, 0), (27, .ifCond .lt (5), 30, 32), (30, .iconst (0), 31, 0), (31, .ireturn, 32, 0), (32, .iload_n 1, 33, 0), (33, .invokestatic 75, 36, 0), (36, .istore_n 3, 37, 0), (37, .iload_n 3, 38, 0), (38, .ifCond .ne (7), 41, 45), (41, .iconst (-1), 42, 0), (42, .goto (9), 45, 51), (45, .aload_n 0, 46, 0), (46, .iconst (0), 47, 0), (47, .iload_n 3, 48, 0), (48, .invokevirtual 71, 51, 0), (51, .istore 4, 53, 0), (53, .aload_n 0, 54, 0), (54, .iconst (0), 55, 0), (55, .iconst (0), 56, 0), (56, .invokevirtual 71, 59, 0), (59, .istore 5, 61, 0), (61, .iload_n 3, 62, 0), (62, .ifCond .eq (19), 65, 81), (65, .iload 4, 67, 0), (67, .ifCond .lt (19), 70, 86), (70, .aload_n 0, 71, 0), (71, .getfield 19, 74, 0), (74, .iload 4, 76, 0), (76, .iaload, 77, 0), (77, .iconst (2), 78, 0), (78, .if_icmp .ne (8), 81, 86), (81, .iload 5, 83, 0), (83, .ifCond .ge (5), 86, 88), (86, .iconst (0), 87, 0), (87, .ireturn, 88, 0), (88, .aload_n 0, 89, 0), (89, .getfield 16, 92, 0), (92, .iload 5, 94, 0), (94, .iload_n 1, 95, 0), (95, .iastore, 96, 0), (96, .aload_n 0, 97, 0), (97, .getfield 19, 100, 0), (100, .iload 5, 102, 0), (102, .iload_n 2, 103, 0), (103, .iastore, 104, 0), (104, .aload_n 0, 105, 0), (105, .getfield 22, 108, 0), (108, .iload 5, 110, 0), (110, .iconst (0), 111, 0), (111, .iastore, 112, 0), (112, .iconst (1), 113, 0), (113, .ireturn, 114, 0)]
abbrev pt_m118 : pm_MT := (8, 6, false, (some .boolean), ⟨"SliceDepotModel", "create", "(II)Z"⟩, prog_10_method_10_code, pt_I118)
def pt_I119 : List pm_E := [(0, .aload_n 0, 1, 0), (1, .iload_n 1, 2, 0), (2, .invokevirtual 78, 5, 0), (5, .istore 4, 7, 0), (7, .iload 4, 9, 0), (9, .ifCond .lt (39), 12, 48), (12, .iload_n 3, 13, 0), (13, .iconst (1), 14, 0), (14, .if_icmp .lt (34), 17, 48), (17, .iload_n 3, 18, 0), (18, .bipush (16), 20, 0), (20, .if_icmp .gt (28), 23, 48), (23, .aload_n 0, 24, 0), (24, .getfield 22, 27, 0), (27, .iload 4, 29, 0), (29, .iaload, 30, 0), (30, .iload_n 3, 31, 0), (31, .iadd, 32, 0), (32, .bipush (16), 34, 0), (34, .if_icmp .gt (14), 37, 48), (37, .aload_n 0, 38, 0), (38, .invokevirtual 81, 41, 0), (41, .iload_n 3, 42, 0), (42, .iadd, 43, 0), (43, .bipush (80), 45, 0), (45, .if_icmp .le (5), 48, 50), (48, .iconst (-1), 49, 0), (49, .ireturn, 50, 0), (50, .iconst (0), 51, 0), (51, .istore 5, 53, 0), (53, .iload 5, 55, 0), (55, .iload_n 3, 56, 0), (56, .if_icmp .ge (41), 59, 97), (59, .aload_n 0, 60, 0), (60, .getfield 25, 63, 0), (63, .bipush (16), 65, 0), (65, .iload 4, 67, 0), (67, .imul, 68, 0), (68, .aload_n 0, 69, 0), (69, .getfield 22, 72, 0), (72, .iload 4, 74, 0), (74, .iaload, 75, 0), (75, .iadd, 76, 0), (76, .iload 5, 78, 0), (78, .iadd, 79, 0), (79, .iload_n 2, 80, 0), (80, .bipush (37), 82, 0), (82, .iload 5, 84, 0), (84, .imul, 85, 0), (85, .iadd, 86, 0), (86, .sipush (255), 89, 0), (89, .iand, 90, 0), (90, .iastore, 91, 0), (91, .iinc 5 (1), 94, 0), (94, .goto (-41), 97, 53), (97, .aload_n 0, 98, 0), (98, .getfield 22, 101, 0), (101, .iload 4, 103, 0), (103, .dup2, 104, 0), (104, .iaload, 105, 0), (105, .iload_n 3, 106, 0), (106, .iadd, 107, 0), (107, .iastore, 108, 0), (108, .aload_n 0, 109, 0), (109, .getfield 22, 112, 0), (112, .iload 4, 114, 0), (114, .iaload, 115, 0), (115, .ireturn, 116, 0)]
abbrev pt_m119 : pm_MT := (8, 6, false, (some .int), ⟨"SliceDepotModel", "append", "(III)I"⟩, prog_10_method_11_code, pt_I119)
def pt_I120 : List pm_E := [(0, .aload_n 0, 1, 0), (1, .iload_n 1, 2, 0), (2, .invokevirtual 78, 5, 0), (5, .istore 4, 7, 0), (7, .iload 4, 9, 0), (9, .ifCond .lt (18), 12, 27), (12, .iload_n 2, 13, 0), (13, .ifCond .lt (14), 16, 27), (16, .iload_n 2, 17, 0), (17, .aload_n 0, 18, 0), (18, .getfield 22, 21, 0), (21, .iload 4, 23, 0), (23, .iaload, 24, 0), (24, .if_icmp .lt (5), 27, 29), (27, .iconst (0), 28, 0), (28, .ireturn, 29, 0), (29, .aload_n 0, 30, 0), (30, .getfield 25, 33, 0), (33, .bipush (16), 35, 0), (35, .iload 4, 37, 0), (37, .imul, 38, 0), (38, .iload_n 2, 39, 0), (39, .iadd, 40, 0), (40, .iload_n 3, 41, 0), (41, .sipush (255), 44, 0), (44, .iand, 45, 0), (45, .iastore, 46, 0), (46, .iconst (1), 47, 0), (47, .ireturn, 48, 0)]
abbrev pt_m120 : pm_MT := (8, 5, false, (some .boolean), ⟨"SliceDepotModel", "edit", "(III)Z"⟩, prog_10_method_12_code, pt_I120)
def pt_I121 : List pm_E := [(0, .iload_n 1, 1, 0), (1, .invokestatic 67, 4, 0), (4, .ifCond .eq (16), 7, 20), (7, .iload_n 1, 8, 0), (8, .ifCond .eq (12), 11, 20), (11, .aload_n 0, 12, 0), (12, .iconst (0), 13, 0), (13, .iload_n 1, 14, 0), (14, .invokevirtual 71, 17, 0), (17, .ifCond .ge (5), 20, 22), (20, .iconst (-1), 21, 0), (21, .ireturn, 22, 0), (22, .iconst (0), 23, 0), (23, .istore_n 2, 24, 0), (24, .iconst (1), 25, 0), (25, .iconst (5), 26, 0), (26, .iload_n 1, 27, 0), (27, .invokestatic 63, 30, 0), (30, .imul, 31, 0), (31, .ishl, 32, 0), (32, .iconst (1), 33, 0), (33, .isub, 34, 0), (34, .istore_n 3, 35, 0), (35, .iconst (0), 36, 0), (36, .istore 4, 38, 0), (38, .iload 4, 40, 0), (40, .bipush (10), 42, 0), (42, .if_icmp .ge (43), 45, 85), (45, .aload_n 0, 46, 0), (46, .getfield 16, 49, 0), (49, .iload 4, 51, 0), (51, .iaload, 52, 0), (52, .ifCond .eq (27), 55, 79), (55, .aload_n 0, 56, 0), (56, .getfield 16, 59, 0), (59, .iload 4, 61, 0), (61, .iaload, 62, 0), (62, .iload_n 3, 63, 0), (63, .iand, 64, 0), (64, .iload_n 1, 65, 0), (65, .if_icmp .ne (14), 68, 79), (68, .aload_n 0, 69, 0), (69, .getfield 16, 72, 0), (72, .iload 4, 74, 0), (74, .iconst (0), 75, 0), (75, .iastore, 76, 0), (76, .iinc 2 (1), 79, 0), (79, .iinc 4 (1), 82, 0), (82, .goto (-44), 85, 38), (85, .iload_n 2, 86, 0), (86, .ireturn, 87, 0)]
abbrev pt_m121 : pm_MT := (8, 5, false, (some .int), ⟨"SliceDepotModel", "remove", "(I)I"⟩, prog_10_method_13_code, pt_I121)
def pt_I122 : List pm_E := [(0, .iconst (-1), 1, 0), (1, .istore_n 3, 2, 0), (2, .iload_n 1, 3, 0), (3, .istore 4, 5, 0), (5, .iload 4, 7, 0), (7, .iload_n 1, 8, 0), (8, .bipush (10), 10, 0), (10, .iadd, 11, 0), (11, .if_icmp .ge (62), 14, 73), (14, .aload_n 0, 15, 0), (15, .getfield 16, 18, 0), (18, .iload 4, 20, 0), (20, .iaload, 21, 0), (21, .ifCond .eq (46), 24, 67), (24, .aload_n 0, 25, 0), (25, .getfield 16, 28, 0), (28, .iload 4, 30, 0), (30, .iaload, 31, 0), (31, .invokestatic 85, 34, 0), (34, .iload_n 2, 35, 0), (35, .if_icmp .le (32), 38, 67), (38, .iload_n 3, 39, 0), (39, .ifCond .lt (25), 42, 64), (42, .aload_n 0, 43, 0), (43, .getfield 16, 46, 0), (46, .iload 4, 48, 0), (48, .iaload, 49, 0), (49, .invokestatic 85, 52, 0), (52, .aload_n 0, 53, 0), (53, .getfield 16, 56, 0), (56, .iload_n 3, 57, 0), (57, .iaload, 58, 0), (58, .invokestatic 85, 61, 0), (61, .if_icmp .ge (6), 64, 67), (64, .iload 4, 66, 0), (66, .istore_n 3, 67, 0), (67, .iinc 4 (1), 70, 0), (70, .goto (-65), 73, 5), (73, .iload_n 3, 74, 0), (74, .ireturn, 75, 0)]
abbrev pt_m122 : pm_MT := (8, 5, false, (some .int), ⟨"SliceDepotModel", "next", "(II)I"⟩, prog_10_method_14_code, pt_I122)
def pt_I123 : List pm_E := [(0, .iconst (0), 1, 0), (1, .istore_n 3, 2, 0), (2, .iload_n 1, 3, 0), (3, .istore 4, 5, 0), (5, .iload 4, 7, 0), (7, .iload_n 1, 8, 0), (8, .bipush (10), 10, 0), (10, .iadd, 11, 0), (11, .if_icmp .ge (41), 14, 52), (14, .aload_n 0, 15, 0), (15, .getfield 16, 18, 0), (18, .iload 4, 20, 0), (20, .iaload, 21, 0), (21, .ifCond .eq (23), 24, 44), (24, .aload_n 0, 25, 0), (25, .getfield 16, 28, 0), (28, .iload 4, 30, 0), (30, .iaload, 31, 0), (31, .invokestatic 75, 34, 0), (34, .iload_n 2, 35, 0), (35, .if_icmp .ne (9), 38, 44), (38, .iload_n 3, 39, 0), (39, .iconst (1), 40, 0), (40, .iadd, 41, 0), (41, .goto (4), 44, 45), (44, .iload_n 3, 45, 0), (45, .istore_n 3, 46, 0), (46, .iinc 4 (1), 49, 0), (49, .goto (-44), 52, 5), (52, .iload_n 3, 53, 0), (53, .ireturn, 54, 0)]
abbrev pt_m123 : pm_MT := (8, 5, false, (some .int), ⟨"SliceDepotModel", "children", "(II)I"⟩, prog_10_method_15_code, pt_I123)
def pt_I124 : List pm_E := [(0, .aload_n 0, 1, 0), (1, .iconst (0), 2, 0), (2, .putfield 88, 5, 0), (5, .iconst (0), 6, 0), (6, .istore_n 2, 7, 0), (7, .iconst (0), 8, 0), (8, .istore_n 3, 9, 0), (9, .iconst (0), 10, 0), (10, .istore 4, 12, 0), (12, .iload 4, 14, 0), (14, .bipush (10), 16, 0), (16, .if_icmp .gt (148), 19, 164), (19, .aload_n 0, 20, 0), (20, .iload_n 1, 21, 0), (21, .iload_n 3, 22, 0), (22, .invokevirtual 91, 25, 0), (25, .istore 5, 27, 0), (27, .iload 5, 29, 0), (29, .ifCond .ge (7), 32, 36), (32, .iconst (-1), 33, 0), (33, .goto (13), 36, 46), (36, .aload_n 0, 37, 0), (37, .getfield 16, 40, 0), (40, .iload 5, 42, 0), (42, .iaload, 43, 0), (43, .invokestatic 75, 46, 0), (46, .istore 6, 48, 0), (48, .iconst (0), 49, 0), (49, .istore 7, 51, 0), (51, .iload 7, 53, 0), (53, .bipush (8), 55, 0), (55, .if_icmp .ge (63), 58, 118), (58, .iload_n 2, 59, 0), (59, .iload 6, 61, 0), (61, .if_icmp .eq (57), 64, 118), (64, .aload_n 0, 65, 0), (65, .getfield 7, 68, 0), (68, .aload_n 0, 69, 0), (69, .getfield 88, 72, 0), (72, .bipush (9), 74, 0), (74, .iastore, 75, 0), (75, .aload_n 0, 76, 0), (76, .getfield 7, 79, 0), (79, .aload_n 0, 80, 0), (80, .getfield 88, 83, 0), (83, .iconst (1), 84, 0), (84, .iadd, 85, 0), (85, .aload_n 0, 86, 0), (86, .iload_n 1, 87, 0), (87, .iload_n 2, 88, 0), (88, .invokevirtual 94, 91, 0), (91, .iastore, 92, 0), (92, .aload_n 0, 93, 0), (93, .dup, 94, 0), (94, .getfield 88, 97, 0), (97, .iconst (2), 98, 0), (98, .iadd, 99, 0), (99, .putfield 88, 102, 0), (102, .iload_n 2, 103, 0), (103, .ifCond .ne (4), 106, 107), (106, .return_, 107, 0), (107, .iload_n 2, 108, 0), (108, .invokestatic 75, 111, 0), (111, .istore_n 2, 112, 0), (112, .iinc 7 (1), 115, 0), (115, .goto (-64), 118, 51), (118, .aload_n 0, 119, 0), (119, .iload 5, 121, 0), (121, .invokevirtual 97, 124, 0), (124, .aload_n 0, 125, 0), (125, .getfield 19, 128, 0), (128, .iload 5, 130, 0), (130, .iaload, 131, 0), (131, .iconst (2), 132, 0), (132, .if_icmp .ne (13), 135, 145), (135, .aload_n 0, 136, 0), (136, .getfield 16, 139, 0), (139, .iload 5, 141, 0), (141, .iaload, 142, 0), (142, .goto (4), 145, 146), (145, .iload_n 2, 146, 0), (146, .istore_n 2, 147, 0), (147, .aload_n 0, 148, 0), (148, .getfield 16, 151, 0), (151, .iload 5, 153, 0), (153, .iaload, 154, 0), (154, .invokestatic 85, 157, 0), (157, .istore_n 3, 158, 0), (158, .iinc 4 (1), 161, 0), (161, .goto (-149), 164, 12), (164, .return_, 165, 0)]
abbrev pt_m124 : pm_MT := (8, 8, false, none, ⟨"SliceDepotModel", "emit", "(I)V"⟩, prog_10_method_16_code, pt_I124)
def pt_I125 : List pm_E := [(0, .aload_n 0, 1, 0), (1, .getfield 7, 4, 0), (4, .aload_n 0, 5, 0), (5, .getfield 88, 8, 0), (8, .aload_n 0, 9, 0), (9, .getfield 19, 12, 0), (12, .iload_n 1, 13, 0), (13, .iaload, 14, 0), (14, .iastore, 15, 0), (15, .aload_n 0, 16, 0), (16, .getfield 7, 19, 0), (19, .aload_n 0, 20, 0), (20, .getfield 88, 23, 0), (23, .iconst (1), 24, 0), (24, .iadd, 25, 0), (25, .aload_n 0, 26, 0), (26, .getfield 16, 29, 0), (29, .iload_n 1, 30, 0), (30, .iaload, 31, 0), (31, .iconst (5), 32, 0), (32, .aload_n 0, 33, 0), (33, .getfield 16, 36, 0), (36, .iload_n 1, 37, 0), (37, .iaload, 38, 0), (38, .invokestatic 63, 41, 0), (41, .iconst (1), 42, 0), (42, .isub, 43, 0), (43, .imul, 44, 0), (44, .ishr, 45, 0), (45, .iastore, 46, 0), (46, .aload_n 0, 47, 0), (47, .dup, 48, 0), (48, .getfield 88, 51, 0), (51, .iconst (2), 52, 0), (52, .iadd, 53, 0), (53, .putfield 88, 56, 0), (56, .aload_n 0, 57, 0), (57, .getfield 19, 60, 0), (60, .iload_n 1, 61, 0), (61, .iaload, 62, 0), (62, .iconst (1), 63, 0), (63, .if_icmp .ne (77), 66, 140), (66, .aload_n 0, 67, 0), (67, .getfield 7, 70, 0), (70, .aload_n 0, 71, 0), (71, .getfield 88, 74, 0), (74, .aload_n 0, 75, 0), (75, .getfield 22, 78, 0), (78, .iload_n 1, 79, 0), (79, .iaload, 80, 0), (80, .iastore, 81, 0), (81, .iconst (0), 82, 0), (82, .istore_n 2, 83, 0), (83, .iload_n 2, 84, 0), (84, .aload_n 0, 85, 0), (85, .getfield 22, 88, 0), (88, .iload_n 1, 89, 0), (89, .iaload, 90, 0), (90, .if_icmp .ge (33), 93, 123), (93, .aload_n 0, 94, 0), (94, .getfield 7, 97, 0), (97, .aload_n 0, 98, 0), (98, .getfield 88, 101, 0), (101, .iconst (1), 102, 0), (102, .iadd, 103, 0), (103, .iload_n 2, 104, 0), (104, .iadd, 105, 0), (105, .aload_n 0, 106, 0), (106, .getfield 25, 109, 0), (109, .bipush (16), 111, 0), (111, .iload_n 1, 112, 0), (112, .imul, 113, 0), (113, .iload_n 2, 114, 0), (114, .iadd, 115, 0), (115, .iaload, 116, 0), (116, .iastore, 117, 0), (117, .iinc 2 (1), 120, 0), (120, .goto (-37), 123, 83), (123, .aload_n 0, 124, 0), (124, .dup, 125, 0), (125, .getfield 88, 128, 0), (128, .iconst (1), 129, 0), (129, .aload_n 0, 130, 0), (130, .getfield 22, 133, 0), (133, .iload_n 1, 134, 0), (134, .iaload, 135, 0), (135, .iadd, 136, 0), (136, .iadd, 137, 0), (137, .putfield 88, 140, 0), (140, .return_, 141, 0)]
abbrev pt_m125 : pm_MT := (8, 3, false, none, ⟨"SliceDepotModel", "begin", "(I)V"⟩, prog_10_method_17_code, pt_I125)
def pt_I126 : List pm_E := [(0, .aload_n 0, 1, 0), (1, .getfield 7, 4, 0), (4, .iload_n 1, 5, 0), (5, .iaload, 6, 0), (6, .iconst (1), 7, 0), (7, .iadd, 8, 0), (8, .ldc 101, 10, 0), (10, .imul, 11, 0), (11, .ireturn, 12, 0)]
abbrev pt_m126 : pm_MT := (8, 2, false, (some .int), ⟨"SliceDepotModel", "term", "(I)I"⟩, prog_10_method_18_code, pt_I126)
def pt_I127 : List pm_E := [(0, .iload_n 0, 1, 0), (1, .iload_n 1, 2, 0), (2, .ishl, 3, 0), (3, .iload_n 0, 4, 0), (4, .bipush (32), 6, 0), (6, .iload_n 1, 7, 0), (7, .isub, 8, 0), (8, .iushr, 9, 0), (9, .ior, 10, 0), (10, .ireturn, 11, 0)]
abbrev pt_m127 : pm_MT := (8, 2, false, (some .int), ⟨"SliceDepotModel", "turned", "(II)I"⟩, prog_10_method_19_code, pt_I127)
def pt_I128 : List pm_E := [(0, .aload_n 0, 1, 0), (1, .iload_n 1, 2, 0), (2, .iconst (3), 3, 0), (3, .isub, 4, 0), (4, .invokevirtual 102, 7, 0), (7, .iconst (3), 8, 0), (8, .invokestatic 105, 11, 0), (11, .aload_n 0, 12, 0), (12, .iload_n 1, 13, 0), (13, .iconst (2), 14, 0), (14, .isub, 15, 0), (15, .invokevirtual 102, 18, 0), (18, .iconst (2), 19, 0), (19, .invokestatic 105, 22, 0), (22, .ixor, 23, 0), (23, .aload_n 0, 24, 0), (24, .iload_n 1, 25, 0), (25, .iconst (1), 26, 0), (26, .isub, 27, 0), (27, .invokevirtual 102, 30, 0), (30, .iconst (1), 31, 0), (31, .invokestatic 105, 34, 0), (34, .ixor, 35, 0), (35, .aload_n 0, 36, 0), (36, .iload_n 1, 37, 0), (37, .invokevirtual 102, 40, 0), (40, .ixor, 41, 0), (41, .iconst (1), 42, 0), (42, .iushr, 43, 0), (43, .ireturn, 44, 0)]
abbrev pt_m128 : pm_MT := (8, 2, false, (some .int), ⟨"SliceDepotModel", "mark", "(I)I"⟩, prog_10_method_20_code, pt_I128)
def pt_I129 : List pm_E := [(0, .bipush (17), 2, 0), (2, .istore_n 3, 3, 0), (3, .iconst (0), 4, 0), (4, .istore 4, 6, 0), (6, .iload 4, 8, 0), (8, .iload_n 2, 9, 0), (9, .if_icmp .ge (24), 12, 33), (12, .iload_n 3, 13, 0), (13, .aload_n 0, 14, 0), (14, .getfield 7, 17, 0), (17, .iload_n 1, 18, 0), (18, .iload 4, 20, 0), (20, .iadd, 21, 0), (21, .iaload, 22, 0), (22, .ixor, 23, 0), (23, .ldc 108, 25, 0), (25, .imul, 26, 0), (26, .istore_n 3, 27, 0), (27, .iinc 4 (1), 30, 0), (30, .goto (-24), 33, 6), (33, .iload_n 3, 34, 0), (34, .iload_n 3, 35, 0), (35, .bipush (16), 37, 0), (37, .iushr, 38, 0), (38, .ixor, 39, 0), (39, .ireturn, 40, 0)]
abbrev pt_m129 : pm_MT := (8, 5, false, (some .int), ⟨"SliceDepotModel", "digest", "(II)I"⟩, prog_10_method_21_code, pt_I129)
def pt_I130 : List pm_E := [(0, .iconst (0), 1, 0), (1, .istore 4, 3, 0), (3, .iconst (0), 4, 0), (4, .istore 5, 6, 0), (6, .iconst (0), 7, 0), (7, .istore 6, 9, 0), (9, .iload 6, 11, 0), (11, .iload_n 2, 12, 0), (12, .if_icmp .ge (119), 15, 131), (15, .iload 6, 17, 0), (17, .iconst (1), 18, 0), (18, .iadd, 19, 0), (19, .iload 5, 21, 0), (21, .isub, 22, 0), (22, .istore 7, 24, 0), (24, .iload 6, 26, 0), (26, .iconst (1), 27, 0), (27, .iadd, 28, 0), (28, .iload_n 2, 29, 0), (29, .if_icmp .eq (43), 32, 72), (32, .iload 7, 34, 0), (34, .aload_n 0, 35, 0), (35, .getfield 60, 38, 0), (38, .if_icmp .eq (34), 41, 72), (41, .iload 7, 43, 0), (43, .aload_n 0, 44, 0), (44, .getfield 53, 47, 0), (47, .if_icmp .lt (78), 50, 125), (50, .aload_n 0, 51, 0), (51, .iload_n 1, 52, 0), (52, .iload 6, 54, 0), (54, .iadd, 55, 0), (55, .invokevirtual 109, 58, 0), (58, .aload_n 0, 59, 0), (59, .getfield 57, 62, 0), (62, .irem, 63, 0), (63, .aload_n 0, 64, 0), (64, .getfield 57, 67, 0), (67, .iconst (1), 68, 0), (68, .isub, 69, 0), (69, .if_icmp .ne (56), 72, 125), (72, .bipush (16), 74, 0), (74, .iload_n 3, 75, 0), (75, .imul, 76, 0), (76, .iload 4, 78, 0), (78, .iadd, 79, 0), (79, .istore 8, 81, 0), (81, .aload_n 0, 82, 0), (82, .getfield 31, 85, 0), (85, .iload 8, 87, 0), (87, .iload 5, 89, 0), (89, .iastore, 90, 0), (90, .aload_n 0, 91, 0), (91, .getfield 34, 94, 0), (94, .iload 8, 96, 0), (96, .iload 7, 98, 0), (98, .iastore, 99, 0), (99, .aload_n 0, 100, 0), (100, .getfield 37, 103, 0), (103, .iload 8, 105, 0), (105, .aload_n 0, 106, 0), (106, .iload_n 1, 107, 0), (107, .iload 5, 109, 0), (109, .iadd, 110, 0), (110, .iload 7, 112, 0), (112, .invokevirtual 112, 115, 0), (115, .iastore, 116, 0), (116, .iinc 4 (1), 119, 0), (119, .iload 6, 121, 0), (121, .iconst (1), 122, 0), (122, .iadd, 123, 0), (123, .istore 5, 125, 0), (125, .iinc 6 (1), 128, 0), (128, .goto (-119), 131, 9), (131, .aload_n 0, 132, 0), (132, .getfield 28, 135, 0), (135, .iload_n 3, 136, 0), (136, .iload 4, 138, 0), (138, .iastore, 139, 0), (139, .return_, 140, 0)]
abbrev pt_m130 : pm_MT := (8, 9, false, none, ⟨"SliceDepotModel", "cut", "(III)V"⟩, prog_10_method_22_code, pt_I130)
def pt_I131 : List pm_E := [(0, .iload_n 1, 1, 0), (1, .ifCond .ne (10), 4, 11), (4, .aload_n 0, 5, 0), (5, .getfield 115, 8, 0), (8, .goto (7), 11, 15), (11, .aload_n 0, 12, 0), (12, .getfield 118, 15, 0), (15, .istore_n 3, 16, 0), (16, .bipush (40), 18, 0), (18, .iload_n 1, 19, 0), (19, .imul, 20, 0), (20, .istore 4, 22, 0), (22, .iload 4, 24, 0), (24, .bipush (40), 26, 0), (26, .iload_n 1, 27, 0), (27, .imul, 28, 0), (28, .iload_n 3, 29, 0), (29, .iadd, 30, 0), (30, .if_icmp .ge (23), 33, 53), (33, .aload_n 0, 34, 0), (34, .getfield 47, 37, 0), (37, .iload 4, 39, 0), (39, .iaload, 40, 0), (40, .iload_n 2, 41, 0), (41, .if_icmp .ne (6), 44, 47), (44, .iload 4, 46, 0), (46, .ireturn, 47, 0), (47, .iinc 4 (1), 50, 0), (50, .goto (-28), 53, 22), (53, .iconst (-1), 54, 0), (54, .ireturn, 55, 0)]
abbrev pt_m131 : pm_MT := (8, 5, false, (some .int), ⟨"SliceDepotModel", "find", "(II)I"⟩, prog_10_method_23_code, pt_I131)
def pt_I132 : List pm_E := [(0, .iload_n 1, 1, 0), (1, .ifCond .lt (34), 4, 35), (4, .aload_n 0, 5, 0), (5, .getfield 50, 8, 0), (8, .iload_n 1, 9, 0), (9, .iaload, 10, 0), (10, .iload_n 3, 11, 0), (11, .if_icmp .ne (24), 14, 35), (14, .aload_n 0, 15, 0), (15, .sipush (480), 18, 0), (18, .bipush (32), 20, 0), (20, .iload_n 1, 21, 0), (21, .imul, 22, 0), (22, .iadd, 23, 0), (23, .iload_n 3, 24, 0), (24, .invokevirtual 112, 27, 0), (27, .iload_n 2, 28, 0), (28, .if_icmp .ne (7), 31, 35), (31, .iconst (1), 32, 0), (32, .goto (4), 35, 36), (35, .iconst (0), 36, 0), (36, .ireturn, 37, 0)]
abbrev pt_m132 : pm_MT := (8, 4, false, (some .boolean), ⟨"SliceDepotModel", "good", "(III)Z"⟩, prog_10_method_24_code, pt_I132)
def pt_I133 : List pm_E := [(0, .aload_n 0, 1, 0), (1, .getfield 47, 4, 0), (4, .iload_n 1, 5, 0), (5, .iload_n 2, 6, 0), (6, .iastore, 7, 0), (7, .aload_n 0, 8, 0), (8, .getfield 50, 11, 0), (11, .iload_n 1, 12, 0), (12, .iload 4, 14, 0), (14, .iastore, 15, 0), (15, .iconst (0), 16, 0), (16, .istore 5, 18, 0), (18, .iload 5, 20, 0), (20, .iload 4, 22, 0), (22, .if_icmp .ge (34), 25, 56), (25, .aload_n 0, 26, 0), (26, .getfield 7, 29, 0), (29, .sipush (480), 32, 0), (32, .bipush (32), 34, 0), (34, .iload_n 1, 35, 0), (35, .imul, 36, 0), (36, .iadd, 37, 0), (37, .iload 5, 39, 0), (39, .iadd, 40, 0), (40, .aload_n 0, 41, 0), (41, .getfield 7, 44, 0), (44, .iload_n 3, 45, 0), (45, .iload 5, 47, 0), (47, .iadd, 48, 0), (48, .iaload, 49, 0), (49, .iastore, 50, 0), (50, .iinc 5 (1), 53, 0), (53, .goto (-35), 56, 18), (56, .return_, 57, 0)]
abbrev pt_m133 : pm_MT := (8, 6, false, none, ⟨"SliceDepotModel", "keep", "(IIII)V"⟩, prog_10_method_25_code, pt_I133)
def pt_I134 : List pm_E := [(0, .iload_n 1, 1, 0), (1, .bipush (40), 3, 0), (3, .if_icmp .ge (10), 6, 13), (6, .aload_n 0, 7, 0), (7, .getfield 115, 10, 0), (10, .goto (10), 13, 20), (13, .bipush (40), 15, 0), (15, .aload_n 0, 16, 0), (16, .getfield 118, 19, 0), (19, .iadd, 20, 0), (20, .istore_n 2, 21, 0), (21, .iload_n 1, 22, 0), (22, .istore_n 3, 23, 0), (23, .iload_n 3, 24, 0), (24, .iconst (1), 25, 0), (25, .iadd, 26, 0), (26, .iload_n 2, 27, 0), (27, .if_icmp .ge (40), 30, 67), (30, .aload_n 0, 31, 0), (31, .iload_n 3, 32, 0), (32, .aload_n 0, 33, 0), (33, .getfield 47, 36, 0), (36, .iload_n 3, 37, 0), (37, .iconst (1), 38, 0), (38, .iadd, 39, 0), (39, .iaload, 40, 0), (40, .sipush (480), 43, 0), (43, .bipush (32), 45, 0), (45, .iload_n 3, 46, 0), (46, .iconst (1), 47, 0), (47, .iadd, 48, 0), (48, .imul, 49, 0), (49, .iadd, 50, 0), (50, .aload_n 0, 51, 0), (51, .getfield 50, 54, 0), (54, .iload_n 3, 55, 0), (55, .iconst (1), 56, 0), (56, .iadd, 57, 0), (57, .iaload, 58, 0), (58, .invokevirtual 121, 61, 0), (61, .iinc 3 (1), 64, 0), (64, .goto (-41), 67, 23), (67, .iload_n 1, 68, 0), (68, .bipush (40), 70, 0), (70, .if_icmp .ge (16), 73, 86), (73, .aload_n 0, 74, 0), (74, .dup, 75, 0), (75, .getfield 115, 78, 0), (78, .iconst (1), 79, 0), (79, .isub, 80, 0), (80, .putfield 115, 83, 0), (83, .goto (13), 86, 96), (86, .aload_n 0, 87, 0), (87, .dup, 88, 0), (88, .getfield 118, 91, 0), (91, .iconst (1), 92, 0), (92, .isub, 93, 0), (93, .putfield 118, 96, 0), (96, .return_, 97, 0)]
abbrev pt_m134 : pm_MT := (8, 4, false, none, ⟨"SliceDepotModel", "drop", "(I)V"⟩, prog_10_method_26_code, pt_I134)
def pt_I135 : List pm_E := [(0, .aload_n 0, 1, 0), (1, .iconst (1), 2, 0), (2, .iload_n 1, 3, 0), (3, .invokevirtual 125, 6, 0), (6, .istore 4, 8, 0), (8, .iload 4, 10, 0), (10, .ifCond .ge (37), 13, 47), (13, .aload_n 0, 14, 0), (14, .getfield 118, 17, 0), (17, .bipush (6), 19, 0), (19, .if_icmp .ne (9), 22, 28), (22, .aload_n 0, 23, 0), (23, .bipush (40), 25, 0), (25, .invokevirtual 128, 28, 0), (28, .bipush (40), 30, 0), (30, .aload_n 0, 31, 0), (31, .getfield 118, 34, 0), (34, .iadd, 35, 0), (35, .istore 4, 37, 0), (37, .aload_n 0, 38, 0), (38, .dup, 39, 0), (39, .getfield 118, 42, 0), (42, .iconst (1), 43, 0), (43, .iadd, 44, 0), (44, .putfield 118, 47, 0), (47, .aload_n 0, 48, 0), (48, .iload 4, 50, 0), (50, .iload_n 1, 51, 0), (51, .iload_n 2, 52, 0), (52, .iload_n 3, 53, 0), (53, .invokevirtual 121, 56, 0), (56, .return_, 57, 0)]
abbrev pt_m135 : pm_MT := (8, 5, false, none, ⟨"SliceDepotModel", "enter", "(III)V"⟩, prog_10_method_27_code, pt_I135)
def pt_I136 : List pm_E := [(0, .iload_n 1, 1, 0), (1, .ifCond .lt (21), 4, 22), (4, .iload_n 1, 5, 0), (5, .iconst (4), 6, 0), (6, .if_icmp .ge (16), 9, 22), (9, .aload_n 0, 10, 0), (10, .getfield 40, 13, 0), (13, .iload_n 1, 14, 0), (14, .baload, 15, 0), (15, .ifCond .eq (7), 18, 22), (18, .iconst (1), 19, 0), (19, .goto (4), 22, 23), (22, .iconst (0), 23, 0), (23, .ireturn, 24, 0)]
abbrev pt_m136 : pm_MT := (8, 2, false, (some .boolean), ⟨"SliceDepotModel", "there", "(I)Z"⟩, prog_10_method_28_code, pt_I136)
def pt_I137 : List pm_E := [(0, .iconst (0), 1, 0), (1, .istore_n 1, 2, 0), (2, .iload_n 1, 3, 0), (3, .iconst (4), 4, 0), (4, .if_icmp .ge (18), 7, 22), (7, .aload_n 0, 8, 0), (8, .getfield 40, 11, 0), (11, .iload_n 1, 12, 0), (12, .baload, 13, 0), (13, .ifCond .eq (9), 16, 22), (16, .iinc 1 (1), 19, 0), (19, .goto (-17), 22, 2), (22, .iload_n 1, 23, 0), (23, .iconst (4), 24, 0), (24, .if_icmp .ne (5), 27, 29), (27, .iconst (-1), 28, 0), (28, .ireturn, 29, 0), (29, .aload_n 0, 30, 0), (30, .iconst (0), 31, 0), (31, .invokevirtual 131, 34, 0), (34, .aload_n 0, 35, 0), (35, .iconst (0), 36, 0), (36, .aload_n 0, 37, 0), (37, .getfield 88, 40, 0), (40, .iconst (0), 41, 0), (41, .invokevirtual 134, 44, 0), (44, .iconst (0), 45, 0), (45, .istore_n 2, 46, 0), (46, .iconst (0), 47, 0), (47, .istore_n 3, 48, 0), (48, .iload_n 3, 49, 0), (49, .aload_n 0, 50, 0), (50, .getfield 28, 53, 0), (53, .iconst (0), 54, 0), (54, .iaload, 55, 0), (55, .if_icmp .ge (86), 58, 141), (58, .aload_n 0, 59, 0), (59, .iconst (0), 60, 0), (60, .aload_n 0, 61, 0), (61, .getfield 37, 64, 0), (64, .iload_n 3, 65, 0), (65, .iaload, 66, 0), (66, .invokevirtual 125, 69, 0), (69, .ifCond .lt (7), 72, 76), (72, .iconst (1), 73, 0), (73, .goto (4), 76, 77), (76, .iconst (0), 77, 0), (77, .istore 4, 79, 0), (79, .iconst (0), 80, 0), (80, .istore 5, 82, 0), (82, .iload 5, 84, 0), (84, .iload_n 3, 85, 0), (85, .if_icmp .ge (37), 88, 122), (88, .iload 4, 90, 0), (90, .ifCond .ne (19), 93, 109), (93, .aload_n 0, 94, 0), (94, .getfield 37, 97, 0), (97, .iload 5, 99, 0), (99, .iaload, 100, 0), (100, .aload_n 0, 101, 0), (101, .getfield 37, 104, 0), (104, .iload_n 3, 105, 0), (105, .iaload, 106, 0), (106, .if_icmp .ne (7), 109, 113), (109, .iconst (1), 110, 0), (110, .goto (4), 113, 114), (113, .iconst (0), 114, 0), (114, .istore 4, 116, 0), (116, .iinc 5 (1), 119, 0), (119, .goto (-37), 122, 82), (122, .iload 4, 124, 0), (124, .ifCond .eq (7), 127, 131), (127, .iload_n 2, 128, 0), (128, .goto (6), 131, 134), (131, .iload_n 2, 132, 0), (132, .iconst (1), 133, 0), (133, .iadd, 134, 0), (134, .istore_n 2, 135, 0), (135, .iinc 3 (1), 138, 0), (138, .goto (-90), 141, 48), (141, .aload_n 0, 142, 0), (142, .getfield 115, 145, 0), (145, .iload_n 2, 146, 0), (146, .iadd, 147, 0), (147, .bipush (40), 149, 0), (149, .if_icmp .le (6), 152, 155), (152, .bipush (-2), 154, 0), (154, .ireturn, 155, 0), (155, .aload_n 0, 156, 0), (156, .getfield 40, 159, 0), (159, .iload_n 1, 160, 0), (160, .iconst (1), 161, 0), (161, .bastore, 162, 0), (162, .aload_n 0, 163, 0), (163, .getfield 28, 166, 0), (166, .iconst (1), 167, 0), (167, .iload_n 1, 168, 0), (168, .iadd, 169, 0), (169, .aload_n 0, 170, 0), (170, .getfield 28, 173, 0), (173, .iconst (0), 174, 0), (174, .iaload, 175, 0), (175, .iastore, 176, 0), (176, .iconst (0), 177, 0), (177, .istore_n 3, 178, 0), (178, .iload_n 3, 179, 0), (179, .aload_n 0, 180, 0), (180, .getfield 28, 183, 0), (183, .iconst (0), 184, 0), (184, .iaload, 185, 0), (185, .if_icmp .ge (108), 188, 293), (188, .bipush (16), 190, 0), (190, .iconst (1), 191, 0), (191, .iload_n 1, 192, 0), (192, .iadd, 193, 0), (193, .imul, 194, 0), (194, .iload_n 3, 195, 0), (195, .iadd, 196, 0), (196, .istore 4, 198, 0), (198, .aload_n 0, 199, 0), (199, .getfield 31, 202, 0), (202, .iload 4, 204, 0), (204, .aload_n 0, 205, 0), (205, .getfield 31, 208, 0), (208, .iload_n 3, 209, 0), (209, .iaload, 210, 0), (210, .iastore, 211, 0), (211, .aload_n 0, 212, 0), (212, .getfield 34, 215, 0), (215, .iload 4, 217, 0), (217, .aload_n 0, 218, 0), (218, .getfield 34, 221, 0), (221, .iload_n 3, 222, 0), (222, .iaload, 223, 0), (223, .iastore, 224, 0), (224, .aload_n 0, 225, 0), (225, .getfield 37, 228, 0), (228, .iload 4, 230, 0), (230, .aload_n 0, 231, 0), (231, .getfield 37, 234, 0), (234, .iload_n 3, 235, 0), (235, .iaload, 236, 0), (236, .iastore, 237, 0), (237, .aload_n 0, 238, 0), (238, .iconst (0), 239, 0), (239, .aload_n 0, 240, 0), (240, .getfield 37, 243, 0), (243, .iload_n 3, 244, 0), (244, .iaload, 245, 0), (245, .invokevirtual 125, 248, 0), (248, .ifCond .ge (39), 251, 287), (251, .aload_n 0, 252, 0), (252, .aload_n 0, 253, 0), (253, .getfield 115, 256, 0), (256, .aload_n 0, 257, 0), (257, .getfield 37, 260, 0), (260, .iload_n 3, 261, 0), (261, .iaload, 262, 0), (262, .aload_n 0, 263, 0), (263, .getfield 31, 266, 0), (266, .iload_n 3, 267, 0), (267, .iaload, 268, 0), (268, .aload_n 0, 269, 0), (269, .getfield 34, 272, 0), (272, .iload_n 3, 273, 0), (273, .iaload, 274, 0), (274, .invokevirtual 121, 277, 0), (277, .aload_n 0, 278, 0), (278, .dup, 279, 0), (279, .getfield 115, 282, 0), (282, .iconst (1), 283, 0), (283, .iadd, 284, 0), (284, .putfield 115, 287, 0), (287, .iinc 3 (1), 290, 0), (290, .goto (-112), 293, 178), (293, .iload_n 1, 294, 0), (294, .ireturn, 295, 0)]
abbrev pt_m137 : pm_MT := (8, 6, false, (some .int), ⟨"SliceDepotModel", "make", "()I"⟩, prog_10_method_29_code, pt_I137)
def pt_I138 : List pm_E := [(0, .aload_n 0, 1, 0), (1, .iload_n 1, 2, 0), (2, .invokevirtual 138, 5, 0), (5, .ifCond .ne (5), 8, 10), (8, .iconst (0), 9, 0), (9, .ireturn, 10, 0), (10, .aload_n 0, 11, 0), (11, .getfield 40, 14, 0), (14, .iload_n 1, 15, 0), (15, .iconst (0), 16, 0), (16, .bastore, 17, 0), (17, .iconst (1), 18, 0), (18, .ireturn, 19, 0)]
abbrev pt_m138 : pm_MT := (8, 2, false, (some .boolean), ⟨"SliceDepotModel", "discard", "(I)Z"⟩, prog_10_method_30_code, pt_I138)
def pt_I139 : List pm_E := [(0, .iconst (0), 1, 0), (1, .istore_n 2, 2, 0), (2, .iconst (0), 3, 0), (3, .istore_n 3, 4, 0), (4, .iload_n 3, 5, 0), (5, .iconst (4), 6, 0), (6, .if_icmp .ge (68), 9, 74), (9, .iconst (0), 10, 0), (10, .istore 4, 12, 0), (12, .iload 4, 14, 0), (14, .aload_n 0, 15, 0), (15, .getfield 28, 18, 0), (18, .iconst (1), 19, 0), (19, .iload_n 3, 20, 0), (20, .iadd, 21, 0), (21, .iaload, 22, 0), (22, .if_icmp .ge (46), 25, 68), (25, .iload_n 2, 26, 0), (26, .ifCond .ne (30), 29, 56), (29, .aload_n 0, 30, 0), (30, .getfield 40, 33, 0), (33, .iload_n 3, 34, 0), (34, .baload, 35, 0), (35, .ifCond .eq (25), 38, 60), (38, .aload_n 0, 39, 0), (39, .getfield 37, 42, 0), (42, .bipush (16), 44, 0), (44, .iconst (1), 45, 0), (45, .iload_n 3, 46, 0), (46, .iadd, 47, 0), (47, .imul, 48, 0), (48, .iload 4, 50, 0), (50, .iadd, 51, 0), (51, .iaload, 52, 0), (52, .iload_n 1, 53, 0), (53, .if_icmp .ne (7), 56, 60), (56, .iconst (1), 57, 0), (57, .goto (4), 60, 61), (60, .iconst (0), 61, 0), (61, .istore_n 2, 62, 0), (62, .iinc 4 (1), 65, 0), (65, .goto (-53), 68, 12), (68, .iinc 3 (1), 71, 0), (71, .goto (-67), 74, 4), (74, .iload_n 2, 75, 0), (75, .ireturn, 76, 0)]
abbrev pt_m139 : pm_MT := (8, 5, false, (some .boolean), ⟨"SliceDepotModel", "inImages", "(I)Z"⟩, prog_10_method_31_code, pt_I139)
def pt_I140 : List pm_E := [(0, .iconst (0), 1, 0), (1, .istore_n 1, 2, 0), (2, .aload_n 0, 3, 0), (3, .getfield 115, 6, 0), (6, .iconst (1), 7, 0), (7, .isub, 8, 0), (8, .istore_n 2, 9, 0), (9, .iload_n 2, 10, 0), (10, .ifCond .lt (30), 13, 40), (13, .aload_n 0, 14, 0), (14, .aload_n 0, 15, 0), (15, .getfield 47, 18, 0), (18, .iload_n 2, 19, 0), (19, .iaload, 20, 0), (20, .invokevirtual 141, 23, 0), (23, .ifCond .ne (11), 26, 34), (26, .aload_n 0, 27, 0), (27, .iload_n 2, 28, 0), (28, .invokevirtual 128, 31, 0), (31, .iinc 1 (1), 34, 0), (34, .iinc 2 (-1), 37, 0), (37, .goto (-28), 40, 9), (40, .iload_n 1, 41, 0), (41, .ireturn, 42, 0)]
abbrev pt_m140 : pm_MT := (8, 3, false, (some .int), ⟨"SliceDepotModel", "collect", "()I"⟩, prog_10_method_32_code, pt_I140)
def pt_I141 : List pm_E := [(0, .aload_n 0, 1, 0), (1, .iload_n 1, 2, 0), (2, .invokevirtual 138, 5, 0), (5, .ifCond .ne (5), 8, 10), (8, .iconst (0), 9, 0), (9, .ireturn, 10, 0), (10, .aload_n 0, 11, 0), (11, .getfield 28, 14, 0), (14, .iconst (1), 15, 0), (15, .iload_n 1, 16, 0), (16, .iadd, 17, 0), (17, .iaload, 18, 0), (18, .istore_n 2, 19, 0), (19, .iconst (0), 20, 0), (20, .istore_n 3, 21, 0), (21, .iload_n 3, 22, 0), (22, .iload_n 2, 23, 0), (23, .if_icmp .ge (28), 26, 51), (26, .aload_n 0, 27, 0), (27, .getfield 44, 30, 0), (30, .iload_n 3, 31, 0), (31, .aload_n 0, 32, 0), (32, .getfield 37, 35, 0), (35, .bipush (16), 37, 0), (37, .iconst (1), 38, 0), (38, .iload_n 1, 39, 0), (39, .iadd, 40, 0), (40, .imul, 41, 0), (41, .iload_n 3, 42, 0), (42, .iadd, 43, 0), (43, .iaload, 44, 0), (44, .iastore, 45, 0), (45, .iinc 3 (1), 48, 0), (48, .goto (-27), 51, 21), (51, .iload_n 2, 52, 0), (52, .iconst (1), 53, 0), (53, .if_icmp .le (88), 56, 141), (56, .iconst (0), 57, 0), (57, .istore_n 3, 58, 0), (58, .iload_n 3, 59, 0), (59, .iload_n 2, 60, 0), (60, .if_icmp .ge (72), 63, 132), (63, .aload_n 0, 64, 0), (64, .getfield 44, 67, 0), (67, .iload_n 3, 68, 0), (68, .iaload, 69, 0), (69, .istore 4, 71, 0), (71, .iload_n 3, 72, 0), (72, .iconst (1), 73, 0), (73, .iadd, 74, 0), (74, .iload_n 2, 75, 0), (75, .if_icmp .ge (14), 78, 89), (78, .aload_n 0, 79, 0), (79, .getfield 44, 82, 0), (82, .iload_n 3, 83, 0), (83, .iconst (1), 84, 0), (84, .iadd, 85, 0), (85, .iaload, 86, 0), (86, .goto (4), 89, 90), (89, .iconst (0), 90, 0), (90, .istore 5, 92, 0), (92, .aload_n 0, 93, 0), (93, .getfield 44, 96, 0), (96, .iload_n 3, 97, 0), (97, .iconst (2), 98, 0), (98, .idiv, 99, 0), (99, .iload_n 3, 100, 0), (100, .iconst (1), 101, 0), (101, .iadd, 102, 0), (102, .iload_n 2, 103, 0), (103, .if_icmp .ge (20), 106, 123), (106, .iload 4, 108, 0), (108, .bipush (31), 110, 0), (110, .imul, 111, 0), (111, .iload 5, 113, 0), (113, .iadd, 114, 0), (114, .iload 5, 116, 0), (116, .bipush (7), 118, 0), (118, .iushr, 119, 0), (119, .ixor, 120, 0), (120, .goto (5), 123, 125), (123, .iload 4, 125, 0), (125, .iastore, 126, 0), (126, .iinc 3 (2), 129, 0), (129, .goto (-71), 132, 58), (132, .iload_n 2, 133, 0), (133, .iconst (1), 134, 0), (134, .iadd, 135, 0), (135, .iconst (2), 136, 0), (136, .idiv, 137, 0), (137, .istore_n 2, 138, 0), (138, .goto (-87), 141, 51), (141, .aload_n 0, 142, 0), (142, .getfield 44, 145, 0), (145, .iconst (0), 146, 0), (146, .iaload, 147, 0), (147, .ireturn, 148, 0)]
abbrev pt_m141 : pm_MT := (8, 6, false, (some .int), ⟨"SliceDepotModel", "root", "(I)I"⟩, prog_10_method_33_code, pt_I141)
def pt_I142 : List pm_E := [(0, .aload_n 0, 1, 0), (1, .iload_n 1, 2, 0), (2, .invokevirtual 138, 5, 0), (5, .ifCond .eq (23), 8, 28), (8, .iload_n 2, 9, 0), (9, .ifCond .lt (19), 12, 28), (12, .iload_n 2, 13, 0), (13, .aload_n 0, 14, 0), (14, .getfield 28, 17, 0), (17, .iconst (1), 18, 0), (18, .iload_n 1, 19, 0), (19, .iadd, 20, 0), (20, .iaload, 21, 0), (21, .if_icmp .ge (7), 24, 28), (24, .iconst (1), 25, 0), (25, .goto (4), 28, 29), (28, .iconst (0), 29, 0), (29, .ireturn, 30, 0)]
abbrev pt_m142 : pm_MT := (8, 3, false, (some .boolean), ⟨"SliceDepotModel", "has", "(II)Z"⟩, prog_10_method_34_code, pt_I142)
def pt_I143 : List pm_E := [(0, .aload_n 0, 1, 0), (1, .iload_n 1, 2, 0), (2, .iload_n 2, 3, 0), (3, .invokevirtual 144, 6, 0), (6, .ifCond .ne (7), 9, 13), (9, .ldc2_w 148, 12, 0), (12, .lreturn, 13, 0), (13, .bipush (16), 15, 0), (15, .iconst (1), 16, 0), (16, .iload_n 1, 17, 0), (17, .iadd, 18, 0), (18, .imul, 19, 0), (19, .iload_n 2, 20, 0), (20, .iadd, 21, 0), (21, .istore_n 3, 22, 0), (22, .aload_n 0, 23, 0), (23, .getfield 31, 26, 0), (26, .iload_n 3, 27, 0), (27, .iaload, 28, 0), (28, .aload_n 0, 29, 0), (29, .getfield 34, 32, 0), (32, .iload_n 3, 33, 0), (33, .iaload, 34, 0), (34, .iadd, 35, 0), (35, .i2l, 36, 0), (36, .ldc2_w 150, 39, 0), (39, .lmul, 40, 0), (40, .aload_n 0, 41, 0), (41, .getfield 37, 44, 0), (44, .iload_n 3, 45, 0), (45, .iaload, 46, 0), (46, .i2l, 47, 0), (47, .ldc2_w 152, 50, 0), (50, .land, 51, 0), (51, .ladd, 52, 0), (52, .lreturn, 53, 0)]
abbrev pt_m143 : pm_MT := (8, 4, false, (some .long), ⟨"SliceDepotModel", "piece", "(II)J"⟩, prog_10_method_35_code, pt_I143)
def pt_I144 : List pm_E := [(0, .iload_n 1, 1, 0), (1, .ifCond .eq (8), 4, 9), (4, .iload_n 1, 5, 0), (5, .iconst (1), 6, 0), (6, .if_icmp .ne (12), 9, 18), (9, .aload_n 0, 10, 0), (10, .iload_n 2, 11, 0), (11, .iload_n 3, 12, 0), (12, .invokevirtual 144, 15, 0), (15, .ifCond .ne (5), 18, 20), (18, .iconst (0), 19, 0), (19, .ireturn, 20, 0), (20, .aload_n 0, 21, 0), (21, .iload_n 1, 22, 0), (22, .aload_n 0, 23, 0), (23, .getfield 37, 26, 0), (26, .bipush (16), 28, 0), (28, .iconst (1), 29, 0), (29, .iload_n 2, 30, 0), (30, .iadd, 31, 0), (31, .imul, 32, 0), (32, .iload_n 3, 33, 0), (33, .iadd, 34, 0), (34, .iaload, 35, 0), (35, .invokevirtual 125, 38, 0), (38, .istore 6, 40, 0), (40, .iload 6, 42, 0), (42, .ifCond .ge (5), 45, 47), (45, .iconst (0), 46, 0), (46, .ireturn, 47, 0), (47, .iload 4, 49, 0), (49, .iconst (-1), 50, 0), (50, .if_icmp .ne (11), 53, 61), (53, .aload_n 0, 54, 0), (54, .iload 6, 56, 0), (56, .invokevirtual 128, 59, 0), (59, .iconst (1), 60, 0), (60, .ireturn, 61, 0), (61, .iload 4, 63, 0), (63, .ifCond .lt (28), 66, 91), (66, .iload 4, 68, 0), (68, .aload_n 0, 69, 0), (69, .getfield 50, 72, 0), (72, .iload 6, 74, 0), (74, .iaload, 75, 0), (75, .if_icmp .ge (16), 78, 91), (78, .iload 5, 80, 0), (80, .ifCond .lt (11), 83, 91), (83, .iload 5, 85, 0), (85, .sipush (255), 88, 0), (88, .if_icmp .le (5), 91, 93), (91, .iconst (0), 92, 0), (92, .ireturn, 93, 0), (93, .aload_n 0, 94, 0), (94, .getfield 7, 97, 0), (97, .sipush (480), 100, 0), (100, .bipush (32), 102, 0), (102, .iload 6, 104, 0), (104, .imul, 105, 0), (105, .iadd, 106, 0), (106, .iload 4, 108, 0), (108, .iadd, 109, 0), (109, .iload 5, 111, 0), (111, .iastore, 112, 0), (112, .iconst (1), 113, 0), (113, .ireturn, 114, 0)]
abbrev pt_m144 : pm_MT := (8, 7, false, (some .boolean), ⟨"SliceDepotModel", "damage", "(IIIII)Z"⟩, prog_10_method_36_code, pt_I144)
def pt_I145 : List pm_E := [(0, .iload_n 1, 1, 0), (1, .ifCond .eq (10), 4, 11), (4, .iload_n 1, 5, 0), (5, .iconst (1), 6, 0), (6, .if_icmp .eq (5), 9, 11), (9, .iconst (0), 10, 0), (10, .ireturn, 11, 0), (11, .aload_n 0, 12, 0), (12, .iconst (0), 13, 0), (13, .invokevirtual 131, 16, 0), (16, .iconst (0), 17, 0), (17, .istore_n 2, 18, 0), (18, .iload_n 2, 19, 0), (19, .aload_n 0, 20, 0), (20, .getfield 88, 23, 0), (23, .if_icmp .ge (30), 26, 53), (26, .aload_n 0, 27, 0), (27, .getfield 7, 30, 0), (30, .sipush (240), 33, 0), (33, .bipush (120), 35, 0), (35, .iload_n 1, 36, 0), (36, .imul, 37, 0), (37, .iadd, 38, 0), (38, .iload_n 2, 39, 0), (39, .iadd, 40, 0), (40, .aload_n 0, 41, 0), (41, .getfield 7, 44, 0), (44, .iload_n 2, 45, 0), (45, .iaload, 46, 0), (46, .iastore, 47, 0), (47, .iinc 2 (1), 50, 0), (50, .goto (-32), 53, 18), (53, .aload_n 0, 54, 0), (54, .getfield 13, 57, 0), (57, .iload_n 1, 58, 0), (58, .aload_n 0, 59, 0), (59, .getfield 88, 62, 0), (62, .iastore, 63, 0), (63, .aload_n 0, 64, 0), (64, .sipush (240), 67, 0), (67, .bipush (120), 69, 0), (69, .iload_n 1, 70, 0), (70, .imul, 71, 0), (71, .iadd, 72, 0), (72, .aload_n 0, 73, 0), (73, .getfield 88, 76, 0), (76, .iconst (5), 77, 0), (77, .iload_n 1, 78, 0), (78, .iadd, 79, 0), (79, .invokevirtual 134, 82, 0), (82, .iconst (1), 83, 0), (83, .ireturn, 84, 0)]
abbrev pt_m145 : pm_MT := (8, 3, false, (some .boolean), ⟨"SliceDepotModel", "seed", "(I)Z"⟩, prog_10_method_37_code, pt_I145)
def pt_I146 : List pm_E := [(0, .iload_n 1, 1, 0), (1, .ifCond .eq (8), 4, 9), (4, .iload_n 1, 5, 0), (5, .iconst (1), 6, 0), (6, .if_icmp .ne (28), 9, 34), (9, .iload_n 2, 10, 0), (10, .ifCond .lt (24), 13, 34), (13, .iload_n 2, 14, 0), (14, .aload_n 0, 15, 0), (15, .getfield 13, 18, 0), (18, .iload_n 1, 19, 0), (19, .iaload, 20, 0), (20, .if_icmp .ge (14), 23, 34), (23, .iload_n 3, 24, 0), (24, .ifCond .lt (10), 27, 34), (27, .iload_n 3, 28, 0), (28, .sipush (255), 31, 0), (31, .if_icmp .le (5), 34, 36), (34, .iconst (0), 35, 0), (35, .ireturn, 36, 0), (36, .aload_n 0, 37, 0), (37, .getfield 7, 40, 0), (40, .sipush (240), 43, 0), (43, .bipush (120), 45, 0), (45, .iload_n 1, 46, 0), (46, .imul, 47, 0), (47, .iadd, 48, 0), (48, .iload_n 2, 49, 0), (49, .iadd, 50, 0), (50, .iload_n 3, 51, 0), (51, .iastore, 52, 0), (52, .iconst (1), 53, 0), (53, .ireturn, 54, 0)]
abbrev pt_m146 : pm_MT := (8, 4, false, (some .boolean), ⟨"SliceDepotModel", "alter", "(III)Z"⟩, prog_10_method_38_code, pt_I146)
def pt_I147 : List pm_E := [(0, .iload_n 1, 1, 0), (1, .ifCond .eq (10), 4, 11), (4, .iload_n 1, 5, 0), (5, .iconst (1), 6, 0), (6, .if_icmp .eq (5), 9, 11), (9, .iconst (-1), 10, 0), (10, .ireturn, 11, 0), (11, .aload_n 0, 12, 0), (12, .sipush (240), 15, 0), (15, .bipush (120), 17, 0), (17, .iload_n 1, 18, 0), (18, .imul, 19, 0), (19, .iadd, 20, 0), (20, .aload_n 0, 21, 0), (21, .getfield 13, 24, 0), (24, .iload_n 1, 25, 0), (25, .iaload, 26, 0), (26, .iconst (5), 27, 0), (27, .iload_n 1, 28, 0), (28, .iadd, 29, 0), (29, .invokevirtual 134, 32, 0), (32, .aload_n 0, 33, 0), (33, .getfield 28, 36, 0), (36, .iconst (5), 37, 0), (37, .iload_n 1, 38, 0), (38, .iadd, 39, 0), (39, .iaload, 40, 0), (40, .ireturn, 41, 0)]
abbrev pt_m147 : pm_MT := (8, 2, false, (some .int), ⟨"SliceDepotModel", "scan", "(I)I"⟩, prog_10_method_39_code, pt_I147)
def pt_I148 : List pm_E := [(0, .bipush (16), 2, 0), (2, .iload_n 1, 3, 0), (3, .imul, 4, 0), (4, .iload_n 2, 5, 0), (5, .iadd, 6, 0), (6, .istore_n 3, 7, 0), (7, .bipush (16), 9, 0), (9, .iload_n 1, 10, 0), (10, .imul, 11, 0), (11, .istore 4, 13, 0), (13, .iload 4, 15, 0), (15, .iload_n 3, 16, 0), (16, .if_icmp .ge (62), 19, 78), (19, .aload_n 0, 20, 0), (20, .getfield 37, 23, 0), (23, .iload 4, 25, 0), (25, .iaload, 26, 0), (26, .aload_n 0, 27, 0), (27, .getfield 37, 30, 0), (30, .iload_n 3, 31, 0), (31, .iaload, 32, 0), (32, .if_icmp .ne (40), 35, 72), (35, .aload_n 0, 36, 0), (36, .getfield 34, 39, 0), (39, .iload 4, 41, 0), (41, .iaload, 42, 0), (42, .aload_n 0, 43, 0), (43, .getfield 34, 46, 0), (46, .iload_n 3, 47, 0), (47, .iaload, 48, 0), (48, .if_icmp .ne (24), 51, 72), (51, .aload_n 0, 52, 0), (52, .dup, 53, 0), (53, .getfield 154, 56, 0), (56, .iconst (1), 57, 0), (57, .iadd, 58, 0), (58, .putfield 154, 61, 0), (61, .bipush (120), 63, 0), (63, .aload_n 0, 64, 0), (64, .getfield 31, 67, 0), (67, .iload 4, 69, 0), (69, .iaload, 70, 0), (70, .iadd, 71, 0), (71, .ireturn, 72, 0), (72, .iinc 4 (1), 75, 0), (75, .goto (-62), 78, 13), (78, .aload_n 0, 79, 0), (79, .iconst (1), 80, 0), (80, .aload_n 0, 81, 0), (81, .getfield 37, 84, 0), (84, .iload_n 3, 85, 0), (85, .iaload, 86, 0), (86, .invokevirtual 125, 89, 0), (89, .istore 4, 91, 0), (91, .aload_n 0, 92, 0), (92, .iload 4, 94, 0), (94, .aload_n 0, 95, 0), (95, .getfield 37, 98, 0), (98, .iload_n 3, 99, 0), (99, .iaload, 100, 0), (100, .aload_n 0, 101, 0), (101, .getfield 34, 104, 0), (104, .iload_n 3, 105, 0), (105, .iaload, 106, 0), (106, .invokevirtual 157, 109, 0), (109, .ifCond .eq (23), 112, 132), (112, .aload_n 0, 113, 0), (113, .dup, 114, 0), (114, .getfield 161, 117, 0), (117, .iconst (1), 118, 0), (118, .iadd, 119, 0), (119, .putfield 161, 122, 0), (122, .sipush (480), 125, 0), (125, .bipush (32), 127, 0), (127, .iload 4, 129, 0), (129, .imul, 130, 0), (130, .iadd, 131, 0), (131, .ireturn, 132, 0), (132, .iconst (0), 133, 0), (133, .istore 5, 135, 0), (135, .iload 5, 137, 0), (137, .iconst (2), 138, 0), (138, .if_icmp .ge (132), 141, 270), (141, .bipush (16), 143, 0), (143, .iconst (5), 144, 0), (144, .iload 5, 146, 0), (146, .iadd, 147, 0), (147, .imul, 148, 0), (148, .istore 6, 150, 0), (150, .iload 6, 152, 0), (152, .bipush (16), 154, 0), (154, .iconst (5), 155, 0), (155, .iload 5, 157, 0), (157, .iadd, 158, 0), (158, .imul, 159, 0), (159, .aload_n 0, 160, 0), (160, .getfield 28, 163, 0), (163, .iconst (5), 164, 0), (164, .iload 5, 166, 0), (166, .iadd, 167, 0), (167, .iaload, 168, 0), (168, .iadd, 169, 0), (169, .if_icmp .ge (95), 172, 264), (172, .sipush (240), 175, 0), (175, .bipush (120), 177, 0), (177, .iload 5, 179, 0), (179, .imul, 180, 0), (180, .iadd, 181, 0), (181, .aload_n 0, 182, 0), (182, .getfield 31, 185, 0), (185, .iload 6, 187, 0), (187, .iaload, 188, 0), (188, .iadd, 189, 0), (189, .istore 7, 191, 0), (191, .aload_n 0, 192, 0), (192, .getfield 37, 195, 0), (195, .iload 6, 197, 0), (197, .iaload, 198, 0), (198, .aload_n 0, 199, 0), (199, .getfield 37, 202, 0), (202, .iload_n 3, 203, 0), (203, .iaload, 204, 0), (204, .if_icmp .ne (54), 207, 258), (207, .aload_n 0, 208, 0), (208, .getfield 34, 211, 0), (211, .iload 6, 213, 0), (213, .iaload, 214, 0), (214, .aload_n 0, 215, 0), (215, .getfield 34, 218, 0), (218, .iload_n 3, 219, 0), (219, .iaload, 220, 0), (220, .if_icmp .ne (38), 223, 258), (223, .aload_n 0, 224, 0), (224, .iload 7, 226, 0), (226, .aload_n 0, 227, 0), (227, .getfield 34, 230, 0), (230, .iload 6, 232, 0), (232, .iaload, 233, 0), (233, .invokevirtual 112, 236, 0), (236, .aload_n 0, 237, 0), (237, .getfield 37, 240, 0), (240, .iload_n 3, 241, 0), (241, .iaload, 242, 0), (242, .if_icmp .ne (16), 245, 258), (245, .aload_n 0, 246, 0), (246, .dup, 247, 0), (247, .getfield 164, 250, 0), (250, .iconst (1), 251, 0), (251, .iadd, 252, 0), (252, .putfield 164, 255, 0), (255, .iload 7, 257, 0), (257, .ireturn, 258, 0), (258, .iinc 6 (1), 261, 0), (261, .goto (-111), 264, 150), (264, .iinc 5 (1), 267, 0), (267, .goto (-132), 270, 135), (270, .aload_n 0, 271, 0), (271, .dup, 272, 0), (272, .getfield 167, 275, 0), (275, .iconst (1), 276, 0), (276, .iadd, 277, 0), (277, .putfield 167, 280, 0), (280, .aload_n 0, 281, 0), (281, .iconst (0), 282, 0), (282, .aload_n 0, 283, 0), (283, .getfield 37, 286, 0), (286, .iload_n 3, 287, 0), (287, .iaload, 288, 0), (288, .invokevirtual 125, 291, 0), (291, .istore 5, 293, 0), (293, .aload_n 0, 294, 0), (294, .iload 5, 296, 0), (296, .aload_n 0, 297, 0), (297, .getfield 37, 300, 0), (300, .iload_n 3, 301, 0), (301, .iaload, 302, 0), (302, .aload_n 0, 303, 0), (303, .getfield 34, 306, 0), (306, .iload_n 3, 307, 0), (307, .iaload, 308, 0), (308, .invokevirtual 157, 311, 0), (311, .ifCond .ne (5), 314, 316), (314, .iconst (-1), 315, 0), (315, .ireturn, 316, 0), (316, .aload_n 0, 317, 0), (317, .aload_n 0, 318, 0), (318, .getfield 37, 321, 0), (321, .iload_n 3, 322, 0), (322, .iaload, 323, 0), (323, .sipush (480), 326, 0), (326, .bipush (32), 328, 0), (328, .iload 5, 330, 0), (330, .imul, 331, 0), (331, .iadd, 332, 0), (332, .aload_n 0, 333, 0), (333, .getfield 34, 336, 0), (336, .iload_n 3, 337, 0), (337, .iaload, 338, 0), (338, .invokevirtual 170, 341, 0), (341, .sipush (480), 344, 0), (344, .bipush (32), 346, 0), (346, .iload 5, 348, 0), (348, .imul, 349, 0), (349, .iadd, 350, 0), (350, .ireturn, 351, 0)]
abbrev pt_m148 : pm_MT := (8, 8, false, (some .int), ⟨"SliceDepotModel", "source", "(II)I"⟩, prog_10_method_40_code, pt_I148)
def pt_I149 : List pm_E := [(0, .aload_n 0, 1, 0), (1, .iload_n 1, 2, 0), (2, .invokevirtual 138, 5, 0), (5, .ifCond .ne (5), 8, 10), (8, .iconst (-1), 9, 0), (9, .ireturn, 10, 0), (10, .aload_n 0, 11, 0), (11, .iconst (0), 12, 0), (12, .putfield 167, 15, 0), (15, .aload_n 0, 16, 0), (16, .iconst (0), 17, 0), (17, .putfield 161, 20, 0), (20, .aload_n 0, 21, 0), (21, .iconst (0), 22, 0), (22, .putfield 164, 25, 0), (25, .aload_n 0, 26, 0), (26, .iconst (0), 27, 0), (27, .putfield 154, 30, 0), (30, .aload_n 0, 31, 0), (31, .iconst (0), 32, 0), (32, .putfield 173, 35, 0), (35, .iconst (0), 36, 0), (36, .istore_n 2, 37, 0), (37, .iconst (0), 38, 0), (38, .istore_n 3, 39, 0), (39, .iload_n 3, 40, 0), (40, .aload_n 0, 41, 0), (41, .getfield 28, 44, 0), (44, .iconst (1), 45, 0), (45, .iload_n 1, 46, 0), (46, .iadd, 47, 0), (47, .iaload, 48, 0), (48, .if_icmp .ge (87), 51, 135), (51, .aload_n 0, 52, 0), (52, .iconst (1), 53, 0), (53, .iload_n 1, 54, 0), (54, .iadd, 55, 0), (55, .iload_n 3, 56, 0), (56, .invokevirtual 176, 59, 0), (59, .istore 4, 61, 0), (61, .iload 4, 63, 0), (63, .ifCond .ge (8), 66, 71), (66, .bipush (-2), 68, 0), (68, .iload_n 3, 69, 0), (69, .isub, 70, 0), (70, .ireturn, 71, 0), (71, .aload_n 0, 72, 0), (72, .getfield 34, 75, 0), (75, .bipush (16), 77, 0), (77, .iconst (1), 78, 0), (78, .iload_n 1, 79, 0), (79, .iadd, 80, 0), (80, .imul, 81, 0), (81, .iload_n 3, 82, 0), (82, .iadd, 83, 0), (83, .iaload, 84, 0), (84, .istore 5, 86, 0), (86, .iconst (0), 87, 0), (87, .istore 6, 89, 0), (89, .iload 6, 91, 0), (91, .iload 5, 93, 0), (93, .if_icmp .ge (31), 96, 124), (96, .aload_n 0, 97, 0), (97, .getfield 7, 100, 0), (100, .bipush (120), 102, 0), (102, .iload_n 2, 103, 0), (103, .iadd, 104, 0), (104, .iload 6, 106, 0), (106, .iadd, 107, 0), (107, .aload_n 0, 108, 0), (108, .getfield 7, 111, 0), (111, .iload 4, 113, 0), (113, .iload 6, 115, 0), (115, .iadd, 116, 0), (116, .iaload, 117, 0), (117, .iastore, 118, 0), (118, .iinc 6 (1), 121, 0), (121, .goto (-32), 124, 89), (124, .iload_n 2, 125, 0), (125, .iload 5, 127, 0), (127, .iadd, 128, 0), (128, .istore_n 2, 129, 0), (129, .iinc 3 (1), 132, 0), (132, .goto (-93), 135, 39), (135, .aload_n 0, 136, 0), (136, .iload_n 2, 137, 0), (137, .putfield 173, 140, 0), (140, .iload_n 2, 141, 0), (141, .ireturn, 142, 0)]
abbrev pt_m149 : pm_MT := (8, 7, false, (some .int), ⟨"SliceDepotModel", "extract", "(I)I"⟩, prog_10_method_41_code, pt_I149)
def pt_I150 : List pm_E := [(0, .iload_n 1, 1, 0), (1, .ifCond .ne (10), 4, 11), (4, .aload_n 0, 5, 0), (5, .getfield 167, 8, 0), (8, .goto (40), 11, 48), (11, .iload_n 1, 12, 0), (12, .iconst (1), 13, 0), (13, .if_icmp .ne (10), 16, 23), (16, .aload_n 0, 17, 0), (17, .getfield 161, 20, 0), (20, .goto (28), 23, 48), (23, .iload_n 1, 24, 0), (24, .iconst (2), 25, 0), (25, .if_icmp .ne (10), 28, 35), (28, .aload_n 0, 29, 0), (29, .getfield 164, 32, 0), (32, .goto (16), 35, 48), (35, .iload_n 1, 36, 0), (36, .iconst (3), 37, 0), (37, .if_icmp .ne (10), 40, 47), (40, .aload_n 0, 41, 0), (41, .getfield 154, 44, 0), (44, .goto (4), 47, 48), (47, .iconst (-1), 48, 0), (48, .ireturn, 49, 0)]
abbrev pt_m150 : pm_MT := (8, 2, false, (some .int), ⟨"SliceDepotModel", "counts", "(I)I"⟩, prog_10_method_42_code, pt_I150)
def pt_I151 : List pm_E := [(0, .iload_n 1, 1, 0), (1, .ifCond .lt (23), 4, 24), (4, .iload_n 1, 5, 0), (5, .aload_n 0, 6, 0), (6, .getfield 173, 9, 0), (9, .if_icmp .ge (15), 12, 24), (12, .aload_n 0, 13, 0), (13, .getfield 7, 16, 0), (16, .bipush (120), 18, 0), (18, .iload_n 1, 19, 0), (19, .iadd, 20, 0), (20, .iaload, 21, 0), (21, .goto (4), 24, 25), (24, .iconst (-1), 25, 0), (25, .ireturn, 26, 0)]
abbrev pt_m151 : pm_MT := (8, 2, false, (some .int), ⟨"SliceDepotModel", "byteAt", "(I)I"⟩, prog_10_method_43_code, pt_I151)
def pt_I152 : List pm_E := [(0, .iload_n 1, 1, 0), (1, .iconst (-1), 2, 0), (2, .if_icmp .ne (10), 5, 12), (5, .aload_n 0, 6, 0), (6, .getfield 173, 9, 0), (9, .goto (29), 12, 38), (12, .iload_n 1, 13, 0), (13, .ifCond .lt (23), 16, 36), (16, .iload_n 1, 17, 0), (17, .aload_n 0, 18, 0), (18, .getfield 173, 21, 0), (21, .if_icmp .ge (15), 24, 36), (24, .aload_n 0, 25, 0), (25, .getfield 7, 28, 0), (28, .bipush (120), 30, 0), (30, .iload_n 1, 31, 0), (31, .iadd, 32, 0), (32, .iaload, 33, 0), (33, .goto (5), 36, 38), (36, .bipush (-2), 38, 0), (38, .ireturn, 39, 0)]
abbrev pt_m152 : pm_MT := (8, 2, false, (some .int), ⟨"SliceDepotModel", "output", "(I)I"⟩, prog_10_method_44_code, pt_I152)
def pt_I153 : List pm_E := [(0, .iload_n 1, 1, 0), (1, .ifCond .lt (23), 4, 24), (4, .iload_n 1, 5, 0), (5, .aload_n 0, 6, 0), (6, .getfield 173, 9, 0), (9, .if_icmp .gt (15), 12, 24), (12, .iload_n 2, 13, 0), (13, .iconst (-1), 14, 0), (14, .if_icmp .lt (10), 17, 24), (17, .iload_n 2, 18, 0), (18, .sipush (255), 21, 0), (21, .if_icmp .le (5), 24, 26), (24, .iconst (0), 25, 0), (25, .ireturn, 26, 0), (26, .iload_n 2, 27, 0), (27, .iconst (-1), 28, 0), (28, .if_icmp .ne (10), 31, 38), (31, .aload_n 0, 32, 0), (32, .iload_n 1, 33, 0), (33, .putfield 173, 36, 0), (36, .iconst (1), 37, 0), (37, .ireturn, 38, 0), (38, .iload_n 1, 39, 0), (39, .bipush (120), 41, 0), (41, .if_icmp .ne (5), 44, 46), (44, .iconst (0), 45, 0), (45, .ireturn, 46, 0), (46, .aload_n 0, 47, 0), (47, .getfield 7, 50, 0), (50, .bipush (120), 52, 0), (52, .iload_n 1, 53, 0), (53, .iadd, 54, 0), (54, .iload_n 2, 55, 0), (55, .iastore, 56, 0), (56, .aload_n 0, 57, 0), (57, .iload_n 1, 58, 0), (58, .aload_n 0, 59, 0), (59, .getfield 173, 62, 0), (62, .if_icmp .ne (12), 65, 74), (65, .aload_n 0, 66, 0), (66, .getfield 173, 69, 0), (69, .iconst (1), 70, 0), (70, .iadd, 71, 0), (71, .goto (7), 74, 78), (74, .aload_n 0, 75, 0), (75, .getfield 173, 78, 0), (78, .putfield 173, 81, 0), (81, .iconst (1), 82, 0), (82, .ireturn, 83, 0)]
abbrev pt_m153 : pm_MT := (8, 3, false, (some .boolean), ⟨"SliceDepotModel", "spoil", "(II)Z"⟩, prog_10_method_45_code, pt_I153)
def pt_I154 : List pm_E := [(0, .iconst (0), 1, 0), (1, .istore_n 2, 2, 0), (2, .bipush (10), 4, 0), (4, .istore_n 3, 5, 0), (5, .iload_n 3, 6, 0), (6, .bipush (20), 8, 0), (8, .if_icmp .ge (63), 11, 71), (11, .aload_n 0, 12, 0), (12, .getfield 16, 15, 0), (15, .iload_n 3, 16, 0), (16, .iaload, 17, 0), (17, .ifCond .eq (16), 20, 33), (20, .aload_n 0, 21, 0), (21, .getfield 16, 24, 0), (24, .iload_n 3, 25, 0), (25, .iaload, 26, 0), (26, .invokestatic 75, 29, 0), (29, .iload_n 1, 30, 0), (30, .if_icmp .eq (7), 33, 37), (33, .iconst (0), 34, 0), (34, .goto (16), 37, 50), (37, .aload_n 0, 38, 0), (38, .getfield 16, 41, 0), (41, .iload_n 3, 42, 0), (42, .iaload, 43, 0), (43, .iconst (5), 44, 0), (44, .iload_n 1, 45, 0), (45, .invokestatic 63, 48, 0), (48, .imul, 49, 0), (49, .ishr, 50, 0), (50, .istore 4, 52, 0), (52, .iload 4, 54, 0), (54, .iload_n 2, 55, 0), (55, .if_icmp .le (8), 58, 63), (58, .iload 4, 60, 0), (60, .goto (4), 63, 64), (63, .iload_n 2, 64, 0), (64, .istore_n 2, 65, 0), (65, .iinc 3 (1), 68, 0), (68, .goto (-63), 71, 5), (71, .iload_n 2, 72, 0), (72, .ireturn, 73, 0)]
abbrev pt_m154 : pm_MT := (8, 5, false, (some .int), ⟨"SliceDepotModel", "greatest", "(I)I"⟩, prog_10_method_46_code, pt_I154)
def pt_I155 : List pm_E := [(0, .aload_n 0, 1, 0), (1, .iload_n 1, 2, 0), (2, .iconst (1), 3, 0), (3, .iadd, 4, 0), (4, .invokevirtual 179, 7, 0), (7, .istore 5, 9, 0), (9, .iload 5, 11, 0), (11, .iconst (1), 12, 0), (12, .if_icmp .lt (20), 15, 32), (15, .iload 5, 17, 0), (17, .bipush (31), 19, 0), (19, .if_icmp .gt (13), 22, 32), (22, .iload 5, 24, 0), (24, .aload_n 0, 25, 0), (25, .iload_n 2, 26, 0), (26, .invokevirtual 182, 29, 0), (29, .if_icmp .gt (8), 32, 37), (32, .bipush (-2), 34, 0), (34, .iload_n 1, 35, 0), (35, .isub, 36, 0), (36, .ireturn, 37, 0), (37, .aload_n 0, 38, 0), (38, .iload_n 1, 39, 0), (39, .invokevirtual 179, 42, 0), (42, .iconst (2), 43, 0), (43, .if_icmp .ne (7), 46, 50), (46, .iconst (0), 47, 0), (47, .goto (10), 50, 57), (50, .aload_n 0, 51, 0), (51, .iload_n 1, 52, 0), (52, .iconst (2), 53, 0), (53, .iadd, 54, 0), (54, .invokevirtual 179, 57, 0), (57, .istore 6, 59, 0), (59, .iload 6, 61, 0), (61, .ifCond .lt (20), 64, 81), (64, .iload 6, 66, 0), (66, .bipush (16), 68, 0), (68, .if_icmp .gt (13), 71, 81), (71, .iload 4, 73, 0), (73, .iload 6, 75, 0), (75, .iadd, 76, 0), (76, .bipush (80), 78, 0), (78, .if_icmp .le (8), 81, 86), (81, .bipush (-3), 83, 0), (83, .iload_n 1, 84, 0), (84, .isub, 85, 0), (85, .ireturn, 86, 0), (86, .aload_n 0, 87, 0), (87, .iload_n 1, 88, 0), (88, .invokevirtual 179, 91, 0), (91, .iconst (2), 92, 0), (92, .if_icmp .ne (9), 95, 101), (95, .iload_n 1, 96, 0), (96, .iconst (2), 97, 0), (97, .iadd, 98, 0), (98, .goto (9), 101, 107), (101, .iload_n 1, 102, 0), (102, .iconst (3), 103, 0), (103, .iadd, 104, 0), (104, .iload 6, 106, 0), (106, .iadd, 107, 0), (107, .istore 7, 109, 0), (109, .iload 7, 111, 0), (111, .aload_n 0, 112, 0), (112, .getfield 173, 115, 0), (115, .if_icmp .le (10), 118, 125), (118, .iconst (-1), 119, 0), (119, .aload_n 0, 120, 0), (120, .getfield 173, 123, 0), (123, .isub, 124, 0), (124, .ireturn, 125, 0), (125, .iconst (0), 126, 0), (126, .istore 8, 128, 0), (128, .iload 8, 130, 0), (130, .iload 6, 132, 0), (132, .if_icmp .ge (31), 135, 163), (135, .aload_n 0, 136, 0), (136, .getfield 25, 139, 0), (139, .bipush (16), 141, 0), (141, .iload_n 3, 142, 0), (142, .imul, 143, 0), (143, .iload 8, 145, 0), (145, .iadd, 146, 0), (146, .aload_n 0, 147, 0), (147, .iload_n 1, 148, 0), (148, .iconst (3), 149, 0), (149, .iadd, 150, 0), (150, .iload 8, 152, 0), (152, .iadd, 153, 0), (153, .invokevirtual 179, 156, 0), (156, .iastore, 157, 0), (157, .iinc 8 (1), 160, 0), (160, .goto (-32), 163, 128), (163, .aload_n 0, 164, 0), (164, .getfield 16, 167, 0), (167, .iload_n 3, 168, 0), (168, .iload_n 2, 169, 0), (169, .iload 5, 171, 0), (171, .iconst (5), 172, 0), (172, .iload_n 2, 173, 0), (173, .invokestatic 63, 176, 0), (176, .imul, 177, 0), (177, .ishl, 178, 0), (178, .ior, 179, 0), (179, .iastore, 180, 0), (180, .aload_n 0, 181, 0), (181, .getfield 19, 184, 0), (184, .iload_n 3, 185, 0), (185, .aload_n 0, 186, 0), (186, .iload_n 1, 187, 0), (187, .invokevirtual 179, 190, 0), (190, .iastore, 191, 0), (191, .aload_n 0, 192, 0), (192, .getfield 22, 195, 0), (195, .iload_n 3, 196, 0), (196, .iload 6, 198, 0), (198, .iastore, 199, 0), (199, .iload 7, 201, 0), (201, .ireturn, 202, 0)]
abbrev pt_m155 : pm_MT := (8, 9, false, (some .int), ⟨"SliceDepotModel", "entry", "(IIII)I"⟩, prog_10_method_47_code, pt_I155)
def pt_I156 : List pm_E := [(0, .bipush (10), 2, 0), (2, .istore_n 1, 3, 0), (3, .iload_n 1, 4, 0), (4, .bipush (20), 6, 0), (6, .if_icmp .ge (16), 9, 22), (9, .aload_n 0, 10, 0), (10, .getfield 16, 13, 0), (13, .iload_n 1, 14, 0), (14, .iconst (0), 15, 0), (15, .iastore, 16, 0), (16, .iinc 1 (1), 19, 0), (19, .goto (-16), 22, 3), (22, .iconst (0), 23, 0), (23, .istore_n 1, 24, 0), (24, .iconst (0), 25, 0), (25, .istore_n 2, 26, 0), (26, .iconst (0), 27, 0), (27, .istore_n 3, 28, 0), (28, .iconst (0), 29, 0), (29, .istore 4, 31, 0), (31, .iconst (0), 32, 0), (32, .istore 5, 34, 0), (34, .iconst (-1), 35, 0), (35, .istore 6, 37, 0), (37, .iconst (1), 38, 0), (38, .istore 7, 40, 0), (40, .iconst (0), 41, 0), (41, .istore 8, 43, 0), (43, .iload 8, 45, 0), (45, .sipush (130), 48, 0), (48, .if_icmp .ge (214), 51, 262), (51, .iload 7, 53, 0), (53, .ifCond .eq (209), 56, 262), (56, .iload 6, 58, 0), (58, .ifCond .ge (204), 61, 262), (61, .aload_n 0, 62, 0), (62, .iload 4, 64, 0), (64, .invokevirtual 179, 67, 0), (67, .istore 9, 69, 0), (69, .iload 4, 71, 0), (71, .istore 5, 73, 0), (73, .iload 9, 75, 0), (75, .bipush (9), 77, 0), (77, .if_icmp .ne (73), 80, 150), (80, .iinc 4 (2), 83, 0), (83, .iload_n 3, 84, 0), (84, .ifCond .eq (7), 87, 91), (87, .iconst (1), 88, 0), (88, .goto (4), 91, 92), (91, .iconst (0), 92, 0), (92, .istore 7, 94, 0), (94, .iload 7, 96, 0), (96, .ifCond .eq (10), 99, 106), (99, .iload_n 3, 100, 0), (100, .invokestatic 75, 103, 0), (103, .goto (4), 106, 107), (106, .iconst (0), 107, 0), (107, .istore_n 3, 108, 0), (108, .iload 4, 110, 0), (110, .aload_n 0, 111, 0), (111, .getfield 173, 114, 0), (114, .if_icmp .le (10), 117, 124), (117, .aload_n 0, 118, 0), (118, .getfield 173, 121, 0), (121, .goto (5), 124, 126), (124, .iload 4, 126, 0), (126, .istore 5, 128, 0), (128, .iload 4, 130, 0), (130, .aload_n 0, 131, 0), (131, .getfield 173, 134, 0), (134, .if_icmp .le (10), 137, 144), (137, .aload_n 0, 138, 0), (138, .getfield 173, 141, 0), (141, .goto (4), 144, 145), (144, .iconst (-1), 145, 0), (145, .istore 6, 147, 0), (147, .goto (109), 150, 256), (150, .iload 9, 152, 0), (152, .iconst (1), 153, 0), (153, .if_icmp .eq (9), 156, 162), (156, .iload 9, 158, 0), (158, .iconst (2), 159, 0), (159, .if_icmp .ne (93), 162, 252), (162, .iload_n 1, 163, 0), (163, .bipush (10), 165, 0), (165, .if_icmp .ge (87), 168, 252), (168, .iload_n 3, 169, 0), (169, .invokestatic 63, 172, 0), (172, .iconst (5), 173, 0), (173, .if_icmp .gt (79), 176, 252), (176, .aload_n 0, 177, 0), (177, .iload 4, 179, 0), (179, .iload_n 3, 180, 0), (180, .bipush (10), 182, 0), (182, .iload_n 1, 183, 0), (183, .iadd, 184, 0), (184, .iload_n 2, 185, 0), (185, .invokevirtual 185, 188, 0), (188, .istore 10, 190, 0), (190, .iload 10, 192, 0), (192, .ifCond .ge (10), 195, 202), (195, .iconst (-1), 196, 0), (196, .iload 10, 198, 0), (198, .isub, 199, 0), (199, .goto (4), 202, 203), (202, .iconst (-1), 203, 0), (203, .istore 6, 205, 0), (205, .iload 10, 207, 0), (207, .ifCond .lt (42), 210, 249), (210, .iload 9, 212, 0), (212, .iconst (2), 213, 0), (213, .if_icmp .ne (15), 216, 228), (216, .aload_n 0, 217, 0), (217, .getfield 16, 220, 0), (220, .bipush (10), 222, 0), (222, .iload_n 1, 223, 0), (223, .iadd, 224, 0), (224, .iaload, 225, 0), (225, .goto (4), 228, 229), (228, .iload_n 3, 229, 0), (229, .istore_n 3, 230, 0), (230, .iload_n 2, 231, 0), (231, .aload_n 0, 232, 0), (232, .getfield 22, 235, 0), (235, .bipush (10), 237, 0), (237, .iload_n 1, 238, 0), (238, .iadd, 239, 0), (239, .iaload, 240, 0), (240, .iadd, 241, 0), (241, .istore_n 2, 242, 0), (242, .iinc 1 (1), 245, 0), (245, .iload 10, 247, 0), (247, .istore 4, 249, 0), (249, .goto (7), 252, 256), (252, .iload 4, 254, 0), (254, .istore 6, 256, 0), (256, .iinc 8 (1), 259, 0), (259, .goto (-216), 262, 43), (262, .iload 6, 264, 0), (264, .ifCond .ge (17), 267, 281), (267, .iload 4, 269, 0), (269, .aload_n 0, 270, 0), (270, .getfield 173, 273, 0), (273, .if_icmp .ge (8), 276, 281), (276, .iload 4, 278, 0), (278, .goto (5), 281, 283), (281, .iload 6, 283, 0), (283, .istore 6, 285, 0), (285, .aload_n 0, 286, 0), (286, .bipush (10), 288, 0), (288, .invokevirtual 131, 291, 0), (291, .iload 5, 293, 0), (293, .iconst (1), 294, 0), (294, .isub, 295, 0), (295, .istore 8, 297, 0), (297, .iload 8, 299, 0), (299, .ifCond .lt (38), 302, 337), (302, .aload_n 0, 303, 0), (303, .getfield 7, 306, 0), (306, .iload 8, 308, 0), (308, .iaload, 309, 0), (309, .aload_n 0, 310, 0), (310, .getfield 7, 313, 0), (313, .bipush (120), 315, 0), (315, .iload 8, 317, 0), (317, .iadd, 318, 0), (318, .iaload, 319, 0), (319, .if_icmp .eq (8), 322, 327), (322, .iload 8, 324, 0), (324, .goto (5), 327, 329), (327, .iload 6, 329, 0), (329, .istore 6, 331, 0), (331, .iinc 8 (-1), 334, 0), (334, .goto (-37), 337, 297), (337, .iload 6, 339, 0), (339, .ifCond .lt (10), 342, 349), (342, .iconst (-1), 343, 0), (343, .iload 6, 345, 0), (345, .isub, 346, 0), (346, .goto (8), 349, 354), (349, .aload_n 0, 350, 0), (350, .iload_n 1, 351, 0), (351, .invokevirtual 189, 354, 0), (354, .ireturn, 355, 0)]
abbrev pt_m156 : pm_MT := (8, 11, false, (some .int), ⟨"SliceDepotModel", "unpack", "()I"⟩, prog_10_method_48_code, pt_I156)
def pt_I157 : List pm_E := [(0, .iconst (0), 1, 0), (1, .istore_n 2, 2, 0), (2, .iload_n 2, 3, 0), (3, .bipush (10), 5, 0), (5, .if_icmp .ge (94), 8, 99), (8, .aload_n 0, 9, 0), (9, .getfield 16, 12, 0), (12, .iload_n 2, 13, 0), (13, .aload_n 0, 14, 0), (14, .getfield 16, 17, 0), (17, .bipush (10), 19, 0), (19, .iload_n 2, 20, 0), (20, .iadd, 21, 0), (21, .iaload, 22, 0), (22, .iastore, 23, 0), (23, .aload_n 0, 24, 0), (24, .getfield 19, 27, 0), (27, .iload_n 2, 28, 0), (28, .aload_n 0, 29, 0), (29, .getfield 19, 32, 0), (32, .bipush (10), 34, 0), (34, .iload_n 2, 35, 0), (35, .iadd, 36, 0), (36, .iaload, 37, 0), (37, .iastore, 38, 0), (38, .aload_n 0, 39, 0), (39, .getfield 22, 42, 0), (42, .iload_n 2, 43, 0), (43, .aload_n 0, 44, 0), (44, .getfield 22, 47, 0), (47, .bipush (10), 49, 0), (49, .iload_n 2, 50, 0), (50, .iadd, 51, 0), (51, .iaload, 52, 0), (52, .iastore, 53, 0), (53, .iconst (0), 54, 0), (54, .istore_n 3, 55, 0), (55, .iload_n 3, 56, 0), (56, .bipush (16), 58, 0), (58, .if_icmp .ge (35), 61, 93), (61, .aload_n 0, 62, 0), (62, .getfield 25, 65, 0), (65, .bipush (16), 67, 0), (67, .iload_n 2, 68, 0), (68, .imul, 69, 0), (69, .iload_n 3, 70, 0), (70, .iadd, 71, 0), (71, .aload_n 0, 72, 0), (72, .getfield 25, 75, 0), (75, .sipush (160), 78, 0), (78, .bipush (16), 80, 0), (80, .iload_n 2, 81, 0), (81, .imul, 82, 0), (82, .iadd, 83, 0), (83, .iload_n 3, 84, 0), (84, .iadd, 85, 0), (85, .iaload, 86, 0), (86, .iastore, 87, 0), (87, .iinc 3 (1), 90, 0), (90, .goto (-35), 93, 55), (93, .iinc 2 (1), 96, 0), (96, .goto (-94), 99, 2), (99, .iload_n 1, 100, 0), (100, .ireturn, 101, 0)]
abbrev pt_m157 : pm_MT := (8, 4, false, (some .int), ⟨"SliceDepotModel", "taken", "(I)I"⟩, prog_10_method_49_code, pt_I157)
def pt_I158 : List pm_E := [(0, .iload_n 1, 1, 0), (1, .ifCond .ne (8), 4, 9), (4, .aload_n 0, 5, 0), (5, .invokevirtual 192, 8, 0), (8, .ireturn, 9, 0), (9, .iload_n 1, 10, 0), (10, .iconst (1), 11, 0), (11, .if_icmp .ne (8), 14, 19), (14, .aload_n 0, 15, 0), (15, .invokevirtual 81, 18, 0), (18, .ireturn, 19, 0), (19, .iload_n 1, 20, 0), (20, .iconst (2), 21, 0), (21, .if_icmp .ne (13), 24, 34), (24, .aload_n 0, 25, 0), (25, .iconst (0), 26, 0), (26, .invokevirtual 131, 29, 0), (29, .aload_n 0, 30, 0), (30, .getfield 88, 33, 0), (33, .ireturn, 34, 0), (34, .iconst (0), 35, 0), (35, .istore_n 2, 36, 0), (36, .iconst (0), 37, 0), (37, .istore_n 3, 38, 0), (38, .iload_n 3, 39, 0), (39, .bipush (46), 41, 0), (41, .if_icmp .ge (78), 44, 119), (44, .iload_n 1, 45, 0), (45, .iconst (5), 46, 0), (46, .if_icmp .ne (19), 49, 65), (49, .iload_n 3, 50, 0), (50, .aload_n 0, 51, 0), (51, .getfield 115, 54, 0), (54, .if_icmp .ge (7), 57, 61), (57, .iconst (1), 58, 0), (58, .goto (35), 61, 93), (61, .iconst (0), 62, 0), (62, .goto (31), 65, 93), (65, .iload_n 1, 66, 0), (66, .bipush (7), 68, 0), (68, .if_icmp .ne (24), 71, 92), (71, .iload_n 3, 72, 0), (72, .bipush (40), 74, 0), (74, .if_icmp .lt (18), 77, 92), (77, .iload_n 3, 78, 0), (78, .bipush (40), 80, 0), (80, .aload_n 0, 81, 0), (81, .getfield 118, 84, 0), (84, .iadd, 85, 0), (85, .if_icmp .ge (7), 88, 92), (88, .iconst (1), 89, 0), (89, .goto (4), 92, 93), (92, .iconst (0), 93, 0), (93, .istore 4, 95, 0), (95, .iload 4, 97, 0), (97, .ifCond .eq (14), 100, 111), (100, .iload_n 2, 101, 0), (101, .aload_n 0, 102, 0), (102, .getfield 50, 105, 0), (105, .iload_n 3, 106, 0), (106, .iaload, 107, 0), (107, .iadd, 108, 0), (108, .goto (4), 111, 112), (111, .iload_n 2, 112, 0), (112, .istore_n 2, 113, 0), (113, .iinc 3 (1), 116, 0), (116, .goto (-78), 119, 38), (119, .iconst (0), 120, 0), (120, .istore_n 3, 121, 0), (121, .iload_n 3, 122, 0), (122, .iconst (4), 123, 0), (123, .if_icmp .ge (31), 126, 154), (126, .iload_n 1, 127, 0), (127, .iconst (3), 128, 0), (128, .if_icmp .ne (18), 131, 146), (131, .aload_n 0, 132, 0), (132, .getfield 40, 135, 0), (135, .iload_n 3, 136, 0), (136, .baload, 137, 0), (137, .ifCond .eq (9), 140, 146), (140, .iload_n 2, 141, 0), (141, .iconst (1), 142, 0), (142, .iadd, 143, 0), (143, .goto (4), 146, 147), (146, .iload_n 2, 147, 0), (147, .istore_n 2, 148, 0), (148, .iinc 3 (1), 151, 0), (151, .goto (-30), 154, 121), (154, .iload_n 1, 155, 0), (155, .iconst (4), 156, 0), (156, .if_icmp .ne (10), 159, 166), (159, .aload_n 0, 160, 0), (160, .getfield 115, 163, 0), (163, .goto (31), 166, 194), (166, .iload_n 1, 167, 0), (167, .bipush (6), 169, 0), (169, .if_icmp .ne (10), 172, 179), (172, .aload_n 0, 173, 0), (173, .getfield 118, 176, 0), (176, .goto (18), 179, 194), (179, .iload_n 1, 180, 0), (180, .ifCond .lt (9), 183, 189), (183, .iload_n 1, 184, 0), (184, .bipush (7), 186, 0), (186, .if_icmp .le (7), 189, 193), (189, .iconst (-1), 190, 0), (190, .goto (4), 193, 194), (193, .iload_n 2, 194, 0), (194, .ireturn, 195, 0)]
abbrev pt_m158 : pm_MT := (8, 5, false, (some .int), ⟨"SliceDepotModel", "size", "(I)I"⟩, prog_10_method_50_code, pt_I158)
def pt_I159 : List pm_E := [(0, .iload_n 1, 1, 0), (1, .aload_n 0, 2, 0), (2, .arraylength, 3, 0), (3, .if_icmp .ge (9), 6, 12), (6, .aload_n 0, 7, 0), (7, .iload_n 1, 8, 0), (8, .iaload, 9, 0), (9, .goto (4), 12, 13), (12, .iconst (0), 13, 0), (13, .ireturn, 14, 0)]
abbrev pt_m159 : pm_MT := (9, 2, false, (some .int), ⟨"SliceDepotLaw", "cell", "([II)I"⟩, method_2_code, pt_I159)
def pt_I160 : List pm_E := [(0, .new 7, 3, 0), (3, .dup, 4, 0), (4, .aload_n 0, 5, 0), (5, .iconst (0), 6, 0), (6, .invokestatic 9, 9, 0), (9, .aload_n 0, 10, 0), (10, .iconst (1), 11, 0), (11, .invokestatic 9, 14, 0), (14, .aload_n 0, 15, 0), (15, .iconst (2), 16, 0), (16, .invokestatic 9, 19, 0), (19, .invokespecial 15, 22, 0), (22, .astore_n 1, 23, 0), (23, .new 18, 26, 0), (26, .dup, 27, 0), (27, .aload_n 0, 28, 0), (28, .iconst (0), 29, 0), (29, .invokestatic 9, 32, 0), (32, .aload_n 0, 33, 0), (33, .iconst (1), 34, 0), (34, .invokestatic 9, 37, 0), (37, .aload_n 0, 38, 0), (38, .iconst (2), 39, 0), (39, .invokestatic 9, 42, 0), (42, .invokespecial 20, 45, 0), (45, .astore_n 2, 46, 0), (46, .iconst (3), 47, 0), (47, .istore_n 3, 48, 0), (48, .iload_n 3, 49, 0), (49, .aload_n 0, 50, 0), (50, .arraylength, 51, 0), (51, .bipush (6), 53, 0), (53, .isub, 54, 0), (54, .if_icmp .gt (642), 57, 696), (57, .aload_n 0, 58, 0), (58, .iload_n 3, 59, 0), (59, .iaload, 60, 0), (60, .bipush (31), 62, 0), (62, .iand, 63, 0), (63, .tableswitch (627) (0) (18) #[(89), (122), (165), (208), (231), (244), (267), (280), (303), (337), (400), (423), (466), (489), (512), (535), (558), (591), (604)], 152, 0), (152, .aload_n 1, 153, 0), (153, .aload_n 0, 154, 0), (154, .iload_n 3, 155, 0), (155, .iconst (1), 156, 0), (156, .iadd, 157, 0), (157, .iaload, 158, 0), (158, .aload_n 0, 159, 0), (159, .iload_n 3, 160, 0), (160, .iconst (2), 161, 0), (161, .iadd, 162, 0), (162, .iaload, 163, 0), (163, .invokevirtual 21, 166, 0), (166, .aload_n 2, 167, 0), (167, .aload_n 0, 168, 0), (168, .iload_n 3, 169, 0), (169, .iconst (1), 170, 0), (170, .iadd, 171, 0), (171, .iaload, 172, 0), (172, .aload_n 0, 173, 0), (173, .iload_n 3, 174, 0), (174, .iconst (2), 175, 0), (175, .iadd, 176, 0), (176, .iaload, 177, 0), (177, .invokevirtual 25, 180, 0), (180, .if_icmp .eq (510), 183, 690), (183, .iconst (0), 184, 0), (184, .ireturn, 185, 0), (185, .aload_n 1, 186, 0), (186, .aload_n 0, 187, 0), (187, .iload_n 3, 188, 0), (188, .iconst (1), 189, 0), (189, .iadd, 190, 0), (190, .iaload, 191, 0), (191, .aload_n 0, 192, 0), (192, .iload_n 3, 193, 0), (193, .iconst (2), 194, 0), (194, .iadd, 195, 0), (195, .iaload, 196, 0), (196, .aload_n 0, 197, 0), (197, .iload_n 3, 198, 0), (198, .iconst (3), 199, 0), (199, .iadd, 200, 0), (200, .iaload, 201, 0), (201, .invokevirtual 26, 204, 0), (204, .aload_n 2, 205, 0), (205, .aload_n 0, 206, 0), (206, .iload_n 3, 207, 0), (207, .iconst (1), 208, 0), (208, .iadd, 209, 0), (209, .iaload, 210, 0), (210, .aload_n 0, 211, 0), (211, .iload_n 3, 212, 0), (212, .iconst (2), 213, 0), (213, .iadd, 214, 0), (214, .iaload, 215, 0), (215, .aload_n 0, 216, 0), (216, .iload_n 3, 217, 0), (217, .iconst (3), 218, 0), (218, .iadd, 219, 0), (219, .iaload, 220, 0), (220, .invokevirtual 30, 223, 0), (223, .if_icmp .eq (467), 226, 690), (226, .iconst (0), 227, 0), (227, .ireturn, 228, 0), (228, .aload_n 1, 229, 0), (229, .aload_n 0, 230, 0), (230, .iload_n 3, 231, 0), (231, .iconst (1), 232, 0), (232, .iadd, 233, 0), (233, .iaload, 234, 0), (234, .aload_n 0, 235, 0), (235, .iload_n 3, 236, 0), (236, .iconst (2), 237, 0), (237, .iadd, 238, 0), (238, .iaload, 239, 0), (239, .aload_n 0, 240, 0), (240, .iload_n 3, 241, 0), (241, .iconst (3), 242, 0), (242, .iadd, 243, 0), (243, .iaload, 244, 0), (244, .invokevirtual 31, 247, 0), (247, .aload_n 2, 248, 0), (248, .aload_n 0, 249, 0), (249, .iload_n 3, 250, 0), (250, .iconst (1), 251, 0), (251, .iadd, 252, 0), (252, .iaload, 253, 0), (253, .aload_n 0, 254, 0), (254, .iload_n 3, 255, 0), (255, .iconst (2), 256, 0), (256, .iadd, 257, 0), (257, .iaload, 258, 0), (258, .aload_n 0, 259, 0), (259, .iload_n 3, 260, 0), (260, .iconst (3), 261, 0), (261, .iadd, 262, 0), (262, .iaload, 263, 0), (263, .invokevirtual 35, 266, 0), (266, .if_icmp .eq (424), 269, 690), (269, .iconst (0), 270, 0), (270, .ireturn, 271, 0), (271, .aload_n 1, 272, 0), (272, .aload_n 0, 273, 0), (273, .iload_n 3, 274, 0), (274, .iconst (1), 275, 0), (275, .iadd, 276, 0), (276, .iaload, 277, 0), (277, .invokevirtual 36, 280, 0), (280, .aload_n 2, 281, 0), (281, .aload_n 0, 282, 0), (282, .iload_n 3, 283, 0), (283, .iconst (1), 284, 0), (284, .iadd, 285, 0), (285, .iaload, 286, 0), (286, .invokevirtual 40, 289, 0), (289, .if_icmp .eq (401), 292, 690), (292, .iconst (0), 293, 0), (293, .ireturn, 294, 0), (294, .aload_n 1, 295, 0), (295, .invokevirtual 41, 298, 0), (298, .aload_n 2, 299, 0), (299, .invokevirtual 45, 302, 0), (302, .if_icmp .eq (388), 305, 690), (305, .iconst (0), 306, 0), (306, .ireturn, 307, 0), (307, .aload_n 1, 308, 0), (308, .aload_n 0, 309, 0), (309, .iload_n 3, 310, 0), (310, .iconst (1), 311, 0), (311, .iadd, 312, 0), (312, .iaload, 313, 0), (313, .invokevirtual 46, 316, 0), (316, .aload_n 2, 317, 0), (317, .aload_n 0, 318, 0), (318, .iload_n 3, 319, 0), (319, .iconst (1), 320, 0), (320, .iadd, 321, 0), (321, .iaload, 322, 0), (322, .invokevirtual 50, 325, 0), (325, .if_icmp .eq (365), 328, 690), (328, .iconst (0), 329, 0), (329, .ireturn, 330, 0), (330, .aload_n 1, 331, 0), (331, .invokevirtual 51, 334, 0), (334, .aload_n 2, 335, 0), (335, .invokevirtual 54, 338, 0), (338, .if_icmp .eq (352), 341, 690), (341, .iconst (0), 342, 0), (342, .ireturn, 343, 0), (343, .aload_n 1, 344, 0), (344, .aload_n 0, 345, 0), (345, .iload_n 3, 346, 0), (346, .iconst (1), 347, 0), (347, .iadd, 348, 0), (348, .iaload, 349, 0), (349, .invokevirtual 55, 352, 0), (352, .aload_n 2, 353, 0), (353, .aload_n 0, 354, 0), (354, .iload_n 3, 355, 0), (355, .iconst (1), 356, 0), (356, .iadd, 357, 0), (357, .iaload, 358, 0), (358, .invokevirtual 58, 361, 0), (361, .if_icmp .eq (329), 364, 690), (364, .iconst (0), 365, 0), (365, .ireturn, 366, 0), (366, .aload_n 1, 367, 0), (367, .aload_n 0, 368, 0), (368, .iload_n 3, 369, 0), (369, .iconst (1), 370, 0), (370, .iadd, 371, 0), (371, .iaload, 372, 0), (372, .aload_n 0, 373, 0), (373, .iload_n 3, 374, 0), (374, .iconst (2), 375, 0), (375, .iadd, 376, 0), (376, .iaload, 377, 0), (377, .invokevirtual 59, 380, 0), (380, .aload_n 2, 381, 0), (381, .aload_n 0, 382, 0), (382, .iload_n 3, 383, 0), (383, .iconst (1), 384, 0), (384, .iadd, 385, 0), (385, .iaload, 386, 0), (386, .aload_n 0, 387, 0), (387, .iload_n 3, 388, 0), (388, .iconst (2), 389, 0), (389, .iadd, 390, 0), (390, .iaload, 391, 0), (391, .invokevirtual 63, 394, 0), (394, .lcmp, 395, 0), (395, .ifCond .eq (295), 398, 690), (398, .iconst (0), 399, 0), (399, .ireturn, 400, 0), (400, .aload_n 1, 401, 0), (401, .aload_n 0, 402, 0), (402, .iload_n 3, 403, 0), (403, .iconst (1), 404, 0), (404, .iadd, 405, 0), (405, .iaload, 406, 0), (406, .aload_n 0, 407, 0), (407, .iload_n 3, 408, 0), (408, .iconst (2), 409, 0), (409, .iadd, 410, 0), (410, .iaload, 411, 0), (411, .aload_n 0, 412, 0), (412, .iload_n 3, 413, 0), (413, .iconst (3), 414, 0), (414, .iadd, 415, 0), (415, .iaload, 416, 0), (416, .aload_n 0, 417, 0), (417, .iload_n 3, 418, 0), (418, .iconst (4), 419, 0), (419, .iadd, 420, 0), (420, .iaload, 421, 0), (421, .aload_n 0, 422, 0), (422, .iload_n 3, 423, 0), (423, .iconst (5), 424, 0), (424, .iadd, 425, 0), (425, .iaload, 426, 0), (426, .invokevirtual 64, 429, 0), (429, .aload_n 2, 430, 0), (430, .aload_n 0, 431, 0), (431, .iload_n 3, 432, 0), (432, .iconst (1), 433, 0), (433, .iadd, 434, 0), (434, .iaload, 435, 0), (435, .aload_n 0, 436, 0), (436, .iload_n 3, 437, 0), (437, .iconst (2), 438, 0), (438, .iadd, 439, 0), (439, .iaload, 440, 0), (440, .aload_n 0, 441, 0), (441, .iload_n 3, 442, 0), (442, .iconst (3), 443, 0), (443, .iadd, 444, 0), (444, .iaload, 445, 0), (445, .aload_n 0, 446, 0), (446, .iload_n 3, 447, 0), (447, .iconst (4), 448, 0), (448, .iadd, 449, 0), (449, .iaload, 450, 0), (450, .aload_n 0, 451, 0), (451, .iload_n 3, 452, 0), (452, .iconst (5), 453, 0), (453, .iadd, 454, 0), (454, .iaload, 455, 0), (455, .invokevirtual 68, 458, 0), (458, .if_icmp .eq (232), 461, 690), (461, .iconst (0), 462, 0), (462, .ireturn, 463, 0), (463, .aload_n 1, 464, 0), (464, .aload_n 0, 465, 0), (465, .iload_n 3, 466, 0), (466, .iconst (1), 467, 0), (467, .iadd, 468, 0), (468, .iaload, 469, 0), (469, .invokevirtual 69, 472, 0), (472, .aload_n 2, 473, 0), (473, .aload_n 0, 474, 0), (474, .iload_n 3, 475, 0), (475, .iconst (1), 476, 0), (476, .iadd, 477, 0), (477, .iaload, 478, 0), (478, .invokevirtual 72, 481, 0), (481, .if_icmp .eq (209), 484, 690), (484, .iconst (0), 485, 0), (485, .ireturn, 486, 0), (486, .aload_n 1, 487, 0), (487, .aload_n 0, 488, 0), (488, .iload_n 3, 489, 0), (489, .iconst (1), 490, 0), (490, .iadd, 491, 0), (491, .iaload, 492, 0), (492, .aload_n 0, 493, 0), (493, .iload_n 3, 494, 0), (494, .iconst (2), 495, 0), (495, .iadd, 496, 0), (496, .iaload, 497, 0), (497, .aload_n 0, 498, 0), (498, .iload_n 3, 499, 0), (499, .iconst (3), 500, 0), (500, .iadd, 501, 0), (501, .iaload, 502, 0), (502, .invokevirtual 73, 505, 0), (505, .aload_n 2, 506, 0), (506, .aload_n 0, 507, 0), (507, .iload_n 3, 508, 0), (508, .iconst (1), 509, 0), (509, .iadd, 510, 0), (510, .iaload, 511, 0), (511, .aload_n 0, 512, 0), (512, .iload_n 3, 513, 0), (513, .iconst (2), 514, 0), (514, .iadd, 515, 0), (515, .iaload, 516, 0), (516, .aload_n 0, 517, 0), (517, .iload_n 3, 518, 0), (518, .iconst (3), 519, 0), (519, .iadd, 520, 0), (520, .iaload, 521, 0), (521, .invokevirtual 76, 524, 0), (524, .if_icmp .eq (166), 527, 690), (527, .iconst (0), 528, 0), (528, .ireturn, 529, 0), (529, .aload_n 1, 530, 0), (530, .aload_n 0, 531, 0), (531, .iload_n 3, 532, 0), (532, .iconst (1), 533, 0), (533, .iadd, 534, 0), (534, .iaload, 535, 0), (535, .invokevirtual 77, 538, 0), (538, .aload_n 2, 539, 0), (539, .aload_n 0, 540, 0), (540, .iload_n 3, 541, 0), (541, .iconst (1), 542, 0), (542, .iadd, 543, 0), (543, .iaload, 544, 0), (544, .invokevirtual 80, 547, 0), (547, .if_icmp .eq (143), 550, 690), (550, .iconst (0), 551, 0), (551, .ireturn, 552, 0), (552, .aload_n 1, 553, 0), (553, .aload_n 0, 554, 0), (554, .iload_n 3, 555, 0), (555, .iconst (1), 556, 0), (556, .iadd, 557, 0), (557, .iaload, 558, 0), (558, .invokevirtual 81, 561, 0), (561, .aload_n 2, 562, 0), (562, .aload_n 0, 563, 0), (563, .iload_n 3, 564, 0), (564, .iconst (1), 565, 0), (565, .iadd, 566, 0), (566, .iaload, 567, 0), (567, .invokevirtual 84, 570, 0), (570, .if_icmp .eq (120), 573, 690), (573, .iconst (0), 574, 0), (574, .ireturn, 575, 0), (575, .aload_n 1, 576, 0), (576, .aload_n 0, 577, 0), (577, .iload_n 3, 578, 0), (578, .iconst (1), 579, 0), (579, .iadd, 580, 0), (580, .iaload, 581, 0), (581, .invokevirtual 85, 584, 0), (584, .aload_n 2, 585, 0), (585, .aload_n 0, 586, 0), (586, .iload_n 3, 587, 0), (587, .iconst (1), 588, 0), (588, .iadd, 589, 0), (589, .iaload, 590, 0), (590, .invokevirtual 88, 593, 0), (593, .if_icmp .eq (97), 596, 690), (596, .iconst (0), 597, 0), (597, .ireturn, 598, 0), (598, .aload_n 1, 599, 0), (599, .aload_n 0, 600, 0), (600, .iload_n 3, 601, 0), (601, .iconst (1), 602, 0), (602, .iadd, 603, 0), (603, .iaload, 604, 0), (604, .invokevirtual 89, 607, 0), (607, .aload_n 2, 608, 0), (608, .aload_n 0, 609, 0), (609, .iload_n 3, 610, 0), (610, .iconst (1), 611, 0), (611, .iadd, 612, 0), (612, .iaload, 613, 0), (613, .invokevirtual 92, 616, 0), (616, .if_icmp .eq (74), 619, 690), (619, .iconst (0), 620, 0), (620, .ireturn, 621, 0), (621, .aload_n 1, 622, 0), (622, .aload_n 0, 623, 0), (623, .iload_n 3, 624, 0), (624, .iconst (1), 625, 0), (625, .iadd, 626, 0), (626, .iaload, 627, 0), (627, .aload_n 0, 628, 0), (628, .iload_n 3, 629, 0), (629, .iconst (2), 630, 0), (630, .iadd, 631, 0), (631, .iaload, 632, 0), (632, .invokevirtual 93, 635, 0), (635, .aload_n 2, 636, 0), (636, .aload_n 0, 637, 0), (637, .iload_n 3, 638, 0), (638, .iconst (1), 639, 0), (639, .iadd, 640, 0), (640, .iaload, 641, 0), (641, .aload_n 0, 642, 0), (642, .iload_n 3, 643, 0), (643, .iconst (2), 644, 0), (644, .iadd, 645, 0), (645, .iaload, 646, 0), (646, .invokevirtual 96, 649, 0), (649, .if_icmp .eq (41), 652, 690), (652, .iconst (0), 653, 0), (653, .ireturn, 654, 0), (654, .aload_n 1, 655, 0), (655, .invokevirtual 97, 658, 0), (658, .aload_n 2, 659, 0), (659, .invokevirtual 100, 662, 0), (662, .if_icmp .eq (28), 665, 690), (665, .iconst (0), 666, 0), (666, .ireturn, 667, 0), (667, .aload_n 1, 668, 0), (668, .aload_n 0, 669, 0), (669, .iload_n 3, 670, 0), (670, .iconst (1), 671, 0), (671, .iadd, 672, 0), (672, .iaload, 673, 0), (673, .invokevirtual 101, 676, 0), (676, .aload_n 2, 677, 0), (677, .aload_n 0, 678, 0), (678, .iload_n 3, 679, 0), (679, .iconst (1), 680, 0), (680, .iadd, 681, 0), (681, .iaload, 682, 0), (682, .invokevirtual 104, 685, 0), (685, .if_icmp .eq (5), 688, 690), (688, .iconst (0), 689, 0), (689, .ireturn, 690, 0), (690, .iinc 3 (6), 693, 0), (693, .goto (-645), 696, 48), (696, .iconst (1), 697, 0), (697, .ireturn, 698, 0)]
abbrev pt_m160 : pm_MT := (9, 4, false, (some .boolean), x, code, pt_I160)
def pm_M : List pm_MT := [pt_m0, pt_m1, pt_m2, pt_m3, pt_m4, pt_m5, pt_m6, pt_m7, pt_m8, pt_m9, pt_m10, pt_m11, pt_m12, pt_m13, pt_m14, pt_m15, pt_m16, pt_m17, pt_m18, pt_m19, pt_m20, pt_m21, pt_m22, pt_m23, pt_m24, pt_m25, pt_m26, pt_m27, pt_m28, pt_m29, pt_m30, pt_m31, pt_m32, pt_m33, pt_m34, pt_m35, pt_m36, pt_m37, pt_m38, pt_m39, pt_m40, pt_m41, pt_m42, pt_m43, pt_m44, pt_m45, pt_m46, pt_m47, pt_m48, pt_m49, pt_m50, pt_m51, pt_m52, pt_m53, pt_m54, pt_m55, pt_m56, pt_m57, pt_m58, pt_m59, pt_m60, pt_m61, pt_m62, pt_m63, pt_m64, pt_m65, pt_m66, pt_m67, pt_m68, pt_m69, pt_m70, pt_m71, pt_m72, pt_m73, pt_m74, pt_m75, pt_m76, pt_m77, pt_m78, pt_m79, pt_m80, pt_m81, pt_m82, pt_m83, pt_m84, pt_m85, pt_m86, pt_m87, pt_m88, pt_m89, pt_m90, pt_m91, pt_m92, pt_m93, pt_m94, pt_m95, pt_m96, pt_m97, pt_m98, pt_m99, pt_m100, pt_m101, pt_m102, pt_m103, pt_m104, pt_m105, pt_m106, pt_m107, pt_m108, pt_m109, pt_m110, pt_m111, pt_m112, pt_m113, pt_m114, pt_m115, pt_m116, pt_m117, pt_m118, pt_m119, pt_m120, pt_m121, pt_m122, pt_m123, pt_m124, pt_m125, pt_m126, pt_m127, pt_m128, pt_m129, pt_m130, pt_m131, pt_m132, pt_m133, pt_m134, pt_m135, pt_m136, pt_m137, pt_m138, pt_m139, pt_m140, pt_m141, pt_m142, pt_m143, pt_m144, pt_m145, pt_m146, pt_m147, pt_m148, pt_m149, pt_m150, pt_m151, pt_m152, pt_m153, pt_m154, pt_m155, pt_m156, pt_m157, pt_m158, pt_m159, pt_m160]
def pm_Mo : List pm_MT := [pt_m0, pt_m1, pt_m2, pt_m3, pt_m4, pt_m5, pt_m6, pt_m7, pt_m8, pt_m9, pt_m10, pt_m11, pt_m12, pt_m13, pt_m14, pt_m15, pt_m16, pt_m17, pt_m18, pt_m19, pt_m20, pt_m21, pt_m22, pt_m23, pt_m24, pt_m25, pt_m26, pt_m27, pt_m28, pt_m29, pt_m30, pt_m31, pt_m32, pt_m33, pt_m34, pt_m35, pt_m36, pt_m37, pt_m38, pt_m39, pt_m40, pt_m41, pt_m42, pt_m43, pt_m44, pt_m45, pt_m46, pt_m47, pt_m48, pt_m49, pt_m50, pt_m51, pt_m52, pt_m53, pt_m54, pt_m55, pt_m56, pt_m57, pt_m58, pt_m59, pt_m60, pt_m61, pt_m62, pt_m63, pt_m64, pt_m65, pt_m66, pt_m67, pt_m68, pt_m69, pt_m70, pt_m71, pt_m72, pt_m73, pt_m74, pt_m75, pt_m76, pt_m77, pt_m78, pt_m79, pt_m80, pt_m81, pt_m82, pt_m83, pt_m84, pt_m85, pt_m86, pt_m87, pt_m88, pt_m89, pt_m90, pt_m91, pt_m92, pt_m93, pt_m94, pt_m95, pt_m96, pt_m97, pt_m98, pt_m99, pt_m100, pt_m101, pt_m102, pt_m103, pt_m104, pt_m105, pt_m106, pt_m107, pt_m108, pt_m109, pt_m110, pt_m111, pt_m112, pt_m113, pt_m114, pt_m115, pt_m116, pt_m117, pt_m118, pt_m119, pt_m120, pt_m121, pt_m122, pt_m123, pt_m124, pt_m125, pt_m126, pt_m127, pt_m128, pt_m129, pt_m130, pt_m131, pt_m132, pt_m133, pt_m134, pt_m135, pt_m136, pt_m137, pt_m138, pt_m139, pt_m140, pt_m141, pt_m142, pt_m143, pt_m144, pt_m145, pt_m146, pt_m147, pt_m148, pt_m149, pt_m150, pt_m151, pt_m152, pt_m153, pt_m154, pt_m155, pt_m156, pt_m157, pt_m158, pt_m159]
abbrev pt_mlaw : pm_MT := pt_m160
abbrev pt_law : Nat := 160
end
section
/-! CHECKS of the methods' rows against their bytes, and of their code words; printed by wip/whole/tools/tab.py. -/
theorem pt_k0 : pm_ck pt_m0 = true := by decide +kernel
theorem pt_k1 : pm_ck pt_m1 = true := by decide +kernel
theorem pt_k2 : pm_ck pt_m2 = true := by decide +kernel
theorem pt_k3 : pm_ck pt_m3 = true := by decide +kernel
theorem pt_k4 : pm_ck pt_m4 = true := by decide +kernel
theorem pt_k5 : pm_ck pt_m5 = true := by decide +kernel
theorem pt_k6 : pm_ck pt_m6 = true := by decide +kernel
theorem pt_k7 : pm_ck pt_m7 = true := by decide +kernel
theorem pt_k8 : pm_ck pt_m8 = true := by decide +kernel
theorem pt_k9 : pm_ck pt_m9 = true := by decide +kernel
theorem pt_k10 : pm_ck pt_m10 = true := by decide +kernel
theorem pt_k11 : pm_ck pt_m11 = true := by decide +kernel
theorem pt_k12 : pm_ck pt_m12 = true := by decide +kernel
theorem pt_k13 : pm_ck pt_m13 = true := by decide +kernel
theorem pt_k14 : pm_ck pt_m14 = true := by decide +kernel
theorem pt_k15 : pm_ck pt_m15 = true := by decide +kernel
theorem pt_k16 : pm_ck pt_m16 = true := by decide +kernel
theorem pt_k17 : pm_ck pt_m17 = true := by decide +kernel
theorem pt_k18 : pm_ck pt_m18 = true := by decide +kernel
theorem pt_k19 : pm_ck pt_m19 = true := by decide +kernel
theorem pt_k20 : pm_ck pt_m20 = true := by decide +kernel
theorem pt_k21 : pm_ck pt_m21 = true := by decide +kernel
theorem pt_k22 : pm_ck pt_m22 = true := by decide +kernel
theorem pt_k23 : pm_ck pt_m23 = true := by decide +kernel
theorem pt_k24 : pm_ck pt_m24 = true := by decide +kernel
theorem pt_k25 : pm_ck pt_m25 = true := by decide +kernel
theorem pt_k26 : pm_ck pt_m26 = true := by decide +kernel
theorem pt_k27 : pm_ck pt_m27 = true := by decide +kernel
theorem pt_k28 : pm_ck pt_m28 = true := by decide +kernel
theorem pt_k29 : pm_ck pt_m29 = true := by decide +kernel
theorem pt_k30 : pm_ck pt_m30 = true := by decide +kernel
theorem pt_k31 : pm_ck pt_m31 = true := by decide +kernel
theorem pt_k32 : pm_ck pt_m32 = true := by decide +kernel
theorem pt_k33 : pm_ck pt_m33 = true := by decide +kernel
theorem pt_k34 : pm_ck pt_m34 = true := by decide +kernel
theorem pt_k35 : pm_ck pt_m35 = true := by decide +kernel
theorem pt_k36 : pm_ck pt_m36 = true := by decide +kernel
theorem pt_k37 : pm_ck pt_m37 = true := by decide +kernel
theorem pt_k38 : pm_ck pt_m38 = true := by decide +kernel
theorem pt_k39 : pm_ck pt_m39 = true := by decide +kernel
theorem pt_k40 : pm_ck pt_m40 = true := by decide +kernel
theorem pt_k41 : pm_ck pt_m41 = true := by decide +kernel
theorem pt_k42 : pm_ck pt_m42 = true := by decide +kernel
theorem pt_k43 : pm_ck pt_m43 = true := by decide +kernel
theorem pt_k44 : pm_ck pt_m44 = true := by decide +kernel
theorem pt_k45 : pm_ck pt_m45 = true := by decide +kernel
theorem pt_k46 : pm_ck pt_m46 = true := by decide +kernel
theorem pt_k47 : pm_ck pt_m47 = true := by decide +kernel
theorem pt_k48 : pm_ck pt_m48 = true := by decide +kernel
theorem pt_k49 : pm_ck pt_m49 = true := by decide +kernel
theorem pt_k50 : pm_ck pt_m50 = true := by decide +kernel
theorem pt_k51 : pm_ck pt_m51 = true := by decide +kernel
theorem pt_k52 : pm_ck pt_m52 = true := by decide +kernel
theorem pt_k53 : pm_ck pt_m53 = true := by decide +kernel
theorem pt_k54 : pm_ck pt_m54 = true := by decide +kernel
theorem pt_k55 : pm_ck pt_m55 = true := by decide +kernel
theorem pt_k56 : pm_ck pt_m56 = true := by decide +kernel
theorem pt_k57 : pm_ck pt_m57 = true := by decide +kernel
theorem pt_k58 : pm_ck pt_m58 = true := by decide +kernel
theorem pt_k59 : pm_ck pt_m59 = true := by decide +kernel
theorem pt_k60 : pm_ck pt_m60 = true := by decide +kernel
theorem pt_k61 : pm_ck pt_m61 = true := by decide +kernel
theorem pt_k62 : pm_ck pt_m62 = true := by decide +kernel
theorem pt_k63 : pm_ck pt_m63 = true := by decide +kernel
theorem pt_k64 : pm_ck pt_m64 = true := by decide +kernel
theorem pt_k65 : pm_ck pt_m65 = true := by decide +kernel
theorem pt_k66 : pm_ck pt_m66 = true := by decide +kernel
theorem pt_k67 : pm_ck pt_m67 = true := by decide +kernel
theorem pt_k68 : pm_ck pt_m68 = true := by decide +kernel
theorem pt_k69 : pm_ck pt_m69 = true := by decide +kernel
theorem pt_k70 : pm_ck pt_m70 = true := by decide +kernel
theorem pt_k71 : pm_ck pt_m71 = true := by decide +kernel
theorem pt_k72 : pm_ck pt_m72 = true := by decide +kernel
theorem pt_k73 : pm_ck pt_m73 = true := by decide +kernel
theorem pt_k74 : pm_ck pt_m74 = true := by decide +kernel
theorem pt_k75 : pm_ck pt_m75 = true := by decide +kernel
theorem pt_k76 : pm_ck pt_m76 = true := by decide +kernel
theorem pt_k77 : pm_ck pt_m77 = true := by decide +kernel
theorem pt_k78 : pm_ck pt_m78 = true := by decide +kernel
theorem pt_k79 : pm_ck pt_m79 = true := by decide +kernel
theorem pt_k80 : pm_ck pt_m80 = true := by decide +kernel
theorem pt_k81 : pm_ck pt_m81 = true := by decide +kernel
theorem pt_k82 : pm_ck pt_m82 = true := by decide +kernel
theorem pt_k83 : pm_ck pt_m83 = true := by decide +kernel
theorem pt_k84 : pm_ck pt_m84 = true := by decide +kernel
theorem pt_k85 : pm_ck pt_m85 = true := by decide +kernel
theorem pt_k86 : pm_ck pt_m86 = true := by decide +kernel
theorem pt_k87 : pm_ck pt_m87 = true := by decide +kernel
theorem pt_k88 : pm_ck pt_m88 = true := by decide +kernel
theorem pt_k89 : pm_ck pt_m89 = true := by decide +kernel
theorem pt_k90 : pm_ck pt_m90 = true := by decide +kernel
theorem pt_k91 : pm_ck pt_m91 = true := by decide +kernel
theorem pt_k92 : pm_ck pt_m92 = true := by decide +kernel
theorem pt_k93 : pm_ck pt_m93 = true := by decide +kernel
theorem pt_k94 : pm_ck pt_m94 = true := by decide +kernel
theorem pt_k95 : pm_ck pt_m95 = true := by decide +kernel
theorem pt_k96 : pm_ck pt_m96 = true := by decide +kernel
theorem pt_k97 : pm_ck pt_m97 = true := by decide +kernel
theorem pt_k98 : pm_ck pt_m98 = true := by decide +kernel
theorem pt_k99 : pm_ck pt_m99 = true := by decide +kernel
theorem pt_k100 : pm_ck pt_m100 = true := by decide +kernel
theorem pt_k101 : pm_ck pt_m101 = true := by decide +kernel
theorem pt_k102 : pm_ck pt_m102 = true := by decide +kernel
theorem pt_k103 : pm_ck pt_m103 = true := by decide +kernel
theorem pt_k104 : pm_ck pt_m104 = true := by decide +kernel
theorem pt_k105 : pm_ck pt_m105 = true := by decide +kernel
theorem pt_k106 : pm_ck pt_m106 = true := by decide +kernel
theorem pt_k107 : pm_ck pt_m107 = true := by decide +kernel
theorem pt_k108 : pm_ck pt_m108 = true := by decide +kernel
theorem pt_k109 : pm_ck pt_m109 = true := by decide +kernel
theorem pt_k110 : pm_ck pt_m110 = true := by decide +kernel
theorem pt_k111 : pm_ck pt_m111 = true := by decide +kernel
theorem pt_k112 : pm_ck pt_m112 = true := by decide +kernel
theorem pt_k113 : pm_ck pt_m113 = true := by decide +kernel
theorem pt_k114 : pm_ck pt_m114 = true := by decide +kernel
theorem pt_k115 : pm_ck pt_m115 = true := by decide +kernel
theorem pt_k116 : pm_ck pt_m116 = true := by decide +kernel
theorem pt_k117 : pm_ck pt_m117 = true := by decide +kernel
theorem pt_k118 : pm_ck pt_m118 = true := by decide +kernel
theorem pt_k119 : pm_ck pt_m119 = true := by decide +kernel
theorem pt_k120 : pm_ck pt_m120 = true := by decide +kernel
theorem pt_k121 : pm_ck pt_m121 = true := by decide +kernel
theorem pt_k122 : pm_ck pt_m122 = true := by decide +kernel
theorem pt_k123 : pm_ck pt_m123 = true := by decide +kernel
theorem pt_k124 : pm_ck pt_m124 = true := by decide +kernel
theorem pt_k125 : pm_ck pt_m125 = true := by decide +kernel
theorem pt_k126 : pm_ck pt_m126 = true := by decide +kernel
theorem pt_k127 : pm_ck pt_m127 = true := by decide +kernel
theorem pt_k128 : pm_ck pt_m128 = true := by decide +kernel
theorem pt_k129 : pm_ck pt_m129 = true := by decide +kernel
theorem pt_k130 : pm_ck pt_m130 = true := by decide +kernel
theorem pt_k131 : pm_ck pt_m131 = true := by decide +kernel
theorem pt_k132 : pm_ck pt_m132 = true := by decide +kernel
theorem pt_k133 : pm_ck pt_m133 = true := by decide +kernel
theorem pt_k134 : pm_ck pt_m134 = true := by decide +kernel
theorem pt_k135 : pm_ck pt_m135 = true := by decide +kernel
theorem pt_k136 : pm_ck pt_m136 = true := by decide +kernel
theorem pt_k137 : pm_ck pt_m137 = true := by decide +kernel
theorem pt_k138 : pm_ck pt_m138 = true := by decide +kernel
theorem pt_k139 : pm_ck pt_m139 = true := by decide +kernel
theorem pt_k140 : pm_ck pt_m140 = true := by decide +kernel
theorem pt_k141 : pm_ck pt_m141 = true := by decide +kernel
theorem pt_k142 : pm_ck pt_m142 = true := by decide +kernel
theorem pt_k143 : pm_ck pt_m143 = true := by decide +kernel
theorem pt_k144 : pm_ck pt_m144 = true := by decide +kernel
theorem pt_k145 : pm_ck pt_m145 = true := by decide +kernel
theorem pt_k146 : pm_ck pt_m146 = true := by decide +kernel
theorem pt_k147 : pm_ck pt_m147 = true := by decide +kernel
theorem pt_k148 : pm_ck pt_m148 = true := by decide +kernel
theorem pt_k149 : pm_ck pt_m149 = true := by decide +kernel
theorem pt_k150 : pm_ck pt_m150 = true := by decide +kernel
theorem pt_k151 : pm_ck pt_m151 = true := by decide +kernel
theorem pt_k152 : pm_ck pt_m152 = true := by decide +kernel
theorem pt_k153 : pm_ck pt_m153 = true := by decide +kernel
theorem pt_k154 : pm_ck pt_m154 = true := by decide +kernel
theorem pt_k155 : pm_ck pt_m155 = true := by decide +kernel
theorem pt_k156 : pm_ck pt_m156 = true := by decide +kernel
theorem pt_k157 : pm_ck pt_m157 = true := by decide +kernel
theorem pt_k158 : pm_ck pt_m158 = true := by decide +kernel
theorem pt_k159 : pm_ck pt_m159 = true := by decide +kernel
theorem pt_k160 : pm_ck pt_m160 = true := by decide +kernel
theorem pt_kall : ∀ r ∈ pm_M, pm_ck r = true := pm_ck_all pt_k0 (pm_ck_all pt_k1 (pm_ck_all pt_k2 (pm_ck_all pt_k3 (pm_ck_all pt_k4 (pm_ck_all pt_k5 (pm_ck_all pt_k6 (pm_ck_all pt_k7 (pm_ck_all pt_k8 (pm_ck_all pt_k9 (pm_ck_all pt_k10 (pm_ck_all pt_k11 (pm_ck_all pt_k12 (pm_ck_all pt_k13 (pm_ck_all pt_k14 (pm_ck_all pt_k15 (pm_ck_all pt_k16 (pm_ck_all pt_k17 (pm_ck_all pt_k18 (pm_ck_all pt_k19 (pm_ck_all pt_k20 (pm_ck_all pt_k21 (pm_ck_all pt_k22 (pm_ck_all pt_k23 (pm_ck_all pt_k24 (pm_ck_all pt_k25 (pm_ck_all pt_k26 (pm_ck_all pt_k27 (pm_ck_all pt_k28 (pm_ck_all pt_k29 (pm_ck_all pt_k30 (pm_ck_all pt_k31 (pm_ck_all pt_k32 (pm_ck_all pt_k33 (pm_ck_all pt_k34 (pm_ck_all pt_k35 (pm_ck_all pt_k36 (pm_ck_all pt_k37 (pm_ck_all pt_k38 (pm_ck_all pt_k39 (pm_ck_all pt_k40 (pm_ck_all pt_k41 (pm_ck_all pt_k42 (pm_ck_all pt_k43 (pm_ck_all pt_k44 (pm_ck_all pt_k45 (pm_ck_all pt_k46 (pm_ck_all pt_k47 (pm_ck_all pt_k48 (pm_ck_all pt_k49 (pm_ck_all pt_k50 (pm_ck_all pt_k51 (pm_ck_all pt_k52 (pm_ck_all pt_k53 (pm_ck_all pt_k54 (pm_ck_all pt_k55 (pm_ck_all pt_k56 (pm_ck_all pt_k57 (pm_ck_all pt_k58 (pm_ck_all pt_k59 (pm_ck_all pt_k60 (pm_ck_all pt_k61 (pm_ck_all pt_k62 (pm_ck_all pt_k63 (pm_ck_all pt_k64 (pm_ck_all pt_k65 (pm_ck_all pt_k66 (pm_ck_all pt_k67 (pm_ck_all pt_k68 (pm_ck_all pt_k69 (pm_ck_all pt_k70 (pm_ck_all pt_k71 (pm_ck_all pt_k72 (pm_ck_all pt_k73 (pm_ck_all pt_k74 (pm_ck_all pt_k75 (pm_ck_all pt_k76 (pm_ck_all pt_k77 (pm_ck_all pt_k78 (pm_ck_all pt_k79 (pm_ck_all pt_k80 (pm_ck_all pt_k81 (pm_ck_all pt_k82 (pm_ck_all pt_k83 (pm_ck_all pt_k84 (pm_ck_all pt_k85 (pm_ck_all pt_k86 (pm_ck_all pt_k87 (pm_ck_all pt_k88 (pm_ck_all pt_k89 (pm_ck_all pt_k90 (pm_ck_all pt_k91 (pm_ck_all pt_k92 (pm_ck_all pt_k93 (pm_ck_all pt_k94 (pm_ck_all pt_k95 (pm_ck_all pt_k96 (pm_ck_all pt_k97 (pm_ck_all pt_k98 (pm_ck_all pt_k99 (pm_ck_all pt_k100 (pm_ck_all pt_k101 (pm_ck_all pt_k102 (pm_ck_all pt_k103 (pm_ck_all pt_k104 (pm_ck_all pt_k105 (pm_ck_all pt_k106 (pm_ck_all pt_k107 (pm_ck_all pt_k108 (pm_ck_all pt_k109 (pm_ck_all pt_k110 (pm_ck_all pt_k111 (pm_ck_all pt_k112 (pm_ck_all pt_k113 (pm_ck_all pt_k114 (pm_ck_all pt_k115 (pm_ck_all pt_k116 (pm_ck_all pt_k117 (pm_ck_all pt_k118 (pm_ck_all pt_k119 (pm_ck_all pt_k120 (pm_ck_all pt_k121 (pm_ck_all pt_k122 (pm_ck_all pt_k123 (pm_ck_all pt_k124 (pm_ck_all pt_k125 (pm_ck_all pt_k126 (pm_ck_all pt_k127 (pm_ck_all pt_k128 (pm_ck_all pt_k129 (pm_ck_all pt_k130 (pm_ck_all pt_k131 (pm_ck_all pt_k132 (pm_ck_all pt_k133 (pm_ck_all pt_k134 (pm_ck_all pt_k135 (pm_ck_all pt_k136 (pm_ck_all pt_k137 (pm_ck_all pt_k138 (pm_ck_all pt_k139 (pm_ck_all pt_k140 (pm_ck_all pt_k141 (pm_ck_all pt_k142 (pm_ck_all pt_k143 (pm_ck_all pt_k144 (pm_ck_all pt_k145 (pm_ck_all pt_k146 (pm_ck_all pt_k147 (pm_ck_all pt_k148 (pm_ck_all pt_k149 (pm_ck_all pt_k150 (pm_ck_all pt_k151 (pm_ck_all pt_k152 (pm_ck_all pt_k153 (pm_ck_all pt_k154 (pm_ck_all pt_k155 (pm_ck_all pt_k156 (pm_ck_all pt_k157 (pm_ck_all pt_k158 (pm_ck_all pt_k159 (pm_ck_all pt_k160 (pm_ck_nil)))))))))))))))))))))))))))))))))))))))))))))))))))))))))))))))))))))))))))))))))))))))))))))))))))))))))))))))))))))))))))))))))))))))))))))))))))))))))))))))))
end
section
/-! CODE WORDS of the methods in the tables; printed by wip/whole/tools/tab.py. -/
def pm_cwp (r : pm_MT) : Prop := Cond.code r.2.2.2.2.1 r.2.2.2.2.2.1 r.2.1 r.2.2.2.1 ∈ lw_tbl
theorem pm_cw_all {l : List pm_MT} {r : pm_MT} (h : pm_cwp r) (k : ∀ x ∈ l, pm_cwp x) : ∀ x ∈ r :: l, pm_cwp x := by
  intro x hx
  rcases List.mem_cons.mp hx with rfl | hx
  · exact h
  · exact k x hx
set_option maxRecDepth 100000 in
theorem pt_w0 : pm_cwp pt_m0 := List.mem_of_getElem? (i := 61) (by rfl)
set_option maxRecDepth 100000 in
theorem pt_w1 : pm_cwp pt_m1 := List.mem_of_getElem? (i := 204) (by rfl)
set_option maxRecDepth 100000 in
theorem pt_w2 : pm_cwp pt_m2 := List.mem_of_getElem? (i := 255) (by rfl)
set_option maxRecDepth 100000 in
theorem pt_w3 : pm_cwp pt_m3 := List.mem_of_getElem? (i := 277) (by rfl)
set_option maxRecDepth 100000 in
theorem pt_w4 : pm_cwp pt_m4 := List.mem_of_getElem? (i := 289) (by rfl)
set_option maxRecDepth 100000 in
theorem pt_w5 : pm_cwp pt_m5 := List.mem_of_getElem? (i := 305) (by rfl)
set_option maxRecDepth 100000 in
theorem pt_w6 : pm_cwp pt_m6 := List.mem_of_getElem? (i := 437) (by rfl)
set_option maxRecDepth 100000 in
theorem pt_w7 : pm_cwp pt_m7 := List.mem_of_getElem? (i := 441) (by rfl)
set_option maxRecDepth 100000 in
theorem pt_w8 : pm_cwp pt_m8 := List.mem_of_getElem? (i := 454) (by rfl)
set_option maxRecDepth 100000 in
theorem pt_w9 : pm_cwp pt_m9 := List.mem_of_getElem? (i := 475) (by rfl)
set_option maxRecDepth 100000 in
theorem pt_w10 : pm_cwp pt_m10 := List.mem_of_getElem? (i := 483) (by rfl)
set_option maxRecDepth 100000 in
theorem pt_w11 : pm_cwp pt_m11 := List.mem_of_getElem? (i := 494) (by rfl)
set_option maxRecDepth 100000 in
theorem pt_w12 : pm_cwp pt_m12 := List.mem_of_getElem? (i := 511) (by rfl)
set_option maxRecDepth 100000 in
theorem pt_w13 : pm_cwp pt_m13 := List.mem_of_getElem? (i := 515) (by rfl)
set_option maxRecDepth 100000 in
theorem pt_w14 : pm_cwp pt_m14 := List.mem_of_getElem? (i := 519) (by rfl)
set_option maxRecDepth 100000 in
theorem pt_w15 : pm_cwp pt_m15 := List.mem_of_getElem? (i := 565) (by rfl)
set_option maxRecDepth 100000 in
theorem pt_w16 : pm_cwp pt_m16 := List.mem_of_getElem? (i := 569) (by rfl)
set_option maxRecDepth 100000 in
theorem pt_w17 : pm_cwp pt_m17 := List.mem_of_getElem? (i := 575) (by rfl)
set_option maxRecDepth 100000 in
theorem pt_w18 : pm_cwp pt_m18 := List.mem_of_getElem? (i := 583) (by rfl)
set_option maxRecDepth 100000 in
theorem pt_w19 : pm_cwp pt_m19 := List.mem_of_getElem? (i := 657) (by rfl)
set_option maxRecDepth 100000 in
theorem pt_w20 : pm_cwp pt_m20 := List.mem_of_getElem? (i := 490) (by rfl)
set_option maxRecDepth 100000 in
theorem pt_w21 : pm_cwp pt_m21 := List.mem_of_getElem? (i := 497) (by rfl)
set_option maxRecDepth 100000 in
theorem pt_w22 : pm_cwp pt_m22 := List.mem_of_getElem? (i := 313) (by rfl)
set_option maxRecDepth 100000 in
theorem pt_w23 : pm_cwp pt_m23 := List.mem_of_getElem? (i := 309) (by rfl)
set_option maxRecDepth 100000 in
theorem pt_w24 : pm_cwp pt_m24 := List.mem_of_getElem? (i := 662) (by rfl)
set_option maxRecDepth 100000 in
theorem pt_w25 : pm_cwp pt_m25 := List.mem_of_getElem? (i := 449) (by rfl)
set_option maxRecDepth 100000 in
theorem pt_w26 : pm_cwp pt_m26 := List.mem_of_getElem? (i := 384) (by rfl)
set_option maxRecDepth 100000 in
theorem pt_w27 : pm_cwp pt_m27 := List.mem_of_getElem? (i := 405) (by rfl)
set_option maxRecDepth 100000 in
theorem pt_w28 : pm_cwp pt_m28 := List.mem_of_getElem? (i := 524) (by rfl)
set_option maxRecDepth 100000 in
theorem pt_w29 : pm_cwp pt_m29 := List.mem_of_getElem? (i := 528) (by rfl)
set_option maxRecDepth 100000 in
theorem pt_w30 : pm_cwp pt_m30 := List.mem_of_getElem? (i := 538) (by rfl)
set_option maxRecDepth 100000 in
theorem pt_w31 : pm_cwp pt_m31 := List.mem_of_getElem? (i := 549) (by rfl)
set_option maxRecDepth 100000 in
theorem pt_w32 : pm_cwp pt_m32 := List.mem_of_getElem? (i := 561) (by rfl)
set_option maxRecDepth 100000 in
theorem pt_w33 : pm_cwp pt_m33 := List.mem_of_getElem? (i := 110) (by rfl)
set_option maxRecDepth 100000 in
theorem pt_w34 : pm_cwp pt_m34 := List.mem_of_getElem? (i := 264) (by rfl)
set_option maxRecDepth 100000 in
theorem pt_w35 : pm_cwp pt_m35 := List.mem_of_getElem? (i := 285) (by rfl)
set_option maxRecDepth 100000 in
theorem pt_w36 : pm_cwp pt_m36 := List.mem_of_getElem? (i := 342) (by rfl)
set_option maxRecDepth 100000 in
theorem pt_w37 : pm_cwp pt_m37 := List.mem_of_getElem? (i := 281) (by rfl)
set_option maxRecDepth 100000 in
theorem pt_w38 : pm_cwp pt_m38 := List.mem_of_getElem? (i := 273) (by rfl)
set_option maxRecDepth 100000 in
theorem pt_w39 : pm_cwp pt_m39 := List.mem_of_getElem? (i := 338) (by rfl)
set_option maxRecDepth 100000 in
theorem pt_w40 : pm_cwp pt_m40 := List.mem_of_getElem? (i := 579) (by rfl)
set_option maxRecDepth 100000 in
theorem pt_w41 : pm_cwp pt_m41 := List.mem_of_getElem? (i := 251) (by rfl)
set_option maxRecDepth 100000 in
theorem pt_w42 : pm_cwp pt_m42 := List.mem_of_getElem? (i := 371) (by rfl)
set_option maxRecDepth 100000 in
theorem pt_w43 : pm_cwp pt_m43 := List.mem_of_getElem? (i := 69) (by rfl)
set_option maxRecDepth 100000 in
theorem pt_w44 : pm_cwp pt_m44 := List.mem_of_getElem? (i := 347) (by rfl)
set_option maxRecDepth 100000 in
theorem pt_w45 : pm_cwp pt_m45 := List.mem_of_getElem? (i := 356) (by rfl)
set_option maxRecDepth 100000 in
theorem pt_w46 : pm_cwp pt_m46 := List.mem_of_getElem? (i := 359) (by rfl)
set_option maxRecDepth 100000 in
theorem pt_w47 : pm_cwp pt_m47 := List.mem_of_getElem? (i := 363) (by rfl)
set_option maxRecDepth 100000 in
theorem pt_w48 : pm_cwp pt_m48 := List.mem_of_getElem? (i := 367) (by rfl)
set_option maxRecDepth 100000 in
theorem pt_w49 : pm_cwp pt_m49 := List.mem_of_getElem? (i := 86) (by rfl)
set_option maxRecDepth 100000 in
theorem pt_w50 : pm_cwp pt_m50 := List.mem_of_getElem? (i := 317) (by rfl)
set_option maxRecDepth 100000 in
theorem pt_w51 : pm_cwp pt_m51 := List.mem_of_getElem? (i := 392) (by rfl)
set_option maxRecDepth 100000 in
theorem pt_w52 : pm_cwp pt_m52 := List.mem_of_getElem? (i := 413) (by rfl)
set_option maxRecDepth 100000 in
theorem pt_w53 : pm_cwp pt_m53 := List.mem_of_getElem? (i := 409) (by rfl)
set_option maxRecDepth 100000 in
theorem pt_w54 : pm_cwp pt_m54 := List.mem_of_getElem? (i := 417) (by rfl)
set_option maxRecDepth 100000 in
theorem pt_w55 : pm_cwp pt_m55 := List.mem_of_getElem? (i := 388) (by rfl)
set_option maxRecDepth 100000 in
theorem pt_w56 : pm_cwp pt_m56 := List.mem_of_getElem? (i := 376) (by rfl)
set_option maxRecDepth 100000 in
theorem pt_w57 : pm_cwp pt_m57 := List.mem_of_getElem? (i := 351) (by rfl)
set_option maxRecDepth 100000 in
theorem pt_w58 : pm_cwp pt_m58 := List.mem_of_getElem? (i := 400) (by rfl)
set_option maxRecDepth 100000 in
theorem pt_w59 : pm_cwp pt_m59 := List.mem_of_getElem? (i := 532) (by rfl)
set_option maxRecDepth 100000 in
theorem pt_w60 : pm_cwp pt_m60 := List.mem_of_getElem? (i := 458) (by rfl)
set_option maxRecDepth 100000 in
theorem pt_w61 : pm_cwp pt_m61 := List.mem_of_getElem? (i := 468) (by rfl)
set_option maxRecDepth 100000 in
theorem pt_w62 : pm_cwp pt_m62 := List.mem_of_getElem? (i := 471) (by rfl)
set_option maxRecDepth 100000 in
theorem pt_w63 : pm_cwp pt_m63 := List.mem_of_getElem? (i := 103) (by rfl)
set_option maxRecDepth 100000 in
theorem pt_w64 : pm_cwp pt_m64 := List.mem_of_getElem? (i := 380) (by rfl)
set_option maxRecDepth 100000 in
theorem pt_w65 : pm_cwp pt_m65 := List.mem_of_getElem? (i := 445) (by rfl)
set_option maxRecDepth 100000 in
theorem pt_w66 : pm_cwp pt_m66 := List.mem_of_getElem? (i := 396) (by rfl)
set_option maxRecDepth 100000 in
theorem pt_w67 : pm_cwp pt_m67 := List.mem_of_getElem? (i := 487) (by rfl)
set_option maxRecDepth 100000 in
theorem pt_w68 : pm_cwp pt_m68 := List.mem_of_getElem? (i := 542) (by rfl)
set_option maxRecDepth 100000 in
theorem pt_w69 : pm_cwp pt_m69 := List.mem_of_getElem? (i := 422) (by rfl)
set_option maxRecDepth 100000 in
theorem pt_w70 : pm_cwp pt_m70 := List.mem_of_getElem? (i := 427) (by rfl)
set_option maxRecDepth 100000 in
theorem pt_w71 : pm_cwp pt_m71 := List.mem_of_getElem? (i := 431) (by rfl)
set_option maxRecDepth 100000 in
theorem pt_w72 : pm_cwp pt_m72 := List.mem_of_getElem? (i := 666) (by rfl)
set_option maxRecDepth 100000 in
theorem pt_w73 : pm_cwp pt_m73 := List.mem_of_getElem? (i := 134) (by rfl)
set_option maxRecDepth 100000 in
theorem pt_w74 : pm_cwp pt_m74 := List.mem_of_getElem? (i := 501) (by rfl)
set_option maxRecDepth 100000 in
theorem pt_w75 : pm_cwp pt_m75 := List.mem_of_getElem? (i := 505) (by rfl)
set_option maxRecDepth 100000 in
theorem pt_w76 : pm_cwp pt_m76 := List.mem_of_getElem? (i := 553) (by rfl)
set_option maxRecDepth 100000 in
theorem pt_w77 : pm_cwp pt_m77 := List.mem_of_getElem? (i := 153) (by rfl)
set_option maxRecDepth 100000 in
theorem pt_w78 : pm_cwp pt_m78 := List.mem_of_getElem? (i := 210) (by rfl)
set_option maxRecDepth 100000 in
theorem pt_w79 : pm_cwp pt_m79 := List.mem_of_getElem? (i := 213) (by rfl)
set_option maxRecDepth 100000 in
theorem pt_w80 : pm_cwp pt_m80 := List.mem_of_getElem? (i := 207) (by rfl)
set_option maxRecDepth 100000 in
theorem pt_w81 : pm_cwp pt_m81 := List.mem_of_getElem? (i := 235) (by rfl)
set_option maxRecDepth 100000 in
theorem pt_w82 : pm_cwp pt_m82 := List.mem_of_getElem? (i := 216) (by rfl)
set_option maxRecDepth 100000 in
theorem pt_w83 : pm_cwp pt_m83 := List.mem_of_getElem? (i := 610) (by rfl)
set_option maxRecDepth 100000 in
theorem pt_w84 : pm_cwp pt_m84 := List.mem_of_getElem? (i := 223) (by rfl)
set_option maxRecDepth 100000 in
theorem pt_w85 : pm_cwp pt_m85 := List.mem_of_getElem? (i := 239) (by rfl)
set_option maxRecDepth 100000 in
theorem pt_w86 : pm_cwp pt_m86 := List.mem_of_getElem? (i := 259) (by rfl)
set_option maxRecDepth 100000 in
theorem pt_w87 : pm_cwp pt_m87 := List.mem_of_getElem? (i := 644) (by rfl)
set_option maxRecDepth 100000 in
theorem pt_w88 : pm_cwp pt_m88 := List.mem_of_getElem? (i := 301) (by rfl)
set_option maxRecDepth 100000 in
theorem pt_w89 : pm_cwp pt_m89 := List.mem_of_getElem? (i := 228) (by rfl)
set_option maxRecDepth 100000 in
theorem pt_w90 : pm_cwp pt_m90 := List.mem_of_getElem? (i := 330) (by rfl)
set_option maxRecDepth 100000 in
theorem pt_w91 : pm_cwp pt_m91 := List.mem_of_getElem? (i := 639) (by rfl)
set_option maxRecDepth 100000 in
theorem pt_w92 : pm_cwp pt_m92 := List.mem_of_getElem? (i := 627) (by rfl)
set_option maxRecDepth 100000 in
theorem pt_w93 : pm_cwp pt_m93 := List.mem_of_getElem? (i := 247) (by rfl)
set_option maxRecDepth 100000 in
theorem pt_w94 : pm_cwp pt_m94 := List.mem_of_getElem? (i := 293) (by rfl)
set_option maxRecDepth 100000 in
theorem pt_w95 : pm_cwp pt_m95 := List.mem_of_getElem? (i := 623) (by rfl)
set_option maxRecDepth 100000 in
theorem pt_w96 : pm_cwp pt_m96 := List.mem_of_getElem? (i := 268) (by rfl)
set_option maxRecDepth 100000 in
theorem pt_w97 : pm_cwp pt_m97 := List.mem_of_getElem? (i := 321) (by rfl)
set_option maxRecDepth 100000 in
theorem pt_w98 : pm_cwp pt_m98 := List.mem_of_getElem? (i := 334) (by rfl)
set_option maxRecDepth 100000 in
theorem pt_w99 : pm_cwp pt_m99 := List.mem_of_getElem? (i := 325) (by rfl)
set_option maxRecDepth 100000 in
theorem pt_w100 : pm_cwp pt_m100 := List.mem_of_getElem? (i := 232) (by rfl)
set_option maxRecDepth 100000 in
theorem pt_w101 : pm_cwp pt_m101 := List.mem_of_getElem? (i := 297) (by rfl)
set_option maxRecDepth 100000 in
theorem pt_w102 : pm_cwp pt_m102 := List.mem_of_getElem? (i := 242) (by rfl)
set_option maxRecDepth 100000 in
theorem pt_w103 : pm_cwp pt_m103 := List.mem_of_getElem? (i := 588) (by rfl)
set_option maxRecDepth 100000 in
theorem pt_w104 : pm_cwp pt_m104 := List.mem_of_getElem? (i := 606) (by rfl)
set_option maxRecDepth 100000 in
theorem pt_w105 : pm_cwp pt_m105 := List.mem_of_getElem? (i := 615) (by rfl)
set_option maxRecDepth 100000 in
theorem pt_w106 : pm_cwp pt_m106 := List.mem_of_getElem? (i := 619) (by rfl)
set_option maxRecDepth 100000 in
theorem pt_w107 : pm_cwp pt_m107 := List.mem_of_getElem? (i := 648) (by rfl)
set_option maxRecDepth 100000 in
theorem pt_w108 : pm_cwp pt_m108 := List.mem_of_getElem? (i := 632) (by rfl)
set_option maxRecDepth 100000 in
theorem pt_w109 : pm_cwp pt_m109 := List.mem_of_getElem? (i := 674) (by rfl)
set_option maxRecDepth 100000 in
theorem pt_w110 : pm_cwp pt_m110 := List.mem_of_getElem? (i := 762) (by rfl)
set_option maxRecDepth 100000 in
theorem pt_w111 : pm_cwp pt_m111 := List.mem_of_getElem? (i := 759) (by rfl)
set_option maxRecDepth 100000 in
theorem pt_w112 : pm_cwp pt_m112 := List.mem_of_getElem? (i := 769) (by rfl)
set_option maxRecDepth 100000 in
theorem pt_w113 : pm_cwp pt_m113 := List.mem_of_getElem? (i := 804) (by rfl)
set_option maxRecDepth 100000 in
theorem pt_w114 : pm_cwp pt_m114 := List.mem_of_getElem? (i := 766) (by rfl)
set_option maxRecDepth 100000 in
theorem pt_w115 : pm_cwp pt_m115 := List.mem_of_getElem? (i := 948) (by rfl)
set_option maxRecDepth 100000 in
theorem pt_w116 : pm_cwp pt_m116 := List.mem_of_getElem? (i := 781) (by rfl)
set_option maxRecDepth 100000 in
theorem pt_w117 : pm_cwp pt_m117 := List.mem_of_getElem? (i := 777) (by rfl)
set_option maxRecDepth 100000 in
theorem pt_w118 : pm_cwp pt_m118 := List.mem_of_getElem? (i := 756) (by rfl)
set_option maxRecDepth 100000 in
theorem pt_w119 : pm_cwp pt_m119 := List.mem_of_getElem? (i := 773) (by rfl)
set_option maxRecDepth 100000 in
theorem pt_w120 : pm_cwp pt_m120 := List.mem_of_getElem? (i := 785) (by rfl)
set_option maxRecDepth 100000 in
theorem pt_w121 : pm_cwp pt_m121 := List.mem_of_getElem? (i := 789) (by rfl)
set_option maxRecDepth 100000 in
theorem pt_w122 : pm_cwp pt_m122 := List.mem_of_getElem? (i := 801) (by rfl)
set_option maxRecDepth 100000 in
theorem pt_w123 : pm_cwp pt_m123 := List.mem_of_getElem? (i := 808) (by rfl)
set_option maxRecDepth 100000 in
theorem pt_w124 : pm_cwp pt_m124 := List.mem_of_getElem? (i := 797) (by rfl)
set_option maxRecDepth 100000 in
theorem pt_w125 : pm_cwp pt_m125 := List.mem_of_getElem? (i := 812) (by rfl)
set_option maxRecDepth 100000 in
theorem pt_w126 : pm_cwp pt_m126 := List.mem_of_getElem? (i := 824) (by rfl)
set_option maxRecDepth 100000 in
theorem pt_w127 : pm_cwp pt_m127 := List.mem_of_getElem? (i := 828) (by rfl)
set_option maxRecDepth 100000 in
theorem pt_w128 : pm_cwp pt_m128 := List.mem_of_getElem? (i := 820) (by rfl)
set_option maxRecDepth 100000 in
theorem pt_w129 : pm_cwp pt_m129 := List.mem_of_getElem? (i := 832) (by rfl)
set_option maxRecDepth 100000 in
theorem pt_w130 : pm_cwp pt_m130 := List.mem_of_getElem? (i := 816) (by rfl)
set_option maxRecDepth 100000 in
theorem pt_w131 : pm_cwp pt_m131 := List.mem_of_getElem? (i := 837) (by rfl)
set_option maxRecDepth 100000 in
theorem pt_w132 : pm_cwp pt_m132 := List.mem_of_getElem? (i := 904) (by rfl)
set_option maxRecDepth 100000 in
theorem pt_w133 : pm_cwp pt_m133 := List.mem_of_getElem? (i := 841) (by rfl)
set_option maxRecDepth 100000 in
theorem pt_w134 : pm_cwp pt_m134 := List.mem_of_getElem? (i := 861) (by rfl)
set_option maxRecDepth 100000 in
theorem pt_w135 : pm_cwp pt_m135 := List.mem_of_getElem? (i := 908) (by rfl)
set_option maxRecDepth 100000 in
theorem pt_w136 : pm_cwp pt_m136 := List.mem_of_getElem? (i := 849) (by rfl)
set_option maxRecDepth 100000 in
theorem pt_w137 : pm_cwp pt_m137 := List.mem_of_getElem? (i := 793) (by rfl)
set_option maxRecDepth 100000 in
theorem pt_w138 : pm_cwp pt_m138 := List.mem_of_getElem? (i := 845) (by rfl)
set_option maxRecDepth 100000 in
theorem pt_w139 : pm_cwp pt_m139 := List.mem_of_getElem? (i := 857) (by rfl)
set_option maxRecDepth 100000 in
theorem pt_w140 : pm_cwp pt_m140 := List.mem_of_getElem? (i := 853) (by rfl)
set_option maxRecDepth 100000 in
theorem pt_w141 : pm_cwp pt_m141 := List.mem_of_getElem? (i := 865) (by rfl)
set_option maxRecDepth 100000 in
theorem pt_w142 : pm_cwp pt_m142 := List.mem_of_getElem? (i := 873) (by rfl)
set_option maxRecDepth 100000 in
theorem pt_w143 : pm_cwp pt_m143 := List.mem_of_getElem? (i := 869) (by rfl)
set_option maxRecDepth 100000 in
theorem pt_w144 : pm_cwp pt_m144 := List.mem_of_getElem? (i := 880) (by rfl)
set_option maxRecDepth 100000 in
theorem pt_w145 : pm_cwp pt_m145 := List.mem_of_getElem? (i := 884) (by rfl)
set_option maxRecDepth 100000 in
theorem pt_w146 : pm_cwp pt_m146 := List.mem_of_getElem? (i := 888) (by rfl)
set_option maxRecDepth 100000 in
theorem pt_w147 : pm_cwp pt_m147 := List.mem_of_getElem? (i := 892) (by rfl)
set_option maxRecDepth 100000 in
theorem pt_w148 : pm_cwp pt_m148 := List.mem_of_getElem? (i := 900) (by rfl)
set_option maxRecDepth 100000 in
theorem pt_w149 : pm_cwp pt_m149 := List.mem_of_getElem? (i := 896) (by rfl)
set_option maxRecDepth 100000 in
theorem pt_w150 : pm_cwp pt_m150 := List.mem_of_getElem? (i := 912) (by rfl)
set_option maxRecDepth 100000 in
theorem pt_w151 : pm_cwp pt_m151 := List.mem_of_getElem? (i := 928) (by rfl)
set_option maxRecDepth 100000 in
theorem pt_w152 : pm_cwp pt_m152 := List.mem_of_getElem? (i := 916) (by rfl)
set_option maxRecDepth 100000 in
theorem pt_w153 : pm_cwp pt_m153 := List.mem_of_getElem? (i := 920) (by rfl)
set_option maxRecDepth 100000 in
theorem pt_w154 : pm_cwp pt_m154 := List.mem_of_getElem? (i := 936) (by rfl)
set_option maxRecDepth 100000 in
theorem pt_w155 : pm_cwp pt_m155 := List.mem_of_getElem? (i := 932) (by rfl)
set_option maxRecDepth 100000 in
theorem pt_w156 : pm_cwp pt_m156 := List.mem_of_getElem? (i := 924) (by rfl)
set_option maxRecDepth 100000 in
theorem pt_w157 : pm_cwp pt_m157 := List.mem_of_getElem? (i := 940) (by rfl)
set_option maxRecDepth 100000 in
theorem pt_w158 : pm_cwp pt_m158 := List.mem_of_getElem? (i := 944) (by rfl)
set_option maxRecDepth 100000 in
theorem pt_w159 : pm_cwp pt_m159 := List.mem_of_getElem? (i := 669) (by rfl)
theorem pm_cw_nil : ∀ x ∈ ([] : List pm_MT), pm_cwp x := by
  intro x hx
  cases hx
theorem pt_wall : ∀ r ∈ pm_Mo, pm_cwp r := pm_cw_all pt_w0 (pm_cw_all pt_w1 (pm_cw_all pt_w2 (pm_cw_all pt_w3 (pm_cw_all pt_w4 (pm_cw_all pt_w5 (pm_cw_all pt_w6 (pm_cw_all pt_w7 (pm_cw_all pt_w8 (pm_cw_all pt_w9 (pm_cw_all pt_w10 (pm_cw_all pt_w11 (pm_cw_all pt_w12 (pm_cw_all pt_w13 (pm_cw_all pt_w14 (pm_cw_all pt_w15 (pm_cw_all pt_w16 (pm_cw_all pt_w17 (pm_cw_all pt_w18 (pm_cw_all pt_w19 (pm_cw_all pt_w20 (pm_cw_all pt_w21 (pm_cw_all pt_w22 (pm_cw_all pt_w23 (pm_cw_all pt_w24 (pm_cw_all pt_w25 (pm_cw_all pt_w26 (pm_cw_all pt_w27 (pm_cw_all pt_w28 (pm_cw_all pt_w29 (pm_cw_all pt_w30 (pm_cw_all pt_w31 (pm_cw_all pt_w32 (pm_cw_all pt_w33 (pm_cw_all pt_w34 (pm_cw_all pt_w35 (pm_cw_all pt_w36 (pm_cw_all pt_w37 (pm_cw_all pt_w38 (pm_cw_all pt_w39 (pm_cw_all pt_w40 (pm_cw_all pt_w41 (pm_cw_all pt_w42 (pm_cw_all pt_w43 (pm_cw_all pt_w44 (pm_cw_all pt_w45 (pm_cw_all pt_w46 (pm_cw_all pt_w47 (pm_cw_all pt_w48 (pm_cw_all pt_w49 (pm_cw_all pt_w50 (pm_cw_all pt_w51 (pm_cw_all pt_w52 (pm_cw_all pt_w53 (pm_cw_all pt_w54 (pm_cw_all pt_w55 (pm_cw_all pt_w56 (pm_cw_all pt_w57 (pm_cw_all pt_w58 (pm_cw_all pt_w59 (pm_cw_all pt_w60 (pm_cw_all pt_w61 (pm_cw_all pt_w62 (pm_cw_all pt_w63 (pm_cw_all pt_w64 (pm_cw_all pt_w65 (pm_cw_all pt_w66 (pm_cw_all pt_w67 (pm_cw_all pt_w68 (pm_cw_all pt_w69 (pm_cw_all pt_w70 (pm_cw_all pt_w71 (pm_cw_all pt_w72 (pm_cw_all pt_w73 (pm_cw_all pt_w74 (pm_cw_all pt_w75 (pm_cw_all pt_w76 (pm_cw_all pt_w77 (pm_cw_all pt_w78 (pm_cw_all pt_w79 (pm_cw_all pt_w80 (pm_cw_all pt_w81 (pm_cw_all pt_w82 (pm_cw_all pt_w83 (pm_cw_all pt_w84 (pm_cw_all pt_w85 (pm_cw_all pt_w86 (pm_cw_all pt_w87 (pm_cw_all pt_w88 (pm_cw_all pt_w89 (pm_cw_all pt_w90 (pm_cw_all pt_w91 (pm_cw_all pt_w92 (pm_cw_all pt_w93 (pm_cw_all pt_w94 (pm_cw_all pt_w95 (pm_cw_all pt_w96 (pm_cw_all pt_w97 (pm_cw_all pt_w98 (pm_cw_all pt_w99 (pm_cw_all pt_w100 (pm_cw_all pt_w101 (pm_cw_all pt_w102 (pm_cw_all pt_w103 (pm_cw_all pt_w104 (pm_cw_all pt_w105 (pm_cw_all pt_w106 (pm_cw_all pt_w107 (pm_cw_all pt_w108 (pm_cw_all pt_w109 (pm_cw_all pt_w110 (pm_cw_all pt_w111 (pm_cw_all pt_w112 (pm_cw_all pt_w113 (pm_cw_all pt_w114 (pm_cw_all pt_w115 (pm_cw_all pt_w116 (pm_cw_all pt_w117 (pm_cw_all pt_w118 (pm_cw_all pt_w119 (pm_cw_all pt_w120 (pm_cw_all pt_w121 (pm_cw_all pt_w122 (pm_cw_all pt_w123 (pm_cw_all pt_w124 (pm_cw_all pt_w125 (pm_cw_all pt_w126 (pm_cw_all pt_w127 (pm_cw_all pt_w128 (pm_cw_all pt_w129 (pm_cw_all pt_w130 (pm_cw_all pt_w131 (pm_cw_all pt_w132 (pm_cw_all pt_w133 (pm_cw_all pt_w134 (pm_cw_all pt_w135 (pm_cw_all pt_w136 (pm_cw_all pt_w137 (pm_cw_all pt_w138 (pm_cw_all pt_w139 (pm_cw_all pt_w140 (pm_cw_all pt_w141 (pm_cw_all pt_w142 (pm_cw_all pt_w143 (pm_cw_all pt_w144 (pm_cw_all pt_w145 (pm_cw_all pt_w146 (pm_cw_all pt_w147 (pm_cw_all pt_w148 (pm_cw_all pt_w149 (pm_cw_all pt_w150 (pm_cw_all pt_w151 (pm_cw_all pt_w152 (pm_cw_all pt_w153 (pm_cw_all pt_w154 (pm_cw_all pt_w155 (pm_cw_all pt_w156 (pm_cw_all pt_w157 (pm_cw_all pt_w158 (pm_cw_all pt_w159 (pm_cw_nil))))))))))))))))))))))))))))))))))))))))))))))))))))))))))))))))))))))))))))))))))))))))))))))))))))))))))))))))))))))))))))))))))))))))))))))))))))))))))))))))
end
section
def pm_own (m : Nat) : Nat := match pm_M[m]? with
  | some r => r.1
  | none => 99
def pm_maxL (m : Nat) : Nat := match pm_M[m]? with
  | some r => r.2.1
  | none => 0
def pm_init (m : Nat) : Bool := match pm_M[m]? with
  | some r => r.2.2.1
  | none => false
def pm_rt (m : Nat) : Option FieldType := match pm_M[m]? with
  | some r => r.2.2.2.1
  | none => none
def pm_y (m : Nat) : MethodName := match pm_M[m]? with
  | some r => r.2.2.2.2.1
  | none => ⟨"", "", ""⟩
def pm_code (m : Nat) : ByteArray := match pm_M[m]? with
  | some r => r.2.2.2.2.2.1
  | none => ByteArray.empty
def pm_il (m : Nat) : List pm_E := match pm_M[m]? with
  | some r => r.2.2.2.2.2.2
  | none => []
def pm_ins (m pc : Nat) : Option (Instr × Nat × Nat) := pm_look (pm_il m) pc
theorem pm_t1 {m pc nx tg : Nat} {i : Instr} (h : pm_ins m pc = some (i, nx, tg)) : nx = pc + pm_len pc i ∧ decode (pm_code m) pc = .ok (i, pm_len pc i) ∧ ∀ off, pm_off i = some off → (pc : Int) + off = (tg : Int) := by
  unfold pm_ins pm_il at h
  unfold pm_code
  cases hm : pm_M[m]? with
  | none => rw [hm] at h; cases h
  | some r =>
    rw [hm] at h
    have h1 := pm_look_mem h
    have h2 := pt_kall r (List.mem_of_getElem? hm)
    have h3 := List.all_eq_true.mp h2 _ h1
    simp only [pm_ck1, Bool.and_eq_true, decide_eq_true_eq] at h3
    obtain ⟨g1, g2, g3⟩ := h3
    refine ⟨Nat.eq_of_beq_eq_true g2, g1, fun off ho => ?_⟩
    rw [ho] at g3
    exact of_decide_eq_true g3
def pm_lk {α : Type} : List (Nat × α) → Nat → Option α
  | [], _ => none
  | e :: l, i => match Nat.beq e.1 i with
    | true => some e.2
    | false => pm_lk l i
theorem pm_lk_mem {α : Type} {l : List (Nat × α)} {i : Nat} {a : α} (h : pm_lk l i = some a) : (i, a) ∈ l := by
  induction l with
  | nil => cases h
  | cons e l ih =>
    obtain ⟨b, c⟩ := e
    unfold pm_lk at h
    split at h
    · rename_i hb
      have hb : b = i := Nat.eq_of_beq_eq_true hb
      cases h
      subst hb
      exact List.mem_cons_self
    · exact List.mem_cons_of_mem _ (ih h)
def pm_fld (o idx : Nat) : Option (Nat × Nat) := match pm_lk (pt_fld o) idx with
  | some (c, k, _, _) => some (c, k)
  | none => none
def pm_new (o idx : Nat) : Option (Nat × List Value) := match pm_lk (pt_new o) idx with
  | some (c, _, _, _) => some (c, pm_dfl c)
  | none => none
def pm_anew (o idx : Nat) : Option Nat := match pm_lk (pt_anew o) idx with
  | some (c, _, _) => some c
  | none => none
def pm_con (o idx : Nat) : Option Value := match pm_lk (pt_con o) idx with
  | some (x, _) => some (.int x)
  | none => none
def pm_con2 (o idx : Nat) : Option Value := match pm_lk (pt_con2 o) idx with
  | some (x, _) => some (.long x)
  | none => none
def pm_inv (o idx : Nat) : Option (Nat × Nat × Nat) := match pm_lk (pt_inv o) idx with
  | some (m, n, k, _, _, _, _) => some (m, n, k)
  | none => none
def pm_lib (o idx : Nat) : Nat := match pm_lk (pt_lib o) idx with
  | some (k, _) => k
  | none => 0
def pm_isN : Cond → Bool
  | .fieldLinkNest .. => true
  | .methodLinkNest .. => true
  | .castable .. => true
  | .arrayOver (.object _) => true
  | _ => false
def pm_words : List Cond := lw_tbl.filter goodWord
def pm_nest : List Cond := lw_tbl.filter pm_isN
theorem pm_good {w : Cond} (h : w ∈ pm_words) : goodWord w = true := (List.mem_filter.mp h).2
theorem pm_f8 (w : Cond) (h : w ∈ pm_nest) : pm_isN w = true := (List.mem_filter.mp h).2
def pk_at (i : Nat) (w : Cond) : Bool := decide (lw_tbl[i]? = some w) && goodWord w
def pk_an (i : Nat) (w : Cond) : Bool := decide (lw_tbl[i]? = some w) && pm_isN w
theorem pk_at_mem {i : Nat} {w : Cond} (h : pk_at i w = true) : w ∈ pm_words := by
  simp only [pk_at, Bool.and_eq_true, decide_eq_true_eq] at h
  exact List.mem_filter.mpr ⟨List.mem_of_getElem? h.1, h.2⟩
theorem pk_an_mem {i : Nat} {w : Cond} (h : pk_an i w = true) : w ∈ pm_nest := by
  simp only [pk_an, Bool.and_eq_true, decide_eq_true_eq] at h
  exact List.mem_filter.mpr ⟨List.mem_of_getElem? h.1, h.2⟩
theorem pm_cl {c : Nat} (h : c < 9) : vwCl[c]? = some (pm_cn c, pm_T c, pm_N c) := by
  match c, h with
  | 0, _ => rfl
  | 1, _ => rfl
  | 2, _ => rfl
  | 3, _ => rfl
  | 4, _ => rfl
  | 5, _ => rfl
  | 6, _ => rfl
  | 7, _ => rfl
  | 8, _ => rfl
  | n + 9, h => omega
def pk_fl (o idx c k p : Nat) (nest : Bool) : Bool := match nest with
  | true => !(Nat.beq o c) && pk_an p (.fieldLinkNest (pm_cn o) idx (pm_cn c) (pm_T c k).2.1 (pm_T c k).2.2.1 "SliceDepot")
  | false => pk_at p (.fieldLink (pm_cn o) idx (pm_cn c) (pm_T c k).2.1 (pm_T c k).2.2.1)
def pk_fld (o : Nat) (e : Nat × Nat × Nat × Nat × Bool) : Bool := decide (e.2.1 < 9) && (decide (e.2.2.1 < pm_N e.2.1) && (decide ((pm_T e.2.1 e.2.2.1).1 = pm_cn e.2.1) && pk_fl o e.1 e.2.1 e.2.2.1 e.2.2.2.1 e.2.2.2.2))
theorem pk_fld0 : ∀ o, o < 5 → (pt_fld o).all (pk_fld o) = true := by decide +kernel
theorem pk_fld5 : ∀ o, o < 5 → (pt_fld (o + 5)).all (pk_fld (o + 5)) = true := by decide +kernel
theorem pk_fld_all (o : Nat) : (pt_fld o).all (pk_fld o) = true := by
  by_cases h : o < 5
  · exact pk_fld0 o h
  · by_cases h2 : o < 10
    · obtain ⟨n, rfl⟩ : ∃ n, o = n + 5 := ⟨o - 5, by omega⟩
      exact pk_fld5 n (by omega)
    · obtain ⟨n, rfl⟩ : ∃ n, o = n + 10 := ⟨o - 10, by omega⟩
      rfl
theorem pm_f1 {o idx c k : Nat} (h : pm_fld o idx = some (c, k)) : vwCl[c]? = some (pm_cn c, pm_T c, pm_N c) ∧ k < pm_N c ∧ (pm_T c k).1 = pm_cn c ∧ (pm_T c k).2.2.2 = pm_fin c k ∧
    (Cond.fieldLink (pm_cn o) idx (pm_cn c) (pm_T c k).2.1 (pm_T c k).2.2.1 ∈ pm_words ∨ ∃ host, Cond.fieldLinkNest (pm_cn o) idx (pm_cn c) (pm_T c k).2.1 (pm_T c k).2.2.1 host ∈ pm_nest) ∧
    (o = c → Cond.fieldLink (pm_cn o) idx (pm_cn c) (pm_T c k).2.1 (pm_T c k).2.2.1 ∈ pm_words) := by
  unfold pm_fld at h
  split at h
  · rename_i c' k' p nest hq
    cases h
    have h1 := List.all_eq_true.mp (pk_fld_all o) _ (pm_lk_mem hq)
    simp only [pk_fld, Bool.and_eq_true, decide_eq_true_eq] at h1
    obtain ⟨g1, g2, g3, g4⟩ := h1
    refine ⟨pm_cl g1, g2, g3, rfl, ?_⟩
    cases nest with
    | true =>
      simp only [pk_fl, Bool.and_eq_true] at g4
      obtain ⟨g4, g5⟩ := g4
      refine ⟨Or.inr ⟨_, pk_an_mem g5⟩, fun z => ?_⟩
      subst z
      simp at g4
    | false =>
      have g5 := pk_at_mem g4
      exact ⟨Or.inl g5, fun _ => g5⟩
  · cases h
def pk_cls (c : Nat) : Bool := (List.range (pm_N c)).all (fun k => pk_at ((pt_lay c).getD k 99999) (u_lay (pm_cn c) (pm_T c) k)) && ((List.range (pm_N c)).all (fun k => decide (parseFieldDescriptor (pm_T c k).2.2.1 = some (pm_fty c k))) &&
  (List.range (pm_N c)).all (fun a => (List.range (pm_N c)).all (fun b => Nat.beq a b || decide ((pm_T c a).2.1 ≠ (pm_T c b).2.1))))
theorem pk_cls_ok : ∀ c, c < 9 → pk_cls c = true := by decide +kernel
theorem pm_f2 {c : Nat} (h : vwCl[c]? = some (pm_cn c, pm_T c, pm_N c)) : (∀ w ∈ u_ws (pm_cn c) (pm_T c) (pm_N c), w ∈ pm_words) ∧ (∀ k, k < pm_N c → parseFieldDescriptor (pm_T c k).2.2.1 = some (pm_fty c k)) ∧
    (∀ a, a < pm_N c → ∀ b, b < pm_N c → a ≠ b → (pm_T c a).2.1 ≠ (pm_T c b).2.1) := by
  have hc : c < 9 := (List.getElem?_eq_some_iff.mp h).1
  have h1 := pk_cls_ok c hc
  simp only [pk_cls, Bool.and_eq_true, List.all_eq_true, List.mem_range, decide_eq_true_eq, Bool.or_eq_true] at h1
  obtain ⟨g1, g2, g3⟩ := h1
  refine ⟨fun w hw => ?_, g2, fun a ha b hb hab => ?_⟩
  · obtain ⟨k, hk, rfl⟩ := List.mem_map.mp hw
    exact pk_at_mem (g1 k (List.mem_range.mp hk))
  · rcases g3 a ha b hb with z | z
    · exact absurd (Nat.eq_of_beq_eq_true z) hab
    · exact z
def pk_plain (v : Value) : Bool := match v with
  | .null => true
  | .int _ => true
  | .long _ => true
  | _ => false
def pk_new (o : Nat) (e : Nat × Nat × Nat × Nat × Nat) : Bool := decide (e.2.1 < 9) && (decide ((pm_dfl e.2.1).length = pm_N e.2.1) && ((List.range (pm_N e.2.1)).all (fun j => decide (defaultValue (pm_fty e.2.1 j) = vp_V (pm_dfl e.2.1) j)) && ((pm_dfl e.2.1).all pk_plain &&
  (pk_at e.2.2.1 (.classLink (pm_cn o) e.1 (pm_cn e.2.1)) && (pk_at e.2.2.2.1 (.instantiable (pm_cn e.2.1) (pm_N e.2.1)) && pk_at e.2.2.2.2 (.initialized (pm_cn e.2.1)))))))
theorem pk_new0 : ∀ o, o < 10 → (pt_new o).all (pk_new o) = true := by decide +kernel
theorem pk_new_all (o : Nat) : (pt_new o).all (pk_new o) = true := by
  by_cases h : o < 10
  · exact pk_new0 o h
  · obtain ⟨n, rfl⟩ : ∃ n, o = n + 10 := ⟨o - 10, by omega⟩
    rfl
theorem pm_f3 {o idx c : Nat} {fs : List Value} (h : pm_new o idx = some (c, fs)) : vwCl[c]? = some (pm_cn c, pm_T c, pm_N c) ∧ fs.length = pm_N c ∧ (∀ j, j < pm_N c → defaultValue (pm_fty c j) = vp_V fs j) ∧ (∀ v ∈ fs, pk_plain v = true) ∧
    Cond.classLink (pm_cn o) idx (pm_cn c) ∈ pm_words ∧ Cond.instantiable (pm_cn c) (pm_N c) ∈ pm_words ∧ Cond.initialized (pm_cn c) ∈ pm_words := by
  unfold pm_new at h
  split at h
  · rename_i c' p1 p2 p3 hq
    cases h
    have h1 := List.all_eq_true.mp (pk_new_all o) _ (pm_lk_mem hq)
    simp only [pk_new, Bool.and_eq_true, decide_eq_true_eq] at h1
    obtain ⟨g1, g2, g3, g4, g5, g6, g7⟩ := h1
    refine ⟨pm_cl g1, g2, fun j hj => ?_, fun v hv => List.all_eq_true.mp g4 v hv, pk_at_mem g5, pk_at_mem g6, pk_at_mem g7⟩
    exact of_decide_eq_true (List.all_eq_true.mp g3 j (List.mem_range.mpr hj))
  · cases h
theorem pm_ra9 : ∀ t ∈ pm_ra, t < 9 := by decide +kernel
theorem pm_f14 {t : Nat} (h : t ∈ pm_ra) : vwCl[t]? = some (pm_cn t, pm_T t, pm_N t) := pm_cl (pm_ra9 t h)
def pk_anew (o : Nat) (e : Nat × Nat × Nat × Nat) : Bool := decide (e.2.1 ∈ pm_ra) && (pk_at e.2.2.1 (.classLink (pm_cn o) e.1 (pm_cn e.2.1)) && pk_an e.2.2.2 (.arrayOver (.object (pm_cn e.2.1))))
theorem pk_anew0 : ∀ o, o < 10 → (pt_anew o).all (pk_anew o) = true := by decide +kernel
theorem pk_anew_all (o : Nat) : (pt_anew o).all (pk_anew o) = true := by
  by_cases h : o < 10
  · exact pk_anew0 o h
  · obtain ⟨n, rfl⟩ : ∃ n, o = n + 10 := ⟨o - 10, by omega⟩
    rfl
theorem pm_f4 {o idx t : Nat} (h : pm_anew o idx = some t) : t ∈ pm_ra ∧ Cond.classLink (pm_cn o) idx (pm_cn t) ∈ pm_words ∧ Cond.arrayOver (.object (pm_cn t)) ∈ pm_nest := by
  unfold pm_anew at h
  split at h
  · rename_i c' p1 p2 hq
    cases h
    have h1 := List.all_eq_true.mp (pk_anew_all o) _ (pm_lk_mem hq)
    simp only [pk_anew, Bool.and_eq_true, decide_eq_true_eq] at h1
    obtain ⟨g1, g2, g3⟩ := h1
    exact ⟨g1, pk_at_mem g2, pk_an_mem g3⟩
  · cases h
theorem pk_con0 : ∀ o, o < 10 → (pt_con o).all (fun e => pk_at e.2.2 (.constant (pm_cn o) e.1 e.2.1)) = true := by decide +kernel
theorem pk_con20 : ∀ o, o < 10 → (pt_con2 o).all (fun e => pk_at e.2.2 (.constantLong (pm_cn o) e.1 e.2.1)) = true := by decide +kernel
theorem pm_f5 {o idx : Nat} {v : Value} (h : pm_con o idx = some v) : ∃ x, v = .int x ∧ Cond.constant (pm_cn o) idx x ∈ pm_words := by
  unfold pm_con at h
  split at h
  · rename_i x p hq
    cases h
    refine ⟨x, rfl, ?_⟩
    by_cases ho : o < 10
    · exact pk_at_mem (List.all_eq_true.mp (pk_con0 o ho) _ (pm_lk_mem hq))
    · obtain ⟨n, rfl⟩ : ∃ n, o = n + 10 := ⟨o - 10, by omega⟩
      cases hq
  · cases h
theorem pm_f5b {o idx : Nat} {v : Value} (h : pm_con2 o idx = some v) : ∃ x, v = .long x ∧ Cond.constantLong (pm_cn o) idx x ∈ pm_words := by
  unfold pm_con2 at h
  split at h
  · rename_i x p hq
    cases h
    refine ⟨x, rfl, ?_⟩
    by_cases ho : o < 10
    · exact pk_at_mem (List.all_eq_true.mp (pk_con20 o ho) _ (pm_lk_mem hq))
    · obtain ⟨n, rfl⟩ : ∃ n, o = n + 10 := ⟨o - 10, by omega⟩
      cases hq
  · cases h
def pk_ml (o idx p : Nat) (y : MethodName) (nest : Bool) : Bool := match nest with
  | true => pk_an p (.methodLinkNest (pm_cn o) idx y "SliceDepot")
  | false => pk_at p (.methodLink (pm_cn o) idx y)
def pk_kind (kind p2 p3 : Nat) (r : pm_MT) : Bool := match kind with
  | 0 => pk_at p2 (.static r.2.2.2.2.1)
  | 1 => pk_at p2 (.instanceMethod r.2.2.2.2.1) && (pk_at p3 (.selects r.2.2.2.2.1.cls r.2.2.2.2.1 r.2.2.2.2.1) && decide (r.1 < 9))
  | _ => decide (r.2.2.2.2.1.name = "<init>") && (decide (r.2.2.2.1 = none) && pk_at p2 (.instanceMethod r.2.2.2.2.1))
def pk_inv (o : Nat) (e : Nat × Nat × Nat × Nat × Nat × Bool × Nat × Nat) : Bool := match pm_M[e.2.1]? with
  | none => false
  | some r => decide (e.2.1 < pt_law) && (pk_at (pt_ini r.1) (.initialized r.2.2.2.2.1.cls) && (decide (r.2.2.2.2.1.cls = pm_cn r.1) && ((decide (r.2.2.2.2.1.cls ≠ "java/lang/invoke/MethodHandle") && (decide (r.2.2.2.2.1.cls ≠ "java/lang/invoke/VarHandle") && decide ((parseMethodDescriptor r.2.2.2.2.1.desc).map (fun d => d.parameters.length) = some e.2.2.1))) &&
    (pk_ml o e.1 e.2.2.2.2.1 r.2.2.2.2.1 e.2.2.2.2.2.1 && (decide (r.2.1 ≤ 17) && (plainName r.2.2.2.2.1.cls && (pk_kind e.2.2.2.1 e.2.2.2.2.2.2.1 e.2.2.2.2.2.2.2 r && (!r.2.2.1 || decide (r.2.2.2.2.1.name = "<init>")))))))))
theorem pk_inv0 : ∀ o, o < 1 → (pt_inv o).all (pk_inv o) = true := by decide +kernel
theorem pk_inv1 : ∀ o, o < 7 → (pt_inv (o + 1)).all (pk_inv (o + 1)) = true := by decide +kernel
theorem pk_inv8 : ∀ o, o < 2 → (pt_inv (o + 8)).all (pk_inv (o + 8)) = true := by decide +kernel
theorem pk_inv_all (o : Nat) : (pt_inv o).all (pk_inv o) = true := by
  by_cases h : o < 1
  · exact pk_inv0 o h
  · by_cases h2 : o < 8
    · obtain ⟨n, rfl⟩ : ∃ n, o = n + 1 := ⟨o - 1, by omega⟩
      exact pk_inv1 n (by omega)
    · by_cases h3 : o < 10
      · obtain ⟨n, rfl⟩ : ∃ n, o = n + 8 := ⟨o - 8, by omega⟩
        exact pk_inv8 n (by omega)
      · obtain ⟨n, rfl⟩ : ∃ n, o = n + 10 := ⟨o - 10, by omega⟩
        rfl
theorem pm_cwm {m : Nat} {r : pm_MT} (h : pm_M[m]? = some r) (hl : m < pt_law) : Cond.code r.2.2.2.2.1 r.2.2.2.2.2.1 r.2.1 r.2.2.2.1 ∈ pm_words := by
  have h1 : pm_M = pm_Mo ++ [pt_mlaw] := rfl
  rw [h1, List.getElem?_append_left (by exact hl)] at h
  exact List.mem_filter.mpr ⟨pt_wall r (List.mem_of_getElem? h), by first | rfl | simp [goodWord, Cond.onTables, Cond.keeps, Cond.steady]⟩
theorem pm_f6 {o idx m' n kind : Nat} (h : pm_inv o idx = some (m', n, kind)) :
    Cond.code (pm_y m') (pm_code m') (pm_maxL m') (pm_rt m') ∈ pm_words ∧ Cond.initialized (pm_y m').cls ∈ pm_words ∧ (pm_y m').cls = pm_cn (pm_own m') ∧
    ((pm_y m').cls ≠ "java/lang/invoke/MethodHandle" ∧ (pm_y m').cls ≠ "java/lang/invoke/VarHandle" ∧ (parseMethodDescriptor (pm_y m').desc).map (fun d => d.parameters.length) = some n) ∧
    (Cond.methodLink (pm_cn o) idx (pm_y m') ∈ pm_words ∨ ∃ host, Cond.methodLinkNest (pm_cn o) idx (pm_y m') host ∈ pm_nest) ∧ pm_maxL m' ≤ 17 ∧ plainName (pm_y m').cls = true ∧
    (kind = 0 → Cond.static (pm_y m') ∈ pm_words) ∧
    (kind = 1 → Cond.instanceMethod (pm_y m') ∈ pm_words ∧ Cond.selects (pm_y m').cls (pm_y m') (pm_y m') ∈ pm_words ∧ ∃ q : vw_C, vwCl[pm_own m']? = some q ∧ q.1 = pm_cn (pm_own m')) ∧
    (kind = 2 → (pm_y m').name = "<init>" ∧ pm_rt m' = none ∧ Cond.instanceMethod (pm_y m') ∈ pm_words) ∧
    (pm_init m' = true → (pm_y m').name = "<init>") := by
  unfold pm_inv at h
  split at h
  · rename_i m1 n1 kd p nest p2 p3 hq
    cases h
    have h1 := List.all_eq_true.mp (pk_inv_all o) _ (pm_lk_mem hq)
    unfold pk_inv at h1
    split at h1
    · cases h1
    · rename_i r hr
      simp only [Bool.and_eq_true, decide_eq_true_eq] at h1
      obtain ⟨g0, g1, g2, ⟨g3, g4, g5⟩, g6, g7, g8, g9, g10⟩ := h1
      have hr : pm_M[m']? = some r := hr
      have e1 : pm_y m' = r.2.2.2.2.1 := by unfold pm_y; rw [hr]
      have e2 : pm_code m' = r.2.2.2.2.2.1 := by unfold pm_code; rw [hr]
      have e3 : pm_maxL m' = r.2.1 := by unfold pm_maxL; rw [hr]
      have e4 : pm_rt m' = r.2.2.2.1 := by unfold pm_rt; rw [hr]
      have e5 : pm_own m' = r.1 := by unfold pm_own; rw [hr]
      have e6 : pm_init m' = r.2.2.1 := by unfold pm_init; rw [hr]
      rw [e1, e2, e3, e4, e5, e6]
      refine ⟨pm_cwm hr g0, pk_at_mem g1, g2, ⟨g3, g4, g5⟩, ?_, g7, g8, fun z => ?_, fun z => ?_, fun z => ?_, fun z => ?_⟩
      · cases nest with
        | true => exact Or.inr ⟨_, pk_an_mem g6⟩
        | false => exact Or.inl (pk_at_mem g6)
      · subst z
        exact pk_at_mem g9
      · subst z
        simp only [pk_kind, Bool.and_eq_true, decide_eq_true_eq] at g9
        exact ⟨pk_at_mem g9.1, pk_at_mem g9.2.1, _, pm_cl g9.2.2, rfl⟩
      · subst z
        simp only [pk_kind, Bool.and_eq_true, decide_eq_true_eq] at g9
        exact ⟨g9.1, g9.2.1, pk_at_mem g9.2.2⟩
      · rw [z] at g10
        simpa using g10
  · cases h
theorem pm_f7 : Cond.arrayClass .int ∈ pm_words := pk_at_mem (i := pt_ai) (by decide +kernel)
theorem pm_f7b : Cond.arrayClass .boolean ∈ pm_words := pk_at_mem (i := pt_az) (by decide +kernel)
def pk_lib (o : Nat) (e : Nat × Nat × Nat) : Bool := match e.2.1 with
  | 1 => pk_at e.2.2 (.methodLink (pm_cn o) e.1 Lib.objectInit)
  | 2 => pk_at e.2.2 (.methodLink (pm_cn o) e.1 Lib.Math.max.name)
  | 3 => pk_at e.2.2 (.methodLink (pm_cn o) e.1 Lib.Math.min.name)
  | 4 => pk_at e.2.2 (.methodLink (pm_cn o) e.1 ⟨"[I", "clone", "()Ljava/lang/Object;"⟩)
  | 5 => pk_at e.2.2 (.classLink (pm_cn o) e.1 "[I")
  | _ => false
theorem pk_lib0 : ∀ o, o < 10 → (pt_lib o).all (pk_lib o) = true := by decide +kernel
theorem pm_lib_ok {o idx k : Nat} (h : pm_lib o idx = k) (hk : k ≠ 0) : ∃ p, pk_lib o (idx, k, p) = true := by
  unfold pm_lib at h
  split at h
  · rename_i c p hq
    subst h
    refine ⟨p, ?_⟩
    by_cases ho : o < 10
    · exact List.all_eq_true.mp (pk_lib0 o ho) _ (pm_lk_mem hq)
    · obtain ⟨n, rfl⟩ : ∃ n, o = n + 10 := ⟨o - 10, by omega⟩
      cases hq
  · exact absurd h.symm hk
theorem pm_f9 {o idx : Nat} (h : pm_lib o idx = 1) : Cond.methodLink (pm_cn o) idx Lib.objectInit ∈ pm_words ∧ Cond.instanceMethod Lib.objectInit ∈ pm_words ∧ Cond.code Lib.objectInit ⟨#[0xb1]⟩ 1 none ∈ pm_words := by
  obtain ⟨p, hp⟩ := pm_lib_ok h (by decide)
  exact ⟨pk_at_mem hp, pk_at_mem (i := pt_o1) (by decide +kernel), pk_at_mem (i := pt_o2) (by decide +kernel)⟩
theorem pm_f10 {o idx : Nat} (h : pm_lib o idx = 2) : Cond.methodLink (pm_cn o) idx Lib.Math.max.name ∈ pm_words ∧ Cond.static Lib.Math.max.name ∈ pm_words ∧ Cond.initialized "java/lang/Math" ∈ pm_words ∧ Cond.code Lib.Math.max.name Lib.Math.max.code 2 (some .int) ∈ pm_words := by
  obtain ⟨p, hp⟩ := pm_lib_ok h (by decide)
  exact ⟨pk_at_mem hp, pk_at_mem (i := pt_max1) (by decide +kernel), pk_at_mem (i := pt_ma) (by decide +kernel), pk_at_mem (i := pt_max2) (by decide +kernel)⟩
theorem pm_f11 {o idx : Nat} (h : pm_lib o idx = 3) : Cond.methodLink (pm_cn o) idx Lib.Math.min.name ∈ pm_words ∧ Cond.static Lib.Math.min.name ∈ pm_words ∧ Cond.initialized "java/lang/Math" ∈ pm_words ∧ Cond.code Lib.Math.min.name Lib.Math.min.code 2 (some .int) ∈ pm_words := by
  obtain ⟨p, hp⟩ := pm_lib_ok h (by decide)
  exact ⟨pk_at_mem hp, pk_at_mem (i := pt_min1) (by decide +kernel), pk_at_mem (i := pt_ma) (by decide +kernel), pk_at_mem (i := pt_min2) (by decide +kernel)⟩
theorem pm_f12 {o idx : Nat} (h : pm_lib o idx = 4) : Cond.methodLink (pm_cn o) idx ⟨"[I", "clone", "()Ljava/lang/Object;"⟩ ∈ pm_words ∧ Cond.sameMethod "[I" "java/lang/Object" "clone" "()Ljava/lang/Object;" ∈ pm_words ∧ Cond.native ⟨"java/lang/Object", "clone", "()Ljava/lang/Object;"⟩ ∈ pm_words ∧ Cond.instanceMethod ⟨"java/lang/Object", "clone", "()Ljava/lang/Object;"⟩ ∈ pm_words ∧
    Cond.selects "[I" ⟨"[I", "clone", "()Ljava/lang/Object;"⟩ ⟨"java/lang/Object", "clone", "()Ljava/lang/Object;"⟩ ∈ pm_words ∧ Cond.castable "[I" "java/lang/Cloneable" ∈ pm_nest := by
  obtain ⟨p, hp⟩ := pm_lib_ok h (by decide)
  exact ⟨pk_at_mem hp, pk_at_mem (i := pt_c1) (by decide +kernel), pk_at_mem (i := pt_c2) (by decide +kernel), pk_at_mem (i := pt_c3) (by decide +kernel), pk_at_mem (i := pt_c4) (by decide +kernel), pk_an_mem (i := pt_c5) (by decide +kernel)⟩
theorem pm_f13 {o idx : Nat} (h : pm_lib o idx = 5) : Cond.classLink (pm_cn o) idx "[I" ∈ pm_words := by
  obtain ⟨p, hp⟩ := pm_lib_ok h (by decide)
  exact pk_at_mem hp
def pm_tys (cI : Bool → ClassId) (cR : Nat → ClassId) : List (ClassId × FieldType) := (cI false, .int) :: (cI true, .boolean) :: pm_ra.map (fun t => (cR t, .object (pm_cn t)))
theorem pm_ra_anew : ∀ t ∈ pm_ra, ∃ o idx, pm_anew o idx = some t := by
  have h : ∀ t ∈ pm_ra, (List.range 10).any (fun o => (pt_anew o).any (fun e => Nat.beq e.2.1 t && (match pm_anew o e.1 with | some t' => Nat.beq t' t | none => false))) = true := by decide +kernel
  intro t ht
  obtain ⟨o, -, h1⟩ := List.any_eq_true.mp (h t ht)
  obtain ⟨e, -, h2⟩ := List.any_eq_true.mp h1
  simp only [Bool.and_eq_true] at h2
  refine ⟨o, e.1, ?_⟩
  have h3 := h2.2
  split at h3
  · rename_i t' ht'
    rw [ht', Nat.eq_of_beq_eq_true h3]
  · cases h3
end
section
abbrev pm_H : Type := List pm_C × Nat
abbrev pm_none : Value := .retAddr 0
abbrev pm_scr : Value := .retAddr 1

def pm_i1 (f : Int32 → Value) : List Value → Option (List Value)
  | .int x :: st => some (f x :: st)
  | _ => none
def pm_l1 (f : Int64 → Value) : List Value → Option (List Value)
  | .long x :: st => some (f x :: st)
  | _ => none
def pm_i2 (f : Int32 → Int32 → Option Value) : List Value → Option (List Value)
  | .int y :: .int x :: st => match f x y with | some v => some (v :: st) | none => none
  | _ => none
def pm_l2 (f : Int64 → Int64 → Option Value) : List Value → Option (List Value)
  | .long y :: .long x :: st => match f x y with | some v => some (v :: st) | none => none
  | _ => none
def pm_li (f : Int64 → Int32 → Value) : List Value → Option (List Value)
  | .int y :: .long x :: st => some (f x y :: st)
  | _ => none
def pm_ldi (L : List Value) (k : Nat) (st : List Value) : Option (List Value) := match L[k]? with
  | some (.int x) => some (.int x :: st)
  | _ => none
def pm_ldl (L : List Value) (k : Nat) (st : List Value) : Option (List Value) := match L[k]? with
  | some (.long x) => some (.long x :: st)
  | _ => none
def pm_lda (L : List Value) (k : Nat) (st : List Value) : Option (List Value) := match L[k]? with
  | some (.ref x) => some (.ref x :: st)
  | some .null => some (.null :: st)
  | some (.retAddr 1) => some (.retAddr 1 :: st)
  | _ => none

def pm_ushr (x y : Int32) : Int32 := (x.toUInt32 >>> (y.toUInt32 &&& Int32.toUInt32 31)).toInt32
def pm_ts (i : Instr) (L st : List Value) : Option (List Value) := match i with
  | .iconst n => some (.int (Int32.ofInt n) :: st)
  | .bipush n => some (.int (Int8.ofInt n).toInt32 :: st)
  | .sipush n => some (.int (Int16.ofInt n).toInt32 :: st)
  | .lconst n => some (.long (Int64.ofNat n.val) :: st)
  | .aconst_null => some (.null :: st)
  | .iload_n k => pm_ldi L k.val st
  | .iload k => pm_ldi L k st
  | .lload_n k => pm_ldl L k.val st
  | .lload k => pm_ldl L k st
  | .aload_n k => pm_lda L k.val st
  | .aload k => pm_lda L k st
  | .iadd => pm_i2 (fun x y => some (.int (x + y))) st
  | .isub => pm_i2 (fun x y => some (.int (x - y))) st
  | .imul => pm_i2 (fun x y => some (.int (x * y))) st
  | .iand => pm_i2 (fun x y => some (.int (x &&& y))) st
  | .ior => pm_i2 (fun x y => some (.int (x ||| y))) st
  | .ixor => pm_i2 (fun x y => some (.int (x ^^^ y))) st
  | .idiv => pm_i2 (fun x y => if y = 0 then none else some (.int (x / y))) st
  | .irem => pm_i2 (fun x y => if y = 0 then none else some (.int (x - x / y * y))) st
  | .ishl => pm_i2 (fun x y => some (.int (x <<< (y &&& 31)))) st
  | .ishr => pm_i2 (fun x y => some (.int (x >>> (y &&& 31)))) st
  | .iushr => pm_i2 (fun x y => some (.int (pm_ushr x y))) st
  | .ineg => pm_i1 (fun x => .int (-x)) st
  | .i2l => pm_i1 (fun x => .long x.toInt64) st
  | .l2i => pm_l1 (fun x => .int x.toInt32) st
  | .ladd => pm_l2 (fun x y => some (.long (x + y))) st
  | .lsub => pm_l2 (fun x y => some (.long (x - y))) st
  | .lmul => pm_l2 (fun x y => some (.long (x * y))) st
  | .land => pm_l2 (fun x y => some (.long (x &&& y))) st
  | .lor => pm_l2 (fun x y => some (.long (x ||| y))) st
  | .lxor => pm_l2 (fun x y => some (.long (x ^^^ y))) st
  | .lcmp => pm_l2 (fun x y => some (.int (lg_cmp x y))) st
  | .lshl => pm_li (fun x y => .long (x <<< (y.toInt64 &&& 63))) st
  | .lshr => pm_li (fun x y => .long (x >>> (y.toInt64 &&& 63))) st
  | .lushr => pm_li (fun x y => .long (x.toUInt64 >>> (y.toInt64.toUInt64 &&& Int64.toUInt64 63)).toInt64) st
  | .dup => match st with | v :: st => if v.category = 1 then some (v :: v :: st) else none | _ => none
  | .pop => match st with | v :: st => if v.category = 1 then some st else none | _ => none
  | .dup_x1 => match st with | v :: w :: st => if v.category = 1 ∧ w.category = 1 then some (v :: w :: v :: st) else none | _ => none
  | .dup2 => match st with | v :: w :: st => if v.category = 1 ∧ w.category = 1 then some (v :: w :: v :: w :: st) else none | _ => none
  | _ => none

def pm_low (L : List Value) : Nat → Bool
  | 0 => true
  | k + 1 => match L[k]? with | some v => v.category != 2 | none => true
def pm_st1 (L : List Value) (i : Nat) (v : Value) : Option (List Value) := if i < L.length ∧ pm_low L i = true then some (L.set i v) else none
def pm_st2 (L : List Value) (i : Nat) (v : Value) : Option (List Value) := if i + 1 < L.length ∧ pm_low L i = true then some ((L.set i v).set (i + 1) pm_none) else none
def pm_sti (L st : List Value) (i : Nat) : Option (List Value × List Value) := match st with
  | .int x :: st => match pm_st1 L i (.int x) with | some L' => some (L', st) | none => none
  | _ => none
def pm_stl (L st : List Value) (i : Nat) : Option (List Value × List Value) := match st with
  | .long x :: st => match pm_st2 L i (.long x) with | some L' => some (L', st) | none => none
  | _ => none
def pm_sta (L st : List Value) (i : Nat) : Option (List Value × List Value) := match st with
  | .ref x :: st => match pm_st1 L i (.ref x) with | some L' => some (L', st) | none => none
  | .null :: st => match pm_st1 L i .null with | some L' => some (L', st) | none => none
  | .retAddr 1 :: st => match pm_st1 L i (.retAddr 1) with | some L' => some (L', st) | none => none
  | _ => none
def pm_tl (i : Instr) (L st : List Value) : Option (List Value × List Value) := match i with
  | .istore_n k => pm_sti L st k.val
  | .istore k => pm_sti L st k
  | .lstore_n k => pm_stl L st k.val
  | .lstore k => pm_stl L st k
  | .astore_n k => pm_sta L st k.val
  | .astore k => pm_sta L st k
  | .iinc k n => match L[k]? with
    | some (.int x) => match pm_st1 L k (.int (x + Int32.ofInt n)) with | some L' => some (L', st) | none => none
    | _ => none
  | _ => none

def pm_rel (c : Jvm.ClassFile.Cond) (x y : Int32) : Bool := match c with
  | .eq => decide (x = y)
  | .ne => decide (¬ x = y)
  | .lt => decide (x < y)
  | .ge => decide (y ≤ x)
  | .gt => decide (y < x)
  | .le => decide (x ≤ y)
def pm_br (i : Instr) (st : List Value) : Option (Bool × List Value) := match i with
  | .ifCond c _ => match st with | .int x :: st => some (pm_rel c x 0, st) | _ => none
  | .if_icmp c _ => match st with | .int y :: .int x :: st => some (pm_rel c x y, st) | _ => none
  | .ifnull _ => match st with
    | .null :: st => some (true, st)
    | .ref _ :: st => some (false, st)
    | _ => none
  | .ifnonnull _ => match st with
    | .null :: st => some (false, st)
    | .ref _ :: st => some (true, st)
    | _ => none
  | .goto _ => some (true, st)
  | _ => none
def pm_to (pc : Nat) (off : Int) : Option Nat := if 0 ≤ (pc : Int) + off then some ((pc : Int) + off).toNat else none
def pm_sw (i : Instr) (st : List Value) : Option (Int × List Value) := match i with
  | .tableswitch d lo hi offs => match st with
    | .int x :: st => if x.toInt < lo ∨ hi < x.toInt then some (d, st) else match offs[(x.toInt - lo).toNat]? with | some o => some (o, st) | none => none
    | _ => none
  | .lookupswitch d ps => match st with
    | .int x :: st => if (ps.toList.zip (ps.toList.drop 1)).all (fun (a, next) => a.1 < next.1) = true then some (Op.lookupswitch.offset ps.toList d x.toInt, st) else none
    | _ => none
  | _ => none
def pm_rok (t : Option FieldType) (x : Int32) : Bool := match t with
  | some .int => true
  | some .boolean => x == 0 || x == 1
  | _ => false
def pm_rr (t : Option FieldType) : Bool := match t with
  | some (.object _) => true
  | some (.array _) => true
  | _ => false
def pm_ok (ty : FieldType) (v : Value) : Bool := match ty, v with
  | .int, .int _ => true
  | .long, .long _ => true
  | .boolean, .int x => x == 0 || x == 1
  | .object _, .null => true
  | .object _, .ref _ => true
  | .array _, .null => true
  | .array _, .ref _ => true
  | _, _ => false
def pm_ans (m : Nat) (i : Instr) (st : List Value) : Option (Option Value) := match i with
  | .ireturn => match st with | [.int x] => if pm_rok (pm_rt m) x = true then some (some (.int x)) else none | _ => none
  | .lreturn => match st with | [.long x] => if pm_rt m = some .long then some (some (.long x)) else none | _ => none
  | .areturn => match st with
    | [.ref x] => if pm_rr (pm_rt m) = true then some (some (.ref x)) else none
    | [.null] => if pm_rr (pm_rt m) = true then some (some .null) else none
    | _ => none
  | .return_ => match st with | [] => if pm_rt m = none then some none else none | _ => none
  | _ => none

def pm_ix (i : Int32) (n : Nat) : Option Nat := if i < 0 ∨ n ≤ i.toNatClampNeg then none else some i.toNatClampNeg
def pm_rv : Option Nat → Value
  | some a => .ref a
  | none => .null
abbrev pm_R : Type := Option (List Value × pm_H)
def pm_hget (m idx : Nat) (st : List Value) (h : pm_H) : pm_R := match pm_fld (pm_own m) idx with
  | none => none
  | some (c, k) => match st with
    | .ref a :: st => match h.1[a]? with
      | some (.inr (.inr (c', fs))) => match fs[k]? with
        | some v => if c' = c then some (v :: st, h) else none
        | none => none
      | _ => none
    | _ => none
def pm_hput (m idx : Nat) (st : List Value) (h : pm_H) : pm_R := match pm_fld (pm_own m) idx with
  | none => none
  | some (c, k) => match st with
    | v :: .ref a :: st => match h.1[a]? with
      | some (.inr (.inr (c', fs))) =>
        if c' = c ∧ k < fs.length ∧ pm_ok (pm_fty c k) v = true ∧ (pm_fin c k = false ∨ (pm_init m = true ∧ pm_own m = c)) then some (st, (h.1.set a (.inr (.inr (c', fs.set k v))), h.2)) else none
      | _ => none
    | _ => none
def pm_hiald (st : List Value) (h : pm_H) (xs : List Int32) : pm_R := match st with
  | .int j :: .ref a :: st => match h.1[a]? with
    | some (.inl (false, ys)) => match pm_ix j ys.length with | some k => some (.int (ys.getD k 0) :: st, h) | none => none
    | _ => none
  | .int j :: .retAddr 1 :: st => match pm_ix j xs.length with | some k => some (.int (xs.getD k 0) :: st, h) | none => none
  | _ => none
def pm_hiast (st : List Value) (h : pm_H) : pm_R := match st with
  | .int v :: .int j :: .ref a :: st => match h.1[a]? with
    | some (.inl (false, ys)) => match pm_ix j ys.length with | some k => some (st, (h.1.set a (.inl (false, ys.set k v)), h.2)) | none => none
    | _ => none
  | _ => none
def pm_hbald (st : List Value) (h : pm_H) : pm_R := match st with
  | .int j :: .ref a :: st => match h.1[a]? with
    | some (.inl (true, ys)) => match pm_ix j ys.length with | some k => some (.int (ys.getD k 0) :: st, h) | none => none
    | _ => none
  | _ => none
def pm_hbast (st : List Value) (h : pm_H) : pm_R := match st with
  | .int v :: .int j :: .ref a :: st => match h.1[a]? with
    | some (.inl (true, ys)) => match pm_ix j ys.length with | some k => if (v == 0 || v == 1) = true then some (st, (h.1.set a (.inl (true, ys.set k v)), h.2)) else none | none => none
    | _ => none
  | _ => none
def pm_haald (st : List Value) (h : pm_H) : pm_R := match st with
  | .int j :: .ref a :: st => match h.1[a]? with
    | some (.inr (.inl (t, rs))) => match pm_ix j rs.length with | some k => if t ∈ pm_ra then some (pm_rv (rs.getD k none) :: st, h) else none | none => none
    | _ => none
  | _ => none
def pm_haast (st : List Value) (h : pm_H) : pm_R := match st with
  | .ref v :: .int j :: .ref a :: st => match h.1[a]? with
    | some (.inr (.inl (t, rs))) => match h.1[v]? with
      | some (.inr (.inr (c, _))) => match pm_ix j rs.length with | some k => if c = t ∧ t ∈ pm_ra then some (st, (h.1.set a (.inr (.inl (t, rs.set k (some v)))), h.2)) else none | none => none
      | _ => none
    | _ => none
  | .null :: .int j :: .ref a :: st => match h.1[a]? with
    | some (.inr (.inl (t, rs))) => match pm_ix j rs.length with | some k => if t ∈ pm_ra then some (st, (h.1.set a (.inr (.inl (t, rs.set k none))), h.2)) else none | none => none
    | _ => none
  | _ => none
def pm_halen (st : List Value) (h : pm_H) (xs : List Int32) : pm_R := match st with
  | .ref a :: st => match h.1[a]? with
    | some (.inl (false, ys)) => some (.int (Int32.ofNat ys.length) :: st, h)
    | some (.inr (.inl (t, rs))) => if t ∈ pm_ra then some (.int (Int32.ofNat rs.length) :: st, h) else none
    | _ => none
  | .retAddr 1 :: st => some (.int (Int32.ofNat xs.length) :: st, h)
  | _ => none
def pm_hnew (m idx : Nat) (st : List Value) (h : pm_H) : pm_R := match pm_new (pm_own m) idx with
  | some q => some (.ref h.1.length :: st, (h.1 ++ [.inr (.inr q)], h.2 + q.2.length))
  | none => none
def pm_hnewa (z : Bool) (st : List Value) (h : pm_H) : pm_R := match st with
  | .int n :: st => if n < 0 ∨ 65536 < n.toNatClampNeg then none else some (.ref h.1.length :: st, (h.1 ++ [.inl (z, List.replicate n.toNatClampNeg 0)], h.2 + n.toNatClampNeg))
  | _ => none
def pm_hanew (m idx : Nat) (st : List Value) (h : pm_H) : pm_R := match pm_anew (pm_own m) idx with
  | none => none
  | some t => match st with
    | .int n :: st => if n < 0 ∨ 65536 < n.toNatClampNeg then none else some (.ref h.1.length :: st, (h.1 ++ [.inr (.inl (t, List.replicate n.toNatClampNeg none))], h.2 + n.toNatClampNeg))
    | _ => none
def pm_hcon (v : Option Value) (st : List Value) (h : pm_H) : pm_R := match v with
  | some v => some (v :: st, h)
  | none => none
def pm_sm (st : List Value) : Bool := decide ((st.map fun v => v.category).sum ≤ 8)
def pm_hobj (m idx : Nat) (st : List Value) (h : pm_H) : pm_R := match st with
  | .ref _ :: st => if pm_lib (pm_own m) idx = 1 ∧ pm_sm st = true then some (st, h) else none
  | _ => none
def pm_hmax (m idx : Nat) (st : List Value) (h : pm_H) : pm_R := match st with
  | .int y :: .int x :: st =>
    if pm_lib (pm_own m) idx = 2 ∧ pm_sm st = true then some (.int (if x < y then y else x) :: st, h)
    else if pm_lib (pm_own m) idx = 3 ∧ pm_sm st = true then some (.int (if y < x then y else x) :: st, h) else none
  | _ => none
def pm_hclone (m idx : Nat) (st : List Value) (h : pm_H) : pm_R := match st with
  | .ref a :: st => match h.1[a]? with
    | some (.inl (false, ys)) => if pm_lib (pm_own m) idx = 4 ∧ pm_sm st = true then some (.ref h.1.length :: st, (h.1 ++ [.inl (false, ys)], h.2 + ys.length)) else none
    | _ => none
  | _ => none
def pm_hcast (m idx : Nat) (st : List Value) (h : pm_H) : pm_R := match st with
  | .ref a :: st => match h.1[a]? with
    | some (.inl (false, _)) => if pm_lib (pm_own m) idx = 5 then some (.ref a :: st, h) else none
    | _ => none
  | _ => none
def pm_hp (m : Nat) (i : Instr) (st : List Value) (h : pm_H) (xs : List Int32) : pm_R := match i with
  | .getfield idx => pm_hget m idx st h
  | .putfield idx => pm_hput m idx st h
  | .iaload => pm_hiald st h xs
  | .iastore => pm_hiast st h
  | .aaload => pm_haald st h
  | .aastore => pm_haast st h
  | .arraylength => pm_halen st h xs
  | .new idx => pm_hnew m idx st h
  | .newarray .int => pm_hnewa false st h
  | .newarray .boolean => pm_hnewa true st h
  | .baload => pm_hbald st h
  | .bastore => pm_hbast st h
  | .anewarray idx => pm_hanew m idx st h
  | .ldc idx => pm_hcon (pm_con (pm_own m) idx) st h
  | .ldc2_w idx => pm_hcon (pm_con2 (pm_own m) idx) st h
  | .checkcast idx => pm_hcast m idx st h
  | .invokespecial idx => pm_hobj m idx st h
  | .invokestatic idx => pm_hmax m idx st h
  | .invokevirtual idx => pm_hclone m idx st h
  | _ => none

def pm_sl : List Value → List Value
  | [] => []
  | v :: vs => if v.category = 2 then v :: pm_none :: pm_sl vs else v :: pm_sl vs
def pm_pop : Nat → List Value → List Value → Option (List Value × List Value)
  | 0, as, st => some (as, st)
  | n + 1, as, v :: st => pm_pop n (v :: as) st
  | _ + 1, _, [] => none
def pm_cidx : Instr → Option (Nat × Nat)
  | .invokestatic i => some (i, 0)
  | .invokevirtual i => some (i, 1)
  | .invokespecial i => some (i, 2)
  | _ => none
def pm_chk8 (m' : Nat) (as st : List Value) : Option (Nat × List Value × List Value) := if pm_sm st = true ∧ (pm_sl as).length ≤ pm_maxL m' then some (m', as, st) else none
def pm_recv (m' : Nat) (as st : List Value) (h : pm_H) : Option (Nat × List Value × List Value) := match st with
  | .ref a :: st => match h.1[a]? with
    | some (.inr (.inr (c, _))) => if c = pm_own m' then pm_chk8 m' (.ref a :: as) st else none
    | _ => none
  | _ => none
def pm_call (m : Nat) (i : Instr) (st : List Value) (h : pm_H) : Option (Nat × List Value × List Value) := match pm_cidx i with
  | none => none
  | some (idx, kd) => match pm_inv (pm_own m) idx with
    | none => none
    | some (m', n, kind) => if kind = kd then (match pm_pop n [] st with
      | none => none
      | some (as, st) => match kd with
        | 0 => pm_chk8 m' as st
        | _ => pm_recv m' as st h) else none
def pm_entry (vs : List Value) (n : Nat) : List Value := pm_sl vs ++ List.replicate (n - (pm_sl vs).length) pm_none

def pm_step (m : Nat) (i : Instr) (pc nx : Nat) (L st : List Value) (h : pm_H) (xs : List Int32) : Option (Nat × List Value × List Value × pm_H) :=
  match pm_ts i L st with
  | some st' => some (nx, L, st', h)
  | none => match pm_tl i L st with
    | some (L', st') => some (nx, L', st', h)
    | none => match pm_hp m i st h xs with
      | some (st', h') => some (nx, L, st', h')
      | none => match pm_sw i st with
        | some (off, st') => match pm_to pc off with | some t => some (t, L, st', h) | none => none
        | none => none
def pm_run (xs : List Int32) : Nat → Nat → Nat → Nat → List Value → List Value → pm_H → Option (Option Value × pm_H)
  | 0, _, _, _, _, _, _ => none
  | n + 1, d, m, pc, L, st, h => match pm_ins m pc with
    | none => none
    | some (i, nx, tg) => match pm_ans m i st with
      | some v => some (v, h)
      | none => match pm_br i st with
        | some (c, st') => if c = true then pm_run xs n d m tg L st' h else pm_run xs n d m nx L st' h
        | none => match pm_call m i st h with
          | some (m', as, st') => match d with
            | 0 => none
            | d' + 1 => match pm_run xs n d' m' 0 (pm_entry as (pm_maxL m')) [] h with
              | none => none
              | some (v, h') => pm_run xs n (d' + 1) m nx L (v.toList ++ st') h'
          | none => match pm_step m i pc nx L st h xs with
            | none => none
            | some (pc', L', st', h') => pm_run xs n d m pc' L' st' h'
theorem pm_run_le {xs : List Int32} : ∀ {n k d m pc : Nat} {L st : List Value} {h : pm_H} {r : Option Value × pm_H}, n ≤ k → pm_run xs n d m pc L st h = some r → pm_run xs k d m pc L st h = some r := by
  intro n
  induction n with
  | zero => intro k d m pc L st h r _ e; simp [pm_run] at e
  | succ n ih =>
    intro k d m pc L st h r hk e
    obtain ⟨k, rfl⟩ : ∃ j, k = j + 1 := ⟨k - 1, by omega⟩
    have hk : n ≤ k := by omega
    unfold pm_run at e ⊢
    cases h1 : pm_ins m pc with
    | none => simp [h1] at e
    | some q0 =>
      obtain ⟨i, nx, tg⟩ := q0
      simp only [h1] at e ⊢
      cases h2 : pm_ans m i st with
      | some v => simpa only [h2] using e
      | none =>
        simp only [h2] at e ⊢
        cases h3 : pm_br i st with
        | some q =>
          obtain ⟨c, st'⟩ := q
          simp only [h3] at e ⊢
          by_cases hc : c = true
          · rw [if_pos hc] at e ⊢; exact ih hk e
          · rw [if_neg hc] at e ⊢; exact ih hk e
        | none =>
          simp only [h3] at e ⊢
          cases h4 : pm_call m i st h with
          | some q =>
            obtain ⟨m', as, st'⟩ := q
            simp only [h4] at e ⊢
            cases d with
            | zero => simp at e
            | succ d' =>
              simp only at e ⊢
              cases h5 : pm_run xs n d' m' 0 (pm_entry as (pm_maxL m')) [] h with
              | none => simp [h5] at e
              | some q =>
                obtain ⟨v, h'⟩ := q
                rw [ih hk h5]
                simp only [h5] at e ⊢
                exact ih hk e
          | none =>
            simp only [h4] at e ⊢
            cases h5 : pm_step m i pc nx L st h xs with
            | none => simp [h5] at e
            | some q =>
              obtain ⟨pc', L', st', h'⟩ := q
              simp only [h5] at e ⊢
              exact ih hk e
end
section
theorem pm_run_dle {xs : List Int32} : ∀ {n d e m pc : Nat} {L st : List Value} {h : pm_H} {r : Option Value × pm_H}, d ≤ e → pm_run xs n d m pc L st h = some r → pm_run xs n e m pc L st h = some r := by
  intro n
  induction n with
  | zero => intro d e m pc L st h r _ ev; simp [pm_run] at ev
  | succ n ih =>
    intro d e m pc L st h r hk ev
    unfold pm_run at ev ⊢
    cases h1 : pm_ins m pc with
    | none => simp [h1] at ev
    | some q0 =>
      obtain ⟨i, nx, tg⟩ := q0
      simp only [h1] at ev ⊢
      cases h2 : pm_ans m i st with
      | some v => simpa only [h2] using ev
      | none =>
        simp only [h2] at ev ⊢
        cases h3 : pm_br i st with
        | some q =>
          obtain ⟨c, st'⟩ := q
          simp only [h3] at ev ⊢
          by_cases hc : c = true
          · rw [if_pos hc] at ev ⊢; exact ih hk ev
          · rw [if_neg hc] at ev ⊢; exact ih hk ev
        | none =>
          simp only [h3] at ev ⊢
          cases h4 : pm_call m i st h with
          | some q =>
            obtain ⟨m', as, st'⟩ := q
            simp only [h4] at ev ⊢
            cases d with
            | zero => simp at ev
            | succ d' =>
              obtain ⟨e', rfl⟩ : ∃ j, e = j + 1 := ⟨e - 1, by omega⟩
              simp only at ev ⊢
              cases h5 : pm_run xs n d' m' 0 (pm_entry as (pm_maxL m')) [] h with
              | none => simp [h5] at ev
              | some q =>
                obtain ⟨v, h'⟩ := q
                rw [ih (by omega) h5]
                simp only [h5] at ev ⊢
                exact ih hk ev
          | none =>
            simp only [h4] at ev ⊢
            cases h5 : pm_step m i pc nx L st h xs with
            | none => simp [h5] at ev
            | some q =>
              obtain ⟨pc', L', st', h'⟩ := q
              simp only [h5] at ev ⊢
              exact ih hk ev
def pm_W (xs : List Int32) (d m pc : Nat) (L st : List Value) (h : pm_H) (Q : Option Value → pm_H → Prop) : Prop := ∃ (n : Nat) (v : Option Value) (h' : pm_H), pm_run xs n d m pc L st h = some (v, h') ∧ Q v h'
def pm_X (xs : List Int32) (d m : Nat) (as : List Value) (h : pm_H) (Q : Option Value → pm_H → Prop) : Prop := pm_W xs d m 0 (pm_entry as (pm_maxL m)) [] h Q
def pm_relP (c : Jvm.ClassFile.Cond) (x y : Int32) : Prop := match c with
  | .eq => x = y
  | .ne => ¬ x = y
  | .lt => x < y
  | .ge => y ≤ x
  | .gt => y < x
  | .le => x ≤ y
theorem pm_rel_iff {c : Jvm.ClassFile.Cond} {x y : Int32} : pm_rel c x y = true ↔ pm_relP c x y := by
  cases c <;> exact decide_eq_true_iff
section PMW
variable {xs : List Int32} {d m pc : Nat} {L st : List Value} {h : pm_H} {Q Q' : Option Value → pm_H → Prop}
theorem pm_W.mono (k : pm_W xs d m pc L st h Q) (hQ : ∀ v h', Q v h' → Q' v h') : pm_W xs d m pc L st h Q' := by
  obtain ⟨n, v, h', e, q⟩ := k
  exact ⟨n, v, h', e, hQ v h' q⟩
theorem pm_X.mono {as : List Value} (k : pm_X xs d m as h Q) (hQ : ∀ v h', Q v h' → Q' v h') : pm_X xs d m as h Q' := pm_W.mono k hQ
theorem pm_X.deep {d' : Nat} {as : List Value} (k : pm_X xs d m as h Q) (hd : d ≤ d') : pm_X xs d' m as h Q := by
  obtain ⟨n, v, h', e, q⟩ := k
  exact ⟨n, v, h', pm_run_dle hd e, q⟩
theorem pm_W.ans {i : Instr} {nx tg : Nat} {v : Option Value} (hi : pm_ins m pc = some (i, nx, tg)) (ha : pm_ans m i st = some v) (q : Q v h) : pm_W xs d m pc L st h Q :=
  ⟨1, v, h, by simp only [pm_run, hi, ha], q⟩
theorem pm_W.br {i : Instr} {nx tg : Nat} {c : Bool} {st' : List Value} (hi : pm_ins m pc = some (i, nx, tg)) (ha : pm_ans m i st = none) (hb : pm_br i st = some (c, st'))
    (kt : c = true → pm_W xs d m tg L st' h Q) (kf : c = false → pm_W xs d m nx L st' h Q) : pm_W xs d m pc L st h Q := by
  cases c with
  | true =>
    obtain ⟨n, v, h', e, q⟩ := kt rfl
    exact ⟨n + 1, v, h', by simp only [pm_run, hi, ha, hb, if_true]; exact e, q⟩
  | false =>
    obtain ⟨n, v, h', e, q⟩ := kf rfl
    exact ⟨n + 1, v, h', by simp only [pm_run, hi, ha, hb]; simpa using e, q⟩
theorem pm_W.step {i : Instr} {nx tg pc' : Nat} {L' st' : List Value} {h1 : pm_H} (hi : pm_ins m pc = some (i, nx, tg)) (ha : pm_ans m i st = none) (hb : pm_br i st = none) (hc : pm_call m i st h = none) (hs : pm_step m i pc nx L st h xs = some (pc', L', st', h1))
    (k : pm_W xs d m pc' L' st' h1 Q) : pm_W xs d m pc L st h Q := by
  obtain ⟨n, v, h', e, q⟩ := k
  exact ⟨n + 1, v, h', by simp only [pm_run, hi, ha, hb, hc, hs]; exact e, q⟩
theorem pm_W.call {i : Instr} {nx tg m' d' : Nat} {as st' : List Value} (hi : pm_ins m pc = some (i, nx, tg)) (ha : pm_ans m i st = none) (hb : pm_br i st = none) (hc : pm_call m i st h = some (m', as, st')) (hd : d' + 1 ≤ d)
    (k : pm_X xs d' m' as h (fun v h1 => pm_W xs d m nx L (v.toList ++ st') h1 Q)) : pm_W xs d m pc L st h Q := by
  obtain ⟨n1, v1, h1, e1, n2, v, h', e2, q⟩ := k
  obtain ⟨d, rfl⟩ : ∃ j, d = j + 1 := ⟨d - 1, by omega⟩
  refine ⟨max n1 n2 + 1, v, h', ?_, q⟩
  simp only [pm_run, hi, ha, hb, hc, pm_run_le (Nat.le_max_left n1 n2) (pm_run_dle (by omega : d' ≤ d) e1)]
  exact pm_run_le (Nat.le_max_right n1 n2) e2
theorem pm_ts_only {i : Instr} {st' : List Value} (hs : pm_ts i L st = some st') : pm_ans m i st = none ∧ pm_br i st = none ∧ pm_call m i st h = none := by
  cases i <;> first | exact ⟨rfl, rfl, rfl⟩ | (simp [pm_ts] at hs; done)
theorem pm_W.ts {i : Instr} {nx tg : Nat} {st' : List Value} (hi : pm_ins m pc = some (i, nx, tg)) (hs : pm_ts i L st = some st') (k : pm_W xs d m nx L st' h Q) : pm_W xs d m pc L st h Q := by
  obtain ⟨h1, h2, h3⟩ := pm_ts_only (m := m) (h := h) hs
  exact pm_W.step hi h1 h2 h3 (by simp only [pm_step, hs]) k
theorem pm_tl_only {i : Instr} {q : List Value × List Value} (hs : pm_tl i L st = some q) : pm_ans m i st = none ∧ pm_br i st = none ∧ pm_call m i st h = none ∧ pm_ts i L st = none := by
  cases i <;> first | exact ⟨rfl, rfl, rfl, rfl⟩ | (simp [pm_tl] at hs; done)
theorem pm_W.tl {i : Instr} {nx tg : Nat} {L' st' : List Value} (hi : pm_ins m pc = some (i, nx, tg)) (hs : pm_tl i L st = some (L', st')) (k : pm_W xs d m nx L' st' h Q) : pm_W xs d m pc L st h Q := by
  obtain ⟨h1, h2, h3, h4⟩ := pm_tl_only (m := m) (h := h) hs
  exact pm_W.step hi h1 h2 h3 (by simp only [pm_step, hs, h4]) k
theorem pm_W.icmp {c : Jvm.ClassFile.Cond} {off : Int} {nx tg : Nat} {x y : Int32} (hi : pm_ins m pc = some (.if_icmp c off, nx, tg)) (kt : pm_relP c x y → pm_W xs d m tg L st h Q) (kf : ¬ pm_relP c x y → pm_W xs d m nx L st h Q) : pm_W xs d m pc L (.int y :: .int x :: st) h Q :=
  pm_W.br hi rfl rfl (fun z => kt (pm_rel_iff.mp z)) (fun z => kf (fun q => by rw [pm_rel_iff.mpr q] at z; cases z))
theorem pm_W.ifz {c : Jvm.ClassFile.Cond} {off : Int} {nx tg : Nat} {x : Int32} (hi : pm_ins m pc = some (.ifCond c off, nx, tg)) (kt : pm_relP c x 0 → pm_W xs d m tg L st h Q) (kf : ¬ pm_relP c x 0 → pm_W xs d m nx L st h Q) : pm_W xs d m pc L (.int x :: st) h Q :=
  pm_W.br hi rfl rfl (fun z => kt (pm_rel_iff.mp z)) (fun z => kf (fun q => by rw [pm_rel_iff.mpr q] at z; cases z))
theorem pm_W.goto {off : Int} {nx tg : Nat} (hi : pm_ins m pc = some (.goto off, nx, tg)) (k : pm_W xs d m tg L st h Q) : pm_W xs d m pc L st h Q :=
  pm_W.br hi rfl rfl (fun _ => k) (fun z => by cases z)
theorem pm_W.ifnullN {off : Int} {nx tg : Nat} (hi : pm_ins m pc = some (.ifnull off, nx, tg)) (k : pm_W xs d m tg L st h Q) : pm_W xs d m pc L (.null :: st) h Q :=
  pm_W.br hi rfl rfl (fun _ => k) (fun z => by cases z)
theorem pm_W.ifnullR {off : Int} {nx tg a : Nat} (hi : pm_ins m pc = some (.ifnull off, nx, tg)) (k : pm_W xs d m nx L st h Q) : pm_W xs d m pc L (.ref a :: st) h Q :=
  pm_W.br hi rfl rfl (fun z => by cases z) (fun _ => k)
theorem pm_W.ifnonnullN {off : Int} {nx tg : Nat} (hi : pm_ins m pc = some (.ifnonnull off, nx, tg)) (k : pm_W xs d m nx L st h Q) : pm_W xs d m pc L (.null :: st) h Q :=
  pm_W.br hi rfl rfl (fun z => by cases z) (fun _ => k)
theorem pm_W.ifnonnullR {off : Int} {nx tg a : Nat} (hi : pm_ins m pc = some (.ifnonnull off, nx, tg)) (k : pm_W xs d m tg L st h Q) : pm_W xs d m pc L (.ref a :: st) h Q :=
  pm_W.br hi rfl rfl (fun _ => k) (fun z => by cases z)
theorem pm_W.sw {i : Instr} {nx tg t : Nat} {off : Int} {st' : List Value} (hi : pm_ins m pc = some (i, nx, tg)) (hs : pm_sw i st = some (off, st')) (ht : pm_to pc off = some t) (k : pm_W xs d m t L st' h Q) : pm_W xs d m pc L st h Q := by
  have h1 : pm_ans m i st = none ∧ pm_br i st = none ∧ pm_call m i st h = none ∧ pm_ts i L st = none ∧ pm_tl i L st = none ∧ pm_hp m i st h xs = none := by
    cases i <;> first | exact ⟨rfl, rfl, rfl, rfl, rfl, rfl⟩ | (simp [pm_sw] at hs; done)
  obtain ⟨h1, h2, h3, h4, h5, h6⟩ := h1
  exact pm_W.step hi h1 h2 h3 (by simp only [pm_step, hs, ht, h4, h5, h6]) k
theorem pm_W.hp {i : Instr} {nx tg : Nat} {st' : List Value} {h1 : pm_H} (hi : pm_ins m pc = some (i, nx, tg)) (hc : pm_call m i st h = none) (hs : pm_hp m i st h xs = some (st', h1)) (k : pm_W xs d m nx L st' h1 Q) : pm_W xs d m pc L st h Q := by
  have h1 : pm_ans m i st = none ∧ pm_br i st = none ∧ pm_ts i L st = none ∧ pm_tl i L st = none := by
    cases i <;> first | exact ⟨rfl, rfl, rfl, rfl⟩ | (simp [pm_hp] at hs; done)
  obtain ⟨h1, h2, h4, h5⟩ := h1
  exact pm_W.step hi h1 h2 hc (by simp only [pm_step, hs, h4, h5]) k
theorem pm_W.get {idx nx tg a c k : Nat} {fs : List Value} {v : Value} (hi : pm_ins m pc = some (.getfield idx, nx, tg)) (hf : pm_fld (pm_own m) idx = some (c, k)) (ha : h.1[a]? = some (.inr (.inr (c, fs)))) (hv : fs[k]? = some v)
    (kk : pm_W xs d m nx L (v :: st) h Q) : pm_W xs d m pc L (.ref a :: st) h Q :=
  pm_W.hp hi rfl (by simp [pm_hp, pm_hget, hf, ha, hv]) kk
theorem pm_W.put {idx nx tg a c k : Nat} {fs : List Value} {v : Value} (hi : pm_ins m pc = some (.putfield idx, nx, tg)) (hf : pm_fld (pm_own m) idx = some (c, k)) (ha : h.1[a]? = some (.inr (.inr (c, fs)))) (hl : k < fs.length) (hok : pm_ok (pm_fty c k) v = true) (hfin : pm_fin c k = false ∨ (pm_init m = true ∧ pm_own m = c))
    (kk : pm_W xs d m nx L st (h.1.set a (.inr (.inr (c, fs.set k v))), h.2) Q) : pm_W xs d m pc L (v :: .ref a :: st) h Q :=
  pm_W.hp hi rfl (by simp [pm_hp, pm_hput, hf, ha, hl, hok, hfin]) kk
theorem pm_W.iald {nx tg a k : Nat} {j : Int32} {ys : List Int32} (hi : pm_ins m pc = some (.iaload, nx, tg)) (ha : h.1[a]? = some (.inl (false, ys))) (hj : pm_ix j ys.length = some k)
    (kk : pm_W xs d m nx L (.int (ys.getD k 0) :: st) h Q) : pm_W xs d m pc L (.int j :: .ref a :: st) h Q :=
  pm_W.hp hi rfl (by simp [pm_hp, pm_hiald, ha, hj]) kk
theorem pm_W.sald {nx tg k : Nat} {j : Int32} (hi : pm_ins m pc = some (.iaload, nx, tg)) (hj : pm_ix j xs.length = some k)
    (kk : pm_W xs d m nx L (.int (xs.getD k 0) :: st) h Q) : pm_W xs d m pc L (.int j :: .retAddr 1 :: st) h Q :=
  pm_W.hp hi rfl (by simp [pm_hp, pm_hiald, hj]) kk
theorem pm_W.iast {nx tg a k : Nat} {j x : Int32} {ys : List Int32} (hi : pm_ins m pc = some (.iastore, nx, tg)) (ha : h.1[a]? = some (.inl (false, ys))) (hj : pm_ix j ys.length = some k)
    (kk : pm_W xs d m nx L st (h.1.set a (.inl (false, ys.set k x)), h.2) Q) : pm_W xs d m pc L (.int x :: .int j :: .ref a :: st) h Q :=
  pm_W.hp hi rfl (by simp [pm_hp, pm_hiast, ha, hj]) kk
theorem pm_W.bald {nx tg a k : Nat} {j : Int32} {ys : List Int32} (hi : pm_ins m pc = some (.baload, nx, tg)) (ha : h.1[a]? = some (.inl (true, ys))) (hj : pm_ix j ys.length = some k)
    (kk : pm_W xs d m nx L (.int (ys.getD k 0) :: st) h Q) : pm_W xs d m pc L (.int j :: .ref a :: st) h Q :=
  pm_W.hp hi rfl (by simp [pm_hp, pm_hbald, ha, hj]) kk
theorem pm_W.bast {nx tg a k : Nat} {j x : Int32} {ys : List Int32} (hi : pm_ins m pc = some (.bastore, nx, tg)) (ha : h.1[a]? = some (.inl (true, ys))) (hj : pm_ix j ys.length = some k) (hx : (x == 0 || x == 1) = true)
    (kk : pm_W xs d m nx L st (h.1.set a (.inl (true, ys.set k x)), h.2) Q) : pm_W xs d m pc L (.int x :: .int j :: .ref a :: st) h Q :=
  pm_W.hp hi rfl (by simp only [pm_hp, pm_hbast, ha, hj, hx, if_true]) kk
theorem pm_W.newz {nx tg : Nat} {n : Int32} (hi : pm_ins m pc = some (.newarray .boolean, nx, tg)) (h0 : ¬ n < 0) (hn : n.toNatClampNeg ≤ 65536)
    (kk : pm_W xs d m nx L (.ref h.1.length :: st) (h.1 ++ [.inl (true, List.replicate n.toNatClampNeg 0)], h.2 + n.toNatClampNeg) Q) : pm_W xs d m pc L (.int n :: st) h Q :=
  pm_W.hp hi rfl (by simp only [pm_hp, pm_hnewa]; rw [if_neg (fun z => z.elim h0 (Nat.not_lt.mpr hn))]) kk
theorem pm_W.aald {nx tg a k t : Nat} {j : Int32} {rs : List (Option Nat)} (hi : pm_ins m pc = some (.aaload, nx, tg)) (ha : h.1[a]? = some (.inr (.inl (t, rs)))) (hj : pm_ix j rs.length = some k) (ht : t ∈ pm_ra)
    (kk : pm_W xs d m nx L (pm_rv (rs.getD k none) :: st) h Q) : pm_W xs d m pc L (.int j :: .ref a :: st) h Q :=
  pm_W.hp hi rfl (by simp [pm_hp, pm_haald, ha, hj, ht]) kk
theorem pm_W.aast {nx tg a v k t : Nat} {j : Int32} {rs : List (Option Nat)} {vs : List Value} (hi : pm_ins m pc = some (.aastore, nx, tg)) (ha : h.1[a]? = some (.inr (.inl (t, rs)))) (hv : h.1[v]? = some (.inr (.inr (t, vs)))) (hj : pm_ix j rs.length = some k) (ht : t ∈ pm_ra)
    (kk : pm_W xs d m nx L st (h.1.set a (.inr (.inl (t, rs.set k (some v)))), h.2) Q) : pm_W xs d m pc L (.ref v :: .int j :: .ref a :: st) h Q :=
  pm_W.hp hi rfl (by simp [pm_hp, pm_haast, ha, hv, hj, ht]) kk
theorem pm_W.aastN {nx tg a k t : Nat} {j : Int32} {rs : List (Option Nat)} (hi : pm_ins m pc = some (.aastore, nx, tg)) (ha : h.1[a]? = some (.inr (.inl (t, rs)))) (hj : pm_ix j rs.length = some k) (ht : t ∈ pm_ra)
    (kk : pm_W xs d m nx L st (h.1.set a (.inr (.inl (t, rs.set k none))), h.2) Q) : pm_W xs d m pc L (.null :: .int j :: .ref a :: st) h Q :=
  pm_W.hp hi rfl (by simp [pm_hp, pm_haast, ha, hj, ht]) kk
theorem pm_W.alen {nx tg a : Nat} {ys : List Int32} (hi : pm_ins m pc = some (.arraylength, nx, tg)) (ha : h.1[a]? = some (.inl (false, ys))) (kk : pm_W xs d m nx L (.int (Int32.ofNat ys.length) :: st) h Q) : pm_W xs d m pc L (.ref a :: st) h Q :=
  pm_W.hp hi rfl (by simp [pm_hp, pm_halen, ha]) kk
theorem pm_W.alenR {nx tg a t : Nat} {rs : List (Option Nat)} (hi : pm_ins m pc = some (.arraylength, nx, tg)) (ha : h.1[a]? = some (.inr (.inl (t, rs)))) (ht : t ∈ pm_ra) (kk : pm_W xs d m nx L (.int (Int32.ofNat rs.length) :: st) h Q) : pm_W xs d m pc L (.ref a :: st) h Q :=
  pm_W.hp hi rfl (by simp [pm_hp, pm_halen, ha, ht]) kk
theorem pm_W.slen {nx tg : Nat} (hi : pm_ins m pc = some (.arraylength, nx, tg)) (kk : pm_W xs d m nx L (.int (Int32.ofNat xs.length) :: st) h Q) : pm_W xs d m pc L (.retAddr 1 :: st) h Q :=
  pm_W.hp hi rfl (by simp [pm_hp, pm_halen]) kk
theorem pm_W.new {idx nx tg : Nat} {q : Nat × List Value} (hi : pm_ins m pc = some (.new idx, nx, tg)) (hf : pm_new (pm_own m) idx = some q)
    (kk : pm_W xs d m nx L (.ref h.1.length :: st) (h.1 ++ [.inr (.inr q)], h.2 + q.2.length) Q) : pm_W xs d m pc L st h Q :=
  pm_W.hp hi rfl (by simp [pm_hp, pm_hnew, hf]) kk
theorem pm_W.newa {nx tg : Nat} {n : Int32} (hi : pm_ins m pc = some (.newarray .int, nx, tg)) (h0 : ¬ n < 0) (hn : n.toNatClampNeg ≤ 65536)
    (kk : pm_W xs d m nx L (.ref h.1.length :: st) (h.1 ++ [.inl (false, List.replicate n.toNatClampNeg 0)], h.2 + n.toNatClampNeg) Q) : pm_W xs d m pc L (.int n :: st) h Q :=
  pm_W.hp hi rfl (by simp only [pm_hp, pm_hnewa]; rw [if_neg (fun z => z.elim h0 (Nat.not_lt.mpr hn))]) kk
theorem pm_W.anew {idx nx tg t : Nat} {n : Int32} (hi : pm_ins m pc = some (.anewarray idx, nx, tg)) (hf : pm_anew (pm_own m) idx = some t) (h0 : ¬ n < 0) (hn : n.toNatClampNeg ≤ 65536)
    (kk : pm_W xs d m nx L (.ref h.1.length :: st) (h.1 ++ [.inr (.inl (t, List.replicate n.toNatClampNeg none))], h.2 + n.toNatClampNeg) Q) : pm_W xs d m pc L (.int n :: st) h Q :=
  pm_W.hp hi rfl (by simp only [pm_hp, pm_hanew, hf]; rw [if_neg (fun z => z.elim h0 (Nat.not_lt.mpr hn))]) kk
theorem pm_W.ldc {idx nx tg : Nat} {v : Value} (hi : pm_ins m pc = some (.ldc idx, nx, tg)) (hf : pm_con (pm_own m) idx = some v) (kk : pm_W xs d m nx L (v :: st) h Q) : pm_W xs d m pc L st h Q :=
  pm_W.hp hi rfl (by simp [pm_hp, pm_hcon, hf]) kk
theorem pm_W.ldc2 {idx nx tg : Nat} {v : Value} (hi : pm_ins m pc = some (.ldc2_w idx, nx, tg)) (hf : pm_con2 (pm_own m) idx = some v) (kk : pm_W xs d m nx L (v :: st) h Q) : pm_W xs d m pc L st h Q :=
  pm_W.hp hi rfl (by simp [pm_hp, pm_hcon, hf]) kk
theorem pm_W.obj {idx nx tg a : Nat} (hi : pm_ins m pc = some (.invokespecial idx, nx, tg)) (hn : pm_inv (pm_own m) idx = none) (hl : pm_lib (pm_own m) idx = 1) (hsm : pm_sm st = true) (kk : pm_W xs d m nx L st h Q) : pm_W xs d m pc L (.ref a :: st) h Q :=
  pm_W.hp hi (by simp [pm_call, pm_cidx, hn]) (by simp [pm_hp, pm_hobj, hl, hsm]) kk
theorem pm_W.max {idx nx tg : Nat} {x y : Int32} (hi : pm_ins m pc = some (.invokestatic idx, nx, tg)) (hn : pm_inv (pm_own m) idx = none) (hl : pm_lib (pm_own m) idx = 2) (hsm : pm_sm st = true) (kk : pm_W xs d m nx L (.int (if x < y then y else x) :: st) h Q) : pm_W xs d m pc L (.int y :: .int x :: st) h Q :=
  pm_W.hp hi (by simp [pm_call, pm_cidx, hn]) (by simp [pm_hp, pm_hmax, hl, hsm]) kk
theorem pm_W.min {idx nx tg : Nat} {x y : Int32} (hi : pm_ins m pc = some (.invokestatic idx, nx, tg)) (hn : pm_inv (pm_own m) idx = none) (hl : pm_lib (pm_own m) idx = 3) (hsm : pm_sm st = true) (kk : pm_W xs d m nx L (.int (if y < x then y else x) :: st) h Q) : pm_W xs d m pc L (.int y :: .int x :: st) h Q :=
  pm_W.hp hi (by simp [pm_call, pm_cidx, hn]) (by simp [pm_hp, pm_hmax, hl, hsm]) kk
theorem pm_W.clone {idx nx tg a : Nat} {ys : List Int32} (hi : pm_ins m pc = some (.invokevirtual idx, nx, tg)) (hn : pm_inv (pm_own m) idx = none) (hl : pm_lib (pm_own m) idx = 4) (hsm : pm_sm st = true) (ha : h.1[a]? = some (.inl (false, ys)))
    (kk : pm_W xs d m nx L (.ref h.1.length :: st) (h.1 ++ [.inl (false, ys)], h.2 + ys.length) Q) : pm_W xs d m pc L (.ref a :: st) h Q :=
  pm_W.hp hi (by simp [pm_call, pm_cidx, hn]) (by simp [pm_hp, pm_hclone, hl, hsm, ha]) kk
theorem pm_W.cast {idx nx tg a : Nat} {ys : List Int32} (hi : pm_ins m pc = some (.checkcast idx, nx, tg)) (hl : pm_lib (pm_own m) idx = 5) (ha : h.1[a]? = some (.inl (false, ys))) (kk : pm_W xs d m nx L (.ref a :: st) h Q) : pm_W xs d m pc L (.ref a :: st) h Q :=
  pm_W.hp hi rfl (by simp [pm_hp, pm_hcast, hl, ha]) kk
theorem pm_W.callS {idx nx tg m' n d' : Nat} {as st' : List Value} (hi : pm_ins m pc = some (.invokestatic idx, nx, tg)) (hv : pm_inv (pm_own m) idx = some (m', n, 0)) (hp : pm_pop n [] st = some (as, st')) (hsm : pm_sm st' = true) (hl : (pm_sl as).length ≤ pm_maxL m') (hd : d' + 1 ≤ d)
    (k : pm_X xs d' m' as h (fun v h1 => pm_W xs d m nx L (v.toList ++ st') h1 Q)) : pm_W xs d m pc L st h Q :=
  pm_W.call hi rfl rfl (by simp [pm_call, pm_cidx, hv, hp, pm_chk8, hsm, hl]) hd k
theorem pm_W.callV {idx nx tg m' n d' a : Nat} {as st' fs : List Value} (hi : pm_ins m pc = some (.invokevirtual idx, nx, tg)) (hv : pm_inv (pm_own m) idx = some (m', n, 1)) (hp : pm_pop n [] st = some (as, .ref a :: st')) (hsm : pm_sm st' = true) (hl : (pm_sl (.ref a :: as)).length ≤ pm_maxL m') (ha : h.1[a]? = some (.inr (.inr (pm_own m', fs)))) (hd : d' + 1 ≤ d)
    (k : pm_X xs d' m' (.ref a :: as) h (fun v h1 => pm_W xs d m nx L (v.toList ++ st') h1 Q)) : pm_W xs d m pc L st h Q :=
  pm_W.call hi rfl rfl (by simp [pm_call, pm_cidx, hv, hp, pm_recv, ha, pm_chk8, hsm, hl]) hd k
theorem pm_W.callI {idx nx tg m' n d' a : Nat} {as st' fs : List Value} (hi : pm_ins m pc = some (.invokespecial idx, nx, tg)) (hv : pm_inv (pm_own m) idx = some (m', n, 2)) (hp : pm_pop n [] st = some (as, .ref a :: st')) (hsm : pm_sm st' = true) (hl : (pm_sl (.ref a :: as)).length ≤ pm_maxL m') (ha : h.1[a]? = some (.inr (.inr (pm_own m', fs)))) (hd : d' + 1 ≤ d)
    (k : pm_X xs d' m' (.ref a :: as) h (fun v h1 => pm_W xs d m nx L (v.toList ++ st') h1 Q)) : pm_W xs d m pc L st h Q :=
  pm_W.call hi rfl rfl (by simp [pm_call, pm_cidx, hv, hp, pm_recv, ha, pm_chk8, hsm, hl]) hd k
theorem pm_W.iret {nx tg : Nat} {x : Int32} (hi : pm_ins m pc = some (.ireturn, nx, tg)) (hr : pm_rok (pm_rt m) x = true) (q : Q (some (.int x)) h) : pm_W xs d m pc L [.int x] h Q :=
  pm_W.ans hi (by simp [pm_ans, hr]) q
theorem pm_W.aretR {nx tg a : Nat} (hi : pm_ins m pc = some (.areturn, nx, tg)) (hr : pm_rr (pm_rt m) = true) (q : Q (some (.ref a)) h) : pm_W xs d m pc L [.ref a] h Q :=
  pm_W.ans hi (by simp [pm_ans, hr]) q
theorem pm_W.aretN {nx tg : Nat} (hi : pm_ins m pc = some (.areturn, nx, tg)) (hr : pm_rr (pm_rt m) = true) (q : Q (some .null) h) : pm_W xs d m pc L [.null] h Q :=
  pm_W.ans hi (by simp [pm_ans, hr]) q
theorem pm_W.lret {nx tg : Nat} {x : Int64} (hi : pm_ins m pc = some (.lreturn, nx, tg)) (hr : pm_rt m = some .long) (q : Q (some (.long x)) h) : pm_W xs d m pc L [.long x] h Q :=
  pm_W.ans hi (by simp [pm_ans, hr]) q
theorem pm_W.ret {nx tg : Nat} (hi : pm_ins m pc = some (.return_, nx, tg)) (hr : pm_rt m = none) (q : Q none h) : pm_W xs d m pc L [] h Q :=
  pm_W.ans hi (by simp [pm_ans, hr]) q
theorem pm_W.irem {nx tg : Nat} {x y : Int32} (hi : pm_ins m pc = some (.irem, nx, tg)) (hy : ¬ y = 0) (k : pm_W xs d m nx L (.int (x - x / y * y) :: st) h Q) : pm_W xs d m pc L (.int y :: .int x :: st) h Q :=
  pm_W.ts hi (by simp only [pm_ts, pm_i2, if_neg hy]) k
theorem pm_W.idiv {nx tg : Nat} {x y : Int32} (hi : pm_ins m pc = some (.idiv, nx, tg)) (hy : ¬ y = 0) (k : pm_W xs d m nx L (.int (x / y) :: st) h Q) : pm_W xs d m pc L (.int y :: .int x :: st) h Q :=
  pm_W.ts hi (by simp only [pm_ts, pm_i2, if_neg hy]) k
theorem pm_ix_ok {j k : Nat} (h : j < k) (hk : k < 2 ^ 31) : pm_ix (nI j) k = some j := by
  unfold pm_ix
  rw [if_neg (nI_in h hk), nI_clamp (by omega)]
end PMW
end
section
def pm_ren (B b : Nat) (v : Value) : Value := match v with
  | .ref k => .ref (B + k)
  | .retAddr 1 => .ref b
  | v => v
theorem pm_ren_cat (B b : Nat) (v : Value) : (pm_ren B b v).category = v.category := by
  cases v with
  | retAddr n =>
    by_cases h : n = 1
    · subst h; rfl
    · unfold pm_ren; split <;> first | rfl | simp_all
  | _ => rfl
def pm_eC (cI : Bool → ClassId) (cR : Nat → ClassId) (B b : Nat) (c : pm_C) : va_E := match c with
  | .inl (z, ys) => .inl (cI z, ys.length, .inl (fun j => ys.getD j 0))
  | .inr (.inl (t, rs)) => .inl (cR t, rs.length, .inr (.inr (.inr (.inr (fun j => (rs.getD j none).map (B + ·))))))
  | .inr (.inr (c, fs)) => .inr (c, fs.map (pm_ren B b))
def pm_emb (cI : Bool → ClassId) (cR : Nat → ClassId) (B b : Nat) (h : List pm_C) : va_W := h.mapIdx (fun k c => (B + k, pm_eC cI cR B b c))
theorem pm_emb_at {cI : Bool → ClassId} {cR : Nat → ClassId} {B b : Nat} {h : List pm_C} {k : Nat} {c : pm_C} (e : h[k]? = some c) : (pm_emb cI cR B b h)[k]? = some (B + k, pm_eC cI cR B b c) := by
  simp [pm_emb, List.getElem?_mapIdx, e]
theorem pm_emb_inv {cI : Bool → ClassId} {cR : Nat → ClassId} {B b : Nat} {h : List pm_C} {k : Nat} {q : Nat × va_E} (e : (pm_emb cI cR B b h)[k]? = some q) : k < h.length ∧ q.1 = B + k := by
  simp only [pm_emb, List.getElem?_mapIdx, Option.map_eq_some_iff] at e
  obtain ⟨c, e, rfl⟩ := e
  exact ⟨(List.getElem?_eq_some_iff.mp e).1, rfl⟩
theorem pm_emb_set {cI : Bool → ClassId} {cR : Nat → ClassId} {B b : Nat} {h : List pm_C} {k : Nat} {c : pm_C} : pm_emb cI cR B b (h.set k c) = (pm_emb cI cR B b h).set k (B + k, pm_eC cI cR B b c) := by
  apply List.ext_getElem?
  intro j
  simp only [pm_emb, List.getElem?_mapIdx, List.getElem?_set, List.length_mapIdx]
  by_cases hj : k = j
  · subst hj
    by_cases hl : k < h.length <;> simp [hl]
  · simp [hj]
theorem pm_emb_push {cI : Bool → ClassId} {cR : Nat → ClassId} {B b : Nat} {h : List pm_C} {c : pm_C} : pm_emb cI cR B b (h ++ [c]) = pm_emb cI cR B b h ++ [(B + h.length, pm_eC cI cR B b c)] := by
  simp [pm_emb, List.mapIdx_append]
theorem pm_D {cI : Bool → ClassId} {cR : Nat → ClassId} {B b : Nat} {h : List pm_C} : va_D (fun q => B ≤ q) (pm_emb cI cR B b h) := by
  refine ⟨fun i j p q hp hq e => ?_, fun k q hk => ?_⟩
  · have h1 := (pm_emb_inv hp).2
    have h2 := (pm_emb_inv hq).2
    omega
  · have h1 := (pm_emb_inv hk).2
    show B ≤ q.1
    omega
def pm_L (B b : Nat) (ls : Array Slot) (L : List Value) : Prop := ls.size = L.length ∧ lv_wf ls ∧ ∀ (i : Nat) (v : Value), L[i]? = some v → v ≠ pm_none → ls[i]? = some (.val (pm_ren B b v))
def pm_lv (B b : Nat) (L : List Value) : List (Nat × Value) := (L.zipIdx.filter (fun q => decide (q.1 ≠ pm_none))).map (fun q => (q.2, pm_ren B b q.1))
theorem pm_lv_mem {B b : Nat} {L : List Value} {q : Nat × Value} : q ∈ pm_lv B b L ↔ ∃ v, L[q.1]? = some v ∧ v ≠ pm_none ∧ q.2 = pm_ren B b v := by
  simp only [pm_lv, List.mem_map, List.mem_filter, decide_eq_true_eq]
  constructor
  · rintro ⟨⟨v, i⟩, ⟨h1, h2⟩, rfl⟩
    exact ⟨v, (List.mem_zipIdx_iff_getElem?.mp h1), h2, rfl⟩
  · rintro ⟨v, h1, h2, h3⟩
    exact ⟨(v, q.1), ⟨List.mem_zipIdx_iff_getElem?.mpr h1, h2⟩, by rw [← h3]⟩
theorem pm_L.has {B b : Nat} {ls : Array Slot} {L : List Value} (h : pm_L B b ls L) : lv_has ls L.length (pm_lv B b L) := by
  refine ⟨h.1, h.2.1, fun q hq => ?_⟩
  obtain ⟨v, h1, h2, h3⟩ := pm_lv_mem.mp hq
  rw [h.2.2 q.1 v h1 h2, h3]
theorem pm_L.st1 {B b i : Nat} {ls : Array Slot} {L : List Value} {v : Value} (hi : i < L.length) (hlow : pm_low L i = true)
    (h : lv_has ls L.length ((i, pm_ren B b v) :: (pm_lv B b L).filter (fun q => !(q.1 == i) && !(q.1 + 1 == i && q.2.category == 2)))) : pm_L B b ls (L.set i v) := by
  refine ⟨by rw [List.length_set]; exact h.1, h.2.1, fun j w hj hw => ?_⟩
  by_cases e : i = j
  · subst e
    rw [List.getElem?_set_self hi] at hj
    cases hj
    exact h.2.2 _ List.mem_cons_self
  · rw [List.getElem?_set_ne e] at hj
    refine h.2.2 (j, pm_ren B b w) (List.mem_cons_of_mem _ (List.mem_filter.mpr ⟨pm_lv_mem.mpr ⟨w, hj, hw, rfl⟩, ?_⟩))
    have e' : ¬ j = i := fun q => e q.symm
    simp only [beq_eq_false_iff_ne.mpr e', Bool.not_false, Bool.true_and, pm_ren_cat]
    by_cases e2 : j + 1 = i
    · subst e2
      have : w.category ≠ 2 := by
        intro hc
        simp [pm_low, hj, hc] at hlow
      simp [this]
    · simp [e2]
section SZ
variable {p : Program} {l : Launch} {e : Env} {R : Room} {s : State} {m : MethodId} {args : Array Value} {below : List Frame} {meth : Method} {c : Code} {H : Heap} {locs : List Loc} {cells slots : Nat} {Q : State → Prop} {g : JFrame}
theorem pm_W_size (k : H.size ≤ s.heap.size + cells → W p l e R s m args below meth c H locs cells slots Q g) : W p l e R s m args below meth c H locs cells slots Q g := by
  intro T hT X
  have h1 : T.heap.size ≤ s.heap.size + cells := X.same.2.2.1
  exact k (by rw [← hT]; exact h1) T hT X
end SZ
theorem pm_le {D : va_G} {cl : List vw_C} {cI : Bool → ClassId} {cR : Nat → ClassId} {B b : Nat} {h : List pm_C} {H : Heap} (hP : va_P D cl (pm_emb cI cR B b h) H) (h0 : B ≤ H.size) : B + h.length ≤ H.size := by
  cases hh : h.length with
  | zero => omega
  | succ n =>
    obtain ⟨c, hc⟩ : ∃ c, h[n]? = some c := ⟨h[n]'(by omega), List.getElem?_eq_getElem _⟩
    have h1 := (hP n _ (pm_emb_at hc)).lt
    simp only at h1
    omega
theorem pm_fresh {D : va_G} {cl : List vw_C} {cI : Bool → ClassId} {cR : Nat → ClassId} {B b q : Nat} {h : List pm_C} {e : va_E} {H : Heap} (hP : va_P D cl (pm_emb cI cR B b h ++ [(q, e)]) H) (hD : va_D (fun q => B ≤ q) (pm_emb cI cR B b h ++ [(q, e)])) (hz : H.size ≤ B + h.length + 1) : q = B + h.length := by
  have hl : (pm_emb cI cR B b h).length = h.length := by simp [pm_emb]
  have hq : (pm_emb cI cR B b h ++ [(q, e)])[h.length]? = some (q, e) := by rw [← hl]; simp
  have h1 := (hP _ _ hq).lt
  have h2 : B ≤ q := hD.2 _ _ hq
  simp only at h1
  rcases Nat.lt_or_ge (q - B) h.length with hlt | hge
  · obtain ⟨c, hc⟩ : ∃ c, h[q - B]? = some c := ⟨h[q - B]'hlt, List.getElem?_eq_getElem _⟩
    have h3 := pm_emb_at (cI := cI) (cR := cR) (B := B) (b := b) hc
    have h4 : (pm_emb cI cR B b h ++ [(q, e)])[q - B]? = some (B + (q - B), pm_eC cI cR B b c) := by rw [List.getElem?_append_left (by rw [hl]; exact hlt)]; exact h3
    have h5 := hD.1 _ _ _ _ h4 hq (by show B + (q - B) = q; omega)
    omega
  · omega

section TS
variable {p : Program} {l : Launch} {e : Env} {R : Room} {s : State} {mi : MethodId} {args : Array Value} {below : List Frame} {meth : Method} {c : Code} {H : Heap} {locs : List Loc} {cells slots : Nat} {Q : State → Prop}
variable {cc : ByteArray} {pc : Nat} {ls : Array Slot} {B b : Nat} {L st st' : List Value}
theorem pm_ldi_ok {k : Nat} (hL : pm_L B b ls L) (h : pm_ldi L k st = some st') : ∃ x, st' = .int x :: st ∧ ls[k]? = some (.val (.int x)) := by
  unfold pm_ldi at h
  split at h
  · rename_i x hx
    cases h
    exact ⟨x, rfl, hL.2.2 k _ hx (by simp)⟩
  · cases h
theorem pm_ldl_ok {k : Nat} (hL : pm_L B b ls L) (h : pm_ldl L k st = some st') : ∃ x, st' = .long x :: st ∧ ls[k]? = some (.val (.long x)) := by
  unfold pm_ldl at h
  split at h
  · rename_i x hx
    cases h
    exact ⟨x, rfl, hL.2.2 k _ hx (by simp)⟩
  · cases h
theorem pm_lda_ok {k : Nat} (hL : pm_L B b ls L) (h : pm_lda L k st = some st') : (∃ v x, st' = v :: st ∧ pm_ren B b v = .ref x ∧ ls[k]? = some (.val (.ref x))) ∨ (st' = .null :: st ∧ ls[k]? = some (.val .null)) := by
  unfold pm_lda at h
  split at h
  · rename_i x hx
    cases h
    exact Or.inl ⟨.ref x, B + x, rfl, rfl, hL.2.2 k _ hx (by simp)⟩
  · rename_i hx
    cases h
    exact Or.inr ⟨rfl, hL.2.2 k _ hx (by simp)⟩
  · rename_i hx
    cases h
    exact Or.inl ⟨.retAddr 1, b, rfl, rfl, hL.2.2 k _ hx (by simp)⟩
  · cases h
theorem pm_i2_ok {f : Int32 → Int32 → Option Value} (h : pm_i2 f st = some st') : ∃ x y v rest, st = .int y :: .int x :: rest ∧ f x y = some v ∧ st' = v :: rest := by
  unfold pm_i2 at h
  split at h
  · rename_i y x rest
    split at h
    · rename_i v hv
      cases h
      exact ⟨x, y, v, rest, rfl, hv, rfl⟩
    · cases h
  · cases h
theorem pm_l2_ok {f : Int64 → Int64 → Option Value} (h : pm_l2 f st = some st') : ∃ x y v rest, st = .long y :: .long x :: rest ∧ f x y = some v ∧ st' = v :: rest := by
  unfold pm_l2 at h
  split at h
  · rename_i y x rest
    split at h
    · rename_i v hv
      cases h
      exact ⟨x, y, v, rest, rfl, hv, rfl⟩
    · cases h
  · cases h
theorem pm_li_ok {f : Int64 → Int32 → Value} (h : pm_li f st = some st') : ∃ x y rest, st = .int y :: .long x :: rest ∧ st' = f x y :: rest := by
  unfold pm_li at h
  split at h
  · rename_i y x rest
    cases h
    exact ⟨x, y, rest, rfl, rfl⟩
  · cases h
theorem pm_i1_ok {f : Int32 → Value} (h : pm_i1 f st = some st') : ∃ x rest, st = .int x :: rest ∧ st' = f x :: rest := by
  unfold pm_i1 at h
  split at h
  · rename_i x rest
    cases h
    exact ⟨x, rest, rfl, rfl⟩
  · cases h
theorem pm_l1_ok {f : Int64 → Value} (h : pm_l1 f st = some st') : ∃ x rest, st = .long x :: rest ∧ st' = f x :: rest := by
  unfold pm_l1 at h
  split at h
  · rename_i x rest
    cases h
    exact ⟨x, rest, rfl, rfl⟩
  · cases h
set_option maxHeartbeats 4000000 in
theorem pm_ts_ok (hx : p.tables.exec = Jvm.exec) (hb : c.code = cc) {i : Instr} (hd : decode cc pc = .ok (i, pm_len pc i)) (hL : pm_L B b ls L) (h : pm_ts i L st = some st')
    (k : W p l e R s mi args below meth c H locs cells slots Q (F0 mi (pc + pm_len pc i) ls (st'.map (pm_ren B b)))) : W p l e R s mi args below meth c H locs cells slots Q (F0 mi pc ls (st.map (pm_ren B b))) := by
  cases i with
  | iconst n => cases h; exact lv_iconst hx hb hd rfl k
  | bipush n => cases h; exact lv_bipush hx hb hd rfl k
  | sipush n => cases h; exact lv_sipush hx hb hd rfl k
  | lconst n => cases h; exact lv_lconst hx hb hd rfl k
  | aconst_null => cases h; exact lv_null hx hb hd k
  | iload_n j => obtain ⟨x, rfl, hv⟩ := pm_ldi_ok hL h; exact lv_iload_n hx hb hd rfl hv k
  | iload j => obtain ⟨x, rfl, hv⟩ := pm_ldi_ok hL h; exact lv_iload hx hb hd hv k
  | lload_n j => obtain ⟨x, rfl, hv⟩ := pm_ldl_ok hL h; exact lv_lload_n hx hb hd rfl hv k
  | lload j => obtain ⟨x, rfl, hv⟩ := pm_ldl_ok hL h; exact lv_lload hx hb hd hv k
  | aload_n j =>
    rcases pm_lda_ok hL h with ⟨v, x, rfl, hr, hv⟩ | ⟨rfl, hv⟩
    · rw [List.map_cons, hr] at k; exact lv_aload_n hx hb hd rfl hv k
    · exact lv_aload_nN hx hb hd rfl hv k
  | aload j =>
    rcases pm_lda_ok hL h with ⟨v, x, rfl, hr, hv⟩ | ⟨rfl, hv⟩
    · rw [List.map_cons, hr] at k; exact lv_aload hx hb hd hv k
    · exact lv_aloadN hx hb hd hv k
  | iadd => simp only [pm_ts] at h; obtain ⟨x, y, v, rest, rfl, hv, rfl⟩ := pm_i2_ok h; cases hv; exact lv_iadd hx hb hd k
  | isub => simp only [pm_ts] at h; obtain ⟨x, y, v, rest, rfl, hv, rfl⟩ := pm_i2_ok h; cases hv; exact lv_isub hx hb hd k
  | imul => simp only [pm_ts] at h; obtain ⟨x, y, v, rest, rfl, hv, rfl⟩ := pm_i2_ok h; cases hv; exact lv_imul hx hb hd k
  | iand => simp only [pm_ts] at h; obtain ⟨x, y, v, rest, rfl, hv, rfl⟩ := pm_i2_ok h; cases hv; exact lv_iand hx hb hd k
  | ior => simp only [pm_ts] at h; obtain ⟨x, y, v, rest, rfl, hv, rfl⟩ := pm_i2_ok h; cases hv; exact lv_ior hx hb hd k
  | ixor => simp only [pm_ts] at h; obtain ⟨x, y, v, rest, rfl, hv, rfl⟩ := pm_i2_ok h; cases hv; exact lv_ixor hx hb hd k
  | idiv =>
    simp only [pm_ts] at h
    obtain ⟨x, y, v, rest, rfl, hv, rfl⟩ := pm_i2_ok h
    by_cases hy : y = 0
    · rw [if_pos hy] at hv; cases hv
    · rw [if_neg hy] at hv; cases hv; exact lv_idiv hx hb hd hy k
  | irem =>
    simp only [pm_ts] at h
    obtain ⟨x, y, v, rest, rfl, hv, rfl⟩ := pm_i2_ok h
    by_cases hy : y = 0
    · rw [if_pos hy] at hv; cases hv
    · rw [if_neg hy] at hv; cases hv; exact lv_irem hx hb hd hy k
  | ishl => simp only [pm_ts] at h; obtain ⟨x, y, v, rest, rfl, hv, rfl⟩ := pm_i2_ok h; cases hv; exact lv_ishl hx hb hd k
  | ishr => simp only [pm_ts] at h; obtain ⟨x, y, v, rest, rfl, hv, rfl⟩ := pm_i2_ok h; cases hv; exact lv_ishr hx hb hd k
  | iushr => simp only [pm_ts] at h; obtain ⟨x, y, v, rest, rfl, hv, rfl⟩ := pm_i2_ok h; cases hv; exact lv_iushr hx hb hd rfl k
  | ineg => simp only [pm_ts] at h; obtain ⟨x, rest, rfl, rfl⟩ := pm_i1_ok h; exact lv_ineg hx hb hd k
  | i2l => simp only [pm_ts] at h; obtain ⟨x, rest, rfl, rfl⟩ := pm_i1_ok h; exact lv_i2l hx hb hd rfl k
  | l2i => simp only [pm_ts] at h; obtain ⟨x, rest, rfl, rfl⟩ := pm_l1_ok h; exact lv_l2i hx hb hd rfl k
  | ladd => simp only [pm_ts] at h; obtain ⟨x, y, v, rest, rfl, hv, rfl⟩ := pm_l2_ok h; cases hv; exact lv_ladd hx hb hd k
  | lsub => simp only [pm_ts] at h; obtain ⟨x, y, v, rest, rfl, hv, rfl⟩ := pm_l2_ok h; cases hv; exact lv_lsub hx hb hd k
  | lmul => simp only [pm_ts] at h; obtain ⟨x, y, v, rest, rfl, hv, rfl⟩ := pm_l2_ok h; cases hv; exact lv_lmul hx hb hd k
  | land => simp only [pm_ts] at h; obtain ⟨x, y, v, rest, rfl, hv, rfl⟩ := pm_l2_ok h; cases hv; exact lv_land hx hb hd k
  | lor => simp only [pm_ts] at h; obtain ⟨x, y, v, rest, rfl, hv, rfl⟩ := pm_l2_ok h; cases hv; exact lv_lor hx hb hd k
  | lxor => simp only [pm_ts] at h; obtain ⟨x, y, v, rest, rfl, hv, rfl⟩ := pm_l2_ok h; cases hv; exact lv_lxor hx hb hd k
  | lcmp => simp only [pm_ts] at h; obtain ⟨x, y, v, rest, rfl, hv, rfl⟩ := pm_l2_ok h; cases hv; exact W.lcmp hx hb hd k
  | lshl => simp only [pm_ts] at h; obtain ⟨x, y, rest, rfl, rfl⟩ := pm_li_ok h; exact lv_lshl hx hb hd rfl k
  | lshr => simp only [pm_ts] at h; obtain ⟨x, y, rest, rfl, rfl⟩ := pm_li_ok h; exact lv_lshr hx hb hd rfl k
  | lushr => simp only [pm_ts] at h; obtain ⟨x, y, rest, rfl, rfl⟩ := pm_li_ok h; exact lv_lushr hx hb hd rfl k
  | dup =>
    cases st with
    | nil => cases h
    | cons v st =>
      simp only [pm_ts] at h
      split at h
      · rename_i hc; cases h; exact lv_dup hx hb hd (by rw [pm_ren_cat]; exact hc) k
      · cases h
  | pop =>
    cases st with
    | nil => cases h
    | cons v st =>
      simp only [pm_ts] at h
      split at h
      · rename_i hc; cases h; exact lv_pop hx hb hd (by rw [pm_ren_cat]; exact hc) k
      · cases h
  | dup_x1 =>
    cases st with
    | nil => cases h
    | cons v st => cases st with
      | nil => cases h
      | cons w st =>
        simp only [pm_ts] at h
        split at h
        · rename_i hc; cases h; exact lv_dup_x1 hx hb hd (by rw [pm_ren_cat]; exact hc.1) (by rw [pm_ren_cat]; exact hc.2) k
        · cases h
  | dup2 =>
    cases st with
    | nil => cases h
    | cons v st => cases st with
      | nil => cases h
      | cons w st =>
        simp only [pm_ts] at h
        split at h
        · rename_i hc; cases h; exact lv_dup2_11 hx hb hd (by rw [pm_ren_cat]; exact hc.1) (by rw [pm_ren_cat]; exact hc.2) k
        · cases h
  | _ => cases h
end TS

section TL
variable {p : Program} {l : Launch} {e : Env} {R : Room} {s : State} {mi : MethodId} {args : Array Value} {below : List Frame} {meth : Method} {c : Code} {H : Heap} {locs : List Loc} {cells slots : Nat} {Q : State → Prop}
variable {cc : ByteArray} {pc : Nat} {ls : Array Slot} {B b : Nat} {L st L' st' : List Value}
theorem pm_st1_ok {k : Nat} {v : Value} (h : pm_st1 L k v = some L') : k < L.length ∧ pm_low L k = true ∧ L' = L.set k v := by
  unfold pm_st1 at h
  split at h
  · rename_i hc; cases h; exact ⟨hc.1, hc.2, rfl⟩
  · cases h
theorem pm_st2_ok {k : Nat} {v : Value} (h : pm_st2 L k v = some L') : k + 1 < L.length ∧ pm_low L k = true ∧ L' = (L.set k v).set (k + 1) pm_none := by
  unfold pm_st2 at h
  split at h
  · rename_i hc; cases h; exact ⟨hc.1, hc.2, rfl⟩
  · cases h
theorem pm_L.st2 {i : Nat} {v : Value} (hi : i + 1 < L.length) (hlow : pm_low L i = true)
    (h : lv_has ls L.length ((i, pm_ren B b v) :: (pm_lv B b L).filter (fun q => !(q.1 == i) && (!(q.1 == i + 1) && !(q.1 + 1 == i && q.2.category == 2))))) : pm_L B b ls ((L.set i v).set (i + 1) pm_none) := by
  refine ⟨by rw [List.length_set, List.length_set]; exact h.1, h.2.1, fun j w hj hw => ?_⟩
  by_cases e1 : i + 1 = j
  · subst e1
    rw [List.getElem?_set_self (by rw [List.length_set]; exact hi)] at hj
    cases hj
    exact absurd rfl hw
  rw [List.getElem?_set_ne e1] at hj
  by_cases e : i = j
  · subst e
    rw [List.getElem?_set_self (by omega)] at hj
    cases hj
    exact h.2.2 _ List.mem_cons_self
  · rw [List.getElem?_set_ne e] at hj
    refine h.2.2 (j, pm_ren B b w) (List.mem_cons_of_mem _ (List.mem_filter.mpr ⟨pm_lv_mem.mpr ⟨w, hj, hw, rfl⟩, ?_⟩))
    have e' : ¬ j = i := fun q => e q.symm
    have e1' : ¬ j = i + 1 := fun q => e1 q.symm
    simp only [beq_eq_false_iff_ne.mpr e', beq_eq_false_iff_ne.mpr e1', Bool.not_false, Bool.true_and, pm_ren_cat]
    by_cases e2 : j + 1 = i
    · subst e2
      have : w.category ≠ 2 := by
        intro hc
        simp [pm_low, hj, hc] at hlow
      simp [this]
    · simp [e2]
theorem pm_sti_ok {k : Nat} (h : pm_sti L st k = some (L', st')) : ∃ x, st = .int x :: st' ∧ pm_st1 L k (.int x) = some L' := by
  unfold pm_sti at h
  split at h
  · rename_i x rest
    split at h
    · rename_i M h1
      cases h
      exact ⟨x, rfl, h1⟩
    · cases h
  · cases h
theorem pm_stl_ok {k : Nat} (h : pm_stl L st k = some (L', st')) : ∃ x, st = .long x :: st' ∧ pm_st2 L k (.long x) = some L' := by
  unfold pm_stl at h
  split at h
  · rename_i x rest
    split at h
    · rename_i M h1
      cases h
      exact ⟨x, rfl, h1⟩
    · cases h
  · cases h
theorem pm_sta_ok {k : Nat} (h : pm_sta L st k = some (L', st')) : ∃ v, st = v :: st' ∧ pm_st1 L k v = some L' ∧ ((∃ x, pm_ren B b v = .ref x) ∨ v = .null) := by
  unfold pm_sta at h
  split at h
  · rename_i x rest
    split at h
    · rename_i M h1
      cases h
      exact ⟨_, rfl, h1, Or.inl ⟨_, rfl⟩⟩
    · cases h
  · rename_i rest
    split at h
    · rename_i M h1
      cases h
      exact ⟨_, rfl, h1, Or.inr rfl⟩
    · cases h
  · rename_i rest
    split at h
    · rename_i M h1
      cases h
      exact ⟨_, rfl, h1, Or.inl ⟨_, rfl⟩⟩
    · cases h
  · cases h
set_option maxHeartbeats 4000000 in
theorem pm_tl_ok (hx : p.tables.exec = Jvm.exec) (hb : c.code = cc) {i : Instr} (hd : decode cc pc = .ok (i, pm_len pc i)) (hL : pm_L B b ls L) (h : pm_tl i L st = some (L', st'))
    (k : ∀ ls', pm_L B b ls' L' → W p l e R s mi args below meth c H locs cells slots Q (F0 mi (pc + pm_len pc i) ls' (st'.map (pm_ren B b)))) : W p l e R s mi args below meth c H locs cells slots Q (F0 mi pc ls (st.map (pm_ren B b))) := by
  cases i with
  | istore_n j => obtain ⟨x, rfl, h1⟩ := pm_sti_ok h; obtain ⟨a1, a2, rfl⟩ := pm_st1_ok h1; exact lv_istore_n hx hb hd rfl hL.has a1 rfl fun ls' hl => k ls' (pm_L.st1 (v := .int x) a1 a2 hl)
  | istore j => obtain ⟨x, rfl, h1⟩ := pm_sti_ok h; obtain ⟨a1, a2, rfl⟩ := pm_st1_ok h1; exact lv_istore hx hb hd hL.has a1 rfl fun ls' hl => k ls' (pm_L.st1 (v := .int x) a1 a2 hl)
  | lstore_n j => obtain ⟨x, rfl, h1⟩ := pm_stl_ok h; obtain ⟨a1, a2, rfl⟩ := pm_st2_ok h1; exact lv_lstore_n hx hb hd rfl hL.has a1 rfl fun ls' hl => k ls' (pm_L.st2 (v := .long x) a1 a2 hl)
  | lstore j => obtain ⟨x, rfl, h1⟩ := pm_stl_ok h; obtain ⟨a1, a2, rfl⟩ := pm_st2_ok h1; exact lv_lstore hx hb hd hL.has a1 rfl fun ls' hl => k ls' (pm_L.st2 (v := .long x) a1 a2 hl)
  | astore_n j =>
    obtain ⟨v, rfl, h1, hv⟩ := pm_sta_ok (B := B) (b := b) h
    obtain ⟨a1, a2, rfl⟩ := pm_st1_ok h1
    rcases hv with ⟨x, hv⟩ | rfl
    · rw [List.map_cons, hv]
      exact lv_astore_n hx hb hd rfl hL.has a1 rfl fun ls' hl => k ls' (pm_L.st1 (v := v) a1 a2 (by rw [hv]; exact hl))
    · exact lv_astore_nN hx hb hd rfl hL.has a1 rfl fun ls' hl => k ls' (pm_L.st1 (v := .null) a1 a2 hl)
  | astore j =>
    obtain ⟨v, rfl, h1, hv⟩ := pm_sta_ok (B := B) (b := b) h
    obtain ⟨a1, a2, rfl⟩ := pm_st1_ok h1
    rcases hv with ⟨x, hv⟩ | rfl
    · rw [List.map_cons, hv]
      exact lv_astore hx hb hd hL.has a1 rfl fun ls' hl => k ls' (pm_L.st1 (v := v) a1 a2 (by rw [hv]; exact hl))
    · exact lv_astoreN hx hb hd hL.has a1 rfl fun ls' hl => k ls' (pm_L.st1 (v := .null) a1 a2 hl)
  | iinc j n =>
    simp only [pm_tl] at h
    split at h
    · rename_i x hxj
      split at h
      · rename_i M h1
        cases h
        obtain ⟨a1, a2, rfl⟩ := pm_st1_ok h1
        obtain ⟨q, hq⟩ := List.getElem?_of_mem ((pm_lv_mem (B := B) (b := b) (q := (j, .int x))).mpr ⟨.int x, hxj, by simp, rfl⟩)
        exact lv_iinc hx hb hd hL.has hq rfl a1 rfl fun ls' hl => k ls' (pm_L.st1 (v := .int (x + Int32.ofInt n)) a1 a2 hl)
      · cases h
    · cases h
  | _ => cases h
end TL

section BR
variable {p : Program} {l : Launch} {e : Env} {R : Room} {s : State} {mi : MethodId} {args : Array Value} {below : List Frame} {meth : Method} {c : Code} {H : Heap} {locs : List Loc} {cells slots : Nat} {Q : State → Prop}
variable {cc : ByteArray} {pc : Nat} {ls : Array Slot} {B b : Nat} {L st L' st' : List Value}
theorem pm_to_ok {off : Int} {t : Nat} (h : pm_to pc off = some t) : (pc : Int) + off = (t : Int) := by
  unfold pm_to at h
  split at h
  · cases h; omega
  · cases h
set_option maxHeartbeats 4000000 in
theorem pm_br_ok (hx : p.tables.exec = Jvm.exec) (hb : c.code = cc) {i : Instr} (hd : decode cc pc = .ok (i, pm_len pc i)) {cb : Bool} {t : Nat} (h : pm_br i st = some (cb, st')) (ht : ∀ off, pm_off i = some off → (pc : Int) + off = (t : Int))
    (kt : cb = true → W p l e R s mi args below meth c H locs cells slots Q (F0 mi t ls (st'.map (pm_ren B b))))
    (kf : cb = false → W p l e R s mi args below meth c H locs cells slots Q (F0 mi (pc + pm_len pc i) ls (st'.map (pm_ren B b)))) : W p l e R s mi args below meth c H locs cells slots Q (F0 mi pc ls (st.map (pm_ren B b))) := by
  cases i with
  | ifCond q o =>
    simp only [pm_br] at h
    split at h
    · rename_i x rest
      cases h
      cases q
      · exact lv_if_eq hx hb hd (ht _ rfl) (fun z => kt (decide_eq_true z)) (fun z => kf (decide_eq_false z))
      · exact lv_if_ne hx hb hd (ht _ rfl) (fun z => kt (decide_eq_true z)) (fun z => kf (decide_eq_false (fun y => y z)))
      · exact lv_if_lt hx hb hd (ht _ rfl) (fun z => kt (decide_eq_true z)) (fun z => kf (decide_eq_false z))
      · exact lv_if_ge hx hb hd (ht _ rfl) (fun z => kt (decide_eq_true z)) (fun z => kf (decide_eq_false z))
      · exact lv_if_gt hx hb hd (ht _ rfl) (fun z => kt (decide_eq_true z)) (fun z => kf (decide_eq_false z))
      · exact lv_if_le hx hb hd (ht _ rfl) (fun z => kt (decide_eq_true z)) (fun z => kf (decide_eq_false z))
    · cases h
  | if_icmp q o =>
    simp only [pm_br] at h
    split at h
    · rename_i y x rest
      cases h
      cases q
      · exact lv_icmp_eq hx hb hd (ht _ rfl) (fun z => kt (decide_eq_true z)) (fun z => kf (decide_eq_false z))
      · exact lv_icmp_ne hx hb hd (ht _ rfl) (fun z => kt (decide_eq_true z)) (fun z => kf (decide_eq_false (fun y => y z)))
      · exact lv_icmp_lt hx hb hd (ht _ rfl) (fun z => kt (decide_eq_true z)) (fun z => kf (decide_eq_false z))
      · exact lv_icmp_ge hx hb hd (ht _ rfl) (fun z => kt (decide_eq_true z)) (fun z => kf (decide_eq_false z))
      · exact lv_icmp_gt hx hb hd (ht _ rfl) (fun z => kt (decide_eq_true z)) (fun z => kf (decide_eq_false z))
      · exact lv_icmp_le hx hb hd (ht _ rfl) (fun z => kt (decide_eq_true z)) (fun z => kf (decide_eq_false z))
    · cases h
  | ifnull o =>
    simp only [pm_br] at h
    split at h
    · cases h; exact lv_ifnullN hx hb hd (ht _ rfl) (kt rfl)
    · cases h; exact lv_ifnull hx hb hd (kf rfl)
    · cases h
  | ifnonnull o =>
    simp only [pm_br] at h
    split at h
    · cases h; exact lv_ifnonnullN hx hb hd (kf rfl)
    · cases h; exact lv_ifnonnull hx hb hd (ht _ rfl) (kt rfl)
    · cases h
  | goto o => cases h; exact lv_goto hx hb hd (ht _ rfl) (kt rfl)
  | _ => cases h
theorem pm_sw_ok (hx : p.tables.exec = Jvm.exec) (hb : c.code = cc) {i : Instr} (hd : decode cc pc = .ok (i, pm_len pc i)) {off : Int} {t : Nat} (h : pm_sw i st = some (off, st')) (ht : pm_to pc off = some t)
    (k : W p l e R s mi args below meth c H locs cells slots Q (F0 mi t ls (st'.map (pm_ren B b)))) : W p l e R s mi args below meth c H locs cells slots Q (F0 mi pc ls (st.map (pm_ren B b))) := by
  have ht := pm_to_ok ht
  cases i with
  | tableswitch d lo hi offs =>
    simp only [pm_sw] at h
    split at h
    · rename_i x rest
      split at h
      · rename_i hc; cases h; exact lv_tableOut hx hb hd hc ht k
      · rename_i hc
        split at h
        · rename_i o h1
          cases h
          exact lv_tableIn hx hb hd (fun z => hc (Or.inl z)) (fun z => hc (Or.inr z)) h1 ht k
        · cases h
    · cases h
  | lookupswitch d ps =>
    simp only [pm_sw] at h
    split at h
    · rename_i x rest
      split at h
      · rename_i hc; cases h; exact lv_lookup hx hb hd hc rfl ht k
      · cases h
    · cases h
  | _ => cases h
end BR
end
section
theorem pm_01 {x : Int32} (h : (x == 0 || x == 1) = true) : x = 0 ∨ x = 1 := by
  simpa using h
theorem pm_ok_ren {B b : Nat} {ty : FieldType} {v : Value} (h : pm_ok ty v = true) : narrow ty (pm_ren B b v) = pm_ren B b v ∧ fits ty (pm_ren B b v) = true := by
  cases ty <;> cases v <;> first
    | exact ⟨rfl, rfl⟩
    | (rcases pm_01 h with rfl | rfl <;> exact ⟨rfl, rfl⟩)
    | (cases h; done)
section HP
variable {p : Program} {l : Launch} {e : Env} {R : Room} {s : State} {mi : MethodId} {args : Array Value} {below : List Frame} {meth : Method} {c : Code} {H : Heap} {locs : List Loc} {cells slots : Nat} {Q : State → Prop}
variable {cc : ByteArray} {pc m : Nat} {ls : Array Slot} {B b : Nat} {D : va_G} {cI : Bool → ClassId} {cR : Nat → ClassId} {h : pm_H} {rest : List Value}
theorem pm_o_get {idx a k ci : Nat} {fs : List Value} {v : Value} (hx : p.tables.exec = Jvm.exec) (hb : c.code = cc) (hown : s.vm.findClass (pm_cn (pm_own m)) = some mi.cls) (hts : ∀ w ∈ pm_words, w.before args s = true) (hns : ∀ w ∈ pm_nest, va_Nw w s) (hK : va_K D vwCl (pm_tys cI cR) s) (hP : va_P D vwCl (pm_emb cI cR B b h.1) H)
    (hf : pm_fld (pm_own m) idx = some (ci, k)) (ha : h.1[a]? = some (.inr (.inr (ci, fs)))) (hv : fs[k]? = some v) (hd : decode cc pc = .ok (.getfield idx, 3))
    (kk : W p l e R s mi args below meth c H locs cells slots Q (F0 mi (pc + 3) ls (pm_ren B b v :: rest))) : W p l e R s mi args below meth c H locs cells slots Q (F0 mi pc ls (.ref (B + a) :: rest)) := by
  obtain ⟨g1, g2, g3, -, g4, -⟩ := pm_f1 hf
  have he := pm_emb_at (cI := cI) (cR := cR) (B := B) (b := b) ha
  have hv' : (fs.map (pm_ren B b))[k]? = some (pm_ren B b v) := by rw [List.getElem?_map, hv]; rfl
  rcases g4 with g4 | ⟨host, g4⟩
  · exact va_get hx hb hts (pm_f2 g1).1 hown hK hP a he g1 k g2 (hts _ g4) (fun x q => by rw [← g3]; exact q) hv' hd kk
  · exact va_getN hx hb hts (pm_f2 g1).1 hown hK hP a he g1 k g2 (va_Nw.use rfl (hns _ g4)) (fun x q => by rw [← g3]; exact q) hv' hd kk
theorem pm_o_put {idx a k ci : Nat} {fs : List Value} {v : Value} {H0 : Heap} (hx : p.tables.exec = Jvm.exec) (hb : c.code = cc) (hown : s.vm.findClass (pm_cn (pm_own m)) = some mi.cls) (hin : pm_init m = true → meth.name = "<init>") (hts : ∀ w ∈ pm_words, w.before args s = true) (hns : ∀ w ∈ pm_nest, va_Nw w s) (hK : va_K D vwCl (pm_tys cI cR) s) (hP : va_P D vwCl (pm_emb cI cR B b h.1) H) (hS : va_S (fun q => B ≤ q) H0 H locs)
    (hf : pm_fld (pm_own m) idx = some (ci, k)) (ha : h.1[a]? = some (.inr (.inr (ci, fs)))) (hl : k < fs.length) (hok : pm_ok (pm_fty ci k) v = true) (hfin : pm_fin ci k = false ∨ (pm_init m = true ∧ pm_own m = ci)) (hd : decode cc pc = .ok (.putfield idx, 3))
    (kk : ∀ (H1 : Heap) (locs1 : List Loc), va_P D vwCl (pm_emb cI cR B b (h.1.set a (.inr (.inr (ci, fs.set k v))))) H1 → va_S (fun q => B ≤ q) H0 H1 locs1 → W p l e R s mi args below meth c H1 locs1 cells slots Q (F0 mi (pc + 3) ls rest)) : W p l e R s mi args below meth c H locs cells slots Q (F0 mi pc ls (pm_ren B b v :: .ref (B + a) :: rest)) := by
  obtain ⟨g1, g2, g3, g5, g4, g6⟩ := pm_f1 hf
  obtain ⟨f1, f2, f3⟩ := pm_f2 g1
  have he := pm_emb_at (cI := cI) (cR := cR) (B := B) (b := b) ha
  obtain ⟨o1, o2⟩ := pm_ok_ren (B := B) (b := b) hok
  have hl' : k < (fs.map (pm_ren B b)).length := by rw [List.length_map]; exact hl
  have kk' : ∀ (H1 : Heap) (locs1 : List Loc), va_P D vwCl ((pm_emb cI cR B b h.1).set a (B + a, .inr (ci, (fs.map (pm_ren B b)).set k (pm_ren B b v)))) H1 → va_D (fun q => B ≤ q) ((pm_emb cI cR B b h.1).set a (B + a, .inr (ci, (fs.map (pm_ren B b)).set k (pm_ren B b v)))) → va_S (fun q => B ≤ q) H0 H1 locs1 → W p l e R s mi args below meth c H1 locs1 cells slots Q (F0 mi (pc + 3) ls rest) := by
    intro H1 locs1 q1 _ q3
    refine kk H1 locs1 ?_ q3
    rw [pm_emb_set]
    show va_P D vwCl ((pm_emb cI cR B b h.1).set a (B + a, .inr (ci, (fs.set k v).map (pm_ren B b)))) H1
    rw [List.map_set]
    exact q1
  have hsame : ∀ x, s.fieldFound? (pm_T ci k).1 (pm_T ci k).2.1 (pm_T ci k).2.2.1 = some x → s.fieldFound? (pm_cn ci) (pm_T ci k).2.1 (pm_T ci k).2.2.1 = some x := fun x q => by rw [← g3]; exact q
  rcases hfin with hfin | ⟨hfin, hci⟩
  · rcases g4 with g4 | ⟨host, g4⟩
    · exact va_put hx hb hts f1 (pm_fty ci) f2 f3 hown hK hP pm_D hS a he g1 k g2 (hts _ g4) hsame (by rw [g5]; exact hfin) (f2 k g2) o1 o2 hl' hd kk'
    · exact va_putN hx hb hts f1 (pm_fty ci) f2 f3 hown hK hP pm_D hS a he g1 k g2 (va_Nw.use rfl (hns _ g4)) hsame (by rw [g5]; exact hfin) (f2 k g2) o1 o2 hl' hd kk'
  ·
    by_cases hq : pm_fin ci k = true
    · rcases g4 with g4 | ⟨host, g4⟩
      · exact va_putF hx hb hts f1 (pm_fty ci) f2 f3 hown hK hP pm_D hS a he g1 k g2 (hts _ g4) hsame (by rw [g5]; exact hq) (hin hfin) (by rw [g3, hci]) (f2 k g2) o1 o2 hl' hd kk'
      · exact va_putF hx hb hts f1 (pm_fty ci) f2 f3 hown hK hP pm_D hS a he g1 k g2 (hts _ (g6 hci)) hsame (by rw [g5]; exact hq) (hin hfin) (by rw [g3, hci]) (f2 k g2) o1 o2 hl' hd kk'
    · rcases g4 with g4 | ⟨host, g4⟩
      · exact va_put hx hb hts f1 (pm_fty ci) f2 f3 hown hK hP pm_D hS a he g1 k g2 (hts _ g4) hsame (by rw [g5]; simpa using hq) (f2 k g2) o1 o2 hl' hd kk'
      · exact va_putN hx hb hts f1 (pm_fty ci) f2 f3 hown hK hP pm_D hS a he g1 k g2 (va_Nw.use rfl (hns _ g4)) hsame (by rw [g5]; simpa using hq) (f2 k g2) o1 o2 hl' hd kk'
theorem pm_ix_spec {j : Int32} {n k : Nat} (h : pm_ix j n = some k) : vp_in j n ∧ j.toNatClampNeg = k ∧ k < n := by
  unfold pm_ix at h
  split at h
  · cases h
  · rename_i q
    cases h
    exact ⟨q, rfl, Nat.not_le.mp fun z => q (Or.inr z)⟩
theorem pm_o_iald {a k : Nat} {j : Int32} {ys : List Int32} (hx : p.tables.exec = Jvm.exec) (hb : c.code = cc) (hK : va_K D vwCl (pm_tys cI cR) s) (hP : va_P D vwCl (pm_emb cI cR B b h.1) H)
    (ha : h.1[a]? = some (.inl (false, ys))) (hj : pm_ix j ys.length = some k) (hd : decode cc pc = .ok (.iaload, 1))
    (kk : W p l e R s mi args below meth c H locs cells slots Q (F0 mi (pc + 1) ls (.int (ys.getD k 0) :: rest))) : W p l e R s mi args below meth c H locs cells slots Q (F0 mi pc ls (.int j :: .ref (B + a) :: rest)) := by
  obtain ⟨i1, i2, i3⟩ := pm_ix_spec hj
  exact va_iald hx hb hK hP a 0 (pm_emb_at ha) rfl i1 hd (by rw [i2]; exact kk)
theorem pm_eC_set {k : Nat} {x : Int32} {ys : List Int32} {z : Bool} (hk : k < ys.length) : pm_eC cI cR B b (.inl (z, ys.set k x)) = .inl (cI z, ys.length, .inl (upd (fun i => ys.getD i 0) k x)) := by
  have e : (fun j => (ys.set k x).getD j 0) = upd (fun i => ys.getD i 0) k x := by
    funext i
    by_cases hi : i = k
    · subst hi; simp [upd, hk]
    · simp [upd, hi, List.getElem?_set_ne (fun z => hi z.symm)]
  show Sum.inl (cI z, (ys.set k x).length, Sum.inl (fun j => (ys.set k x).getD j 0)) = _
  rw [List.length_set, e]
theorem pm_o_iast {a k : Nat} {j x : Int32} {ys : List Int32} {H0 : Heap} (hx : p.tables.exec = Jvm.exec) (hb : c.code = cc) (hK : va_K D vwCl (pm_tys cI cR) s) (hP : va_P D vwCl (pm_emb cI cR B b h.1) H) (hS : va_S (fun q => B ≤ q) H0 H locs)
    (ha : h.1[a]? = some (.inl (false, ys))) (hj : pm_ix j ys.length = some k) (hd : decode cc pc = .ok (.iastore, 1))
    (kk : ∀ (H1 : Heap) (locs1 : List Loc), va_P D vwCl (pm_emb cI cR B b (h.1.set a (.inl (false, ys.set k x)))) H1 → va_S (fun q => B ≤ q) H0 H1 locs1 → W p l e R s mi args below meth c H1 locs1 cells slots Q (F0 mi (pc + 1) ls rest)) : W p l e R s mi args below meth c H locs cells slots Q (F0 mi pc ls (.int x :: .int j :: .ref (B + a) :: rest)) := by
  obtain ⟨i1, i2, i3⟩ := pm_ix_spec hj
  refine va_iast hx hb hK hP pm_D hS a 0 (pm_emb_at ha) rfl i1 hd fun H1 locs1 q1 _ q3 => kk H1 locs1 ?_ q3
  rw [pm_emb_set, pm_eC_set i3, ← i2]
  exact q1
theorem pm_o_bald {a k : Nat} {j : Int32} {ys : List Int32} (hx : p.tables.exec = Jvm.exec) (hb : c.code = cc) (hK : va_K D vwCl (pm_tys cI cR) s) (hP : va_P D vwCl (pm_emb cI cR B b h.1) H)
    (ha : h.1[a]? = some (.inl (true, ys))) (hj : pm_ix j ys.length = some k) (hd : decode cc pc = .ok (.baload, 1))
    (kk : W p l e R s mi args below meth c H locs cells slots Q (F0 mi (pc + 1) ls (.int (ys.getD k 0) :: rest))) : W p l e R s mi args below meth c H locs cells slots Q (F0 mi pc ls (.int j :: .ref (B + a) :: rest)) := by
  obtain ⟨i1, i2, i3⟩ := pm_ix_spec hj
  exact va_zald hx hb hK hP a 1 (pm_emb_at ha) rfl i1 hd (by rw [i2]; exact kk)
theorem pm_o_bast {a k : Nat} {j x : Int32} {ys : List Int32} {H0 : Heap} (hx : p.tables.exec = Jvm.exec) (hb : c.code = cc) (hK : va_K D vwCl (pm_tys cI cR) s) (hP : va_P D vwCl (pm_emb cI cR B b h.1) H) (hS : va_S (fun q => B ≤ q) H0 H locs)
    (ha : h.1[a]? = some (.inl (true, ys))) (hj : pm_ix j ys.length = some k) (h01 : (x == 0 || x == 1) = true) (hd : decode cc pc = .ok (.bastore, 1))
    (kk : ∀ (H1 : Heap) (locs1 : List Loc), va_P D vwCl (pm_emb cI cR B b (h.1.set a (.inl (true, ys.set k x)))) H1 → va_S (fun q => B ≤ q) H0 H1 locs1 → W p l e R s mi args below meth c H1 locs1 cells slots Q (F0 mi (pc + 1) ls rest)) : W p l e R s mi args below meth c H locs cells slots Q (F0 mi pc ls (.int x :: .int j :: .ref (B + a) :: rest)) := by
  obtain ⟨i1, i2, i3⟩ := pm_ix_spec hj
  have hn : vp_nar .boolean x = x := by rcases pm_01 h01 with rfl | rfl <;> rfl
  refine va_zast hx hb hK hP pm_D hS a 1 (pm_emb_at ha) rfl i1 hd fun H1 locs1 q1 _ q3 => kk H1 locs1 ?_ q3
  rw [hn] at q1
  rw [pm_emb_set, pm_eC_set i3, ← i2]
  exact q1
end HP

section HP2
variable {p : Program} {l : Launch} {e : Env} {R : Room} {s : State} {mi : MethodId} {args : Array Value} {below : List Frame} {meth : Method} {c : Code} {H : Heap} {locs : List Loc} {cells slots : Nat} {Q : State → Prop}
variable {cc : ByteArray} {pc m : Nat} {ls : Array Slot} {B b : Nat} {D : va_G} {cI : Bool → ClassId} {cR : Nat → ClassId} {h : pm_H} {rest : List Value}
theorem pm_tys_at {t : Nat} (ht : t ∈ pm_ra) : ∃ t0 : Nat, (pm_tys cI cR)[t0]? = some (cR t, FieldType.object (pm_cn t)) := by
  obtain ⟨i, hi⟩ := List.getElem?_of_mem ht
  exact ⟨i + 2, by simp [pm_tys, List.getElem?_map, hi]⟩
theorem pm_rv_ren (r : Option Nat) : pm_ren B b (pm_rv r) = va_rf (r.map (B + ·)) := by cases r <;> rfl
theorem pm_o_aald {a k t : Nat} {j : Int32} {rs : List (Option Nat)} (hx : p.tables.exec = Jvm.exec) (hb : c.code = cc) (hK : va_K D vwCl (pm_tys cI cR) s) (hP : va_P D vwCl (pm_emb cI cR B b h.1) H)
    (ha : h.1[a]? = some (.inr (.inl (t, rs)))) (ht : t ∈ pm_ra) (hj : pm_ix j rs.length = some k) (hd : decode cc pc = .ok (.aaload, 1))
    (kk : W p l e R s mi args below meth c H locs cells slots Q (F0 mi (pc + 1) ls (pm_ren B b (pm_rv (rs.getD k none)) :: rest))) : W p l e R s mi args below meth c H locs cells slots Q (F0 mi pc ls (.int j :: .ref (B + a) :: rest)) := by
  obtain ⟨i1, i2, i3⟩ := pm_ix_spec hj
  obtain ⟨t0, ht0⟩ := pm_tys_at (cI := cI) (cR := cR) ht
  exact va_aldq hx hb hK hP a t0 (pm_emb_at ha) ht0 i1 hd (by rw [i2, ← pm_rv_ren]; exact kk)
theorem pm_up {rs : List (Option Nat)} {k : Nat} {r : Option Nat} (hk : k < rs.length) : (fun i => ((rs.set k r).getD i none).map (B + ·)) = va_up (fun i => (rs.getD i none).map (B + ·)) k (r.map (B + ·)) := by
  funext i
  by_cases hi : i = k
  · subst hi; simp [va_up, hk]
  · simp [va_up, hi, List.getElem?_set_ne (fun z => hi z.symm)]
theorem pm_o_aast {a k t v : Nat} {j : Int32} {rs : List (Option Nat)} {vs : List Value} {H0 : Heap} (hx : p.tables.exec = Jvm.exec) (hb : c.code = cc) (hK : va_K D vwCl (pm_tys cI cR) s) (hP : va_P D vwCl (pm_emb cI cR B b h.1) H) (hS : va_S (fun q => B ≤ q) H0 H locs)
    (ha : h.1[a]? = some (.inr (.inl (t, rs)))) (ht : t ∈ pm_ra) (hc : vwCl[t]? = some (pm_cn t, pm_T t, pm_N t)) (hv : h.1[v]? = some (.inr (.inr (t, vs)))) (hj : pm_ix j rs.length = some k) (hd : decode cc pc = .ok (.aastore, 1))
    (kk : ∀ (H1 : Heap) (locs1 : List Loc), va_P D vwCl (pm_emb cI cR B b (h.1.set a (.inr (.inl (t, rs.set k (some v)))))) H1 → va_S (fun q => B ≤ q) H0 H1 locs1 → W p l e R s mi args below meth c H1 locs1 cells slots Q (F0 mi (pc + 1) ls rest)) : W p l e R s mi args below meth c H locs cells slots Q (F0 mi pc ls (.ref (B + v) :: .int j :: .ref (B + a) :: rest)) := by
  obtain ⟨i1, i2, i3⟩ := pm_ix_spec hj
  obtain ⟨t0, ht0⟩ := pm_tys_at (cI := cI) (cR := cR) ht
  refine va_astq hx hb hK hP pm_D hS a t0 v t (pm_emb_at ha) ht0 (pm_emb_at hv) hc i1 hd fun H1 locs1 q1 _ q3 => kk H1 locs1 ?_ q3
  rw [pm_emb_set]
  have e : pm_eC cI cR B b (.inr (.inl (t, rs.set k (some v)))) = .inl (cR t, rs.length, .inr (.inr (.inr (.inr (va_up (fun i => (rs.getD i none).map (B + ·)) j.toNatClampNeg (some (B + v))))))) := by
    show Sum.inl (cR t, (rs.set k (some v)).length, _) = _
    rw [List.length_set, i2, pm_up i3]
    rfl
  rw [e]
  exact q1
theorem pm_o_aastN {a k t : Nat} {j : Int32} {rs : List (Option Nat)} {H0 : Heap} (hx : p.tables.exec = Jvm.exec) (hb : c.code = cc) (hK : va_K D vwCl (pm_tys cI cR) s) (hP : va_P D vwCl (pm_emb cI cR B b h.1) H) (hS : va_S (fun q => B ≤ q) H0 H locs)
    (ha : h.1[a]? = some (.inr (.inl (t, rs)))) (ht : t ∈ pm_ra) (hj : pm_ix j rs.length = some k) (hd : decode cc pc = .ok (.aastore, 1))
    (kk : ∀ (H1 : Heap) (locs1 : List Loc), va_P D vwCl (pm_emb cI cR B b (h.1.set a (.inr (.inl (t, rs.set k none))))) H1 → va_S (fun q => B ≤ q) H0 H1 locs1 → W p l e R s mi args below meth c H1 locs1 cells slots Q (F0 mi (pc + 1) ls rest)) : W p l e R s mi args below meth c H locs cells slots Q (F0 mi pc ls (.null :: .int j :: .ref (B + a) :: rest)) := by
  obtain ⟨i1, i2, i3⟩ := pm_ix_spec hj
  obtain ⟨t0, ht0⟩ := pm_tys_at (cI := cI) (cR := cR) ht
  refine va_astqN hx hb hK hP pm_D hS a t0 (pm_emb_at ha) ht0 i1 hd fun H1 locs1 q1 _ q3 => kk H1 locs1 ?_ q3
  rw [pm_emb_set]
  have e : pm_eC cI cR B b (.inr (.inl (t, rs.set k none))) = .inl (cR t, rs.length, .inr (.inr (.inr (.inr (va_up (fun i => (rs.getD i none).map (B + ·)) j.toNatClampNeg none))))) := by
    show Sum.inl (cR t, (rs.set k none).length, _) = _
    rw [List.length_set, i2, pm_up i3]
    rfl
  rw [e]
  exact q1
theorem pm_eC_zero (z : Bool) (n : Nat) : pm_eC cI cR B b (.inl (z, List.replicate n 0)) = .inl (cI z, n, .inl (fun _ => 0)) := by
  have e : (fun j => (List.replicate n (0 : Int32)).getD j 0) = fun _ => 0 := by
    funext i
    simp only [List.getD_eq_getElem?_getD, List.getElem?_replicate]
    split <;> rfl
  show Sum.inl (cI z, (List.replicate n (0 : Int32)).length, Sum.inl (fun j => (List.replicate n (0 : Int32)).getD j 0)) = _
  rw [List.length_replicate, e]
theorem pm_grow {q : Nat} {x : pm_C} {en : va_E} {H1 : Heap} {n : Nat} (hen : pm_eC cI cR B b x = en) (hz : s.heap.size + cells = B + h.1.length) (q1 : va_P D vwCl (pm_emb cI cR B b h.1 ++ [(q, en)]) H1) (q2 : va_D (fun q => B ≤ q) (pm_emb cI cR B b h.1 ++ [(q, en)])) {g : Nat → JFrame}
    (kk : va_P D vwCl (pm_emb cI cR B b (h.1 ++ [x])) H1 → W p l e R s mi args below meth c H1 locs (cells + 1) (slots + n) Q (g (B + h.1.length))) : W p l e R s mi args below meth c H1 locs (cells + 1) (slots + n) Q (g q) := by
  subst hen
  refine pm_W_size fun hz1 => ?_
  have hq := pm_fresh q1 q2 (by omega)
  subst hq
  exact kk (by rw [pm_emb_push]; exact q1)
theorem pm_plain_map {fs : List Value} (h : ∀ v ∈ fs, pk_plain v = true) : fs.map (pm_ren B b) = fs := by
  rw [List.map_congr_left (g := id) (fun v hv => ?_), List.map_id]
  have h1 := h v hv
  cases v <;> first | rfl | (simp [pk_plain] at h1; done)
theorem pm_o_new {idx ci : Nat} {fs : List Value} {H0 : Heap} (hx : p.tables.exec = Jvm.exec) (hb : c.code = cc) (hown : s.vm.findClass (pm_cn (pm_own m)) = some mi.cls) (hts : ∀ w ∈ pm_words, w.before args s = true) (hK : va_K D vwCl (pm_tys cI cR) s) (hP : va_P D vwCl (pm_emb cI cR B b h.1) H) (hS : va_S (fun q => B ≤ q) H0 H locs) (hA : B ≤ H0.size) (hz : s.heap.size + cells = B + h.1.length)
    (hf : pm_new (pm_own m) idx = some (ci, fs)) (hcells : cells + 1 ≤ R.cells) (hslots : slots + fs.length ≤ R.slots) (hd : decode cc pc = .ok (.new idx, 3))
    (kk : ∀ H1 : Heap, va_P D vwCl (pm_emb cI cR B b (h.1 ++ [.inr (.inr (ci, fs))])) H1 → va_S (fun q => B ≤ q) H0 H1 locs → W p l e R s mi args below meth c H1 locs (cells + 1) (slots + fs.length) Q (F0 mi (pc + 3) ls (.ref (B + h.1.length) :: rest))) : W p l e R s mi args below meth c H locs cells slots Q (F0 mi pc ls rest) := by
  obtain ⟨g1, g2, g3, g4, g5, g6, g7⟩ := pm_f3 hf
  obtain ⟨f1, f2, f3⟩ := pm_f2 g1
  rw [g2] at hslots kk
  exact va_new (ci := ci) (fs := fs) hx hb hts f1 (pm_fty ci) f2 hown (hts _ g5) (hts _ g6) (hts _ g7) hK hP pm_D hS (fun q z => Nat.le_trans hA z) g1 g3 hcells hslots hd fun q H1 q1 q2 q3 =>
    pm_grow (g := fun q => F0 mi (pc + 3) ls (.ref q :: rest)) (x := .inr (.inr (ci, fs))) (by show Sum.inr (ci, fs.map (pm_ren B b)) = _; rw [pm_plain_map g4]) hz q1 q2 (fun z => kk H1 z q3)
theorem pm_o_newa {n : Int32} {H0 : Heap} (hx : p.tables.exec = Jvm.exec) (hb : c.code = cc) (hts : ∀ w ∈ pm_words, w.before args s = true) (hK : va_K D vwCl (pm_tys cI cR) s) (hP : va_P D vwCl (pm_emb cI cR B b h.1) H) (hS : va_S (fun q => B ≤ q) H0 H locs) (hA : B ≤ H0.size) (hz : s.heap.size + cells = B + h.1.length)
    (hn : ¬ n < 0) (hsm : n.toNatClampNeg ≤ 65536) (hcells : cells + 1 ≤ R.cells) (hslots : slots + n.toNatClampNeg ≤ R.slots) (hd : decode cc pc = .ok (.newarray .int, 2))
    (kk : ∀ H1 : Heap, va_P D vwCl (pm_emb cI cR B b (h.1 ++ [.inl (false, List.replicate n.toNatClampNeg 0)])) H1 → va_S (fun q => B ≤ q) H0 H1 locs → W p l e R s mi args below meth c H1 locs (cells + 1) (slots + n.toNatClampNeg) Q (F0 mi (pc + 2) ls (.ref (B + h.1.length) :: rest))) : W p l e R s mi args below meth c H locs cells slots Q (F0 mi pc ls (.int n :: rest)) := by
  have hw : (Cond.arrayClass (newarray.typeOf .int)).before args s = true := hts (.arrayClass .int) pm_f7
  refine va_newa (atype := .int) (ty := .int) (a0 := (n.toNatClampNeg, .inl (fun _ => 0))) hx hb hw rfl hK hP pm_D hS (fun q z => Nat.le_trans hA z) (fun cA => rfl) hn rfl (by simp [componentBytes]; omega) hcells hslots hd fun q cA H1 k1 q1 q2 q3 => ?_
  have hcA : cA = cI false := by
    have e1 := (k1.2 (pm_tys cI cR).length (cA, .int) (by simp)).2
    have e2 := (hK.2 0 (cI false, .int) rfl).2
    exact Option.some.inj (e1.symm.trans e2)
  subst hcA
  refine pm_grow (g := fun q => F0 mi (pc + 2) ls (.ref q :: rest)) (x := .inl (false, List.replicate n.toNatClampNeg 0)) (pm_eC_zero _ _) hz q1 q2 (fun z => kk H1 z q3)
theorem pm_o_newz {n : Int32} {H0 : Heap} (hx : p.tables.exec = Jvm.exec) (hb : c.code = cc) (hts : ∀ w ∈ pm_words, w.before args s = true) (hK : va_K D vwCl (pm_tys cI cR) s) (hP : va_P D vwCl (pm_emb cI cR B b h.1) H) (hS : va_S (fun q => B ≤ q) H0 H locs) (hA : B ≤ H0.size) (hz : s.heap.size + cells = B + h.1.length)
    (hn : ¬ n < 0) (hsm : n.toNatClampNeg ≤ 65536) (hcells : cells + 1 ≤ R.cells) (hslots : slots + n.toNatClampNeg ≤ R.slots) (hd : decode cc pc = .ok (.newarray .boolean, 2))
    (kk : ∀ H1 : Heap, va_P D vwCl (pm_emb cI cR B b (h.1 ++ [.inl (true, List.replicate n.toNatClampNeg 0)])) H1 → va_S (fun q => B ≤ q) H0 H1 locs → W p l e R s mi args below meth c H1 locs (cells + 1) (slots + n.toNatClampNeg) Q (F0 mi (pc + 2) ls (.ref (B + h.1.length) :: rest))) : W p l e R s mi args below meth c H locs cells slots Q (F0 mi pc ls (.int n :: rest)) := by
  have hw : (Cond.arrayClass (newarray.typeOf .boolean)).before args s = true := hts (.arrayClass .boolean) pm_f7b
  refine va_newa (atype := .boolean) (ty := .boolean) (a0 := (n.toNatClampNeg, .inl (fun _ => 0))) hx hb hw rfl hK hP pm_D hS (fun q z => Nat.le_trans hA z) (fun cA => rfl) hn rfl (by simp [componentBytes]; omega) hcells hslots hd fun q cA H1 k1 q1 q2 q3 => ?_
  have hcA : cA = cI true := by
    have e1 := (k1.2 (pm_tys cI cR).length (cA, .boolean) (by simp)).2
    have e2 := (hK.2 1 (cI true, .boolean) rfl).2
    exact Option.some.inj (e1.symm.trans e2)
  subst hcA
  refine pm_grow (g := fun q => F0 mi (pc + 2) ls (.ref q :: rest)) (x := .inl (true, List.replicate n.toNatClampNeg 0)) (pm_eC_zero _ _) hz q1 q2 (fun z => kk H1 z q3)
end HP2

section HP3
variable {p : Program} {l : Launch} {e : Env} {R : Room} {s : State} {mi : MethodId} {args : Array Value} {below : List Frame} {meth : Method} {c : Code} {H : Heap} {locs : List Loc} {cells slots : Nat} {Q : State → Prop}
variable {cc : ByteArray} {pc m : Nat} {ls : Array Slot} {B b : Nat} {D : va_G} {cI : Bool → ClassId} {cR : Nat → ClassId} {h : pm_H} {rest : List Value}
theorem pm_o_anew {n : Int32} {idx t : Nat} {H0 : Heap} (hx : p.tables.exec = Jvm.exec) (hb : c.code = cc) (hown : s.vm.findClass (pm_cn (pm_own m)) = some mi.cls) (hts : ∀ w ∈ pm_words, w.before args s = true) (hns : ∀ w ∈ pm_nest, va_Nw w s) (hK : va_K D vwCl (pm_tys cI cR) s) (hP : va_P D vwCl (pm_emb cI cR B b h.1) H) (hS : va_S (fun q => B ≤ q) H0 H locs) (hA : B ≤ H0.size) (hz : s.heap.size + cells = B + h.1.length)
    (hf : pm_anew (pm_own m) idx = some t) (hn : ¬ n < 0) (hsm : n.toNatClampNeg ≤ 65536) (hcells : cells + 1 ≤ R.cells) (hslots : slots + n.toNatClampNeg ≤ R.slots) (hd : decode cc pc = .ok (.anewarray idx, 3))
    (kk : ∀ H1 : Heap, va_P D vwCl (pm_emb cI cR B b (h.1 ++ [.inr (.inl (t, List.replicate n.toNatClampNeg none))])) H1 → va_S (fun q => B ≤ q) H0 H1 locs → W p l e R s mi args below meth c H1 locs (cells + 1) (slots + n.toNatClampNeg) Q (F0 mi (pc + 3) ls (.ref (B + h.1.length) :: rest))) : W p l e R s mi args below meth c H locs cells slots Q (F0 mi pc ls (.int n :: rest)) := by
  obtain ⟨g1, g2, g3⟩ := pm_f4 hf
  refine va_newq (C := pm_cn t) hx hb hown (hts _ g2) (hns _ g3) hK hP pm_D hS (fun q z => Nat.le_trans hA z) hn rfl (by omega) hcells hslots hd fun q cA H1 k1 q1 q2 q3 => ?_
  have hcA : cA = cR t := by
    obtain ⟨t0, ht0⟩ := pm_tys_at (cI := cI) (cR := cR) g1
    obtain ⟨-, -, -, -, -, e1⟩ := (k1.2 (pm_tys cI cR).length (cA, FieldType.object (pm_cn t)) (by simp)).2
    obtain ⟨-, -, -, -, -, e2⟩ := (hK.2 t0 (cR t, FieldType.object (pm_cn t)) ht0).2
    exact Option.some.inj (e1.symm.trans e2)
  subst hcA
  refine pm_grow (g := fun q => F0 mi (pc + 3) ls (.ref q :: rest)) (x := .inr (.inl (t, List.replicate n.toNatClampNeg none))) ?_ hz q1 q2 (fun z => kk H1 z q3)
  have e : (fun j => ((List.replicate n.toNatClampNeg (none : Option Nat)).getD j none).map (B + ·)) = fun _ => none := by
    funext i
    simp only [List.getD_eq_getElem?_getD, List.getElem?_replicate]
    split <;> rfl
  show Sum.inl (cR t, (List.replicate n.toNatClampNeg (none : Option Nat)).length, Sum.inr (Sum.inr (Sum.inr (Sum.inr (fun j => ((List.replicate n.toNatClampNeg (none : Option Nat)).getD j none).map (B + ·)))))) = _
  rw [List.length_replicate, e]
theorem pm_o_alen {a : Nat} {ys : List Int32} (hx : p.tables.exec = Jvm.exec) (hb : c.code = cc) (hK : va_K D vwCl (pm_tys cI cR) s) (hP : va_P D vwCl (pm_emb cI cR B b h.1) H)
    (ha : h.1[a]? = some (.inl (false, ys))) (hd : decode cc pc = .ok (.arraylength, 1)) (kk : W p l e R s mi args below meth c H locs cells slots Q (F0 mi (pc + 1) ls (.int (Int32.ofNat ys.length) :: rest))) : W p l e R s mi args below meth c H locs cells slots Q (F0 mi pc ls (.ref (B + a) :: rest)) :=
  va_alen hx hb hK hP a 0 (pm_emb_at ha) (ty := .int) rfl rfl hd kk
theorem pm_o_alenR {a t : Nat} {rs : List (Option Nat)} (hx : p.tables.exec = Jvm.exec) (hb : c.code = cc) (hK : va_K D vwCl (pm_tys cI cR) s) (hP : va_P D vwCl (pm_emb cI cR B b h.1) H)
    (ha : h.1[a]? = some (.inr (.inl (t, rs)))) (ht : t ∈ pm_ra) (hd : decode cc pc = .ok (.arraylength, 1)) (kk : W p l e R s mi args below meth c H locs cells slots Q (F0 mi (pc + 1) ls (.int (Int32.ofNat rs.length) :: rest))) : W p l e R s mi args below meth c H locs cells slots Q (F0 mi pc ls (.ref (B + a) :: rest)) := by
  obtain ⟨t0, ht0⟩ := pm_tys_at (cI := cI) (cR := cR) ht
  exact va_alen hx hb hK hP a t0 (pm_emb_at ha) ht0 rfl hd kk
end HP3

section HOK
variable {m idx : Nat} {st st' : List Value} {h h1 : pm_H} {xs : List Int32}
theorem pm_hget_ok (e : pm_hget m idx st h = some (st', h1)) : ∃ (c k a : Nat) (rest fs : List Value) (v : Value), pm_fld (pm_own m) idx = some (c, k) ∧ st = .ref a :: rest ∧ h.1[a]? = some (.inr (.inr (c, fs))) ∧ fs[k]? = some v ∧ st' = v :: rest ∧ h1 = h := by
  unfold pm_hget at e
  split at e
  · cases e
  · rename_i c k hf
    split at e
    · rename_i a rest
      split at e
      · rename_i c' fs ha
        split at e
        · rename_i v hv
          split at e
          · rename_i hc
            subst hc
            cases e
            exact ⟨_, _, _, _, _, _, hf, rfl, ha, hv, rfl, rfl⟩
          · cases e
        · cases e
      · cases e
    · cases e
theorem pm_hput_ok (e : pm_hput m idx st h = some (st', h1)) : ∃ (c k a : Nat) (fs : List Value) (v : Value), pm_fld (pm_own m) idx = some (c, k) ∧ st = v :: .ref a :: st' ∧ h.1[a]? = some (.inr (.inr (c, fs))) ∧ k < fs.length ∧ pm_ok (pm_fty c k) v = true ∧ (pm_fin c k = false ∨ (pm_init m = true ∧ pm_own m = c)) ∧ h1 = (h.1.set a (.inr (.inr (c, fs.set k v))), h.2) := by
  unfold pm_hput at e
  split at e
  · cases e
  · rename_i c k hf
    split at e
    · rename_i v a rest
      split at e
      · rename_i c' fs ha
        split at e
        · rename_i hc
          obtain ⟨hc, q1, q2, q3⟩ := hc
          subst hc
          cases e
          exact ⟨_, _, _, _, _, hf, rfl, ha, q1, q2, q3, rfl⟩
        · cases e
      · cases e
    · cases e
theorem pm_hiald_ok (e : pm_hiald st h xs = some (st', h1)) : (∃ (j : Int32) (a k : Nat) (rest : List Value) (ys : List Int32), st = .int j :: .ref a :: rest ∧ h.1[a]? = some (.inl (false, ys)) ∧ pm_ix j ys.length = some k ∧ st' = .int (ys.getD k 0) :: rest ∧ h1 = h) ∨
    (∃ (j : Int32) (k : Nat) (rest : List Value), st = .int j :: .retAddr 1 :: rest ∧ pm_ix j xs.length = some k ∧ st' = .int (xs.getD k 0) :: rest ∧ h1 = h) := by
  unfold pm_hiald at e
  split at e
  · rename_i j a rest
    split at e
    · rename_i ys ha
      split at e
      · rename_i k hk
        cases e
        exact Or.inl ⟨_, _, _, _, _, rfl, ha, hk, rfl, rfl⟩
      · cases e
    · cases e
  · rename_i j rest
    split at e
    · rename_i k hk
      cases e
      exact Or.inr ⟨_, _, _, rfl, hk, rfl, rfl⟩
    · cases e
  · cases e
theorem pm_hiast_ok (e : pm_hiast st h = some (st', h1)) : ∃ (v j : Int32) (a k : Nat) (ys : List Int32), st = .int v :: .int j :: .ref a :: st' ∧ h.1[a]? = some (.inl (false, ys)) ∧ pm_ix j ys.length = some k ∧ h1 = (h.1.set a (.inl (false, ys.set k v)), h.2) := by
  unfold pm_hiast at e
  split at e
  · rename_i v j a rest
    split at e
    · rename_i ys ha
      split at e
      · rename_i k hk
        cases e
        exact ⟨_, _, _, _, _, rfl, ha, hk, rfl⟩
      · cases e
    · cases e
  · cases e
theorem pm_hbald_ok (e : pm_hbald st h = some (st', h1)) : ∃ (j : Int32) (a k : Nat) (rest : List Value) (ys : List Int32), st = .int j :: .ref a :: rest ∧ h.1[a]? = some (.inl (true, ys)) ∧ pm_ix j ys.length = some k ∧ st' = .int (ys.getD k 0) :: rest ∧ h1 = h := by
  unfold pm_hbald at e
  split at e
  · rename_i j a rest
    split at e
    · rename_i ys ha
      split at e
      · rename_i k hk
        cases e
        exact ⟨_, _, _, _, _, rfl, ha, hk, rfl, rfl⟩
      · cases e
    · cases e
  · cases e
theorem pm_hbast_ok (e : pm_hbast st h = some (st', h1)) : ∃ (v j : Int32) (a k : Nat) (ys : List Int32), st = .int v :: .int j :: .ref a :: st' ∧ h.1[a]? = some (.inl (true, ys)) ∧ pm_ix j ys.length = some k ∧ (v == 0 || v == 1) = true ∧ h1 = (h.1.set a (.inl (true, ys.set k v)), h.2) := by
  unfold pm_hbast at e
  split at e
  · rename_i v j a rest
    split at e
    · rename_i ys ha
      split at e
      · rename_i k hk
        split at e
        · rename_i hv
          cases e
          exact ⟨_, _, _, _, _, rfl, ha, hk, hv, rfl⟩
        · cases e
      · cases e
    · cases e
  · cases e
theorem pm_haald_ok (e : pm_haald st h = some (st', h1)) : ∃ (j : Int32) (a k t : Nat) (rest : List Value) (rs : List (Option Nat)), st = .int j :: .ref a :: rest ∧ h.1[a]? = some (.inr (.inl (t, rs))) ∧ pm_ix j rs.length = some k ∧ t ∈ pm_ra ∧ st' = pm_rv (rs.getD k none) :: rest ∧ h1 = h := by
  unfold pm_haald at e
  split at e
  · rename_i j a rest
    split at e
    · rename_i t rs ha
      split at e
      · rename_i k hk
        split at e
        · rename_i ht
          cases e
          exact ⟨_, _, _, _, _, _, rfl, ha, hk, ht, rfl, rfl⟩
        · cases e
      · cases e
    · cases e
  · cases e
theorem pm_haast_ok (e : pm_haast st h = some (st', h1)) : (∃ (j : Int32) (v a k t : Nat) (rs : List (Option Nat)) (vs : List Value), st = .ref v :: .int j :: .ref a :: st' ∧ h.1[a]? = some (.inr (.inl (t, rs))) ∧ h.1[v]? = some (.inr (.inr (t, vs))) ∧ pm_ix j rs.length = some k ∧ t ∈ pm_ra ∧ h1 = (h.1.set a (.inr (.inl (t, rs.set k (some v)))), h.2)) ∨
    (∃ (j : Int32) (a k t : Nat) (rs : List (Option Nat)), st = .null :: .int j :: .ref a :: st' ∧ h.1[a]? = some (.inr (.inl (t, rs))) ∧ pm_ix j rs.length = some k ∧ t ∈ pm_ra ∧ h1 = (h.1.set a (.inr (.inl (t, rs.set k none))), h.2)) := by
  unfold pm_haast at e
  split at e
  · rename_i v j a rest
    split at e
    · rename_i t rs ha
      split at e
      · rename_i c vs hv
        split at e
        · rename_i k hk
          split at e
          · rename_i ht
            obtain ⟨hc, ht⟩ := ht
            subst hc
            cases e
            exact Or.inl ⟨_, _, _, _, _, _, _, rfl, ha, hv, hk, ht, rfl⟩
          · cases e
        · cases e
      · cases e
    · cases e
  · rename_i j a rest
    split at e
    · rename_i t rs ha
      split at e
      · rename_i k hk
        split at e
        · rename_i ht
          cases e
          exact Or.inr ⟨_, _, _, _, _, rfl, ha, hk, ht, rfl⟩
        · cases e
      · cases e
    · cases e
  · cases e
theorem pm_halen_ok (e : pm_halen st h xs = some (st', h1)) : (∃ (a : Nat) (rest : List Value) (ys : List Int32), st = .ref a :: rest ∧ h.1[a]? = some (.inl (false, ys)) ∧ st' = .int (Int32.ofNat ys.length) :: rest ∧ h1 = h) ∨
    (∃ (a t : Nat) (rest : List Value) (rs : List (Option Nat)), st = .ref a :: rest ∧ h.1[a]? = some (.inr (.inl (t, rs))) ∧ t ∈ pm_ra ∧ st' = .int (Int32.ofNat rs.length) :: rest ∧ h1 = h) ∨
    (∃ rest : List Value, st = .retAddr 1 :: rest ∧ st' = .int (Int32.ofNat xs.length) :: rest ∧ h1 = h) := by
  unfold pm_halen at e
  split at e
  · rename_i a rest
    split at e
    · rename_i ys ha
      cases e
      exact Or.inl ⟨_, _, _, rfl, ha, rfl, rfl⟩
    · rename_i t rs ha
      split at e
      · rename_i ht
        cases e
        exact Or.inr (Or.inl ⟨_, _, _, _, rfl, ha, ht, rfl, rfl⟩)
      · cases e
    · cases e
  · cases e
    exact Or.inr (Or.inr ⟨_, rfl, rfl, rfl⟩)
  · cases e
theorem pm_hnew_ok (e : pm_hnew m idx st h = some (st', h1)) : ∃ (ci : Nat) (fs : List Value), pm_new (pm_own m) idx = some (ci, fs) ∧ st' = .ref h.1.length :: st ∧ h1 = (h.1 ++ [.inr (.inr (ci, fs))], h.2 + fs.length) := by
  unfold pm_hnew at e
  split at e
  · rename_i q hq
    obtain ⟨ci, fs⟩ := q
    cases e
    exact ⟨_, _, hq, rfl, rfl⟩
  · cases e
theorem pm_hnewa_ok {z : Bool} (e : pm_hnewa z st h = some (st', h1)) : ∃ (n : Int32) (rest : List Value), st = .int n :: rest ∧ ¬ n < 0 ∧ n.toNatClampNeg ≤ 65536 ∧ st' = .ref h.1.length :: rest ∧ h1 = (h.1 ++ [.inl (z, List.replicate n.toNatClampNeg 0)], h.2 + n.toNatClampNeg) := by
  unfold pm_hnewa at e
  split at e
  · rename_i n rest
    split at e
    · cases e
    · rename_i hn
      cases e
      exact ⟨_, _, rfl, fun z => hn (Or.inl z), Nat.not_lt.mp fun z => hn (Or.inr z), rfl, rfl⟩
  · cases e
theorem pm_hanew_ok (e : pm_hanew m idx st h = some (st', h1)) : ∃ (t : Nat) (n : Int32) (rest : List Value), pm_anew (pm_own m) idx = some t ∧ st = .int n :: rest ∧ ¬ n < 0 ∧ n.toNatClampNeg ≤ 65536 ∧ st' = .ref h.1.length :: rest ∧ h1 = (h.1 ++ [.inr (.inl (t, List.replicate n.toNatClampNeg none))], h.2 + n.toNatClampNeg) := by
  unfold pm_hanew at e
  split at e
  · cases e
  · rename_i t ht
    split at e
    · rename_i n rest
      split at e
      · cases e
      · rename_i hn
        cases e
        exact ⟨_, _, _, ht, rfl, fun z => hn (Or.inl z), Nat.not_lt.mp fun z => hn (Or.inr z), rfl, rfl⟩
    · cases e
theorem pm_hcon_ok {w : Option Value} (e : pm_hcon w st h = some (st', h1)) : ∃ v, w = some v ∧ st' = v :: st ∧ h1 = h := by
  unfold pm_hcon at e
  split at e
  · rename_i v
    cases e
    exact ⟨_, rfl, rfl, rfl⟩
  · cases e
theorem pm_hobj_ok (e : pm_hobj m idx st h = some (st', h1)) : ∃ a : Nat, st = .ref a :: st' ∧ pm_lib (pm_own m) idx = 1 ∧ pm_sm st' = true ∧ h1 = h := by
  unfold pm_hobj at e
  split at e
  · rename_i a rest
    split at e
    · rename_i hc
      cases e
      exact ⟨_, rfl, hc.1, hc.2, rfl⟩
    · cases e
  · cases e
theorem pm_hmax_ok (e : pm_hmax m idx st h = some (st', h1)) : ∃ (x y : Int32) (rest : List Value), st = .int y :: .int x :: rest ∧ pm_sm rest = true ∧ h1 = h ∧
    ((pm_lib (pm_own m) idx = 2 ∧ st' = .int (if x < y then y else x) :: rest) ∨ (pm_lib (pm_own m) idx = 3 ∧ st' = .int (if y < x then y else x) :: rest)) := by
  unfold pm_hmax at e
  split at e
  · rename_i y x rest
    split at e
    · rename_i hc
      cases e
      exact ⟨_, _, _, rfl, hc.2, rfl, Or.inl ⟨hc.1, rfl⟩⟩
    · split at e
      · rename_i hc
        cases e
        exact ⟨_, _, _, rfl, hc.2, rfl, Or.inr ⟨hc.1, rfl⟩⟩
      · cases e
  · cases e
theorem pm_hclone_ok (e : pm_hclone m idx st h = some (st', h1)) : ∃ (a : Nat) (rest : List Value) (ys : List Int32), st = .ref a :: rest ∧ h.1[a]? = some (.inl (false, ys)) ∧ pm_lib (pm_own m) idx = 4 ∧ pm_sm rest = true ∧ st' = .ref h.1.length :: rest ∧ h1 = (h.1 ++ [.inl (false, ys)], h.2 + ys.length) := by
  unfold pm_hclone at e
  split at e
  · rename_i a rest
    split at e
    · rename_i ys ha
      split at e
      · rename_i hc
        cases e
        exact ⟨_, _, _, rfl, ha, hc.1, hc.2, rfl, rfl⟩
      · cases e
    · cases e
  · cases e
theorem pm_hcast_ok (e : pm_hcast m idx st h = some (st', h1)) : ∃ (a : Nat) (rest : List Value) (ys : List Int32), st = .ref a :: rest ∧ h.1[a]? = some (.inl (false, ys)) ∧ pm_lib (pm_own m) idx = 5 ∧ st' = .ref a :: rest ∧ h1 = h := by
  unfold pm_hcast at e
  split at e
  · rename_i a rest
    split at e
    · rename_i ys ha
      split at e
      · rename_i hc
        cases e
        exact ⟨_, _, _, rfl, ha, hc, rfl, rfl⟩
      · cases e
    · cases e
  · cases e
def pm_gr (h h1 : pm_H) : Prop := h.1.length ≤ h1.1.length ∧ h.2 ≤ h1.2
theorem pm_gr.rf {h : pm_H} : pm_gr h h := ⟨Nat.le_refl _, Nat.le_refl _⟩
theorem pm_gr.tr {h h1 h2 : pm_H} (a : pm_gr h h1) (b : pm_gr h1 h2) : pm_gr h h2 := ⟨Nat.le_trans a.1 b.1, Nat.le_trans a.2 b.2⟩
theorem pm_gr_set {a : Nat} {x : pm_C} : pm_gr h (h.1.set a x, h.2) := ⟨by rw [List.length_set]; exact Nat.le_refl _, Nat.le_refl _⟩
theorem pm_gr_push {x : pm_C} {n : Nat} : pm_gr h (h.1 ++ [x], h.2 + n) := ⟨by rw [List.length_append]; exact Nat.le_add_right _ _, Nat.le_add_right _ _⟩
theorem pm_hp_gr {i : Instr} (e : pm_hp m i st h xs = some (st', h1)) : pm_gr h h1 := by
  unfold pm_hp at e
  split at e
  · obtain ⟨_, _, _, _, _, _, -, -, -, -, -, rfl⟩ := pm_hget_ok e; exact pm_gr.rf
  · obtain ⟨_, _, _, _, _, -, -, -, -, -, -, rfl⟩ := pm_hput_ok e; exact pm_gr_set
  · rcases pm_hiald_ok e with ⟨_, _, _, _, _, -, -, -, -, rfl⟩ | ⟨_, _, _, -, -, -, rfl⟩ <;> exact pm_gr.rf
  · obtain ⟨_, _, _, _, _, -, -, -, rfl⟩ := pm_hiast_ok e; exact pm_gr_set
  · obtain ⟨_, _, _, _, _, _, -, -, -, -, -, rfl⟩ := pm_haald_ok e; exact pm_gr.rf
  · rcases pm_haast_ok e with ⟨_, _, _, _, _, _, _, -, -, -, -, -, rfl⟩ | ⟨_, _, _, _, _, -, -, -, -, rfl⟩ <;> exact pm_gr_set
  · rcases pm_halen_ok e with ⟨_, _, _, -, -, -, rfl⟩ | ⟨_, _, _, _, -, -, -, -, rfl⟩ | ⟨_, -, -, rfl⟩ <;> exact pm_gr.rf
  · obtain ⟨_, _, -, -, rfl⟩ := pm_hnew_ok e; exact pm_gr_push
  · obtain ⟨_, _, -, -, -, -, rfl⟩ := pm_hnewa_ok e; exact pm_gr_push
  · obtain ⟨_, _, -, -, -, -, rfl⟩ := pm_hnewa_ok e; exact pm_gr_push
  · obtain ⟨_, _, _, _, _, -, -, -, -, rfl⟩ := pm_hbald_ok e; exact pm_gr.rf
  · obtain ⟨_, _, _, _, _, -, -, -, -, rfl⟩ := pm_hbast_ok e; exact pm_gr_set
  · obtain ⟨_, _, _, -, -, -, -, -, rfl⟩ := pm_hanew_ok e; exact pm_gr_push
  · obtain ⟨_, -, -, rfl⟩ := pm_hcon_ok e; exact pm_gr.rf
  · obtain ⟨_, -, -, rfl⟩ := pm_hcon_ok e; exact pm_gr.rf
  · obtain ⟨_, _, _, -, -, -, -, rfl⟩ := pm_hcast_ok e; exact pm_gr.rf
  · obtain ⟨_, -, -, -, rfl⟩ := pm_hobj_ok e; exact pm_gr.rf
  · obtain ⟨_, _, _, -, -, rfl, -⟩ := pm_hmax_ok e; exact pm_gr.rf
  · obtain ⟨_, _, _, -, -, -, -, -, rfl⟩ := pm_hclone_ok e; exact pm_gr_push
  · cases e
end HOK
theorem pm_step_gr {xs : List Int32} {m pc nx pc' : Nat} {i : Instr} {L st L' st' : List Value} {h h1 : pm_H} (e : pm_step m i pc nx L st h xs = some (pc', L', st', h1)) : pm_gr h h1 := by
  unfold pm_step at e
  split at e
  · cases e; exact pm_gr.rf
  · split at e
    · cases e; exact pm_gr.rf
    · split at e
      · rename_i hq
        cases e
        exact pm_hp_gr hq
      · split at e
        · split at e
          · cases e; exact pm_gr.rf
          · cases e
        · cases e
theorem pm_run_gr {xs : List Int32} : ∀ {n d m pc : Nat} {L st : List Value} {h h' : pm_H} {v : Option Value}, pm_run xs n d m pc L st h = some (v, h') → pm_gr h h' := by
  intro n
  induction n with
  | zero => intro d m pc L st h h' v e; simp [pm_run] at e
  | succ n ih =>
    intro d m pc L st h h' v e
    unfold pm_run at e
    split at e
    · cases e
    · split at e
      · cases e; exact pm_gr.rf
      · split at e
        · split at e
          · exact ih e
          · exact ih e
        · split at e
          · split at e
            · cases e
            · split at e
              · cases e
              · rename_i hq
                exact (ih hq).tr (ih e)
          · split at e
            · cases e
            · rename_i hq
              exact (pm_step_gr hq).tr (ih e)
end
section
def pm_Cx (p : Program) (s : State) (mi : MethodId) (args : Array Value) (meth : Method) (c : Code) (m B b : Nat) (xs : List Int32) (D : va_G) (cI : Bool → ClassId) (cR : Nat → ClassId) : Prop :=
  p.tables.exec = Jvm.exec ∧ c.code = pm_code m ∧ s.vm.findClass (pm_cn (pm_own m)) = some mi.cls ∧ (pm_init m = true → meth.name = "<init>") ∧ (∀ w ∈ pm_words, w.before args s = true) ∧ (∀ w ∈ pm_nest, va_Nw w s) ∧ va_K D vwCl (pm_tys cI cR) s ∧ va_X b xs.length (fun j => xs.getD j 0) s s.heap ∧ b < B ∧ B ≤ s.heap.size
section HPK
variable {p : Program} {l : Launch} {e : Env} {R : Room} {s : State} {mi : MethodId} {args : Array Value} {below : List Frame} {meth : Method} {c : Code} {H : Heap} {locs : List Loc} {Q : State → Prop}
variable {pc m : Nat} {ls : Array Slot} {B b : Nat} {D : va_G} {cI : Bool → ClassId} {cR : Nat → ClassId} {h h0 h1 : pm_H} {st st' : List Value} {xs : List Int32} {i : Instr}
theorem pm_sm_ren {rest : List Value} (hs : pm_sm rest = true) : ((rest.map (pm_ren B b)).map fun v => v.category).sum ≤ 8 := by
  have h1 : (rest.map (pm_ren B b)).map (fun v => v.category) = rest.map (fun v => v.category) := by
    rw [List.map_map]
    congr 1
    funext v
    exact pm_ren_cat B b v
  rw [h1]
  exact of_decide_eq_true hs
set_option maxHeartbeats 4000000 in
theorem pm_hp_ok (hC : pm_Cx p s mi args meth c m B b xs D cI cR) (hml : c.maxLocals = ls.size) (hd : decode (pm_code m) pc = .ok (i, pm_len pc i)) (hfr : 1 ≤ R.frames) (hlo : 36 ≤ R.locals)
    (hz0 : s.heap.size = B + h0.1.length) (hle : pm_gr h0 h) (hc1 : h1.1.length ≤ h0.1.length + R.cells) (hs1 : h1.2 ≤ h0.2 + R.slots) (hP : va_P D vwCl (pm_emb cI cR B b h.1) H) (hS : va_S (fun q => B ≤ q) s.heap H locs)
    (ev : pm_hp m i st h xs = some (st', h1))
    (k : ∀ (H1 : Heap) (locs1 : List Loc), va_P D vwCl (pm_emb cI cR B b h1.1) H1 → va_S (fun q => B ≤ q) s.heap H1 locs1 → W p l e R s mi args below meth c H1 locs1 (h1.1.length - h0.1.length) (h1.2 - h0.2) Q (F0 mi (pc + pm_len pc i) ls (st'.map (pm_ren B b)))) :
    W p l e R s mi args below meth c H locs (h.1.length - h0.1.length) (h.2 - h0.2) Q (F0 mi pc ls (st.map (pm_ren B b))) := by
  obtain ⟨hx, hb, hown, hin, hts, hns, hK, hX, hbB, hBs⟩ := hC
  obtain ⟨le1, le2⟩ := hle
  have hz : s.heap.size + (h.1.length - h0.1.length) = B + h.1.length := by omega
  unfold pm_hp at ev
  split at ev
  ·
    obtain ⟨ci, kk, a, rest, fs, v, q1, rfl, q2, q3, rfl, rfl⟩ := pm_hget_ok ev
    exact pm_o_get (m := m) (h := h1) (rest := rest.map (pm_ren B b)) hx hb hown hts hns hK hP q1 q2 q3 hd (k H locs hP hS)
  ·
    obtain ⟨ci, kk, a, fs, v, q1, rfl, q2, q3, q4, q5, rfl⟩ := pm_hput_ok ev
    refine pm_o_put (m := m) (h := h) (rest := st'.map (pm_ren B b)) hx hb hown hin hts hns hK hP hS q1 q2 q3 q4 q5 hd fun H1 locs1 z1 z2 => ?_
    refine W.cs ?_ rfl (k H1 locs1 z1 z2)
    simp only [List.length_set]
  ·
    rcases pm_hiald_ok ev with ⟨j, a, kk, rest, ys, rfl, q1, q2, rfl, rfl⟩ | ⟨j, kk, rest, rfl, q2, rfl, rfl⟩
    · exact pm_o_iald (h := h1) (rest := rest.map (pm_ren B b)) hx hb hK hP q1 q2 hd (k H locs hP hS)
    · obtain ⟨i1, i2, i3⟩ := pm_ix_spec q2
      exact va_sld (A := fun q => B ≤ q) (rest := rest.map (pm_ren B b)) hx hb hX (by omega) (by show ¬ B ≤ b; omega) hS i1 hd (by rw [i2]; exact k H locs hP hS)
  ·
    obtain ⟨v, j, a, kk, ys, rfl, q1, q2, rfl⟩ := pm_hiast_ok ev
    refine pm_o_iast (h := h) (rest := st'.map (pm_ren B b)) hx hb hK hP hS q1 q2 hd fun H1 locs1 z1 z2 => ?_
    refine W.cs ?_ rfl (k H1 locs1 z1 z2)
    simp only [List.length_set]
  ·
    obtain ⟨j, a, kk, t, rest, rs, rfl, q1, q2, q3, rfl, rfl⟩ := pm_haald_ok ev
    exact pm_o_aald (h := h1) (rest := rest.map (pm_ren B b)) hx hb hK hP q1 q3 q2 hd (k H locs hP hS)
  ·
    rcases pm_haast_ok ev with ⟨j, v, a, kk, t, rs, vs, rfl, q1, q2, q3, q4, rfl⟩ | ⟨j, a, kk, t, rs, rfl, q1, q3, q4, rfl⟩
    · refine pm_o_aast (h := h) (rest := st'.map (pm_ren B b)) hx hb hK hP hS q1 q4 (pm_f14 q4) q2 q3 hd fun H1 locs1 z1 z2 => ?_
      refine W.cs ?_ rfl (k H1 locs1 z1 z2)
      simp only [List.length_set]
    · refine pm_o_aastN (h := h) (rest := st'.map (pm_ren B b)) hx hb hK hP hS q1 q4 q3 hd fun H1 locs1 z1 z2 => ?_
      refine W.cs ?_ rfl (k H1 locs1 z1 z2)
      simp only [List.length_set]
  ·
    rcases pm_halen_ok ev with ⟨a, rest, ys, rfl, q1, rfl, rfl⟩ | ⟨a, t, rest, rs, rfl, q1, q2, rfl, rfl⟩ | ⟨rest, rfl, rfl, rfl⟩
    · exact pm_o_alen (h := h1) (rest := rest.map (pm_ren B b)) hx hb hK hP q1 hd (k H locs hP hS)
    · exact pm_o_alenR (h := h1) (rest := rest.map (pm_ren B b)) hx hb hK hP q1 q2 hd (k H locs hP hS)
    · exact va_slen (A := fun q => B ≤ q) (rest := rest.map (pm_ren B b)) hx hb hX (by omega) (by show ¬ B ≤ b; omega) hS hd (k H locs hP hS)
  ·
    obtain ⟨ci, fs, q1, rfl, rfl⟩ := pm_hnew_ok ev
    simp only [List.length_append, List.length_cons, List.length_nil] at hc1 hs1
    refine pm_o_new (m := m) (h := h) (rest := st.map (pm_ren B b)) hx hb hown hts hK hP hS hBs hz q1 (by omega) (by omega) hd fun H1 z1 z2 => ?_
    refine W.cs ?_ ?_ (k H1 locs z1 z2)
    · simp only [List.length_append, List.length_cons, List.length_nil]; omega
    · show _ = h.2 + fs.length - h0.2; omega
  ·
    obtain ⟨n, rest, rfl, q1, q2, rfl, rfl⟩ := pm_hnewa_ok ev
    simp only [List.length_append, List.length_cons, List.length_nil] at hc1 hs1
    refine pm_o_newa (h := h) (rest := rest.map (pm_ren B b)) hx hb hts hK hP hS hBs hz q1 q2 (by omega) (by omega) hd fun H1 z1 z2 => ?_
    refine W.cs ?_ ?_ (k H1 locs z1 z2)
    · simp only [List.length_append, List.length_cons, List.length_nil]; omega
    · show _ = h.2 + n.toNatClampNeg - h0.2; omega
  ·
    obtain ⟨n, rest, rfl, q1, q2, rfl, rfl⟩ := pm_hnewa_ok ev
    simp only [List.length_append, List.length_cons, List.length_nil] at hc1 hs1
    refine pm_o_newz (h := h) (rest := rest.map (pm_ren B b)) hx hb hts hK hP hS hBs hz q1 q2 (by omega) (by omega) hd fun H1 z1 z2 => ?_
    refine W.cs ?_ ?_ (k H1 locs z1 z2)
    · simp only [List.length_append, List.length_cons, List.length_nil]; omega
    · show _ = h.2 + n.toNatClampNeg - h0.2; omega
  ·
    obtain ⟨j, a, kk, rest, ys, rfl, q1, q2, rfl, rfl⟩ := pm_hbald_ok ev
    exact pm_o_bald (h := h1) (rest := rest.map (pm_ren B b)) hx hb hK hP q1 q2 hd (k H locs hP hS)
  ·
    obtain ⟨v, j, a, kk, ys, rfl, q1, q2, q3, rfl⟩ := pm_hbast_ok ev
    refine pm_o_bast (h := h) (rest := st'.map (pm_ren B b)) hx hb hK hP hS q1 q2 q3 hd fun H1 locs1 z1 z2 => ?_
    refine W.cs ?_ rfl (k H1 locs1 z1 z2)
    simp only [List.length_set]
  ·
    obtain ⟨t, n, rest, q0, rfl, q1, q2, rfl, rfl⟩ := pm_hanew_ok ev
    simp only [List.length_append, List.length_cons, List.length_nil] at hc1 hs1
    refine pm_o_anew (m := m) (h := h) (rest := rest.map (pm_ren B b)) hx hb hown hts hns hK hP hS hBs hz q0 q1 q2 (by omega) (by omega) hd fun H1 z1 z2 => ?_
    refine W.cs ?_ ?_ (k H1 locs z1 z2)
    · simp only [List.length_append, List.length_cons, List.length_nil]; omega
    · show _ = h.2 + n.toNatClampNeg - h0.2; omega
  ·
    obtain ⟨v, q1, rfl, rfl⟩ := pm_hcon_ok ev
    obtain ⟨x, rfl, q2⟩ := pm_f5 q1
    exact lv_ldc hx hb hown (hts _ q2) hd (k H locs hP hS)
  ·
    obtain ⟨v, q1, rfl, rfl⟩ := pm_hcon_ok ev
    obtain ⟨x, rfl, q2⟩ := pm_f5b q1
    exact lv_ldc2 hx hb hown (hts _ q2) hd (k H locs hP hS)
  ·
    obtain ⟨a, rest, ys, rfl, q1, q2, rfl, rfl⟩ := pm_hcast_ok ev
    have hcI : s.vm.findClass "[I" = some (cI false) := va_nm_int (hK.2 0 (cI false, .int) rfl).2
    exact va_castA (rest := rest.map (pm_ren B b)) hx hb hown (hts _ (pm_f13 q2)) hP a (pm_emb_at q1) hcI hd (k H locs hP hS)
  ·
    obtain ⟨a, rfl, q1, q2, rfl⟩ := pm_hobj_ok ev
    obtain ⟨w1, w2, w3⟩ := pm_f9 q1
    have hsm := pm_sm_ren (B := B) (b := b) q2
    exact W.objInit (g := F0 mi pc ls (.ref (B + a) :: st'.map (pm_ren B b))) hx hb hown (hts _ w1) (hts _ w2) (hts _ w3) rfl hml.symm rfl hd hfr (by show 2 * 0 + _ + 12 ≤ _; omega) (k H locs hP hS)
  ·
    obtain ⟨x, y, rest, rfl, q2, rfl, q3⟩ := pm_hmax_ok ev
    have hsm := pm_sm_ren (B := B) (b := b) q2
    rcases q3 with ⟨q1, rfl⟩ | ⟨q1, rfl⟩
    · obtain ⟨w1, w2, w3, w4⟩ := pm_f10 q1
      exact va_mmax (rest := rest.map (pm_ren B b)) hx hb hml hown (hts _ w1) (hts _ w2) (hts _ w3) (hts _ w4) hfr (by omega) (by omega) (by omega) hd (k H locs hP hS)
    · obtain ⟨w1, w2, w3, w4⟩ := pm_f11 q1
      exact va_mmin (rest := rest.map (pm_ren B b)) hx hb hml hown (hts _ w1) (hts _ w2) (hts _ w3) (hts _ w4) hfr (by omega) (by omega) (by omega) hd (k H locs hP hS)
  ·
    obtain ⟨a, rest, ys, rfl, q1, q2, q3, rfl, rfl⟩ := pm_hclone_ok ev
    obtain ⟨w1, w2, w3, w4, w5, w6⟩ := pm_f12 q2
    have hsm := pm_sm_ren (B := B) (b := b) q3
    have hcI : s.vm.findClass "[I" = some (cI false) := va_nm_int (hK.2 0 (cI false, .int) rfl).2
    simp only [List.length_append, List.length_cons, List.length_nil] at hc1 hs1
    refine va_clone (rest := rest.map (pm_ren B b)) hx hb hml hown (hts _ w1) (hts _ w2) (hts _ w3) (hts _ w4) (hts _ w5) (hns _ w6) hK hP pm_D hS (fun q z => Nat.le_trans hBs z) a 0 (pm_emb_at q1) (ty := .int) rfl hcI (fun i v hv => va_fit (ty := .int) (fun _ _ => rfl) i v hv) hfr (by omega) (by omega) (by show _ + ys.length ≤ _; omega) hd fun q H1 k1 z1 z2 z3 => ?_
    refine pm_grow (g := fun q => F0 mi (pc + 3) ls (.ref q :: rest.map (pm_ren B b))) (x := .inl (false, ys)) rfl hz z1 z2 (fun z => ?_)
    refine W.cs ?_ ?_ (k H1 locs z z3)
    · simp only [List.length_append, List.length_cons, List.length_nil]; omega
    · show _ + ys.length = h.2 + ys.length - h0.2; omega
  · cases ev
end HPK
end
section
def pm_rm (d mc ms : Nat) : Room := { frames := d + 1, cells := mc, slots := ms, locals := 36 * (d + 1) }
def pm_ws (m : Nat) : List Cond := .code (pm_y m) (pm_code m) (pm_maxL m) (pm_rt m) :: pm_words
def pm_Sg (D : va_G) (cI : Bool → ClassId) (cR : Nat → ClassId) (B b : Nat) (xs : List Int32) (U : State) : Prop := va_K D vwCl (pm_tys cI cR) U ∧ (∀ w ∈ pm_nest, va_Nw w U) ∧ va_X b xs.length (fun j => xs.getD j 0) U U.heap ∧ b < B ∧ B ≤ U.heap.size
def pm_Pc (D : va_G) (cI : Bool → ClassId) (cR : Nat → ClassId) (B b : Nat) (xs : List Int32) (as : List Value) (h : pm_H) : Array Value → State → Prop := va_Pc (as.map (pm_ren B b)) (fun U => U.heap.size = B + h.1.length ∧ va_P D vwCl (pm_emb cI cR B b h.1) U.heap ∧ pm_Sg D cI cR B b xs U)
def pm_Qc (D : va_G) (cI : Bool → ClassId) (cR : Nat → ClassId) (B b : Nat) (v : Option Value) (h' : pm_H) : Array Value → State → Outcome → State → Prop := fun _ st oc t => oc = .returned (v.map (pm_ren B b)) ∧ va_P D vwCl (pm_emb cI cR B b h'.1) t.heap ∧ va_F (fun q => B ≤ q) st t
section CALL
variable {p : Program} {l : Launch} {e : Env} {R : Room} {s : State} {mi : MethodId} {args : Array Value} {below : List Frame} {meth : Method} {c : Code} {H : Heap} {locs : List Loc} {cells slots mc ms : Nat} {Q : State → Prop}
variable {pc : Nat} {ls : Array Slot} {B b : Nat} {D : va_G} {cI : Bool → ClassId} {cR : Nat → ClassId} {v : Option Value} {h' : pm_H} {rest st0 : List Value} {a : Array Value} {H0 : Heap}
theorem pm_back (hr : va_Run p l e R s mi args below meth c H locs cells slots mc ms (F0 mi pc ls st0) rest (pm_Qc D cI cR B b v h' a) (fun q => B ≤ q)) (hS : va_S (fun q => B ≤ q) H0 H locs)
    (kk : ∀ (H1 : Heap) (locs1 : List Loc), va_P D vwCl (pm_emb cI cR B b h'.1) H1 → va_S (fun q => B ≤ q) H0 H1 locs1 → W p l e R s mi args below meth c H1 locs1 (cells + mc) (slots + ms) Q (F0 mi (pc + 3) ls ((v.map (pm_ren B b)).toList ++ rest))) : W p l e R s mi args below meth c H locs cells slots Q (F0 mi pc ls st0) := by
  intro T hT X
  obtain ⟨w, st₀, t, T', L, h0, X', hL, e1, e2, ⟨hv, hP, hz, hk⟩, st⟩ := hr T hT X
  have hv : w = v.map (pm_ren B b) := Outcome.returned.inj hv
  subst hv
  rw [h0] at hz hk
  obtain ⟨t2, a1, b1⟩ := kk T'.heap (locs ++ L) (by rw [e1]; exact hP)
    ⟨Nat.le_trans hS.1 (by rw [e1]; exact hz), fun q h1 h2 => by rw [e1, hk q (Nat.lt_of_lt_of_le h1 hS.1) h2]; exact hS.2.1 q h1 h2, fun q hq => by
      rcases List.mem_append.mp hq with z | z
      · exact hS.2.2 q z
      · exact hL q z⟩ T' rfl X'
  exact ⟨t2, st t2 a1, b1⟩
end CALL
theorem pm_nest_warm {s U : State} (hW : s.WarmedH U.vm) (hn : ∀ w ∈ pm_nest, va_Nw w s) : ∀ w ∈ pm_nest, va_Nw w U := fun w hw => by
  have h1 : pm_isN w = true := pm_f8 w hw
  have h2 := hn w hw
  cases w with
  | fieldLinkNest a i b n d q => exact va_Nw.warmF hW h2
  | methodLinkNest a i x q => exact va_Nw.warmM hW h2
  | castable C T => exact va_Nw.warmC hW h2
  | arrayOver ty => cases ty with
    | object C => exact va_AO.moved hW.alike h2
    | _ => simp [pm_isN] at h1
  | _ => simp [pm_isN] at h1
theorem pm_blind {D : va_G} {cI : Bool → ClassId} {cR : Nat → ClassId} {B b : Nat} {xs : List Int32} {as : List Value} {h : pm_H} : FrameBlind (pm_Pc D cI cR B b xs as h) := by
  intro a U g mk q
  obtain ⟨q0, q1, q2, q3, q4, q5, q6, q7⟩ := q
  exact ⟨q0, q1, q2, va_K.moved (u := U) (U := U.calling g mk a) (Vm.Alike.refl U.vm) q3, pm_nest_warm (s := U) (U := U.calling g mk a) (State.WarmedH.refl U) q4, va_X.moved (u := U) (U := U.calling g mk a) (Vm.Alike.refl U.vm) q5, q6, q7⟩
theorem pm_pre {s : State} {D : va_G} {cI : Bool → ClassId} {cR : Nat → ClassId} {B b : Nat} {xs : List Int32} {as : List Value} {h : pm_H} {H : Heap} {locs : List Loc} (hK : va_K D vwCl (pm_tys cI cR) s) (hns : ∀ w ∈ pm_nest, va_Nw w s) (hX : va_X b xs.length (fun j => xs.getD j 0) s s.heap) (hbB : b < B) (hBs : B ≤ s.heap.size)
    (hP : va_P D vwCl (pm_emb cI cR B b h.1) H) (hS : va_S (fun q => B ≤ q) s.heap H locs) (hz : H.size = B + h.1.length) : ∀ U : State, U.heap = H → s.WarmedH U.vm → pm_Pc D cI cR B b xs as h (as.map (pm_ren B b)).toArray U := fun U hU hW =>
  ⟨rfl, by rw [hU]; exact hz, by rw [hU]; exact hP, va_K.moved hW.alike hK, pm_nest_warm hW hns, by rw [hU]; exact (hX.kept (hS.2.1 b (by omega) (by omega))).moved hW.alike, hbB, by rw [hU]; omega⟩
theorem pm_sl_len {B b : Nat} (vs : List Value) : (lg_sl (vs.map (pm_ren B b))).length = (pm_sl vs).length := by
  induction vs with
  | nil => rfl
  | cons v vs ih =>
    simp only [lg_sl, List.map_cons, List.flatMap_cons, List.length_append, pm_sl, pm_ren_cat] at ih ⊢
    by_cases hc : v.category = 2 <;> simp [hc, ih] <;> omega
theorem pm_sl_at {B b : Nat} (vs : List Value) : ∀ (o i : Nat) (v : Value), (pm_sl vs)[i]? = some v → v ≠ pm_none → (o + i, pm_ren B b v) ∈ lv_args o (vs.map (pm_ren B b)) := by
  induction vs with
  | nil => intro o i v hv; simp [pm_sl] at hv
  | cons w vs ih =>
    intro o i v hv hn
    simp only [List.map_cons, lv_args, pm_ren_cat]
    by_cases hc : w.category = 2
    · simp only [pm_sl, hc, if_true] at hv ⊢
      cases i with
      | zero => simp at hv; subst hv; exact List.mem_cons_self
      | succ i => cases i with
        | zero => simp at hv; exact absurd hv.symm hn
        | succ i =>
          simp only [List.getElem?_cons_succ] at hv
          have := ih (o + 2) i v hv hn
          exact List.mem_cons_of_mem _ (by rw [show o + (i + 1 + 1) = o + 2 + i by omega]; exact this)
    · simp only [pm_sl, hc, if_false] at hv ⊢
      cases i with
      | zero => simp at hv; subst hv; exact List.mem_cons_self
      | succ i =>
        simp only [List.getElem?_cons_succ] at hv
        have := ih (o + 1) i v hv hn
        exact List.mem_cons_of_mem _ (by rw [show o + (i + 1) = o + 1 + i by omega]; exact this)
theorem pm_L_entry {B b n : Nat} {vs : List Value} (hn : (pm_sl vs).length ≤ n) : pm_L B b ((lg_sl (vs.map (pm_ren B b)) ++ List.replicate (n - (lg_sl (vs.map (pm_ren B b))).length) Slot.unset).toArray) (pm_entry vs n) := by
  have h1 := lv_entry (vs.map (pm_ren B b)) (n := n) (by rw [pm_sl_len]; exact hn)
  have hlen : (pm_entry vs n).length = n := by simp [pm_entry]; omega
  refine ⟨by rw [hlen]; exact h1.1, h1.2.1, fun i v hv hne => ?_⟩
  unfold pm_entry at hv
  by_cases hi : i < (pm_sl vs).length
  · rw [List.getElem?_append_left hi] at hv
    have := h1.2.2 _ (pm_sl_at (B := B) (b := b) vs 0 i v hv hne)
    simpa using this
  · rw [List.getElem?_append_right (by omega), List.getElem?_replicate] at hv
    split at hv
    · cases hv; exact absurd rfl hne
    · cases hv
section CALLOK
variable {m m' n : Nat} {i : Instr} {st st' as : List Value} {h : pm_H}
theorem pm_pop_ok : ∀ {n : Nat} {as as' st st' : List Value}, pm_pop n as st = some (as', st') → ∃ bs : List Value, as' = bs.reverse ++ as ∧ st = bs ++ st' ∧ bs.length = n := by
  intro n
  induction n with
  | zero =>
    intro as as' st st' e
    simp only [pm_pop, Option.some.injEq, Prod.mk.injEq] at e
    obtain ⟨rfl, rfl⟩ := e
    exact ⟨[], rfl, rfl, rfl⟩
  | succ n ih =>
    intro as as' st st' e
    cases st with
    | nil => simp [pm_pop] at e
    | cons v st =>
      simp only [pm_pop] at e
      obtain ⟨bs, rfl, rfl, rfl⟩ := ih e
      exact ⟨v :: bs, by simp, by simp, by simp⟩
theorem pm_chk8_ok {m1 : Nat} {as1 st1 : List Value} (e : pm_chk8 m1 as1 st1 = some (m', as, st')) : m1 = m' ∧ as1 = as ∧ st1 = st' ∧ pm_sm st' = true ∧ (pm_sl as).length ≤ pm_maxL m' := by
  unfold pm_chk8 at e
  split at e
  · rename_i hc
    cases e
    exact ⟨rfl, rfl, rfl, hc.1, hc.2⟩
  · cases e
theorem pm_recv_ok {m1 : Nat} {as1 st1 : List Value} (e : pm_recv m1 as1 st1 h = some (m', as, st')) : ∃ (a : Nat) (fs : List Value), m1 = m' ∧ as = .ref a :: as1 ∧ st1 = .ref a :: st' ∧ h.1[a]? = some (.inr (.inr (pm_own m', fs))) ∧ pm_sm st' = true ∧ (pm_sl as).length ≤ pm_maxL m' := by
  unfold pm_recv at e
  split at e
  · rename_i a rest
    split at e
    · rename_i c fs ha
      split at e
      · rename_i hc
        subst hc
        obtain ⟨rfl, rfl, rfl, q1, q2⟩ := pm_chk8_ok e
        exact ⟨a, fs, rfl, rfl, rfl, ha, q1, q2⟩
      · cases e
    · cases e
  · cases e
theorem pm_call_ok (e : pm_call m i st h = some (m', as, st')) : pm_sm st' = true ∧ (pm_sl as).length ≤ pm_maxL m' ∧ ∃ idx n : Nat,
    (i = .invokestatic idx ∧ pm_inv (pm_own m) idx = some (m', n, 0) ∧ st = as.reverse ++ st' ∧ as.length = n) ∨
    (∃ (a : Nat) (bs fs : List Value), as = .ref a :: bs ∧ st = bs.reverse ++ .ref a :: st' ∧ bs.length = n ∧ h.1[a]? = some (.inr (.inr (pm_own m', fs))) ∧
      ((i = .invokevirtual idx ∧ pm_inv (pm_own m) idx = some (m', n, 1)) ∨ (i = .invokespecial idx ∧ pm_inv (pm_own m) idx = some (m', n, 2)))) := by
  unfold pm_call at e
  split at e
  · cases e
  · rename_i idx kd hi
    split at e
    · cases e
    · rename_i m1 n1 kind hv
      split at e
      · rename_i hk
        subst hk
        split at e
        · cases e
        · rename_i as1 st1 hpop
          obtain ⟨bs, rfl, rfl, hl⟩ := pm_pop_ok hpop
          split at e
          · obtain ⟨rfl, rfl, rfl, q1, q2⟩ := pm_chk8_ok e
            refine ⟨q1, q2, idx, n1, Or.inl ⟨?_, hv, by simp, by simp [hl]⟩⟩
            unfold pm_cidx at hi
            split at hi <;> first | (cases hi; rfl) | cases hi
          · rename_i hne
            obtain ⟨a, fs, rfl, rfl, rfl, q0, q1, q2⟩ := pm_recv_ok e
            refine ⟨q1, q2, idx, n1, Or.inr ⟨a, bs.reverse, fs, by simp, by simp, by simp [hl], q0, ?_⟩⟩
            unfold pm_cidx at hi
            split at hi
            · cases hi; exact absurd rfl hne
            · cases hi; exact Or.inl ⟨rfl, hv⟩
            · cases hi; exact Or.inr ⟨rfl, hv⟩
            · cases hi
      · cases e
end CALLOK

section RUN
variable {l : Launch} {B b : Nat} {D : va_G} {cI : Bool → ClassId} {cR : Nat → ClassId} {xs : List Int32}
def pm_In (l : Launch) (B b : Nat) (D : va_G) (cI : Bool → ClassId) (cR : Nat → ClassId) (xs : List Int32) (n : Nat) : Prop :=
  ∀ (d m pc : Nat) (L st : List Value) (h1 h' : pm_H) (v : Option Value), pm_run xs n d m pc L st h1 = some (v, h') →
  ∀ (p : Program) (e : Env) (R : Room) (s : State) (mi : MethodId) (args : Array Value) (below : List Frame) (meth : Method) (c : Code) (H : Heap) (locs : List Loc) (Q : State → Prop) (ls : Array Slot) (h0 : pm_H),
  pm_Cx p s mi args meth c m B b xs D cI cR → c.maxLocals = L.length → d + 1 ≤ R.frames → 36 * (d + 1) ≤ R.locals → s.heap.size = B + h0.1.length → pm_gr h0 h1 → h'.1.length ≤ h0.1.length + R.cells → h'.2 ≤ h0.2 + R.slots →
  pm_L B b ls L → va_P D vwCl (pm_emb cI cR B b h1.1) H → va_S (fun q => B ≤ q) s.heap H locs →
  (∀ (i : Instr) (pc' : Nat) (st' : List Value) (ls' : Array Slot) (H' : Heap) (locs' : List Loc), decode (pm_code m) pc' = .ok (i, pm_len pc' i) → pm_ans m i st' = some v → va_P D vwCl (pm_emb cI cR B b h'.1) H' → va_S (fun q => B ≤ q) s.heap H' locs' →
    W p l e R s mi args below meth c H' locs' (h'.1.length - h0.1.length) (h'.2 - h0.2) Q (F0 mi pc' ls' (st'.map (pm_ren B b)))) →
  W p l e R s mi args below meth c H locs (h1.1.length - h0.1.length) (h1.2 - h0.2) Q (F0 mi pc ls (st.map (pm_ren B b)))
theorem pm_end {p : Program} {e : Env} {R : Room} {s : State} {mi : MethodId} {args : Array Value} {below : List Frame} {meth : Method} {c : Code} {H : Heap} {locs : List Loc} {m pc cells slots : Nat} {i : Instr} {st : List Value} {ls : Array Slot} {v : Option Value} {h' : pm_H}
    (hx : p.tables.exec = Jvm.exec) (hb : c.code = pm_code m) (hr : meth.sig.returnType = pm_rt m) (hlocks : meth.locks = false) (hd : decode (pm_code m) pc = .ok (i, pm_len pc i)) (ha : pm_ans m i st = some v)
    (hP : va_P D vwCl (pm_emb cI cR B b h'.1) H) (hS : va_S (fun q => B ≤ q) s.heap H locs) :
    W p l e R s mi args below meth c H locs cells slots (MQ below (pm_Qc D cI cR B b v h') args s cells slots (fun q => B ≤ q)) (F0 mi pc ls (st.map (pm_ren B b))) := by
  have hq : ∀ (w : Option Value), w = v.map (pm_ren B b) → ∀ t : State, t.heap = H → s.WarmedH t.vm → pm_Qc D cI cR B b v h' args s (.returned w) t := fun w hw t ht _ => ⟨by rw [hw], by rw [ht]; exact hP, hS.F ht⟩
  unfold pm_ans at ha
  split at ha
  · split at ha
    · rename_i x
      split at ha
      · rename_i hk
        cases ha
        unfold pm_rok at hk
        split at hk
        · rename_i h0
          exact W.iret hx hb (hr.trans h0) (hq _ rfl) hS.2.2 hd hlocks
        · rename_i h0
          exact W.zret hx hb (hr.trans h0) (by rcases pm_01 hk with rfl | rfl <;> rfl) (hq _ rfl) hS.2.2 hd hlocks
        · cases hk
      · cases ha
    · cases ha
  · split at ha
    · rename_i x
      split at ha
      · rename_i hk
        cases ha
        exact W.lret hx hb (hr.trans hk) (hq _ rfl) hS.2.2 hd hlocks
      · cases ha
    · cases ha
  · split at ha
    · rename_i x
      split at ha
      · rename_i hk
        cases ha
        unfold pm_rr at hk
        split at hk
        · rename_i C h0
          exact W.aret hx hb (hr.trans h0) (Or.inl ⟨_, rfl⟩) (Or.inr ⟨_, rfl⟩) (hq _ rfl) hS.2.2 hd hlocks
        · rename_i C h0
          exact W.aret hx hb (hr.trans h0) (Or.inr ⟨_, rfl⟩) (Or.inr ⟨_, rfl⟩) (hq _ rfl) hS.2.2 hd hlocks
        · cases hk
      · cases ha
    · split at ha
      · rename_i hk
        cases ha
        unfold pm_rr at hk
        split at hk
        · rename_i C h0
          exact W.aret hx hb (hr.trans h0) (Or.inl ⟨_, rfl⟩) (Or.inl rfl) (hq _ rfl) hS.2.2 hd hlocks
        · rename_i C h0
          exact W.aret hx hb (hr.trans h0) (Or.inr ⟨_, rfl⟩) (Or.inl rfl) (hq _ rfl) hS.2.2 hd hlocks
        · cases hk
      · cases ha
    · cases ha
  · split at ha
    · split at ha
      · rename_i hk
        cases ha
        exact W.vret hx hb (hr.trans hk) (hq _ rfl) hS.2.2 hd hlocks
      · cases ha
    · cases ha
  · cases ha
theorem pm_met {n : Nat} (ih : pm_In l B b D cI cR xs n) {d m : Nat} {as : List Value} {h h' : pm_H} {v : Option Value} (hrun : pm_run xs n d m 0 (pm_entry as (pm_maxL m)) [] h = some (v, h')) (hn : (pm_sl as).length ≤ pm_maxL m)
    (hpl : plainName (pm_y m).cls = true) (hcn : (pm_y m).cls = pm_cn (pm_own m)) (hin : pm_init m = true → (pm_y m).name = "<init>") :
    Met l (pm_y m) (pm_ws m) (pm_rm d (h'.1.length - h.1.length) (h'.2 - h.2)) (pm_Pc D cI cR B b xs as h) (pm_Qc D cI cR B b v h') (h'.1.length - h.1.length) (h'.2 - h.2) (fun q => B ≤ q) := by
  have hg := pm_run_gr hrun
  refine Met.ofW (cc := pm_code m) (maxL := pm_maxL m) (ret := pm_rt m) hpl rfl ?_
  intro p e s mi args below meth c s₁ Bd hml hv
  obtain ⟨rfl, hsz, hP, hK, hns, hX, hbB, hBs⟩ := hv
  have hx := Bd.exec
  have hb := Bd.bytes
  have hr := Bd.returns
  have hts := atoms_spec (ws := pm_ws m) Bd.pre
  have hown := findClass_of_methodNamed Bd.named
  have hlocks := Bd.notSynchronized
  have hnm := (name_of_methodNamed Bd.named Bd.method).1
  rw [hcn] at hown
  rw [lg_entry_eq]
  have hlen : (pm_entry as (pm_maxL m)).length = pm_maxL m := by simp [pm_entry]; omega
  have hlg := hg.1
  have hlg2 := hg.2
  have k := ih d m 0 (pm_entry as (pm_maxL m)) [] h h' v hrun p e (pm_rm d (h'.1.length - h.1.length) (h'.2 - h.2)) s mi (as.map (pm_ren B b)).toArray below meth c s.heap [] (MQ below (pm_Qc D cI cR B b v h') (as.map (pm_ren B b)).toArray s (h'.1.length - h.1.length) (h'.2 - h.2) (fun q => B ≤ q)) _ h
    ⟨hx, hb, hown, fun z => hnm.trans (hin z), fun w hw => hts w (List.mem_cons_of_mem _ hw), hns, hK, hX, hbB, hBs⟩ (hml.trans hlen.symm) (Nat.le_refl _) (Nat.le_refl _) hsz pm_gr.rf (by show _ ≤ _ + (h'.1.length - h.1.length); omega) (by show _ ≤ _ + (h'.2 - h.2); omega)
    (pm_L_entry (B := B) (b := b) hn) hP va_S.rf (fun i pc' st' ls' H' locs' hd ha hP' hS' => pm_end hx hb hr hlocks hd ha hP' hS')
  exact W.cs (by omega) (by omega) k
theorem pm_toList_ren {v : Option Value} {st : List Value} : (v.toList ++ st).map (pm_ren B b) = (v.map (pm_ren B b)).toList ++ st.map (pm_ren B b) := by cases v <;> rfl
theorem pm_call_go {n : Nat} (ih : pm_In l B b D cI cR xs n) {p : Program} {e : Env} {R : Room} {s : State} {mi : MethodId} {args : Array Value} {below : List Frame} {meth : Method} {c : Code} {H : Heap} {locs : List Loc} {Q : State → Prop} {ls : Array Slot} {h0 h1 h2 : pm_H}
    {d m m' pc : Nat} {i : Instr} {st st' as L : List Value} {v : Option Value}
    (hC : pm_Cx p s mi args meth c m B b xs D cI cR) (hml : c.maxLocals = L.length) (hfr : d + 2 ≤ R.frames) (hlo : 36 * (d + 2) ≤ R.locals) (hz0 : s.heap.size = B + h0.1.length) (hle : pm_gr h0 h1) (hc1 : h2.1.length ≤ h0.1.length + R.cells) (hs1 : h2.2 ≤ h0.2 + R.slots)
    (hL : pm_L B b ls L) (hP : va_P D vwCl (pm_emb cI cR B b h1.1) H) (hS : va_S (fun q => B ≤ q) s.heap H locs) (hd : decode (pm_code m) pc = .ok (i, pm_len pc i))
    (hcall : pm_call m i st h1 = some (m', as, st')) (hrun : pm_run xs n d m' 0 (pm_entry as (pm_maxL m')) [] h1 = some (v, h2))
    (k : ∀ (H2 : Heap) (locs2 : List Loc), va_P D vwCl (pm_emb cI cR B b h2.1) H2 → va_S (fun q => B ≤ q) s.heap H2 locs2 → W p l e R s mi args below meth c H2 locs2 (h2.1.length - h0.1.length) (h2.2 - h0.2) Q (F0 mi (pc + pm_len pc i) ls ((v.toList ++ st').map (pm_ren B b)))) :
    W p l e R s mi args below meth c H locs (h1.1.length - h0.1.length) (h1.2 - h0.2) Q (F0 mi pc ls (st.map (pm_ren B b))) := by
  obtain ⟨hx, hb, hown, hin, hts, hns, hK, hX, hbB, hBs⟩ := hC
  obtain ⟨le1, le2⟩ := hle
  obtain ⟨gr1, gr2⟩ := pm_run_gr hrun
  obtain ⟨hsm, hn, idx, np, hcases⟩ := pm_call_ok hcall
  have hsm' := pm_sm_ren (B := B) (b := b) hsm
  refine pm_W_size fun hz1 => ?_
  have hz2 := pm_le hP (Nat.le_trans hBs hS.1)
  have hz : H.size = B + h1.1.length := by omega
  have hpre := pm_pre (as := as) (h := h1) hK hns hX hbB hBs hP hS hz
  have hGI : GoodIn pm_words pm_words := fun w hw => ⟨hw, good_of_word (pm_good hw)⟩
  have hsz : ls.size = L.length := hL.1
  have fin : ∀ (H2 : Heap) (locs2 : List Loc), va_P D vwCl (pm_emb cI cR B b h2.1) H2 → va_S (fun q => B ≤ q) s.heap H2 locs2 → pm_len pc i = 3 → W p l e R s mi args below meth c H2 locs2 (h1.1.length - h0.1.length + (h2.1.length - h1.1.length)) (h1.2 - h0.2 + (h2.2 - h1.2)) Q (F0 mi (pc + 3) ls ((v.map (pm_ren B b)).toList ++ st'.map (pm_ren B b))) := by
    intro H2 locs2 z1 z2 z3
    have z4 := k H2 locs2 z1 z2
    rw [z3, pm_toList_ren] at z4
    exact W.cs (by omega) (by omega) z4
  have hf : (h1.1.length - h0.1.length) + (h2.1.length - h1.1.length) ≤ R.cells ∧ (h1.2 - h0.2) + (h2.2 - h1.2) ≤ R.slots := ⟨by omega, by omega⟩
  have hfix : CallFix p mi c (pm_code m) L.length s args pm_words (pm_cn (pm_own m)) := ⟨hx, hb, hml, hown, hts⟩
  rcases hcases with ⟨rfl, hinv, rfl, hlen⟩ | ⟨a, bs, fs, rfl, rfl, hlen, ha, hcases⟩
  ·
    obtain ⟨f1, f2, f3, f4, f5, f6, f7, f8, -, -, f11⟩ := pm_f6 hinv
    have hM := pm_met ih hrun hn f7 f3 f11
    have hG : GoodIn pm_words (pm_ws m') := fun w hw => by
      rcases List.mem_cons.mp hw with rfl | hw
      · exact ⟨f1, Or.inl rfl⟩
      · exact hGI w hw
    have hR : (pm_rm d (h2.1.length - h1.1.length) (h2.2 - h1.2)).frames + 1 ≤ R.frames ∧ 8 + (pm_maxL m' + 11) + (pm_rm d (h2.1.length - h1.1.length) (h2.2 - h1.2)).locals ≤ R.locals := ⟨by show d + 1 + 1 ≤ _; omega, by show 8 + (pm_maxL m' + 11) + 36 * (d + 1) ≤ _; omega⟩
    have hst : ((as.reverse ++ st').map (pm_ren B b)) = (as.map (pm_ren B b)).reverse ++ st'.map (pm_ren B b) := by rw [List.map_append, List.map_reverse]
    rw [hst]
    rcases f5 with f5 | ⟨host, f5⟩
    · exact pm_back (va_runS (g := F0 mi pc ls ((as.map (pm_ren B b)).reverse ++ st'.map (pm_ren B b))) (As := as.map (pm_ren B b)) (rest := st'.map (pm_ren B b)) hfix hM ⟨callB_of np hts hG rfl rfl rfl (hts _ f2) (hts _ f5) f4 hR, hts _ (f8 rfl)⟩ ⟨pm_blind, hpre⟩ rfl (by rw [List.length_map]; exact hlen) hsz rfl (by show 2 * 0 + _ ≤ 8; omega) hd hf) hS fun H2 locs2 z1 z2 => fin H2 locs2 z1 z2 rfl
    · exact pm_back (va_runSN (g := F0 mi pc ls ((as.map (pm_ren B b)).reverse ++ st'.map (pm_ren B b))) (As := as.map (pm_ren B b)) (rest := st'.map (pm_ren B b)) hfix hM ⟨va_cnB np hts hG rfl rfl rfl (hns _ f5) (hts _ f2) f4 hR, hts _ (f8 rfl), trivial⟩ ⟨pm_blind, hpre⟩ rfl (by rw [List.length_map]; exact hlen) hsz rfl (by show 2 * 0 + _ ≤ 8; omega) hd hf) hS fun H2 locs2 z1 z2 => fin H2 locs2 z1 z2 rfl
  · have hst : ((bs.reverse ++ .ref a :: st').map (pm_ren B b)) = (bs.map (pm_ren B b)).reverse ++ .ref (B + a) :: st'.map (pm_ren B b) := by rw [List.map_append, List.map_reverse]; rfl
    rw [hst]
    rcases hcases with ⟨rfl, hinv⟩ | ⟨rfl, hinv⟩
    ·
      obtain ⟨f1, f2, f3, f4, f5, f6, f7, -, f9, -, f11⟩ := pm_f6 hinv
      obtain ⟨f9, f9', f9''⟩ := f9 rfl
      have hM := pm_met ih hrun hn f7 f3 f11
      have hG : GoodIn pm_words (pm_ws m') := fun w hw => by
        rcases List.mem_cons.mp hw with rfl | hw
        · exact ⟨f1, Or.inl rfl⟩
        · exact hGI w hw
      have hR : (pm_rm d (h2.1.length - h1.1.length) (h2.2 - h1.2)).frames + 1 ≤ R.frames ∧ 8 + (pm_maxL m' + 11) + (pm_rm d (h2.1.length - h1.1.length) (h2.2 - h1.2)).locals ≤ R.locals := ⟨by show d + 1 + 1 ≤ _; omega, by show 8 + (pm_maxL m' + 11) + 36 * (d + 1) ≤ _; omega⟩
      obtain ⟨q, hq, hqn⟩ := f9''
      have hrecv := va_recv hK hP hq (pm_emb_at (cI := cI) (cR := cR) (B := B) (b := b) ha)
      rw [hqn, ← f3] at hrecv
      have hpv : PreV s H (pm_y m').cls (B + a) (pm_Pc D cI cR B b xs (.ref a :: bs) h1) (bs.map (pm_ren B b)) := ⟨pm_blind, hrecv, hpre⟩
      rcases f5 with f5 | ⟨host, f5⟩
      · exact pm_back (va_runV (g := F0 mi pc ls ((bs.map (pm_ren B b)).reverse ++ .ref (B + a) :: st'.map (pm_ren B b))) (b := B + a) (As := bs.map (pm_ren B b)) (rest := st'.map (pm_ren B b)) hfix hM ⟨callB_of np hts hG rfl rfl rfl (hts _ f2) (hts _ f5) f4 hR, hts _ f9, hts _ f9'⟩ hpv rfl (by rw [List.length_map]; exact hlen) hsz rfl (by show 2 * 0 + _ ≤ 8; omega) hd hf) hS fun H2 locs2 z1 z2 => fin H2 locs2 z1 z2 rfl
      · exact pm_back (va_runVN (g := F0 mi pc ls ((bs.map (pm_ren B b)).reverse ++ .ref (B + a) :: st'.map (pm_ren B b))) (b := B + a) (As := bs.map (pm_ren B b)) (rest := st'.map (pm_ren B b)) hfix hM ⟨va_cnB np hts hG rfl rfl rfl (hns _ f5) (hts _ f2) f4 hR, hts _ f9, hts _ f9'⟩ hpv rfl (by rw [List.length_map]; exact hlen) hsz rfl (by show 2 * 0 + _ ≤ 8; omega) hd hf) hS fun H2 locs2 z1 z2 => fin H2 locs2 z1 z2 rfl
    ·
      obtain ⟨f1, f2, f3, f4, f5, f6, f7, -, -, f10, f11⟩ := pm_f6 hinv
      obtain ⟨f10, f10', f10''⟩ := f10 rfl
      have hM := pm_met ih hrun hn f7 f3 f11
      have hG : GoodIn pm_words (pm_ws m') := fun w hw => by
        rcases List.mem_cons.mp hw with rfl | hw
        · exact ⟨f1, Or.inl rfl⟩
        · exact hGI w hw
      have hR : (pm_rm d (h2.1.length - h1.1.length) (h2.2 - h1.2)).frames + 1 ≤ R.frames ∧ 8 + (pm_maxL m' + 11) + (pm_rm d (h2.1.length - h1.1.length) (h2.2 - h1.2)).locals ≤ R.locals := ⟨by show d + 1 + 1 ≤ _; omega, by show 8 + (pm_maxL m' + 11) + 36 * (d + 1) ≤ _; omega⟩
      have hws : pm_ws m' = .code (pm_y m') (pm_code m') (pm_maxL m') none :: pm_words := by rw [← f10']; rfl
      have hps : PreS s H (pm_Pc D cI cR B b xs (.ref a :: bs) h1) (.ref (B + a) :: bs.map (pm_ren B b)) := ⟨pm_blind, hpre⟩
      rcases f5 with f5 | ⟨host, f5⟩
      · exact pm_back (va_runI (g := F0 mi pc ls ((bs.map (pm_ren B b)).reverse ++ .ref (B + a) :: st'.map (pm_ren B b))) (b := B + a) (As := bs.map (pm_ren B b)) (rest := st'.map (pm_ren B b)) hfix hM ⟨callB_of np hts hG hws rfl rfl (hts _ f2) (hts _ f5) f4 hR, f10, hts _ f10''⟩ hps rfl (by rw [List.length_map]; exact hlen) hsz rfl (by show 2 * 0 + _ ≤ 8; omega) hd hf) hS fun H2 locs2 z1 z2 => fin H2 locs2 z1 z2 rfl
      · exact pm_back (va_runIN (g := F0 mi pc ls ((bs.map (pm_ren B b)).reverse ++ .ref (B + a) :: st'.map (pm_ren B b))) (b := B + a) (As := bs.map (pm_ren B b)) (rest := st'.map (pm_ren B b)) hfix hM ⟨va_cnB np hts hG hws rfl rfl (hns _ f5) (hts _ f2) f4 hR, f10, hts _ f10''⟩ hps rfl (by rw [List.length_map]; exact hlen) hsz rfl (by show 2 * 0 + _ ≤ 8; omega) hd hf) hS fun H2 locs2 z1 z2 => fin H2 locs2 z1 z2 rfl
theorem pm_tl_len {i : Instr} {L L' st st' : List Value} (e : pm_tl i L st = some (L', st')) : L'.length = L.length := by
  unfold pm_tl at e
  split at e
  · obtain ⟨x, -, q⟩ := pm_sti_ok e; obtain ⟨-, -, rfl⟩ := pm_st1_ok q; simp
  · obtain ⟨x, -, q⟩ := pm_sti_ok e; obtain ⟨-, -, rfl⟩ := pm_st1_ok q; simp
  · obtain ⟨x, -, q⟩ := pm_stl_ok e; obtain ⟨-, -, rfl⟩ := pm_st2_ok q; simp
  · obtain ⟨x, -, q⟩ := pm_stl_ok e; obtain ⟨-, -, rfl⟩ := pm_st2_ok q; simp
  · obtain ⟨x, -, q, -⟩ := pm_sta_ok (B := 0) (b := 0) e; obtain ⟨-, -, rfl⟩ := pm_st1_ok q; simp
  · obtain ⟨x, -, q, -⟩ := pm_sta_ok (B := 0) (b := 0) e; obtain ⟨-, -, rfl⟩ := pm_st1_ok q; simp
  · split at e
    · split at e
      · rename_i q
        cases e
        obtain ⟨-, -, rfl⟩ := pm_st1_ok q
        simp
      · cases e
    · cases e
  · cases e
set_option maxHeartbeats 4000000 in
theorem pm_in : ∀ n, pm_In l B b D cI cR xs n := by
  intro n
  induction n with
  | zero => intro d m pc L st h1 h' v e; simp [pm_run] at e
  | succ n ih =>
    intro d m pc L st h1 h' v ev p e R s mi args below meth c H locs Q ls h0 hC hml hfr hlo hz0 hle hc1 hs1 hL hP hS hend
    have hC' := hC
    obtain ⟨hx, hb, hown, hin, hts, hns, hK, hX, hbB, hBs⟩ := hC'
    have hgr := pm_run_gr ev
    unfold pm_run at ev
    split at ev
    · cases ev
    · rename_i i nx tg hi
      obtain ⟨t1, t2, t3⟩ := pm_t1 hi
      subst t1
      split at ev
      · rename_i w ha
        cases ev
        exact hend i pc st ls H locs t2 ha hP hS
      · split at ev
        · rename_i cb st' hbr
          refine pm_br_ok (B := B) (b := b) hx hb t2 hbr t3 (fun z => ?_) (fun z => ?_)
          · subst z
            rw [if_pos rfl] at ev
            exact ih d m tg L st' h1 h' v ev p e R s mi args below meth c H locs Q ls h0 hC hml hfr hlo hz0 hle hc1 hs1 hL hP hS hend
          · subst z
            rw [if_neg (by simp)] at ev
            exact ih d m _ L st' h1 h' v ev p e R s mi args below meth c H locs Q ls h0 hC hml hfr hlo hz0 hle hc1 hs1 hL hP hS hend
        · split at ev
          · rename_i m' as st' hcall
            split at ev
            · cases ev
            · rename_i d'
              split at ev
              · cases ev
              · rename_i w h2 hrun
                have g2 := pm_run_gr ev
                refine pm_call_go (d := d') ih hC hml (by omega) (by omega) hz0 hle (Nat.le_trans g2.1 hc1) (Nat.le_trans g2.2 hs1) hL hP hS t2 hcall hrun fun H2 locs2 z1 z2 => ?_
                exact ih (d' + 1) m _ L (w.toList ++ st') h2 h' v ev p e R s mi args below meth c H2 locs2 Q ls h0 hC hml hfr hlo hz0 (hle.tr (pm_run_gr hrun)) hc1 hs1 hL z1 z2 hend
          · split at ev
            · cases ev
            · rename_i pc' L' st' h2 hstep
              have g2 := pm_run_gr ev
              unfold pm_step at hstep
              split at hstep
              · rename_i st1 hts1
                cases hstep
                exact pm_ts_ok hx hb t2 hL hts1 (ih d m _ _ _ _ h' v ev p e R s mi args below meth c H locs Q ls h0 hC hml hfr hlo hz0 hle hc1 hs1 hL hP hS hend)
              · split at hstep
                · rename_i L1 st1 htl1
                  cases hstep
                  refine pm_tl_ok hx hb t2 hL htl1 fun ls' hL' => ?_
                  exact ih d m _ _ _ _ h' v ev p e R s mi args below meth c H locs Q ls' h0 hC (hml.trans (pm_tl_len htl1).symm) hfr hlo hz0 hle hc1 hs1 hL' hP hS hend
                · split at hstep
                  · rename_i st1 h3 hhp
                    cases hstep
                    refine pm_hp_ok hC (hml.trans hL.1.symm) t2 (by omega) (by omega) hz0 hle (Nat.le_trans g2.1 hc1) (Nat.le_trans g2.2 hs1) hP hS hhp fun H1 locs1 z1 z2 => ?_
                    exact ih d m _ _ _ _ h' v ev p e R s mi args below meth c H1 locs1 Q ls h0 hC hml hfr hlo hz0 (hle.tr (pm_hp_gr hhp)) hc1 hs1 hL z1 z2 hend
                  · split at hstep
                    · rename_i off st1 hsw
                      split at hstep
                      · rename_i t ht
                        cases hstep
                        exact pm_sw_ok hx hb t2 hsw ht (ih d m _ _ _ _ h' v ev p e R s mi args below meth c H locs Q ls h0 hC hml hfr hlo hz0 hle hc1 hs1 hL hP hS hend)
                      · cases hstep
                    · cases hstep
end RUN
end
section
theorem pm_arr {s : State} {args : Array Value} {ty : FieldType} (h : (Cond.arrayClass ty).before args s = true) (hp : ∀ C, ty ≠ .object C) : ∃ c : ClassId, ArrOfT s c ty ∧ va_RA s c ty := by
  obtain ⟨c, k, comp, h1, h2, h3⟩ := Cond.arrayClass_spec h
  refine ⟨c, fun N z => ⟨(fun k h => by cases h), k, h2, comp, h3⟩, ?_⟩
  cases ty <;> first | exact h1 | exact absurd rfl (hp _)
theorem pm_arrO {s : State} {C : String} (h : va_AO C s) : ∃ c : ClassId, ArrOfT s c (.object C) ∧ va_RA s c (.object C) := by
  obtain ⟨comp, c, k, h1, -, h3, h4, h5⟩ := Cond.arrayOver_spec h
  exact ⟨c, fun N z => ⟨(fun k h => by cases h), k, h3, comp, h4⟩, k, comp, h3, h4, h1, h5⟩
theorem pm_nest_of {s : State} {args : Array Value} (hts : ∀ w ∈ lw_tbl, w.before args s = true) : ∀ w ∈ pm_nest, va_Nw w s := fun w hw => by
  have h1 := pm_f8 w hw
  have h2 := hts w (List.mem_filter.mp hw).1
  cases w with
  | fieldLinkNest a i b n d q => exact va_Nw.of rfl h2
  | methodLinkNest a i x q => exact va_Nw.of rfl h2
  | castable C T => exact va_Nw.of rfl h2
  | arrayOver ty => cases ty with
    | object C => exact h2
    | _ => simp [pm_isN] at h1
  | _ => simp [pm_isN] at h1
theorem pm_ins9 : ∀ c, c < 9 → pk_at (pt_ins c) (.instantiable (pm_cn c) (pm_N c)) = true := by decide +kernel
theorem pm_ao_nest : ∀ t ∈ pm_ra, pm_isN (.arrayOver (.object (pm_cn t))) = true ∧ Cond.arrayOver (.object (pm_cn t)) ∈ lw_tbl := by
  intro t ht
  obtain ⟨o, idx, h⟩ : ∃ o idx, pm_anew o idx = some t := pm_ra_anew t ht
  exact ⟨rfl, (List.mem_filter.mp (pm_f4 h).2.2).1⟩
theorem pm_known {s : State} {args : Array Value} (hts : ∀ w ∈ lw_tbl, w.before args s = true) : ∃ (D : va_G) (cI : Bool → ClassId) (cR : Nat → ClassId), va_K D vwCl (pm_tys cI cR) s := by
  have htw : ∀ w ∈ pm_words, w.before args s = true := fun w hw => hts w (List.mem_filter.mp hw).1
  have hn := pm_nest_of hts
  have h1 : ∀ c : Nat, ∃ q : ClassId × (Nat → Nat), c < 9 → u_Kn s (pm_cn c) (pm_T c) (pm_N c) q.1 q.2 := by
    intro c
    by_cases hc : c < 9
    · obtain ⟨cC, iS, h⟩ := u_known htw (pm_f2 (pm_cl hc)).1 (htw _ (pk_at_mem (pm_ins9 c hc)))
      exact ⟨(cC, iS), fun _ => h⟩
    · exact ⟨(0, fun _ => 0), fun h => absurd h hc⟩
  have h2 : ∀ t : Nat, ∃ q : ClassId, t ∈ pm_ra → ArrOfT s q (.object (pm_cn t)) ∧ va_RA s q (.object (pm_cn t)) := by
    intro t
    by_cases ht : t ∈ pm_ra
    · obtain ⟨q, h⟩ := pm_arrO (hn _ (List.mem_filter.mpr ⟨(pm_ao_nest t ht).2, (pm_ao_nest t ht).1⟩))
      exact ⟨q, fun _ => h⟩
    · exact ⟨0, fun h => absurd h ht⟩
  obtain ⟨D, hD⟩ := Classical.axiomOfChoice h1
  obtain ⟨cR, hR⟩ := Classical.axiomOfChoice h2
  obtain ⟨ci, hci⟩ := pm_arr (htw _ pm_f7) (fun C h => by cases h)
  obtain ⟨cz, hcz⟩ := pm_arr (htw _ pm_f7b) (fun C h => by cases h)
  refine ⟨(fun c => (D c).1, fun c => (D c).2), fun z => if z = true then cz else ci, cR, fun c q hq => ?_, fun k q hk => ?_⟩
  · have hc : c < 9 := (List.getElem?_eq_some_iff.mp hq).1
    rw [pm_cl hc] at hq
    cases hq
    exact hD c hc
  · match k with
    | 0 => cases hk; exact hci
    | 1 => cases hk; exact hcz
    | k + 2 =>
      have hk : (pm_ra.map (fun t => (cR t, FieldType.object (pm_cn t))))[k]? = some q := hk
      rw [List.getElem?_map] at hk
      obtain ⟨t, ht, rfl⟩ := Option.map_eq_some_iff.mp hk
      exact hR t (List.mem_of_getElem? ht)
set_option maxHeartbeats 4000000 in
theorem pm_law_start {p : Program} {e : Env} {s : State} {m : MethodId} {below : List Frame} {meth : Method} {c : Code} (l : Launch) {b L : Nat} {xs : Nat → Int32} (C0 : lw_At p s m meth c b L xs)
    (hrun : pm_X ((List.range L).map xs) 8 pt_law [.retAddr 1] ([], 0) (fun v h' => v = some (.int 1) ∧ h'.1.length ≤ room_1.cells ∧ h'.2 ≤ room_1.slots)) :
    W p l e room_1 s m #[Value.ref b] below meth c s.heap [] 0 0 (lw_Z below #[Value.ref b] s) (entryFrame m ([Value.ref b] : List Value).toArray (pm_maxL pt_law)) := by
  obtain ⟨hx, hb, hr, hml, hown, hts, hX, hbl, hlocks, -⟩ := C0
  obtain ⟨n, v, h', hrun, rfl, hc, hs⟩ := hrun
  obtain ⟨D, cI, cR, hK⟩ := pm_known hts
  have hlen : ((List.range L).map xs).length = L := by simp
  have hX' : va_X b ((List.range L).map xs).length (fun j => ((List.range L).map xs).getD j 0) s s.heap := by
    obtain ⟨scr, x1, x2, x3, x4, x5⟩ := hX
    refine ⟨scr, x1, x2, x3, by rw [hlen]; exact x4, fun j hj => ?_⟩
    rw [hlen] at hj
    rw [x5 j hj]
    simp [hj]
  have hg := pm_run_gr hrun
  rw [lg_entry_eq]
  have k := pm_in (l := l) (B := s.heap.size) (b := b) (D := D) (cI := cI) (cR := cR) n 8 pt_law 0 (pm_entry [.retAddr 1] (pm_maxL pt_law)) [] ([], 0) h' (some (.int 1)) hrun p e room_1 s m #[Value.ref b] below meth c s.heap [] (lw_Z below #[Value.ref b] s)
    ((lg_sl (([.retAddr 1] : List Value).map (pm_ren s.heap.size b)) ++ List.replicate (pm_maxL pt_law - (lg_sl (([.retAddr 1] : List Value).map (pm_ren s.heap.size b))).length) Slot.unset).toArray) ([], 0)
    ⟨hx, hb, hown, (fun z => by cases z), fun w hw => hts w (List.mem_filter.mp hw).1, pm_nest_of hts, hK, hX', hbl, Nat.le_refl _⟩ hml (by decide) (by decide) rfl pm_gr.rf (by simpa using hc) (by simpa using hs)
    (pm_L_entry (by decide)) (fun k q h => by simp [pm_emb] at h) va_S.rf (fun i pc' st' ls' H' locs' hd ha hP' hS' => ?_)
  · exact k
  · refine va_forget (fun q hq => hS'.2.2 q hq) (W.widen (k := room_1.cells) (n := room_1.slots) (by simpa using hc) (by simpa using hs) ?_)
    unfold pm_ans at ha
    split at ha
    · split at ha
      · split at ha
        · cases ha
          exact lw_ret hx hb hr hlocks hd
        · cases ha
      · cases ha
    · split at ha
      · split at ha <;> cases ha
      · cases ha
    · split at ha
      · split at ha <;> cases ha
      · split at ha <;> cases ha
      · cases ha
    · split at ha
      · split at ha <;> cases ha
      · cases ha
    · cases ha
end
section
def fr_b (c : Bool) : Int32 := if c = true then 1 else 0
theorem fr_bt {c : Bool} (h : c = true) : fr_b c = 1 := by rw [fr_b, if_pos h]
theorem fr_bf {c : Bool} (h : c = false) : fr_b c = 0 := by rw [fr_b, h]; rfl
def fr_ag (lo hi : Nat) (h h' : pm_H) : Prop := h'.2 = h.2 ∧ h'.1.length = h.1.length ∧ ∀ k, k < lo ∨ hi ≤ k → h'.1[k]? = h.1[k]?
theorem fr_ag.rf {lo hi : Nat} {h : pm_H} : fr_ag lo hi h h := ⟨rfl, rfl, fun _ _ => rfl⟩
theorem fr_ag.tr {lo hi : Nat} {h h1 h2 : pm_H} (a : fr_ag lo hi h h1) (b : fr_ag lo hi h1 h2) : fr_ag lo hi h h2 := ⟨b.1.trans a.1, b.2.1.trans a.2.1, fun k hk => (b.2.2 k hk).trans (a.2.2 k hk)⟩
theorem fr_ag.wide {lo hi lo' hi' : Nat} {h h1 : pm_H} (a : fr_ag lo hi h h1) (h1' : lo' ≤ lo) (h2' : hi ≤ hi') : fr_ag lo' hi' h h1 := ⟨a.1, a.2.1, fun k hk => a.2.2 k (by omega)⟩
theorem fr_ag.at {lo hi k : Nat} {h h1 : pm_H} {c : pm_C} (a : fr_ag lo hi h h1) (hk : k < lo ∨ hi ≤ k) (e : h.1[k]? = some c) : h1.1[k]? = some c := (a.2.2 k hk).trans e
theorem fr_agset {lo hi k : Nat} {h : pm_H} {c : pm_C} (h1 : lo ≤ k) (h2 : k < hi) : fr_ag lo hi h (h.1.set k c, h.2) := ⟨rfl, by simp, fun j hj => by
  show (h.1.set k c)[j]? = _
  rw [List.getElem?_set_ne (by omega)]⟩
theorem fr_set {k : Nat} {h : List pm_C} {c c0 : pm_C} (e : h[k]? = some c0) : (h.set k c)[k]? = some c := by
  have hl : k < h.length := (List.getElem?_eq_some_iff.mp e).1
  rw [List.getElem?_set_self hl]
theorem fr_ne {j k : Nat} {h : List pm_C} {c c0 : pm_C} (e : h[j]? = some c0) (hj : k ≠ j) : (h.set k c)[j]? = some c0 := by
  rw [List.getElem?_set_ne hj]; exact e
theorem fr_ble {a b : Nat} (h : Nat.ble a b = true) : a ≤ b := Nat.le_of_ble_eq_true h
theorem fr_nlt {x y : Int32} (h : ¬ x < y) : y ≤ x := Int32.not_lt.mp h
theorem fr_nle {x y : Int32} (h : ¬ x ≤ y) : y < x := Int32.not_le.mp h
theorem fr_lt {x y : Int32} : x < y ↔ x.toInt < y.toInt := Int32.lt_iff_toInt_lt
theorem fr_le {x y : Int32} : x ≤ y ↔ x.toInt ≤ y.toInt := Int32.le_iff_toInt_le
theorem fr_0 : (0 : Int32).toInt = 0 := rfl
theorem fr_eq {x y : Int32} : x = y ↔ x.toInt = y.toInt := Int32.toInt_inj.symm
theorem fr_lo (x : Int32) : -2147483648 ≤ x.toInt := x.le_toInt
theorem fr_hi (x : Int32) : x.toInt < 2147483648 := x.toInt_lt
theorem fr_nat {x : Int32} (h : 0 ≤ x) : ∃ j : Nat, j < 2 ^ 31 ∧ x = nI j := nI_of (fun q => by rw [fr_lt] at q; rw [fr_le] at h; omega)
theorem fr_inc (n : Nat) : nI n + Int32.ofInt 1 = nI (n + 1) := nI_1 n
def fr_shift {α : Type} (d : α) (l : List α) (p i : Nat) : List α := (List.range l.length).map fun j => if p ≤ j ∧ j < i then l.getD (j + 1) d else l.getD j d
theorem fr_shift_len {α : Type} {d : α} {l : List α} {p i : Nat} : (fr_shift d l p i).length = l.length := by simp [fr_shift]
theorem fr_shift_at {α : Type} {d : α} {l : List α} {p i j : Nat} (hj : j < l.length) : (fr_shift d l p i)[j]? = some (if p ≤ j ∧ j < i then l.getD (j + 1) d else l.getD j d) := by
  simp [fr_shift, hj]
theorem fr_shift_0 {α : Type} {d : α} {l : List α} {p : Nat} : fr_shift d l p p = l := by
  apply List.ext_getElem?
  intro j
  by_cases hj : j < l.length
  · rw [fr_shift_at hj, if_neg (by omega), List.getElem?_eq_getElem hj]
    simp [hj]
  · rw [List.getElem?_eq_none (by rw [fr_shift_len]; omega), List.getElem?_eq_none (by omega)]
theorem fr_shift_1 {α : Type} {d : α} {l : List α} {p i : Nat} (hp : p ≤ i) (hi : i + 1 < l.length) : (fr_shift d l p i).set i (l.getD (i + 1) d) = fr_shift d l p (i + 1) := by
  apply List.ext_getElem?
  intro j
  by_cases hj : j < l.length
  · rw [fr_shift_at hj]
    by_cases hji : i = j
    · subst hji
      rw [List.getElem?_set_self (by rw [fr_shift_len]; omega), if_pos (by omega)]
    · rw [List.getElem?_set_ne hji, fr_shift_at hj]
      by_cases hc : p ≤ j ∧ j < i
      · rw [if_pos hc, if_pos (by omega)]
      · rw [if_neg hc, if_neg (by omega)]
  · rw [List.getElem?_eq_none (by rw [List.length_set, fr_shift_len]; omega), List.getElem?_eq_none (by rw [fr_shift_len]; omega)]
theorem fr_shift_n {α : Type} {d : α} {l : List α} {p i : Nat} (hi : i + 1 < l.length) : (fr_shift d l p i).getD (i + 1) d = l.getD (i + 1) d := by
  rw [List.getD_eq_getElem?_getD, fr_shift_at hi, if_neg (by omega)]
  rfl
end
section
def bt_R (h : pm_H) (a room : Nat) (bs : List Int32) : Prop := ∃ ys : List Int32, h.1[a]? = some (.inr (.inr (kB, [.ref (a + 1), .int (nI bs.length)]))) ∧ h.1[a + 1]? = some (.inl (false, ys)) ∧ ys.length = room ∧ ys.take bs.length = bs ∧ bs.length ≤ room ∧ room ≤ 1000
def bt_at (bs : List Int32) (p : Int32) : Int32 := if 0 ≤ p ∧ p < nI bs.length then bs.getD p.toNatClampNeg 0 else 0
def bt_has (bs : List Int32) (p : Int32) : Bool := decide (0 ≤ p ∧ p < nI bs.length)
theorem bt_R.keep {h h' : pm_H} {a room : Nat} {bs : List Int32} (hb : bt_R h a room bs) (e : ∀ k, a ≤ k → k < a + 2 → h'.1[k]? = h.1[k]?) : bt_R h' a room bs := by
  obtain ⟨ys, h1, h2, h3⟩ := hb
  exact ⟨ys, (e a (by omega) (by omega)).trans h1, (e (a + 1) (by omega) (by omega)).trans h2, h3⟩
theorem bt_R.ag {h h' : pm_H} {a room lo hi : Nat} {bs : List Int32} (hb : bt_R h a room bs) (e : fr_ag lo hi h h') (hd : a + 2 ≤ lo ∨ hi ≤ a) : bt_R h' a room bs := hb.keep fun k _ _ => e.2.2 k (by omega)
section BYTES
variable {xs : List Int32} {h : pm_H} {a room : Nat} {bs : List Int32} {Q : Option Value → pm_H → Prop}
theorem ct_B_count (hb : bt_R h a room bs) (k : Q (some (.int (nI bs.length))) h) : pm_X xs 0 mB_count [.ref a] h Q := by
  obtain ⟨ys, h1, h2, h3, h4, h5, h6⟩ := hb
  unfold pm_X
  (repeat (first | refine pm_W.ts rfl rfl ?_ | refine pm_W.tl rfl rfl ?_ | refine pm_W.get rfl rfl h1 rfl ?_))
  exact pm_W.iret rfl rfl k
theorem ct_B_has (hb : bt_R h a room bs) {p : Int32} (k : Q (some (.int (fr_b (bt_has bs p)))) h) : pm_X xs 0 mB_has [.ref a, .int p] h Q := by
  obtain ⟨ys, h1, h2, h3, h4, h5, h6⟩ := hb
  unfold pm_X
  (repeat (first | refine pm_W.ts rfl rfl ?_ | refine pm_W.tl rfl rfl ?_ | refine pm_W.get rfl rfl h1 rfl ?_))
  refine pm_W.ifz rfl (fun c => ?_) (fun c => ?_)
  · have c : p < 0 := c
    (repeat (first | refine pm_W.ts rfl rfl ?_ | refine pm_W.tl rfl rfl ?_ | refine pm_W.get rfl rfl h1 rfl ?_))
    refine pm_W.iret rfl rfl ?_
    rw [fr_bf (show bt_has bs p = false from decide_eq_false (fun z => by have z := z.1; rw [fr_le] at z; rw [fr_lt] at c; omega))] at k
    exact k
  · have c : ¬ p < 0 := c
    (repeat (first | refine pm_W.ts rfl rfl ?_ | refine pm_W.tl rfl rfl ?_ | refine pm_W.get rfl rfl h1 rfl ?_))
    refine pm_W.icmp rfl (fun c2 => ?_) (fun c2 => ?_)
    · have c2 : nI bs.length ≤ p := c2
      (repeat (first | refine pm_W.ts rfl rfl ?_ | refine pm_W.tl rfl rfl ?_ | refine pm_W.get rfl rfl h1 rfl ?_))
      refine pm_W.iret rfl rfl ?_
      rw [fr_bf (show bt_has bs p = false from decide_eq_false (fun z => by have z := z.2; rw [fr_lt] at z; rw [fr_le] at c2; omega))] at k
      exact k
    · have c2 : ¬ nI bs.length ≤ p := c2
      (repeat (first | refine pm_W.ts rfl rfl ?_ | refine pm_W.tl rfl rfl ?_ | refine pm_W.get rfl rfl h1 rfl ?_))
      refine pm_W.goto rfl ?_
      refine pm_W.iret rfl rfl ?_
      rw [fr_bt (show bt_has bs p = true from decide_eq_true ⟨fr_nlt c, fr_nle c2⟩)] at k
      exact k
theorem bt_has_nat {p : Int32} (hp : bt_has bs p = true) (hl : bs.length ≤ 1000) : ∃ j : Nat, j < bs.length ∧ p = nI j := by
  have h1 := of_decide_eq_true hp
  obtain ⟨j, hj, rfl⟩ := fr_nat h1.1
  exact ⟨j, (nI_ltI hj (by omega)).mp h1.2, rfl⟩
theorem bt_at_nat {j : Nat} (hj : j < bs.length) (hl : bs.length ≤ 1000) : bt_at bs (nI j) = bs.getD j 0 := by
  unfold bt_at
  rw [if_pos ⟨nI_pos' (by omega), nI_lt hj (by omega)⟩, nI_clamp (by omega)]
theorem bt_at_not {p : Int32} (hp : bt_has bs p = false) : bt_at bs p = 0 := by
  unfold bt_at
  rw [if_neg (of_decide_eq_false hp)]
theorem bt_get {ys : List Int32} {j : Nat} (h4 : ys.take bs.length = bs) (hj : j < bs.length) : ys.getD j 0 = bs.getD j 0 := by
  have h1 : (ys.take bs.length)[j]? = bs[j]? := by rw [h4]
  rw [List.getElem?_take, if_pos hj] at h1
  rw [List.getD_eq_getElem?_getD, List.getD_eq_getElem?_getD, h1]
theorem ct_B_at (hb : bt_R h a room bs) {p : Int32} (k : Q (some (.int (bt_at bs p))) h) : pm_X xs 1 mB_at [.ref a, .int p] h Q := by
  have hb' := hb
  obtain ⟨ys, h1, h2, h3, h4, h5, h6⟩ := hb
  unfold pm_X
  (repeat (first | refine pm_W.ts rfl rfl ?_ | refine pm_W.tl rfl rfl ?_ | refine pm_W.get rfl rfl h1 rfl ?_))
  refine pm_W.callV rfl rfl rfl rfl (fr_ble rfl) h1 (fr_ble rfl) (ct_B_has hb' ?_)
  refine pm_W.ifz rfl (fun c => ?_) (fun c => ?_)
  · have c : fr_b (bt_has bs p) = 0 := c
    have c : bt_has bs p = false := by
      cases hq : bt_has bs p with
      | false => rfl
      | true => rw [hq] at c; exact absurd c (by decide)
    (repeat (first | refine pm_W.ts rfl rfl ?_ | refine pm_W.tl rfl rfl ?_ | refine pm_W.get rfl rfl h1 rfl ?_))
    refine pm_W.iret rfl rfl ?_
    rw [bt_at_not c] at k
    exact k
  · have c : ¬ fr_b (bt_has bs p) = 0 := c
    have c : bt_has bs p = true := by
      cases hq : bt_has bs p with
      | true => rfl
      | false => rw [hq] at c; exact absurd rfl c
    obtain ⟨j, hj, rfl⟩ := bt_has_nat c (by omega)
    (repeat (first | refine pm_W.ts rfl rfl ?_ | refine pm_W.tl rfl rfl ?_ | refine pm_W.get rfl rfl h1 rfl ?_))
    refine pm_W.iald rfl h2 (pm_ix_ok (j := j) (by omega) (by omega)) ?_
    refine pm_W.goto rfl ?_
    refine pm_W.iret rfl rfl ?_
    rw [bt_at_nat hj (by omega), ← bt_get h4 hj] at k
    exact k
theorem fr_b0 {c : Bool} (h : fr_b c = 0) : c = false := by
  cases c with
  | false => rfl
  | true => exact absurd h (by decide)
theorem fr_b1 {c : Bool} (h : ¬ fr_b c = 0) : c = true := by
  cases c with
  | true => rfl
  | false => exact absurd rfl h
theorem ct_B_change (hb : bt_R h a room bs) {p v : Int32} (k0 : bt_has bs p = false → Q (some (.int 0)) h) (k1 : ∀ (j : Nat) (h' : pm_H), j < bs.length → p = nI j → bt_R h' a room (bs.set j (v &&& 255)) → fr_ag a (a + 2) h h' → Q (some (.int 1)) h') : pm_X xs 1 mB_change [.ref a, .int p, .int v] h Q := by
  have hb' := hb
  obtain ⟨ys, h1, h2, h3, h4, h5, h6⟩ := hb
  unfold pm_X
  (repeat (first | refine pm_W.ts rfl rfl ?_ | refine pm_W.tl rfl rfl ?_ | refine pm_W.get rfl rfl h1 rfl ?_))
  refine pm_W.callV rfl rfl rfl rfl (fr_ble rfl) h1 (fr_ble rfl) (ct_B_has hb' ?_)
  refine pm_W.ifz rfl (fun c => ?_) (fun c => ?_)
  · have c : ¬ fr_b (bt_has bs p) = 0 := c
    obtain ⟨j, hj, rfl⟩ := bt_has_nat (fr_b1 c) (by omega)
    (repeat (first | refine pm_W.ts rfl rfl ?_ | refine pm_W.tl rfl rfl ?_ | refine pm_W.get rfl rfl h1 rfl ?_))
    refine pm_W.iast (x := v &&& 255) rfl h2 (pm_ix_ok (j := j) (by omega) (by omega)) ?_
    (repeat (first | refine pm_W.ts rfl rfl ?_ | refine pm_W.tl rfl rfl ?_))
    refine pm_W.iret rfl rfl (k1 j _ hj rfl ⟨ys.set j (v &&& 255), ?_, fr_set h2, by rw [List.length_set]; exact h3, ?_, by rw [List.length_set]; exact h5, h6⟩ (fr_agset (by omega) (by omega)))
    · rw [List.length_set]
      exact fr_ne h1 (by omega)
    · rw [List.length_set, List.take_set, h4]
  · have c : ¬ ¬ fr_b (bt_has bs p) = 0 := c
    (repeat (first | refine pm_W.ts rfl rfl ?_ | refine pm_W.tl rfl rfl ?_ | refine pm_W.get rfl rfl h1 rfl ?_))
    exact pm_W.iret rfl rfl (k0 (fr_b0 (Classical.not_not.mp c)))
theorem bt_take {ys : List Int32} {x : Int32} (h4 : ys.take bs.length = bs) (hl : bs.length < ys.length) : (ys.set bs.length x).take (bs ++ [x]).length = bs ++ [x] := by
  rw [List.length_append, List.length_singleton, List.take_add_one, List.getElem?_set_self hl, List.take_set, h4, List.set_eq_of_length_le (Nat.le_refl _)]
  rfl
theorem ct_B_add (hb : bt_R h a room bs) {v : Int32} (k0 : bs.length = room → Q (some (.int 0)) h) (k1 : bs.length < room → ∀ h' : pm_H, bt_R h' a room (bs ++ [v &&& 255]) → fr_ag a (a + 2) h h' → Q (some (.int 1)) h') : pm_X xs 0 mB_add [.ref a, .int v] h Q := by
  obtain ⟨ys, h1, h2, h3, h4, h5, h6⟩ := hb
  unfold pm_X
  (repeat (first | refine pm_W.ts rfl rfl ?_ | refine pm_W.tl rfl rfl ?_ | refine pm_W.get rfl rfl h1 rfl ?_))
  refine pm_W.alen rfl h2 ?_
  refine pm_W.icmp rfl (fun c => ?_) (fun c => ?_)
  · have c : nI bs.length < nI ys.length := c
    rw [nI_ltI (by omega) (by omega)] at c
    (repeat (first | refine pm_W.ts rfl rfl ?_ | refine pm_W.tl rfl rfl ?_ | refine pm_W.get rfl rfl h1 rfl ?_))
    refine pm_W.iast (x := v &&& 255) rfl h2 (pm_ix_ok (j := bs.length) (by omega) (by omega)) ?_
    have h1' := fr_ne (c := .inl (false, ys.set bs.length (v &&& 255))) h1 (show a + 1 ≠ a by omega)
    (repeat (first | refine pm_W.ts rfl rfl ?_ | refine pm_W.tl rfl rfl ?_ | refine pm_W.get rfl rfl h1' rfl ?_))
    refine pm_W.put (v := .int (nI bs.length + 1)) rfl rfl h1' (fr_ble rfl) rfl (Or.inl rfl) ?_
    (repeat (first | refine pm_W.ts rfl rfl ?_ | refine pm_W.tl rfl rfl ?_))
    refine pm_W.iret rfl rfl (k1 (by omega) _ ⟨ys.set bs.length (v &&& 255), ?_, ?_, by rw [List.length_set]; exact h3, bt_take h4 c, by simp; omega, h6⟩ ((fr_agset (by omega) (by omega)).tr (fr_agset (by omega) (by omega))))
    · refine (fr_set h1').trans ?_
      rw [List.length_append, List.length_singleton, ← nI_1]
      rfl
    · exact fr_ne (fr_set h2) (by omega)
  · have c : ¬ nI bs.length < nI ys.length := c
    rw [nI_ltI (by omega) (by omega)] at c
    (repeat (first | refine pm_W.ts rfl rfl ?_ | refine pm_W.tl rfl rfl ?_ | refine pm_W.get rfl rfl h1 rfl ?_))
    exact pm_W.iret rfl rfl (k0 (by omega))
theorem ct_B_clear (hb : bt_R h a room bs) (k : ∀ h' : pm_H, bt_R h' a room [] → fr_ag a (a + 2) h h' → Q none h') : pm_X xs 0 mB_clear [.ref a] h Q := by
  obtain ⟨ys, h1, h2, h3, h4, h5, h6⟩ := hb
  unfold pm_X
  (repeat (first | refine pm_W.ts rfl rfl ?_ | refine pm_W.tl rfl rfl ?_))
  refine pm_W.put (v := .int (nI 0)) rfl rfl h1 (fr_ble rfl) rfl (Or.inl rfl) ?_
  exact pm_W.ret rfl rfl (k _ ⟨ys, fr_set h1, fr_ne h2 (by omega), h3, rfl, Nat.zero_le _, h6⟩ (fr_agset (by omega) (by omega)))
theorem ct_B_keepFirst (hb : bt_R h a room bs) {p : Int32} (k0 : ¬ (0 ≤ p ∧ p ≤ nI bs.length) → Q (some (.int 0)) h) (k1 : ∀ (j : Nat) (h' : pm_H), j ≤ bs.length → p = nI j → bt_R h' a room (bs.take j) → fr_ag a (a + 2) h h' → Q (some (.int 1)) h') : pm_X xs 0 mB_keepFirst [.ref a, .int p] h Q := by
  obtain ⟨ys, h1, h2, h3, h4, h5, h6⟩ := hb
  unfold pm_X
  (repeat (first | refine pm_W.ts rfl rfl ?_ | refine pm_W.tl rfl rfl ?_ | refine pm_W.get rfl rfl h1 rfl ?_))
  refine pm_W.ifz rfl (fun c => ?_) (fun c => ?_)
  · have c : p < 0 := c
    (repeat (first | refine pm_W.ts rfl rfl ?_ | refine pm_W.tl rfl rfl ?_ | refine pm_W.get rfl rfl h1 rfl ?_))
    exact pm_W.iret rfl rfl (k0 (fun z => by have z := z.1; rw [fr_le] at z; rw [fr_lt] at c; omega))
  · have c : ¬ p < 0 := c
    (repeat (first | refine pm_W.ts rfl rfl ?_ | refine pm_W.tl rfl rfl ?_ | refine pm_W.get rfl rfl h1 rfl ?_))
    refine pm_W.icmp rfl (fun c2 => ?_) (fun c2 => ?_)
    · have c2 : p ≤ nI bs.length := c2
      obtain ⟨j, hj, rfl⟩ := fr_nat (fr_nlt c)
      have c3 := (nI_leI hj (by omega)).mp c2
      (repeat (first | refine pm_W.ts rfl rfl ?_ | refine pm_W.tl rfl rfl ?_))
      refine pm_W.put (v := .int (nI j)) rfl rfl h1 (fr_ble rfl) rfl (Or.inl rfl) ?_
      (repeat (first | refine pm_W.ts rfl rfl ?_ | refine pm_W.tl rfl rfl ?_))
      refine pm_W.iret rfl rfl (k1 j _ c3 rfl ⟨ys, ?_, fr_ne h2 (by omega), h3, ?_, ?_, h6⟩ (fr_agset (by omega) (by omega)))
      · rw [List.length_take, Nat.min_eq_left c3]
        exact fr_set h1
      · have e1 : bs.take j = (ys.take bs.length).take j := by rw [h4]
        rw [List.length_take, Nat.min_eq_left c3, e1, List.take_take, Nat.min_eq_left c3]
      · rw [List.length_take]; omega
    · have c2 : ¬ p ≤ nI bs.length := c2
      (repeat (first | refine pm_W.ts rfl rfl ?_ | refine pm_W.tl rfl rfl ?_ | refine pm_W.get rfl rfl h1 rfl ?_))
      exact pm_W.iret rfl rfl (k0 (fun z => c2 z.2))
def bt_from (os : List Int32) (s : Int32) (n : Nat) : List Int32 := (List.range n).map fun i => bt_at os (s + nI i) &&& 255
theorem bt_from_succ {os : List Int32} {s : Int32} {n : Nat} : bt_from os s (n + 1) = bt_from os s n ++ [bt_at os (s + nI n) &&& 255] := by
  simp [bt_from, List.range_succ]
theorem bt_from_len {os : List Int32} {s : Int32} {n : Nat} : (bt_from os s n).length = n := by
  simp [bt_from]
theorem ct_B_addFrom {o ro : Nat} {os : List Int32} {s : Int32} {n : Nat} (hb : bt_R h a room bs) (ho : bt_R h o ro os) (hd : a + 2 ≤ o ∨ o + 2 ≤ a) (hn : bs.length + n ≤ room) (k : ∀ h' : pm_H, bt_R h' a room (bs ++ bt_from os s n) → fr_ag a (a + 2) h h' → Q none h') : pm_X xs 2 mB_addFrom [.ref a, .ref o, .int s, .int (nI n)] h Q := by
  have hroom : room ≤ 1000 := by obtain ⟨ys, h1, h2, h3, h4, h5, h6⟩ := hb; exact h6
  have loop : ∀ (r i : Nat) (h1 : pm_H), i + r = n → bt_R h1 a room (bs ++ bt_from os s i) → fr_ag a (a + 2) h h1 → pm_W xs 2 mB_addFrom 3 [.ref a, .ref o, .int s, .int (nI n), .int (nI i)] [] h1 Q := by
    intro r
    induction r with
    | zero =>
      intro i h1 hi hb1 hag
      (repeat (first | refine pm_W.ts rfl rfl ?_ | refine pm_W.tl rfl rfl ?_))
      refine pm_W.icmp rfl (fun c => ?_) (fun c => ?_)
      · have hi : i = n := by omega
        subst hi
        exact pm_W.ret rfl rfl (k h1 hb1 hag)
      · have c : ¬ nI n ≤ nI i := c
        rw [nI_leI (by omega) (by omega)] at c
        omega
    | succ r ih =>
      intro i h1 hi hb1 hag
      (repeat (first | refine pm_W.ts rfl rfl ?_ | refine pm_W.tl rfl rfl ?_))
      refine pm_W.icmp rfl (fun c => ?_) (fun c => ?_)
      · have c : nI n ≤ nI i := c
        rw [nI_leI (by omega) (by omega)] at c
        omega
      · (repeat (first | refine pm_W.ts rfl rfl ?_ | refine pm_W.tl rfl rfl ?_))
        have ho1 := ho.ag hag (by omega)
        obtain ⟨zs, o1, -⟩ := id ho1
        refine pm_W.callV rfl rfl rfl rfl (fr_ble rfl) o1 (fr_ble rfl) (ct_B_at ho1 ?_)
        obtain ⟨ws, b1, -⟩ := id hb1
        refine pm_W.callV (d' := 0) rfl rfl rfl rfl (fr_ble rfl) b1 (fr_ble rfl) (ct_B_add hb1 (fun z => ?_) (fun _ h2 hb2 hag2 => ?_))
        · rw [List.length_append, bt_from_len] at z
          omega
        · (repeat (first | refine pm_W.ts rfl rfl ?_ | refine pm_W.tl rfl rfl ?_))
          refine pm_W.goto rfl ?_
          rw [List.append_assoc, ← bt_from_succ] at hb2
          have := ih (i + 1) h2 (by omega) hb2 (hag.tr hag2)
          rw [← fr_inc] at this
          exact this
  unfold pm_X
  (iterate 2 (first | refine pm_W.ts rfl rfl ?_ | refine pm_W.tl rfl rfl ?_))
  exact loop n 0 h (by omega) (by simpa [bt_from] using hb) fr_ag.rf
theorem bt_at_app {cs : List Int32} {j : Nat} (hj : j < bs.length) (hl : (bs ++ cs).length ≤ 1000) : bt_at (bs ++ cs) (nI j) = bt_at bs (nI j) := by
  rw [List.length_append] at hl
  rw [bt_at_nat (by rw [List.length_append]; omega) (by rw [List.length_append]; omega), bt_at_nat hj (by omega), List.getD_eq_getElem?_getD, List.getD_eq_getElem?_getD, List.getElem?_append_left hj]
theorem ct_B_addSelf {s n : Nat} (hb : bt_R h a room bs) (hs : s + n ≤ bs.length) (hn : bs.length + n ≤ room) (k : ∀ h' : pm_H, bt_R h' a room (bs ++ bt_from bs (nI s) n) → fr_ag a (a + 2) h h' → Q none h') : pm_X xs 2 mB_addFrom [.ref a, .ref a, .int (nI s), .int (nI n)] h Q := by
  have hroom : room ≤ 1000 := by obtain ⟨ys, h1, h2, h3, h4, h5, h6⟩ := hb; exact h6
  have loop : ∀ (r i : Nat) (h1 : pm_H), i + r = n → bt_R h1 a room (bs ++ bt_from bs (nI s) i) → fr_ag a (a + 2) h h1 → pm_W xs 2 mB_addFrom 3 [.ref a, .ref a, .int (nI s), .int (nI n), .int (nI i)] [] h1 Q := by
    intro r
    induction r with
    | zero =>
      intro i h1 hi hb1 hag
      (repeat (first | refine pm_W.ts rfl rfl ?_ | refine pm_W.tl rfl rfl ?_))
      refine pm_W.icmp rfl (fun c => ?_) (fun c => ?_)
      · have hi : i = n := by omega
        subst hi
        exact pm_W.ret rfl rfl (k h1 hb1 hag)
      · have c : ¬ nI n ≤ nI i := c
        rw [nI_leI (by omega) (by omega)] at c
        omega
    | succ r ih =>
      intro i h1 hi hb1 hag
      (repeat (first | refine pm_W.ts rfl rfl ?_ | refine pm_W.tl rfl rfl ?_))
      refine pm_W.icmp rfl (fun c => ?_) (fun c => ?_)
      · have c : nI n ≤ nI i := c
        rw [nI_leI (by omega) (by omega)] at c
        omega
      · (repeat (first | refine pm_W.ts rfl rfl ?_ | refine pm_W.tl rfl rfl ?_))
        obtain ⟨ws, b1, -⟩ := id hb1
        refine pm_W.callV rfl rfl rfl rfl (fr_ble rfl) b1 (fr_ble rfl) (ct_B_at hb1 ?_)
        refine pm_W.callV (d' := 0) rfl rfl rfl rfl (fr_ble rfl) b1 (fr_ble rfl) (ct_B_add hb1 (fun z => ?_) (fun _ h2 hb2 hag2 => ?_))
        · rw [List.length_append, bt_from_len] at z
          omega
        · (repeat (first | refine pm_W.ts rfl rfl ?_ | refine pm_W.tl rfl rfl ?_))
          refine pm_W.goto rfl ?_
          rw [nI_add, bt_at_app (by omega) (by rw [List.length_append, bt_from_len]; omega), ← nI_add, List.append_assoc, ← bt_from_succ] at hb2
          have := ih (i + 1) h2 (by omega) hb2 (hag.tr hag2)
          rw [← fr_inc] at this
          exact this
  unfold pm_X
  (iterate 2 (first | refine pm_W.ts rfl rfl ?_ | refine pm_W.tl rfl rfl ?_))
  exact loop n 0 h (by omega) (by simpa [bt_from] using hb) fr_ag.rf
def bt_fold (os : List Int32) (s : Int32) : Nat → Int32
  | 0 => 17
  | n + 1 => (bt_fold os s n ^^^ bt_at os (s + nI n)) * 16777619
def bt_mix (x : Int32) : Int32 := x ^^^ pm_ushr x 16
def bt_id (os : List Int32) (s : Int32) (n : Nat) : Int32 := bt_mix (bt_fold os s n)
theorem ct_B_idOf {s : Int32} {n : Nat} (hb : bt_R h a room bs) (hn : n ≤ 1000) (k : Q (some (.int (bt_id bs s n))) h) : pm_X xs 2 mB_idOf [.ref a, .int s, .int (nI n)] h Q := by
  obtain ⟨ys, b1, -⟩ := id hb
  have loop : ∀ (r i : Nat), i + r = n → pm_W xs 2 mB_idOf 6 [.ref a, .int s, .int (nI n), .int (bt_fold bs s i), .int (nI i)] [] h Q := by
    intro r
    induction r with
    | zero =>
      intro i hi
      (repeat (first | refine pm_W.ts rfl rfl ?_ | refine pm_W.tl rfl rfl ?_))
      refine pm_W.icmp rfl (fun c => ?_) (fun c => ?_)
      · have hi : i = n := by omega
        subst hi
        (repeat (first | refine pm_W.ts rfl rfl ?_ | refine pm_W.tl rfl rfl ?_))
        exact pm_W.iret rfl rfl k
      · have c : ¬ nI n ≤ nI i := c
        rw [nI_leI (by omega) (by omega)] at c
        omega
    | succ r ih =>
      intro i hi
      (repeat (first | refine pm_W.ts rfl rfl ?_ | refine pm_W.tl rfl rfl ?_))
      refine pm_W.icmp rfl (fun c => ?_) (fun c => ?_)
      · have c : nI n ≤ nI i := c
        rw [nI_leI (by omega) (by omega)] at c
        omega
      · (repeat (first | refine pm_W.ts rfl rfl ?_ | refine pm_W.tl rfl rfl ?_))
        refine pm_W.callV rfl rfl rfl rfl (fr_ble rfl) b1 (fr_ble rfl) (ct_B_at hb ?_)
        (repeat (first | refine pm_W.ts rfl rfl ?_ | refine pm_W.tl rfl rfl ?_))
        refine pm_W.ldc rfl rfl ?_
        (repeat (first | refine pm_W.ts rfl rfl ?_ | refine pm_W.tl rfl rfl ?_))
        refine pm_W.goto rfl ?_
        have := ih (i + 1) (by omega)
        rw [← fr_inc] at this
        exact this
  unfold pm_X
  (iterate 4 (first | refine pm_W.ts rfl rfl ?_ | refine pm_W.tl rfl rfl ?_))
  exact loop n 0 (by omega)
end BYTES
end
section
def pl_R (h : pm_H) (a : Nat) (ps : List (Nat × Int32)) : Prop := ∃ es is : List Int32, h.1[a]? = some (.inr (.inr (kP, [.ref (a + 1), .ref (a + 2), .int (nI ps.length)]))) ∧ h.1[a + 1]? = some (.inl (false, es)) ∧ h.1[a + 2]? = some (.inl (false, is)) ∧
  es.length = 15 ∧ is.length = 15 ∧ es.take ps.length = ps.map (fun q => nI q.1) ∧ is.take ps.length = ps.map (fun q => q.2) ∧ ps.length ≤ 15
def pl_e (ps : List (Nat × Int32)) (j : Nat) : Nat := (ps.getD j (0, 0)).1
def pl_i (ps : List (Nat × Int32)) (j : Nat) : Int32 := (ps.getD j (0, 0)).2
def pl_s (ps : List (Nat × Int32)) (j : Nat) : Nat := match j with
  | 0 => 0
  | j + 1 => pl_e ps j
def pl_has (ps : List (Nat × Int32)) (p : Int32) : Bool := decide (0 ≤ p ∧ p < nI ps.length)
theorem pl_R.keep {h h' : pm_H} {a : Nat} {ps : List (Nat × Int32)} (hb : pl_R h a ps) (e : ∀ k, a ≤ k → k < a + 3 → h'.1[k]? = h.1[k]?) : pl_R h' a ps := by
  obtain ⟨es, is, h1, h2, h3, h4⟩ := hb
  exact ⟨es, is, (e a (by omega) (by omega)).trans h1, (e (a + 1) (by omega) (by omega)).trans h2, (e (a + 2) (by omega) (by omega)).trans h3, h4⟩
theorem pl_R.ag {h h' : pm_H} {a lo hi : Nat} {ps : List (Nat × Int32)} (hb : pl_R h a ps) (e : fr_ag lo hi h h') (hd : a + 3 ≤ lo ∨ hi ≤ a) : pl_R h' a ps := hb.keep fun k _ _ => e.2.2 k (by omega)
section PLIST
variable {xs : List Int32} {h : pm_H} {a : Nat} {ps : List (Nat × Int32)} {Q : Option Value → pm_H → Prop}
theorem pl_has_nat {p : Int32} (hp : pl_has ps p = true) (hl : ps.length ≤ 15) : ∃ j : Nat, j < ps.length ∧ p = nI j := by
  have h1 := of_decide_eq_true hp
  obtain ⟨j, hj, rfl⟩ := fr_nat h1.1
  exact ⟨j, (nI_ltI hj (by omega)).mp h1.2, rfl⟩
theorem pl_getE {es : List Int32} {j : Nat} (h4 : es.take ps.length = ps.map (fun q => nI q.1)) (hj : j < ps.length) : es.getD j 0 = nI (pl_e ps j) := by
  have h1 : (es.take ps.length)[j]? = some (nI (pl_e ps j)) := by
    rw [h4, List.getElem?_map, List.getElem?_eq_getElem hj]
    simp [pl_e, hj]
  rw [List.getElem?_take, if_pos hj] at h1
  rw [List.getD_eq_getElem?_getD, h1]
  rfl
theorem pl_getI {is : List Int32} {j : Nat} (h4 : is.take ps.length = ps.map (fun q => q.2)) (hj : j < ps.length) : is.getD j 0 = pl_i ps j := by
  have h1 : (is.take ps.length)[j]? = some (pl_i ps j) := by
    rw [h4, List.getElem?_map, List.getElem?_eq_getElem hj]
    simp [pl_i, hj]
  rw [List.getElem?_take, if_pos hj] at h1
  rw [List.getD_eq_getElem?_getD, h1]
  rfl
theorem ct_P_count (hb : pl_R h a ps) (k : Q (some (.int (nI ps.length))) h) : pm_X xs 0 mP_count [.ref a] h Q := by
  obtain ⟨es, is, h1, h2, h3, h4, h5, h6, h7, h8⟩ := hb
  unfold pm_X
  (repeat (first | refine pm_W.ts rfl rfl ?_ | refine pm_W.tl rfl rfl ?_ | refine pm_W.get rfl rfl h1 rfl ?_))
  exact pm_W.iret rfl rfl k
theorem ct_P_has (hb : pl_R h a ps) {p : Int32} (k : Q (some (.int (fr_b (pl_has ps p)))) h) : pm_X xs 0 mP_has [.ref a, .int p] h Q := by
  obtain ⟨es, is, h1, h2, h3, h4, h5, h6, h7, h8⟩ := hb
  unfold pm_X
  (repeat (first | refine pm_W.ts rfl rfl ?_ | refine pm_W.tl rfl rfl ?_ | refine pm_W.get rfl rfl h1 rfl ?_))
  refine pm_W.ifz rfl (fun c => ?_) (fun c => ?_)
  · have c : p < 0 := c
    (repeat (first | refine pm_W.ts rfl rfl ?_ | refine pm_W.tl rfl rfl ?_ | refine pm_W.get rfl rfl h1 rfl ?_))
    refine pm_W.iret rfl rfl ?_
    rw [fr_bf (show pl_has ps p = false from decide_eq_false (fun z => by have z := z.1; rw [fr_le] at z; rw [fr_lt] at c; omega))] at k
    exact k
  · have c : ¬ p < 0 := c
    (repeat (first | refine pm_W.ts rfl rfl ?_ | refine pm_W.tl rfl rfl ?_ | refine pm_W.get rfl rfl h1 rfl ?_))
    refine pm_W.icmp rfl (fun c2 => ?_) (fun c2 => ?_)
    · have c2 : nI ps.length ≤ p := c2
      (repeat (first | refine pm_W.ts rfl rfl ?_ | refine pm_W.tl rfl rfl ?_ | refine pm_W.get rfl rfl h1 rfl ?_))
      refine pm_W.iret rfl rfl ?_
      rw [fr_bf (show pl_has ps p = false from decide_eq_false (fun z => by have z := z.2; rw [fr_lt] at z; rw [fr_le] at c2; omega))] at k
      exact k
    · have c2 : ¬ nI ps.length ≤ p := c2
      (repeat (first | refine pm_W.ts rfl rfl ?_ | refine pm_W.tl rfl rfl ?_ | refine pm_W.get rfl rfl h1 rfl ?_))
      refine pm_W.goto rfl ?_
      refine pm_W.iret rfl rfl ?_
      rw [fr_bt (show pl_has ps p = true from decide_eq_true ⟨fr_nlt c, fr_nle c2⟩)] at k
      exact k
theorem pl_e_out {j : Nat} (hj : ps.length ≤ j) : pl_e ps j = 0 := by
  unfold pl_e
  rw [List.getD_eq_getElem?_getD, List.getElem?_eq_none hj]
  rfl
theorem ct_P_endOf (hb : pl_R h a ps) {j : Nat} (hj : j < 2 ^ 31) (k : Q (some (.int (nI (pl_e ps j)))) h) : pm_X xs 0 mP_endOf [.ref a, .int (nI j)] h Q := by
  obtain ⟨es, is, h1, h2, h3, h4, h5, h6, h7, h8⟩ := hb
  unfold pm_X
  (repeat (first | refine pm_W.ts rfl rfl ?_ | refine pm_W.tl rfl rfl ?_ | refine pm_W.get rfl rfl h1 rfl ?_))
  refine pm_W.ifz rfl (fun c => ?_) (fun c => ?_)
  · exact absurd c (nI_pos hj)
  · (repeat (first | refine pm_W.ts rfl rfl ?_ | refine pm_W.tl rfl rfl ?_ | refine pm_W.get rfl rfl h1 rfl ?_))
    refine pm_W.icmp rfl (fun c2 => ?_) (fun c2 => ?_)
    · have c2 : nI ps.length ≤ nI j := c2
      rw [nI_leI (by omega) hj] at c2
      (repeat (first | refine pm_W.ts rfl rfl ?_ | refine pm_W.tl rfl rfl ?_ | refine pm_W.get rfl rfl h1 rfl ?_))
      refine pm_W.iret rfl rfl ?_
      rw [pl_e_out c2] at k
      exact k
    · have c2 : ¬ nI ps.length ≤ nI j := c2
      rw [nI_leI (by omega) hj] at c2
      (repeat (first | refine pm_W.ts rfl rfl ?_ | refine pm_W.tl rfl rfl ?_ | refine pm_W.get rfl rfl h1 rfl ?_))
      refine pm_W.iald rfl h2 (pm_ix_ok (j := j) (by omega) (by omega)) ?_
      refine pm_W.goto rfl ?_
      refine pm_W.iret rfl rfl ?_
      rw [pl_getE h6 (by omega)]
      exact k
theorem ct_P_endOfN (hb : pl_R h a ps) (k : Q (some (.int 0)) h) : pm_X xs 0 mP_endOf [.ref a, .int (-1)] h Q := by
  obtain ⟨es, is, h1, h2, h3, h4, h5, h6, h7, h8⟩ := hb
  unfold pm_X
  (repeat (first | refine pm_W.ts rfl rfl ?_ | refine pm_W.tl rfl rfl ?_ | refine pm_W.get rfl rfl h1 rfl ?_))
  refine pm_W.ifz rfl (fun c => ?_) (fun c => ?_)
  · (repeat (first | refine pm_W.ts rfl rfl ?_ | refine pm_W.tl rfl rfl ?_ | refine pm_W.get rfl rfl h1 rfl ?_))
    exact pm_W.iret rfl rfl k
  · exact absurd (show (-1 : Int32) < 0 by decide) c
theorem ct_P_startOf (hb : pl_R h a ps) {j : Nat} (hj : j < 2 ^ 31) (k : Q (some (.int (nI (pl_s ps j)))) h) : pm_X xs 1 mP_startOf [.ref a, .int (nI j)] h Q := by
  obtain ⟨es, is, h1, -⟩ := id hb
  unfold pm_X
  (repeat (first | refine pm_W.ts rfl rfl ?_ | refine pm_W.tl rfl rfl ?_))
  cases j with
  | zero =>
    refine pm_W.callV (as := [.int (-1)]) rfl rfl rfl rfl (fr_ble rfl) h1 (fr_ble rfl) (ct_P_endOfN hb ?_)
    exact pm_W.iret rfl rfl k
  | succ j =>
    have e : nI (j + 1) - Int32.ofInt 1 = nI j := nI_pred j
    rw [e]
    refine pm_W.callV rfl rfl rfl rfl (fr_ble rfl) h1 (fr_ble rfl) (ct_P_endOf hb (by omega) ?_)
    exact pm_W.iret rfl rfl k
theorem ct_P_lengthOf (hb : pl_R h a ps) {j : Nat} (hj : j < 2 ^ 31) (k : Q (some (.int (nI (pl_e ps j) - nI (pl_s ps j)))) h) : pm_X xs 2 mP_lengthOf [.ref a, .int (nI j)] h Q := by
  obtain ⟨es, is, h1, -⟩ := id hb
  unfold pm_X
  (repeat (first | refine pm_W.ts rfl rfl ?_ | refine pm_W.tl rfl rfl ?_))
  refine pm_W.callV (d' := 0) rfl rfl rfl rfl (fr_ble rfl) h1 (fr_ble rfl) (ct_P_endOf hb hj ?_)
  (repeat (first | refine pm_W.ts rfl rfl ?_ | refine pm_W.tl rfl rfl ?_))
  refine pm_W.callV rfl rfl rfl rfl (fr_ble rfl) h1 (fr_ble rfl) (ct_P_startOf hb hj ?_)
  (repeat (first | refine pm_W.ts rfl rfl ?_ | refine pm_W.tl rfl rfl ?_))
  exact pm_W.iret rfl rfl k
theorem ct_P_idOf (hb : pl_R h a ps) {j : Nat} (hj : j < ps.length) (k : Q (some (.int (pl_i ps j))) h) : pm_X xs 1 mP_idOf [.ref a, .int (nI j)] h Q := by
  have hb' := hb
  obtain ⟨es, is, h1, h2, h3, h4, h5, h6, h7, h8⟩ := hb
  unfold pm_X
  (repeat (first | refine pm_W.ts rfl rfl ?_ | refine pm_W.tl rfl rfl ?_))
  refine pm_W.callV rfl rfl rfl rfl (fr_ble rfl) h1 (fr_ble rfl) (ct_P_has hb' ?_)
  refine pm_W.ifz rfl (fun c => ?_) (fun c => ?_)
  · have c := fr_b0 c
    exact absurd (show pl_has ps (nI j) = true from decide_eq_true ⟨nI_pos' (by omega), nI_lt hj (by omega)⟩) (by rw [c]; decide)
  · (repeat (first | refine pm_W.ts rfl rfl ?_ | refine pm_W.tl rfl rfl ?_ | refine pm_W.get rfl rfl h1 rfl ?_))
    refine pm_W.iald rfl h3 (pm_ix_ok (j := j) (by omega) (by omega)) ?_
    refine pm_W.goto rfl ?_
    refine pm_W.iret rfl rfl ?_
    rw [pl_getI h7 hj]
    exact k
theorem ct_P_clear (hb : pl_R h a ps) (k : ∀ h' : pm_H, pl_R h' a [] → fr_ag a (a + 3) h h' → Q none h') : pm_X xs 0 mP_clear [.ref a] h Q := by
  obtain ⟨es, is, h1, h2, h3, h4, h5, h6, h7, h8⟩ := hb
  unfold pm_X
  (repeat (first | refine pm_W.ts rfl rfl ?_ | refine pm_W.tl rfl rfl ?_))
  refine pm_W.put (v := .int (nI 0)) rfl rfl h1 (fr_ble rfl) rfl (Or.inl rfl) ?_
  exact pm_W.ret rfl rfl (k _ ⟨es, is, fr_set h1, fr_ne h2 (by omega), fr_ne h3 (by omega), h4, h5, rfl, rfl, Nat.zero_le _⟩ (fr_agset (by omega) (by omega)))
theorem fr_take {α : Type} {ys bs : List α} {x : α} {n : Nat} (hn : bs.length = n) (h4 : ys.take n = bs) (hl : n < ys.length) : (ys.set n x).take (n + 1) = bs ++ [x] := by
  rw [List.take_add_one, List.getElem?_set_self hl, List.take_set, h4, List.set_eq_of_length_le (by omega)]
  rfl
theorem ct_P_add (hb : pl_R h a ps) {e : Nat} {i : Int32} (hl : ps.length < 15) (k : ∀ h' : pm_H, pl_R h' a (ps ++ [(e, i)]) → fr_ag a (a + 3) h h' → Q none h') : pm_X xs 0 mP_add [.ref a, .int (nI e), .int i] h Q := by
  obtain ⟨es, is, h1, h2, h3, h4, h5, h6, h7, h8⟩ := hb
  unfold pm_X
  (repeat (first | refine pm_W.ts rfl rfl ?_ | refine pm_W.tl rfl rfl ?_ | refine pm_W.get rfl rfl h1 rfl ?_))
  refine pm_W.icmp rfl (fun c => ?_) (fun c => ?_)
  · have c : nI 15 ≤ nI ps.length := c
    rw [nI_leI (by omega) (by omega)] at c
    omega
  · (repeat (first | refine pm_W.ts rfl rfl ?_ | refine pm_W.tl rfl rfl ?_ | refine pm_W.get rfl rfl h1 rfl ?_))
    refine pm_W.iast rfl h2 (pm_ix_ok (j := ps.length) (by omega) (by omega)) ?_
    have h1a := fr_ne (c := .inl (false, es.set ps.length (nI e))) h1 (show a + 1 ≠ a by omega)
    have h3a := fr_ne (c := .inl (false, es.set ps.length (nI e))) h3 (show a + 1 ≠ a + 2 by omega)
    have h2a := fr_set (c := .inl (false, es.set ps.length (nI e))) h2
    (repeat (first | refine pm_W.ts rfl rfl ?_ | refine pm_W.tl rfl rfl ?_ | refine pm_W.get rfl rfl h1a rfl ?_))
    refine pm_W.iast rfl h3a (pm_ix_ok (j := ps.length) (by omega) (by omega)) ?_
    have h1b := fr_ne (c := .inl (false, is.set ps.length i)) h1a (show a + 2 ≠ a by omega)
    have h2b := fr_ne (c := .inl (false, is.set ps.length i)) h2a (show a + 2 ≠ a + 1 by omega)
    have h3b := fr_set (c := .inl (false, is.set ps.length i)) h3a
    (repeat (first | refine pm_W.ts rfl rfl ?_ | refine pm_W.tl rfl rfl ?_ | refine pm_W.get rfl rfl h1b rfl ?_))
    refine pm_W.put (v := .int (nI ps.length + 1)) rfl rfl h1b (fr_ble rfl) rfl (Or.inl rfl) ?_
    refine pm_W.ret rfl rfl (k _ ⟨es.set ps.length (nI e), is.set ps.length i, ?_, fr_ne h2b (by omega), fr_ne h3b (by omega), by rw [List.length_set]; exact h4, by rw [List.length_set]; exact h5, ?_, ?_, by simp; omega⟩ (((fr_agset (by omega) (by omega)).tr (fr_agset (by omega) (by omega))).tr (fr_agset (by omega) (by omega))))
    · refine (fr_set h1b).trans ?_
      rw [List.length_append, List.length_singleton, ← nI_1]
      rfl
    · rw [List.length_append, List.length_singleton, List.map_append]
      exact fr_take (by simp) h6 (by omega)
    · rw [List.length_append, List.length_singleton, List.map_append]
      exact fr_take (by simp) h7 (by omega)
theorem ct_P_firstWithId (hb : pl_R h a ps) {w : Int32} (k1 : ∀ i, i < ps.length → pl_i ps i = w → (∀ j, j < i → pl_i ps j ≠ w) → Q (some (.int (nI i))) h) (k0 : (∀ j, j < ps.length → pl_i ps j ≠ w) → Q (some (.int (-1))) h) : pm_X xs 0 mP_firstWithId [.ref a, .int w] h Q := by
  obtain ⟨es, is, h1, h2, h3, h4, h5, h6, h7, h8⟩ := hb
  have loop : ∀ (r i : Nat), i + r = ps.length → (∀ j, j < i → pl_i ps j ≠ w) → pm_W xs 0 mP_firstWithId 2 [.ref a, .int w, .int (nI i)] [] h Q := by
    intro r
    induction r with
    | zero =>
      intro i hi hj
      (repeat (first | refine pm_W.ts rfl rfl ?_ | refine pm_W.tl rfl rfl ?_ | refine pm_W.get rfl rfl h1 rfl ?_))
      refine pm_W.icmp rfl (fun c => ?_) (fun c => ?_)
      · (repeat (first | refine pm_W.ts rfl rfl ?_ | refine pm_W.tl rfl rfl ?_ | refine pm_W.get rfl rfl h1 rfl ?_))
        exact pm_W.iret rfl rfl (k0 (by rw [← hi]; exact hj))
      · have c : ¬ nI ps.length ≤ nI i := c
        rw [nI_leI (by omega) (by omega)] at c
        omega
    | succ r ih =>
      intro i hi hj
      (repeat (first | refine pm_W.ts rfl rfl ?_ | refine pm_W.tl rfl rfl ?_ | refine pm_W.get rfl rfl h1 rfl ?_))
      refine pm_W.icmp rfl (fun c => ?_) (fun c => ?_)
      · have c : nI ps.length ≤ nI i := c
        rw [nI_leI (by omega) (by omega)] at c
        omega
      · (repeat (first | refine pm_W.ts rfl rfl ?_ | refine pm_W.tl rfl rfl ?_ | refine pm_W.get rfl rfl h1 rfl ?_))
        refine pm_W.iald rfl h3 (pm_ix_ok (j := i) (by omega) (by omega)) ?_
        rw [pl_getI h7 (by omega)]
        (repeat (first | refine pm_W.ts rfl rfl ?_ | refine pm_W.tl rfl rfl ?_))
        refine pm_W.icmp rfl (fun c2 => ?_) (fun c2 => ?_)
        · have c2 : ¬ pl_i ps i = w := c2
          (repeat (first | refine pm_W.ts rfl rfl ?_ | refine pm_W.tl rfl rfl ?_))
          refine pm_W.goto rfl ?_
          have := ih (i + 1) (by omega) (fun j hj2 => by
            by_cases hji : j = i
            · rw [hji]; exact c2
            · exact hj j (by omega))
          rw [← fr_inc] at this
          exact this
        · have c2 : ¬ ¬ pl_i ps i = w := c2
          (repeat (first | refine pm_W.ts rfl rfl ?_ | refine pm_W.tl rfl rfl ?_))
          exact pm_W.iret rfl rfl (k1 i (by omega) (Classical.not_not.mp c2) hj)
  unfold pm_X
  (iterate 2 (first | refine pm_W.ts rfl rfl ?_ | refine pm_W.tl rfl rfl ?_))
  exact loop ps.length 0 (by omega) (fun j hj => by omega)
def pl_n (ps : List (Nat × Int32)) (j : Nat) : Int32 := nI (pl_e ps j) - nI (pl_s ps j)
theorem ct_P_firstLike (hb : pl_R h a ps) {w n : Int32} (k1 : ∀ i, i < ps.length → (pl_i ps i = w ∧ pl_n ps i = n) → (∀ j, j < i → ¬ (pl_i ps j = w ∧ pl_n ps j = n)) → Q (some (.int (nI i))) h) (k0 : (∀ j, j < ps.length → ¬ (pl_i ps j = w ∧ pl_n ps j = n)) → Q (some (.int (-1))) h) : pm_X xs 3 mP_firstLike [.ref a, .int w, .int n] h Q := by
  have hb' := hb
  obtain ⟨es, is, h1, h2, h3, h4, h5, h6, h7, h8⟩ := hb
  have loop : ∀ (r i : Nat), i + r = ps.length → (∀ j, j < i → ¬ (pl_i ps j = w ∧ pl_n ps j = n)) → pm_W xs 3 mP_firstLike 2 [.ref a, .int w, .int n, .int (nI i)] [] h Q := by
    intro r
    induction r with
    | zero =>
      intro i hi hj
      (repeat (first | refine pm_W.ts rfl rfl ?_ | refine pm_W.tl rfl rfl ?_ | refine pm_W.get rfl rfl h1 rfl ?_))
      refine pm_W.icmp rfl (fun c => ?_) (fun c => ?_)
      · (repeat (first | refine pm_W.ts rfl rfl ?_ | refine pm_W.tl rfl rfl ?_ | refine pm_W.get rfl rfl h1 rfl ?_))
        exact pm_W.iret rfl rfl (k0 (by rw [← hi]; exact hj))
      · have c : ¬ nI ps.length ≤ nI i := c
        rw [nI_leI (by omega) (by omega)] at c
        omega
    | succ r ih =>
      intro i hi hj
      have next : ¬ (pl_i ps i = w ∧ pl_n ps i = n) → pm_W xs 3 mP_firstLike 31 [.ref a, .int w, .int n, .int (nI i)] [] h Q := by
        intro c2
        (repeat (first | refine pm_W.ts rfl rfl ?_ | refine pm_W.tl rfl rfl ?_))
        refine pm_W.goto rfl ?_
        have := ih (i + 1) (by omega) (fun j hj2 => by
          by_cases hji : j = i
          · rw [hji]; exact c2
          · exact hj j (by omega))
        rw [← fr_inc] at this
        exact this
      (repeat (first | refine pm_W.ts rfl rfl ?_ | refine pm_W.tl rfl rfl ?_ | refine pm_W.get rfl rfl h1 rfl ?_))
      refine pm_W.icmp rfl (fun c => ?_) (fun c => ?_)
      · have c : nI ps.length ≤ nI i := c
        rw [nI_leI (by omega) (by omega)] at c
        omega
      · (repeat (first | refine pm_W.ts rfl rfl ?_ | refine pm_W.tl rfl rfl ?_ | refine pm_W.get rfl rfl h1 rfl ?_))
        refine pm_W.iald rfl h3 (pm_ix_ok (j := i) (by omega) (by omega)) ?_
        rw [pl_getI h7 (by omega)]
        (repeat (first | refine pm_W.ts rfl rfl ?_ | refine pm_W.tl rfl rfl ?_))
        refine pm_W.icmp rfl (fun c2 => ?_) (fun c2 => ?_)
        · have c2 : ¬ pl_i ps i = w := c2
          exact next (fun z => c2 z.1)
        · have c2 : ¬ ¬ pl_i ps i = w := c2
          (repeat (first | refine pm_W.ts rfl rfl ?_ | refine pm_W.tl rfl rfl ?_))
          refine pm_W.callV rfl rfl rfl rfl (fr_ble rfl) h1 (fr_ble rfl) (ct_P_lengthOf hb' (by omega) ?_)
          (repeat (first | refine pm_W.ts rfl rfl ?_ | refine pm_W.tl rfl rfl ?_))
          refine pm_W.icmp rfl (fun c3 => ?_) (fun c3 => ?_)
          · have c3 : ¬ pl_n ps i = n := c3
            exact next (fun z => c3 z.2)
          · have c3 : ¬ ¬ pl_n ps i = n := c3
            (repeat (first | refine pm_W.ts rfl rfl ?_ | refine pm_W.tl rfl rfl ?_))
            exact pm_W.iret rfl rfl (k1 i (by omega) ⟨Classical.not_not.mp c2, Classical.not_not.mp c3⟩ hj)
  unfold pm_X
  (iterate 2 (first | refine pm_W.ts rfl rfl ?_ | refine pm_W.tl rfl rfl ?_))
  exact loop ps.length 0 (by omega) (fun j hj => by omega)
end PLIST
end
section
def cz_T (x : Int32) : Int32 := (x + 1) * (-1640531535)
def cz_L (y k : Int32) : Int32 := (y <<< (k &&& 31)) ||| pm_ushr y (32 - k)
def cz_M (a b c d : Int32) : Int32 := pm_ushr (cz_L (cz_T a) 3 ^^^ cz_L (cz_T b) 2 ^^^ cz_L (cz_T c) 1 ^^^ cz_T d) 1
abbrev cz_N : Type := Nat × Nat × Nat
def cz_ok (z : cz_N) : Prop := 8 ≤ z.1 ∧ z.1 ≤ z.2.1 ∧ z.2.1 ≤ z.2.2 ∧ z.2.2 ≤ 32
def cz_rem (x y : Int32) : Int32 := x - x / y * y
def cz_end (z : cz_N) (bs : List Int32) (s e : Nat) : Bool := decide (e = bs.length ∨ e - s = z.2.2 ∨ (z.1 ≤ e - s ∧ cz_rem (cz_M (bs.getD (e - 4) 0) (bs.getD (e - 3) 0) (bs.getD (e - 2) 0) (bs.getD (e - 1) 0)) (nI z.2.1) = nI z.2.1 - 1))
def cz_cut (z : cz_N) (bs : List Int32) : Nat → List (Nat × Int32) × Nat
  | 0 => ([], 0)
  | e + 1 => if cz_end z bs (cz_cut z bs e).2 (e + 1) = true then ((cz_cut z bs e).1 ++ [(e + 1, bt_id bs (nI (cz_cut z bs e).2) (e + 1 - (cz_cut z bs e).2))], e + 1) else cz_cut z bs e
def cz_R (h : pm_H) (a : Nat) (z : cz_N) : Prop := h.1[a]? = some (.inr (.inr (kC, [.int (nI z.1), .int (nI z.2.1), .int (nI z.2.2)])))
theorem cz_cut_inv {z : cz_N} {bs : List Int32} (hz : cz_ok z) : ∀ e, e ≤ bs.length → (cz_cut z bs e).2 ≤ e ∧ (e < bs.length → 8 * (cz_cut z bs e).1.length ≤ (cz_cut z bs e).2) ∧ 8 * (cz_cut z bs e).1.length ≤ e + 7 := by
  intro e
  induction e with
  | zero => intro _; exact ⟨Nat.le_refl _, fun _ => Nat.le_refl _, by show 8 * 0 ≤ _; omega⟩
  | succ e ih =>
    intro he
    obtain ⟨i1, i2, i3⟩ := ih (by omega)
    have i2 := i2 (by omega)
    unfold cz_cut
    split
    · rename_i hc
      have hc := of_decide_eq_true hc
      refine ⟨Nat.le_refl _, fun hlt => ?_, ?_⟩
      · rw [List.length_append, List.length_singleton]
        show 8 * (_ + 1) ≤ e + 1
        obtain ⟨z1, z2, z3, z4⟩ := hz
        rcases hc with hc | hc | hc
        · omega
        · omega
        · omega
      · rw [List.length_append, List.length_singleton]
        omega
    · exact ⟨by omega, fun _ => i2, by omega⟩
section CUTTER
variable {xs : List Int32} {h : pm_H} {a : Nat} {z : cz_N} {bs : List Int32} {Q : Option Value → pm_H → Prop}
theorem ct_C_spread {x : Int32} (k : Q (some (.int (cz_T x))) h) : pm_X xs 0 mC_spread [.int x] h Q := by
  unfold pm_X
  (repeat (first | refine pm_W.ts rfl rfl ?_ | refine pm_W.tl rfl rfl ?_))
  refine pm_W.ldc rfl rfl ?_
  (repeat (first | refine pm_W.ts rfl rfl ?_ | refine pm_W.tl rfl rfl ?_))
  exact pm_W.iret rfl rfl k
theorem ct_C_turnLeft {y w : Int32} (k : Q (some (.int (cz_L y w))) h) : pm_X xs 0 mC_turnLeft [.int y, .int w] h Q := by
  unfold pm_X
  (repeat (first | refine pm_W.ts rfl rfl ?_ | refine pm_W.tl rfl rfl ?_))
  exact pm_W.iret rfl rfl k
theorem bt_at_D {j : Nat} (hj : j < 2 ^ 31) (hl : bs.length ≤ 1000) : bt_at bs (nI j) = bs.getD j 0 := by
  by_cases h1 : j < bs.length
  · exact bt_at_nat h1 hl
  · rw [bt_at_not (decide_eq_false (fun z => h1 ((nI_ltI hj (by omega)).mp z.2))), List.getD_eq_getElem?_getD, List.getElem?_eq_none (by omega)]
    rfl
theorem fr_sub {i j : Nat} (h : j ≤ i) : nI i - nI j = nI (i - j) := by
  have e : nI i = nI (i - j) + nI j := by rw [nI_add]; congr 1; omega
  rw [e, Int32.add_sub_cancel]
theorem ct_C_markBefore {o ro e : Nat} (ho : bt_R h o ro bs) (he : 4 ≤ e) (he2 : e < 1000) (k : Q (some (.int (cz_M (bs.getD (e - 4) 0) (bs.getD (e - 3) 0) (bs.getD (e - 2) 0) (bs.getD (e - 1) 0)))) h) : pm_X xs 2 mC_markBefore [.ref o, .int (nI e)] h Q := by
  obtain ⟨ys, o1, o2, o3, o4, o5, o6⟩ := id ho
  have e1 : nI e - Int32.ofInt 4 = nI (e - 4) := fr_sub he
  have e2 : nI e - Int32.ofInt 3 = nI (e - 3) := fr_sub (j := 3) (by omega)
  have e3 : nI e - Int32.ofInt 2 = nI (e - 2) := fr_sub (j := 2) (by omega)
  have e4 : nI e - Int32.ofInt 1 = nI (e - 1) := fr_sub (j := 1) (by omega)
  unfold pm_X
  (repeat (first | refine pm_W.ts rfl rfl ?_ | refine pm_W.tl rfl rfl ?_))
  rw [e1]
  refine pm_W.callV rfl rfl rfl rfl (fr_ble rfl) o1 (fr_ble rfl) (ct_B_at ho ?_)
  rw [bt_at_D (by omega) (by omega)]
  refine pm_W.callS (d' := 0) rfl rfl rfl rfl (fr_ble rfl) (fr_ble rfl) (ct_C_spread ?_)
  (repeat (first | refine pm_W.ts rfl rfl ?_ | refine pm_W.tl rfl rfl ?_))
  rw [e2]
  refine pm_W.callV rfl rfl rfl rfl (fr_ble rfl) o1 (fr_ble rfl) (ct_B_at ho ?_)
  rw [bt_at_D (by omega) (by omega)]
  refine pm_W.callS (d' := 0) rfl rfl rfl rfl (fr_ble rfl) (fr_ble rfl) (ct_C_spread ?_)
  (repeat (first | refine pm_W.ts rfl rfl ?_ | refine pm_W.tl rfl rfl ?_))
  rw [e3]
  refine pm_W.callV rfl rfl rfl rfl (fr_ble rfl) o1 (fr_ble rfl) (ct_B_at ho ?_)
  rw [bt_at_D (by omega) (by omega)]
  refine pm_W.callS (d' := 0) rfl rfl rfl rfl (fr_ble rfl) (fr_ble rfl) (ct_C_spread ?_)
  (repeat (first | refine pm_W.ts rfl rfl ?_ | refine pm_W.tl rfl rfl ?_))
  rw [e4]
  refine pm_W.callV rfl rfl rfl rfl (fr_ble rfl) o1 (fr_ble rfl) (ct_B_at ho ?_)
  rw [bt_at_D (by omega) (by omega)]
  refine pm_W.callS (d' := 0) rfl rfl rfl rfl (fr_ble rfl) (fr_ble rfl) (ct_C_spread ?_)
  (repeat (first | refine pm_W.ts rfl rfl ?_ | refine pm_W.tl rfl rfl ?_))
  refine pm_W.callS (d' := 0) rfl rfl rfl rfl (fr_ble rfl) (fr_ble rfl) (ct_C_turnLeft ?_)
  (repeat (first | refine pm_W.ts rfl rfl ?_ | refine pm_W.tl rfl rfl ?_))
  refine pm_W.callS (d' := 0) rfl rfl rfl rfl (fr_ble rfl) (fr_ble rfl) (ct_C_turnLeft ?_)
  (repeat (first | refine pm_W.ts rfl rfl ?_ | refine pm_W.tl rfl rfl ?_))
  refine pm_W.callS (d' := 0) rfl rfl rfl rfl (fr_ble rfl) (fr_ble rfl) (ct_C_turnLeft ?_)
  (repeat (first | refine pm_W.ts rfl rfl ?_ | refine pm_W.tl rfl rfl ?_))
  exact pm_W.iret rfl rfl k
theorem ct_C_isEnd {o ro s e : Nat} (hc : cz_R h a z) (hz : cz_ok z) (ho : bt_R h o ro bs) (hs : s < e) (he : e ≤ bs.length) (k : Q (some (.int (fr_b (cz_end z bs s e)))) h) : pm_X xs 3 mC_isEnd [.ref a, .ref o, .int (nI s), .int (nI e)] h Q := by
  obtain ⟨ys, o1, o2, o3, o4, o5, o6⟩ := id ho
  obtain ⟨z1, z2, z3, z4⟩ := hz
  have hc : h.1[a]? = some (.inr (.inr (kC, [.int (nI z.1), .int (nI z.2.1), .int (nI z.2.2)]))) := hc
  have e1 : nI e - nI s = nI (e - s) := fr_sub (by omega)
  unfold pm_X
  (repeat (first | refine pm_W.ts rfl rfl ?_ | refine pm_W.tl rfl rfl ?_))
  rw [e1]
  refine pm_W.callV (d' := 0) rfl rfl rfl rfl (fr_ble rfl) o1 (fr_ble rfl) (ct_B_count ho ?_)
  refine pm_W.icmp rfl (fun c1 => ?_) (fun c1 => ?_)
  · have c1 : nI e = nI bs.length := c1
    rw [nI_eq (by omega) (by omega)] at c1
    (repeat (first | refine pm_W.ts rfl rfl ?_ | refine pm_W.tl rfl rfl ?_))
    rw [fr_bt (show cz_end z bs s e = true from decide_eq_true (Or.inl c1))] at k
    exact pm_W.iret rfl rfl k
  · have c1 : ¬ nI e = nI bs.length := c1
    rw [nI_eq (by omega) (by omega)] at c1
    (repeat (first | refine pm_W.ts rfl rfl ?_ | refine pm_W.tl rfl rfl ?_ | refine pm_W.get rfl rfl hc rfl ?_))
    refine pm_W.icmp rfl (fun c2 => ?_) (fun c2 => ?_)
    · have c2 : ¬ nI (e - s) = nI z.2.2 := c2
      rw [nI_eq (by omega) (by omega)] at c2
      (repeat (first | refine pm_W.ts rfl rfl ?_ | refine pm_W.tl rfl rfl ?_ | refine pm_W.get rfl rfl hc rfl ?_))
      refine pm_W.icmp rfl (fun c3 => ?_) (fun c3 => ?_)
      · have c3 : nI (e - s) < nI z.1 := c3
        rw [nI_ltI (by omega) (by omega)] at c3
        (repeat (first | refine pm_W.ts rfl rfl ?_ | refine pm_W.tl rfl rfl ?_))
        rw [fr_bf (show cz_end z bs s e = false from decide_eq_false (by rintro (q | q | q) <;> omega))] at k
        exact pm_W.iret rfl rfl k
      · have c3 : ¬ nI (e - s) < nI z.1 := c3
        rw [nI_ltI (by omega) (by omega)] at c3
        (repeat (first | refine pm_W.ts rfl rfl ?_ | refine pm_W.tl rfl rfl ?_))
        refine pm_W.callS rfl rfl rfl rfl (fr_ble rfl) (fr_ble rfl) (ct_C_markBefore ho (by omega) (by omega) ?_)
        (repeat (first | refine pm_W.ts rfl rfl ?_ | refine pm_W.tl rfl rfl ?_ | refine pm_W.get rfl rfl hc rfl ?_))
        refine pm_W.irem rfl (nI_ne0 (by omega) (by omega)) ?_
        (repeat (first | refine pm_W.ts rfl rfl ?_ | refine pm_W.tl rfl rfl ?_ | refine pm_W.get rfl rfl hc rfl ?_))
        refine pm_W.icmp rfl (fun c4 => ?_) (fun c4 => ?_)
        · (repeat (first | refine pm_W.ts rfl rfl ?_ | refine pm_W.tl rfl rfl ?_))
          rw [fr_bf (show cz_end z bs s e = false from decide_eq_false (by
            rintro (q | q | q)
            · exact c1 q
            · exact c2 q
            · exact c4 q.2))] at k
          exact pm_W.iret rfl rfl k
        · (repeat (first | refine pm_W.ts rfl rfl ?_ | refine pm_W.tl rfl rfl ?_))
          refine pm_W.goto rfl ?_
          rw [fr_bt (show cz_end z bs s e = true from decide_eq_true (Or.inr (Or.inr ⟨by omega, Classical.not_not.mp c4⟩)))] at k
          exact pm_W.iret rfl rfl k
    · have c2 : ¬ ¬ nI (e - s) = nI z.2.2 := c2
      have c2 := Classical.not_not.mp c2
      rw [nI_eq (by omega) (by omega)] at c2
      (repeat (first | refine pm_W.ts rfl rfl ?_ | refine pm_W.tl rfl rfl ?_))
      rw [fr_bt (show cz_end z bs s e = true from decide_eq_true (Or.inr (Or.inl c2)))] at k
      exact pm_W.iret rfl rfl k
theorem ct_C_cut {o ro q : Nat} {ps : List (Nat × Int32)} (hc : cz_R h a z) (hz : cz_ok z) (ho : bt_R h o ro bs) (hl : bs.length ≤ 117) (hq : pl_R h q ps) (d1 : o + 2 ≤ q ∨ q + 3 ≤ o) (d2 : a < q ∨ q + 3 ≤ a)
    (k : ∀ h' : pm_H, pl_R h' q (cz_cut z bs bs.length).1 → fr_ag q (q + 3) h h' → Q none h') : pm_X xs 4 mC_cut [.ref a, .ref o, .ref q] h Q := by
  obtain ⟨ys, o1, o2, o3, o4, o5, o6⟩ := id ho
  have loop : ∀ (r e : Nat) (h1 : pm_H), e + r = bs.length → pl_R h1 q (cz_cut z bs e).1 → fr_ag q (q + 3) h h1 → pm_W xs 4 mC_cut 9 [.ref a, .ref o, .ref q, .int (nI (cz_cut z bs e).2), .int (nI (e + 1))] [] h1 Q := by
    intro r
    induction r with
    | zero =>
      intro e h1 he hq1 hag
      have ho1 := ho.ag hag (by omega)
      obtain ⟨zs, p1, -⟩ := id ho1
      (repeat (first | refine pm_W.ts rfl rfl ?_ | refine pm_W.tl rfl rfl ?_))
      refine pm_W.callV (d' := 0) rfl rfl rfl rfl (fr_ble rfl) p1 (fr_ble rfl) (ct_B_count ho1 ?_)
      refine pm_W.icmp rfl (fun c => ?_) (fun c => ?_)
      · have he : e = bs.length := by omega
        subst he
        exact pm_W.ret rfl rfl (k h1 hq1 hag)
      · have c : ¬ nI bs.length < nI (e + 1) := c
        rw [nI_ltI (by omega) (by omega)] at c
        omega
    | succ r ih =>
      intro e h1 he hq1 hag
      have ho1 := ho.ag hag (by omega)
      obtain ⟨zs, p1, -⟩ := id ho1
      have hc1 : cz_R h1 a z := hag.at (by omega) hc
      obtain ⟨es, is, q1, -⟩ := id hq1
      have hin := cz_cut_inv (bs := bs) hz e (by omega)
      (repeat (first | refine pm_W.ts rfl rfl ?_ | refine pm_W.tl rfl rfl ?_))
      refine pm_W.callV (d' := 0) rfl rfl rfl rfl (fr_ble rfl) p1 (fr_ble rfl) (ct_B_count ho1 ?_)
      refine pm_W.icmp rfl (fun c => ?_) (fun c => ?_)
      · have c : nI bs.length < nI (e + 1) := c
        rw [nI_ltI (by omega) (by omega)] at c
        omega
      · (repeat (first | refine pm_W.ts rfl rfl ?_ | refine pm_W.tl rfl rfl ?_))
        refine pm_W.callV rfl rfl rfl rfl (fr_ble rfl) hc1 (fr_ble rfl) (ct_C_isEnd hc1 hz ho1 (by omega) (by omega) ?_)
        refine pm_W.ifz rfl (fun c2 => ?_) (fun c2 => ?_)
        · have c2 := fr_b0 c2
          (repeat (first | refine pm_W.ts rfl rfl ?_ | refine pm_W.tl rfl rfl ?_))
          refine pm_W.goto rfl ?_
          have hne : cz_cut z bs (e + 1) = cz_cut z bs e := by
            show (if _ then _ else _) = _
            rw [if_neg (by rw [c2]; decide)]
          have := ih (e + 1) h1 (by omega) (by rw [hne]; exact hq1) hag
          rw [hne, ← fr_inc (e + 1)] at this
          exact this
        · have c2 := fr_b1 c2
          have hye : cz_cut z bs (e + 1) = ((cz_cut z bs e).1 ++ [(e + 1, bt_id bs (nI (cz_cut z bs e).2) (e + 1 - (cz_cut z bs e).2))], e + 1) := by
            show (if _ then _ else _) = _
            rw [if_pos c2]
          have e1 : nI (e + 1) - nI (cz_cut z bs e).2 = nI (e + 1 - (cz_cut z bs e).2) := fr_sub (by omega)
          (repeat (first | refine pm_W.ts rfl rfl ?_ | refine pm_W.tl rfl rfl ?_))
          rw [e1]
          refine pm_W.callV rfl rfl rfl rfl (fr_ble rfl) p1 (fr_ble rfl) (ct_B_idOf ho1 (by omega) ?_)
          refine pm_W.callV (d' := 0) rfl rfl rfl rfl (fr_ble rfl) q1 (fr_ble rfl) (ct_P_add hq1 (by have := hin.2.1 (by omega); omega) (fun h2 hq2 hag2 => ?_))
          (repeat (first | refine pm_W.ts rfl rfl ?_ | refine pm_W.tl rfl rfl ?_))
          refine pm_W.goto rfl ?_
          have := ih (e + 1) h2 (by omega) (by rw [hye]; exact hq2) (hag.tr hag2)
          rw [hye, ← fr_inc (e + 1)] at this
          exact this
  obtain ⟨es, is, q1, -⟩ := id hq
  unfold pm_X
  (repeat (first | refine pm_W.ts rfl rfl ?_ | refine pm_W.tl rfl rfl ?_))
  refine pm_W.callV (d' := 0) rfl rfl rfl rfl (fr_ble rfl) q1 (fr_ble rfl) (ct_P_clear hq (fun h1 hq1 hag => ?_))
  (iterate 4 (first | refine pm_W.ts rfl rfl ?_ | refine pm_W.tl rfl rfl ?_))
  exact loop bs.length 0 h1 (by omega) hq1 hag
end CUTTER
end
section
def kp_rok (h : pm_H) (a room r : Nat) : Prop := a + 3 ≤ r ∧ r + 2 ≤ a + 3 + 2 * room ∧ (r - a - 3) % 2 = 0 ∧ ∃ bs, bt_R h r 32 bs
def kp_R (h : pm_H) (a room : Nat) (L : List (Int32 × List Int32)) : Prop := ∃ (ids : List Int32) (rows : List (Option Nat)), h.1[a]? = some (.inr (.inr (kK, [.ref (a + 1), .ref (a + 2), .int (nI L.length)]))) ∧ h.1[a + 1]? = some (.inl (false, ids)) ∧ h.1[a + 2]? = some (.inr (.inl (kB, rows))) ∧
  ids.length = room ∧ rows.length = room ∧ L.length ≤ room ∧ room ≤ 40 ∧ (∀ (i j r : Nat), rows[i]? = some (some r) → rows[j]? = some (some r) → i = j) ∧ (∀ i, i < room → ∃ r, rows[i]? = some (some r) ∧ kp_rok h a room r) ∧
  (∀ (i : Nat) (q : Int32 × List Int32), L[i]? = some q → ids[i]? = some q.1 ∧ ∃ r, rows[i]? = some (some r) ∧ bt_R h r 32 q.2)
theorem kp_R.keep {h h' : pm_H} {a room : Nat} {L : List (Int32 × List Int32)} (hb : kp_R h a room L) (e : ∀ k, a ≤ k → k < a + 3 + 2 * room → h'.1[k]? = h.1[k]?) : kp_R h' a room L := by
  obtain ⟨ids, rows, h1, h2, h3, h4, h5, h6, h7, h8, h9, h10⟩ := hb
  refine ⟨ids, rows, (e a (by omega) (by omega)).trans h1, ?_, ?_, h4, h5, h6, h7, h8, fun i hi => ?_, fun i q hq => ?_⟩
  · by_cases hr : room = 0
    · rw [(e (a + 1) (by omega) (by omega))]; exact h2
    · exact (e (a + 1) (by omega) (by omega)).trans h2
  · exact (e (a + 2) (by omega) (by omega)).trans h3
  · obtain ⟨r, g1, g2, g3, g4, bs, g5⟩ := h9 i hi
    exact ⟨r, g1, g2, g3, g4, bs, g5.keep fun k _ _ => e k (by omega) (by omega)⟩
  · obtain ⟨g1, r, g2, g3⟩ := h10 i q hq
    have hi : i < room := by
      have := (List.getElem?_eq_some_iff.mp g2).1
      omega
    obtain ⟨r', g4, g5, g6, -⟩ := h9 i hi
    rw [g2] at g4
    cases g4
    exact ⟨g1, r, g2, g3.keep fun k _ _ => e k (by omega) (by omega)⟩
theorem kp_R.ag {h h' : pm_H} {a room lo hi : Nat} {L : List (Int32 × List Int32)} (hb : kp_R h a room L) (e : fr_ag lo hi h h') (hd : a + 3 + 2 * room ≤ lo ∨ hi ≤ a) : kp_R h' a room L := hb.keep fun k _ _ => e.2.2 k (by omega)
section KEEP
variable {xs : List Int32} {h : pm_H} {a room : Nat} {L : List (Int32 × List Int32)} {Q : Option Value → pm_H → Prop}
def kp_i (L : List (Int32 × List Int32)) (j : Nat) : Int32 := (L.getD j (0, [])).1
def kp_b (L : List (Int32 × List Int32)) (j : Nat) : List Int32 := (L.getD j (0, [])).2
theorem kp_at {j : Nat} (hj : j < L.length) : L[j]? = some (kp_i L j, kp_b L j) := by
  rw [List.getElem?_eq_getElem hj]
  simp [kp_i, kp_b, hj]
theorem ct_K_count (hb : kp_R h a room L) (k : Q (some (.int (nI L.length))) h) : pm_X xs 0 mK_count [.ref a] h Q := by
  obtain ⟨ids, rows, h1, -⟩ := hb
  unfold pm_X
  (repeat (first | refine pm_W.ts rfl rfl ?_ | refine pm_W.tl rfl rfl ?_ | refine pm_W.get rfl rfl h1 rfl ?_))
  exact pm_W.iret rfl rfl k
theorem ct_K_idAt (hb : kp_R h a room L) {j : Nat} (hj : j < L.length) (k : Q (some (.int (kp_i L j))) h) : pm_X xs 0 mK_idAt [.ref a, .int (nI j)] h Q := by
  obtain ⟨ids, rows, h1, h2, h3, h4, h5, h6, h7, h8, h9, h10⟩ := hb
  unfold pm_X
  (repeat (first | refine pm_W.ts rfl rfl ?_ | refine pm_W.tl rfl rfl ?_ | refine pm_W.get rfl rfl h1 rfl ?_))
  refine pm_W.ifz rfl (fun c => ?_) (fun c => ?_)
  · exact absurd c (nI_pos (by omega))
  · (repeat (first | refine pm_W.ts rfl rfl ?_ | refine pm_W.tl rfl rfl ?_ | refine pm_W.get rfl rfl h1 rfl ?_))
    refine pm_W.icmp rfl (fun c2 => ?_) (fun c2 => ?_)
    · have c2 : nI L.length ≤ nI j := c2
      rw [nI_leI (by omega) (by omega)] at c2
      omega
    · (repeat (first | refine pm_W.ts rfl rfl ?_ | refine pm_W.tl rfl rfl ?_ | refine pm_W.get rfl rfl h1 rfl ?_))
      refine pm_W.iald rfl h2 (pm_ix_ok (j := j) (by omega) (by omega)) ?_
      refine pm_W.goto rfl ?_
      refine pm_W.iret rfl rfl ?_
      rw [List.getD_eq_getElem?_getD, (h10 j _ (kp_at hj)).1]
      exact k
theorem ct_K_placeOf (hb : kp_R h a room L) {w : Int32} (k1 : ∀ i, i < L.length → kp_i L i = w → (∀ j, j < i → kp_i L j ≠ w) → Q (some (.int (nI i))) h) (k0 : (∀ j, j < L.length → kp_i L j ≠ w) → Q (some (.int (-1))) h) : pm_X xs 0 mK_placeOf [.ref a, .int w] h Q := by
  obtain ⟨ids, rows, h1, h2, h3, h4, h5, h6, h7, h8, h9, h10⟩ := hb
  have loop : ∀ (r i : Nat), i + r = L.length → (∀ j, j < i → kp_i L j ≠ w) → pm_W xs 0 mK_placeOf 2 [.ref a, .int w, .int (nI i)] [] h Q := by
    intro r
    induction r with
    | zero =>
      intro i hi hj
      (repeat (first | refine pm_W.ts rfl rfl ?_ | refine pm_W.tl rfl rfl ?_ | refine pm_W.get rfl rfl h1 rfl ?_))
      refine pm_W.icmp rfl (fun c => ?_) (fun c => ?_)
      · (repeat (first | refine pm_W.ts rfl rfl ?_ | refine pm_W.tl rfl rfl ?_ | refine pm_W.get rfl rfl h1 rfl ?_))
        exact pm_W.iret rfl rfl (k0 (by rw [← hi]; exact hj))
      · have c : ¬ nI L.length ≤ nI i := c
        rw [nI_leI (by omega) (by omega)] at c
        omega
    | succ r ih =>
      intro i hi hj
      (repeat (first | refine pm_W.ts rfl rfl ?_ | refine pm_W.tl rfl rfl ?_ | refine pm_W.get rfl rfl h1 rfl ?_))
      refine pm_W.icmp rfl (fun c => ?_) (fun c => ?_)
      · have c : nI L.length ≤ nI i := c
        rw [nI_leI (by omega) (by omega)] at c
        omega
      · (repeat (first | refine pm_W.ts rfl rfl ?_ | refine pm_W.tl rfl rfl ?_ | refine pm_W.get rfl rfl h1 rfl ?_))
        refine pm_W.iald rfl h2 (pm_ix_ok (j := i) (by omega) (by omega)) ?_
        have e1 : ids.getD i 0 = kp_i L i := by
          rw [List.getD_eq_getElem?_getD, (h10 i _ (kp_at (by omega))).1]
          rfl
        rw [e1]
        (repeat (first | refine pm_W.ts rfl rfl ?_ | refine pm_W.tl rfl rfl ?_))
        refine pm_W.icmp rfl (fun c2 => ?_) (fun c2 => ?_)
        · have c2 : ¬ kp_i L i = w := c2
          (repeat (first | refine pm_W.ts rfl rfl ?_ | refine pm_W.tl rfl rfl ?_))
          refine pm_W.goto rfl ?_
          have := ih (i + 1) (by omega) (fun j hj2 => by
            by_cases hji : j = i
            · rw [hji]; exact c2
            · exact hj j (by omega))
          rw [← fr_inc] at this
          exact this
        · have c2 : ¬ ¬ kp_i L i = w := c2
          (repeat (first | refine pm_W.ts rfl rfl ?_ | refine pm_W.tl rfl rfl ?_))
          exact pm_W.iret rfl rfl (k1 i (by omega) (Classical.not_not.mp c2) hj)
  unfold pm_X
  (iterate 2 (first | refine pm_W.ts rfl rfl ?_ | refine pm_W.tl rfl rfl ?_))
  exact loop L.length 0 (by omega) (fun j hj => by omega)
theorem ct_K_bytesUnder (hb : kp_R h a room L) {w : Int32} (k1 : ∀ i r, i < L.length → kp_i L i = w → (∀ j, j < i → kp_i L j ≠ w) → a + 3 ≤ r → r + 2 ≤ a + 3 + 2 * room → bt_R h r 32 (kp_b L i) → (∀ bs h', bt_R h' r 32 bs → fr_ag r (r + 2) h h' → kp_R h' a room (L.set i (w, bs))) → Q (some (.ref r)) h) (k0 : (∀ j, j < L.length → kp_i L j ≠ w) → Q (some .null) h) : pm_X xs 1 mK_bytesUnder [.ref a, .int w] h Q := by
  have hb' := hb
  obtain ⟨ids, rows, h1, h2, h3, h4, h5, h6, h7, h8, h9, h10⟩ := hb
  unfold pm_X
  (repeat (first | refine pm_W.ts rfl rfl ?_ | refine pm_W.tl rfl rfl ?_ | refine pm_W.get rfl rfl h1 rfl ?_))
  refine pm_W.callV rfl rfl rfl rfl (fr_ble rfl) h1 (fr_ble rfl) (ct_K_placeOf hb' (fun i hi hw hj => ?_) (fun hn => ?_))
  · (repeat (first | refine pm_W.ts rfl rfl ?_ | refine pm_W.tl rfl rfl ?_))
    refine pm_W.icmp rfl (fun c => ?_) (fun c => ?_)
    · (repeat (first | refine pm_W.ts rfl rfl ?_ | refine pm_W.tl rfl rfl ?_ | refine pm_W.get rfl rfl h1 rfl ?_))
      obtain ⟨g1, r, g2, g3⟩ := h10 i _ (kp_at hi)
      obtain ⟨r', g4, g5, g6, g7, -⟩ := h9 i (by omega)
      rw [g2] at g4
      cases g4
      refine pm_W.aald rfl h3 (pm_ix_ok (j := i) (by omega) (by omega)) (by decide) ?_
      have e1 : rows.getD i none = some r := by rw [List.getD_eq_getElem?_getD, g2]; rfl
      rw [e1]
      refine pm_W.aretR rfl rfl (k1 i r hi hw hj g5 g6 g3 (fun bs h' hbs hag => ?_))
      refine ⟨ids, rows, ?_, hag.at (by omega) h2, hag.at (by omega) h3, h4, h5, by rw [List.length_set]; exact h6, h7, h8, fun j hj => ?_, fun j q hq => ?_⟩
      · rw [List.length_set]
        exact hag.at (by omega) h1
      · obtain ⟨r2, q1, q2, q3, q4, cs, q5⟩ := h9 j hj
        by_cases hr : r2 = r
        · subst hr
          exact ⟨r2, q1, q2, q3, q4, bs, hbs⟩
        · exact ⟨r2, q1, q2, q3, q4, cs, q5.ag hag (by omega)⟩
      · by_cases hji : i = j
        · subst hji
          rw [List.getElem?_set_self hi] at hq
          cases hq
          refine ⟨?_, r, g2, hbs⟩
          rw [← hw]
          exact g1
        · rw [List.getElem?_set_ne hji] at hq
          obtain ⟨q1, r2, q2, q3⟩ := h10 j q hq
          refine ⟨q1, r2, q2, q3.ag hag ?_⟩
          have hjr : j < room := by
            have := (List.getElem?_eq_some_iff.mp q2).1
            omega
          obtain ⟨r3, p1, p2, p3, p4, -⟩ := h9 j hjr
          rw [q2] at p1
          cases p1
          have hr : r2 ≠ r := fun z => hji (by subst z; exact h8 i j r2 g2 q2)
          omega
    · have c : ¬ ¬ nI i = Int32.ofInt (-1) := c
      have c := Classical.not_not.mp c
      have c2 : (nI i).toInt = -1 := by rw [c]; rfl
      rw [nI_toInt (by omega)] at c2
      omega
  · (repeat (first | refine pm_W.ts rfl rfl ?_ | refine pm_W.tl rfl rfl ?_))
    refine pm_W.icmp rfl (fun c => ?_) (fun c => ?_)
    · exact absurd rfl c
    · (repeat (first | refine pm_W.ts rfl rfl ?_ | refine pm_W.tl rfl rfl ?_))
      refine pm_W.goto rfl ?_
      exact pm_W.aretN rfl rfl (k0 hn)
end KEEP
end
section
section KEEP2
variable {xs : List Int32} {h : pm_H} {a room : Nat} {L : List (Int32 × List Int32)} {Q : Option Value → pm_H → Prop}
def kp_sg (p c j : Nat) : Nat := if j < p then j else if j < c then j + 1 else if j = c then p else j
theorem kp_sg_c {p c j : Nat} (hp : p ≤ c) : (j < p ∧ kp_sg p c j = j) ∨ (p ≤ j ∧ j < c ∧ kp_sg p c j = j + 1) ∨ (j = c ∧ kp_sg p c j = p) ∨ (c < j ∧ kp_sg p c j = j) := by
  unfold kp_sg
  by_cases h1 : j < p
  · rw [if_pos h1]; omega
  · by_cases h2 : j < c
    · rw [if_neg h1, if_pos h2]; omega
    · by_cases h3 : j = c
      · rw [if_neg h1, if_neg h2, if_pos h3]; omega
      · rw [if_neg h1, if_neg h2, if_neg h3]; omega
theorem kp_sg_inj {p c i j : Nat} (hp : p ≤ c) (e : kp_sg p c i = kp_sg p c j) : i = j := by
  rcases kp_sg_c (j := i) hp with h1 | h1 | h1 | h1 <;> rcases kp_sg_c (j := j) hp with h2 | h2 | h2 | h2 <;> omega
theorem kp_sg_lt {p c j n : Nat} (hp : p ≤ c) (hc : c < n) (hj : j < n) : kp_sg p c j < n := by
  rcases kp_sg_c (j := j) hp with h1 | h1 | h1 | h1 <;> omega
theorem ct_K_takeOut (hb : kp_R h a room L) {p : Nat} (hp : p < L.length) (k : ∀ h' : pm_H, kp_R h' a room (L.eraseIdx p) → fr_ag a (a + 3) h h' → Q (some (.int 1)) h') : pm_X xs 0 mK_takeOut [.ref a, .int (nI p)] h Q := by
  obtain ⟨ids, rows, h1, h2, h3, h4, h5, h6, h7, h8, h9, h10⟩ := hb
  obtain ⟨c, hc⟩ : ∃ c, L.length = c + 1 := ⟨L.length - 1, by omega⟩
  obtain ⟨r0, p1, p2⟩ := h9 p (by omega)
  have e0 : rows.getD p none = some r0 := by rw [List.getD_eq_getElem?_getD, p1]; rfl
  have loop : ∀ (r i : Nat) (h1' : pm_H), i + r = c → p ≤ i → h1'.1[a]? = some (.inr (.inr (kK, [.ref (a + 1), .ref (a + 2), .int (nI c)]))) → h1'.1[a + 1]? = some (.inl (false, fr_shift 0 ids p i)) → h1'.1[a + 2]? = some (.inr (.inl (kB, fr_shift none rows p i))) → fr_ag a (a + 3) h h1' →
      pm_W xs 0 mK_takeOut 33 [.ref a, .int (nI p), .ref r0, .int (nI i)] [] h1' Q := by
    intro r
    induction r with
    | zero =>
      intro i g hi hpi g1 g2 g3 hag
      (repeat (first | refine pm_W.ts rfl rfl ?_ | refine pm_W.tl rfl rfl ?_ | refine pm_W.get rfl rfl g1 rfl ?_))
      refine pm_W.icmp rfl (fun cc => ?_) (fun cc => ?_)
      · (repeat (first | refine pm_W.ts rfl rfl ?_ | refine pm_W.tl rfl rfl ?_ | refine pm_W.get rfl rfl g1 rfl ?_))
        obtain ⟨w2, w3, w4, bs0, w5⟩ := p2
        have w6 := w5.ag hag (by omega)
        obtain ⟨ys, v1, -⟩ := id w6
        refine pm_W.aast rfl g3 v1 (pm_ix_ok (j := c) (by rw [fr_shift_len]; omega) (by rw [fr_shift_len]; omega)) (by decide) ?_
        (repeat (first | refine pm_W.ts rfl rfl ?_ | refine pm_W.tl rfl rfl ?_))
        have hic : i = c := by omega
        subst hic
        have hsg : ∀ j, j < room → ((fr_shift none rows p i).set i (some r0))[j]? = rows[kp_sg p i j]? := by
          intro j hj
          have hrd : ∀ t, t < room → rows[t]? = some (rows.getD t none) := fun t ht => by
            rw [List.getD_eq_getElem?_getD, List.getElem?_eq_getElem (by omega)]
            rfl
          by_cases hji : i = j
          · subst hji
            rw [List.getElem?_set_self (by rw [fr_shift_len]; omega)]
            unfold kp_sg
            by_cases hpe : i < p
            · omega
            · rw [if_neg hpe, if_neg (Nat.lt_irrefl _), if_pos rfl, p1]
          · rw [List.getElem?_set_ne hji, fr_shift_at (by omega)]
            unfold kp_sg
            by_cases q1 : j < p
            · rw [if_neg (by omega), if_pos q1, hrd j hj]
            · by_cases q2 : j < i
              · rw [if_pos (by omega), if_neg q1, if_pos q2, hrd (j + 1) (by omega)]
              · rw [if_neg (by omega), if_neg q1, if_neg q2, if_neg (fun z => hji z.symm), hrd j hj]
        have hag2 : fr_ag a (a + 3) h (g.1.set (a + 2) (.inr (.inl (kB, (fr_shift none rows p i).set i (some r0)))), g.2) := hag.tr (fr_agset (by omega) (by omega))
        refine pm_W.iret rfl rfl (k _ ⟨fr_shift 0 ids p i, (fr_shift none rows p i).set i (some r0), ?_, fr_ne g2 (by omega), fr_set g3, by rw [fr_shift_len]; exact h4, by rw [List.length_set, fr_shift_len]; exact h5, ?_, h7, fun x y r hx hy => ?_, fun x hx => ?_, fun x q hq => ?_⟩ hag2)
        · rw [List.length_eraseIdx_of_lt hp, hc]
          exact fr_ne g1 (by omega)
        · rw [List.length_eraseIdx_of_lt hp]
          omega
        · have lx : x < room := by
            have := (List.getElem?_eq_some_iff.mp hx).1
            rw [List.length_set, fr_shift_len] at this
            omega
          have ly : y < room := by
            have := (List.getElem?_eq_some_iff.mp hy).1
            rw [List.length_set, fr_shift_len] at this
            omega
          rw [hsg x lx] at hx
          rw [hsg y ly] at hy
          exact kp_sg_inj (by omega) (h8 _ _ _ hx hy)
        · obtain ⟨r, q1, q2, q3, q4, bs, q5⟩ := h9 (kp_sg p i x) (kp_sg_lt (by omega) (by omega) hx)
          exact ⟨r, by rw [hsg x hx]; exact q1, q2, q3, q4, bs, q5.ag hag2 (by omega)⟩
        · have hxl : x < i := by
            have := (List.getElem?_eq_some_iff.mp hq).1
            rw [List.length_eraseIdx_of_lt hp] at this
            omega
          rw [List.getElem?_eraseIdx] at hq
          have hq2 : L[kp_sg p i x]? = some q := by
            unfold kp_sg
            by_cases q1 : x < p
            · rw [if_pos q1] at hq ⊢
              exact hq
            · rw [if_neg q1] at hq ⊢
              rw [if_pos hxl]
              exact hq
          obtain ⟨w1, r, w2, w3⟩ := h10 _ q hq2
          have hrr : a + 3 ≤ r := by
            obtain ⟨r', z1, z2, -⟩ := h9 (kp_sg p i x) (kp_sg_lt (by omega) (by omega) (by omega))
            rw [w2] at z1
            cases z1
            exact z2
          refine ⟨?_, r, by rw [hsg x (by omega)]; exact w2, w3.ag hag2 (by omega)⟩
          rw [fr_shift_at (by omega), ← w1]
          unfold kp_sg
          by_cases q1 : x < p
          · rw [if_neg (by omega), if_pos q1, List.getD_eq_getElem?_getD, List.getElem?_eq_getElem (by omega)]
            rfl
          · rw [if_pos (by omega), if_neg q1, if_pos hxl, List.getD_eq_getElem?_getD, List.getElem?_eq_getElem (by omega)]
            rfl
      · have cc : ¬ nI c ≤ nI i := cc
        rw [nI_leI (by omega) (by omega)] at cc
        omega
    | succ r ih =>
      intro i g hi hpi g1 g2 g3 hag
      (repeat (first | refine pm_W.ts rfl rfl ?_ | refine pm_W.tl rfl rfl ?_ | refine pm_W.get rfl rfl g1 rfl ?_))
      refine pm_W.icmp rfl (fun cc => ?_) (fun cc => ?_)
      · have cc : nI c ≤ nI i := cc
        rw [nI_leI (by omega) (by omega)] at cc
        omega
      · (repeat (first | refine pm_W.ts rfl rfl ?_ | refine pm_W.tl rfl rfl ?_ | refine pm_W.get rfl rfl g1 rfl ?_))
        have e1 : nI i + Int32.ofInt 1 = nI (i + 1) := fr_inc i
        rw [e1]
        refine pm_W.iald rfl g2 (pm_ix_ok (j := i + 1) (by rw [fr_shift_len]; omega) (by rw [fr_shift_len]; omega)) ?_
        rw [fr_shift_n (by omega)]
        refine pm_W.iast rfl g2 (pm_ix_ok (j := i) (by rw [fr_shift_len]; omega) (by rw [fr_shift_len]; omega)) ?_
        rw [fr_shift_1 hpi (by omega)]
        have g1a := fr_ne (c := .inl (false, fr_shift 0 ids p (i + 1))) g1 (show a + 1 ≠ a by omega)
        have g2a := fr_set (c := .inl (false, fr_shift 0 ids p (i + 1))) g2
        have g3a := fr_ne (c := .inl (false, fr_shift 0 ids p (i + 1))) g3 (show a + 1 ≠ a + 2 by omega)
        (repeat (first | refine pm_W.ts rfl rfl ?_ | refine pm_W.tl rfl rfl ?_ | refine pm_W.get rfl rfl g1a rfl ?_))
        rw [e1]
        refine pm_W.aald rfl g3a (pm_ix_ok (j := i + 1) (by rw [fr_shift_len]; omega) (by rw [fr_shift_len]; omega)) (by decide) ?_
        rw [fr_shift_n (by omega)]
        obtain ⟨r2, q1, q2, q3, q4, bs2, q5⟩ := h9 (i + 1) (by omega)
        have e2 : rows.getD (i + 1) none = some r2 := by rw [List.getD_eq_getElem?_getD, q1]; rfl
        rw [e2]
        have q6 := q5.ag (hag.tr (fr_agset (lo := a) (hi := a + 3) (k := a + 1) (c := .inl (false, fr_shift 0 ids p (i + 1))) (by omega) (by omega))) (by omega)
        obtain ⟨ys, v1, -⟩ := id q6
        refine pm_W.aast rfl g3a v1 (pm_ix_ok (j := i) (by rw [fr_shift_len]; omega) (by rw [fr_shift_len]; omega)) (by decide) ?_
        rw [← e2, fr_shift_1 hpi (by omega)]
        (repeat (first | refine pm_W.ts rfl rfl ?_ | refine pm_W.tl rfl rfl ?_))
        refine pm_W.goto rfl ?_
        rw [e1]
        exact ih (i + 1) _ (by omega) (by omega) (fr_ne g1a (by omega)) (fr_ne g2a (by omega)) (fr_set g3a) ((hag.tr (fr_agset (by omega) (by omega))).tr (fr_agset (by omega) (by omega)))
  unfold pm_X
  (repeat (first | refine pm_W.ts rfl rfl ?_ | refine pm_W.tl rfl rfl ?_ | refine pm_W.get rfl rfl h1 rfl ?_))
  refine pm_W.ifz rfl (fun cc => ?_) (fun cc => ?_)
  · exact absurd cc (nI_pos (by omega))
  · (repeat (first | refine pm_W.ts rfl rfl ?_ | refine pm_W.tl rfl rfl ?_ | refine pm_W.get rfl rfl h1 rfl ?_))
    refine pm_W.icmp rfl (fun cc2 => ?_) (fun cc2 => ?_)
    · (repeat (first | refine pm_W.ts rfl rfl ?_ | refine pm_W.tl rfl rfl ?_ | refine pm_W.get rfl rfl h1 rfl ?_))
      refine pm_W.aald rfl h3 (pm_ix_ok (j := p) (by omega) (by omega)) (by decide) ?_
      rw [e0]
      (repeat (first | refine pm_W.ts rfl rfl ?_ | refine pm_W.tl rfl rfl ?_ | refine pm_W.get rfl rfl h1 rfl ?_))
      have e1 : nI L.length - Int32.ofInt 1 = nI c := by rw [hc]; exact nI_pred c
      rw [e1]
      refine pm_W.put rfl rfl h1 (fr_ble rfl) rfl (Or.inl rfl) ?_
      (iterate 2 (first | refine pm_W.ts rfl rfl ?_ | refine pm_W.tl rfl rfl ?_))
      exact loop (c - p) p _ (by omega) (Nat.le_refl _) (fr_set h1) (by rw [fr_shift_0]; exact fr_ne h2 (by omega)) (by rw [fr_shift_0]; exact fr_ne h3 (by omega)) (fr_agset (by omega) (by omega))
    · have cc2 : ¬ nI p < nI L.length := cc2
      rw [nI_ltI (by omega) (by omega)] at cc2
      omega
end KEEP2
end
section
section KEEP3
variable {xs : List Int32} {h : pm_H} {a room : Nat} {L : List (Int32 × List Int32)} {Q : Option Value → pm_H → Prop}
theorem ct_K_takeOutN (hb : kp_R h a room L) (k : Q (some (.int 0)) h) : pm_X xs 0 mK_takeOut [.ref a, .int (-1)] h Q := by
  unfold pm_X
  (repeat (first | refine pm_W.ts rfl rfl ?_ | refine pm_W.tl rfl rfl ?_))
  refine pm_W.ifz rfl (fun c => ?_) (fun c => ?_)
  · (repeat (first | refine pm_W.ts rfl rfl ?_ | refine pm_W.tl rfl rfl ?_))
    exact pm_W.iret rfl rfl k
  · exact absurd (show (-1 : Int32) < 0 by decide) c
theorem kp_row (hb : kp_R h a room L) {i : Nat} (hi : i < L.length) : ∃ (rows : List (Option Nat)) (r : Nat), h.1[a + 2]? = some (.inr (.inl (kB, rows))) ∧ rows.length = room ∧ rows.getD i none = some r ∧ a + 3 ≤ r ∧ r + 2 ≤ a + 3 + 2 * room ∧ bt_R h r 32 (kp_b L i) ∧
    ∀ (bs : List Int32) (h' : pm_H), bt_R h' r 32 bs → fr_ag r (r + 2) h h' → kp_R h' a room (L.set i (kp_i L i, bs)) := by
  obtain ⟨ids, rows, h1, h2, h3, h4, h5, h6, h7, h8, h9, h10⟩ := hb
  obtain ⟨g1, r, g2, g3⟩ := h10 i _ (kp_at hi)
  obtain ⟨r', g4, g5, g6, g7, -⟩ := h9 i (by omega)
  rw [g2] at g4
  cases g4
  refine ⟨rows, r, h3, h5, by rw [List.getD_eq_getElem?_getD, g2]; rfl, g5, g6, g3, fun bs h' hbs hag => ?_⟩
  refine ⟨ids, rows, ?_, hag.at (by omega) h2, hag.at (by omega) h3, h4, h5, by rw [List.length_set]; exact h6, h7, h8, fun j hj => ?_, fun j q hq => ?_⟩
  · rw [List.length_set]
    exact hag.at (by omega) h1
  · obtain ⟨r2, q1, q2, q3, q4, cs, q5⟩ := h9 j hj
    by_cases hr : r2 = r
    · subst hr
      exact ⟨r2, q1, q2, q3, q4, bs, hbs⟩
    · exact ⟨r2, q1, q2, q3, q4, cs, q5.ag hag (by omega)⟩
  · by_cases hji : i = j
    · subst hji
      rw [List.getElem?_set_self hi] at hq
      cases hq
      exact ⟨g1, r, g2, hbs⟩
    · rw [List.getElem?_set_ne hji] at hq
      obtain ⟨q1, r2, q2, q3⟩ := h10 j q hq
      refine ⟨q1, r2, q2, q3.ag hag ?_⟩
      have hjr : j < room := by
        have := (List.getElem?_eq_some_iff.mp q2).1
        omega
      obtain ⟨r3, p1, p2, p3, p4, -⟩ := h9 j hjr
      rw [q2] at p1
      cases p1
      have hr : r2 ≠ r := fun z => hji (by subst z; exact h8 i j r2 g2 q2)
      omega
def kp_room (room : Nat) (L : List (Int32 × List Int32)) : List (Int32 × List Int32) := if L.length = room then L.eraseIdx 0 else L
theorem kp_push (hb : kp_R h a room L) (hl : L.length < room) {w : Int32} {h' : pm_H} {ids : List Int32} (g1 : h'.1[a]? = some (.inr (.inr (kK, [.ref (a + 1), .ref (a + 2), .int (nI (L.length + 1))])))) (g0 : h.1[a + 1]? = some (.inl (false, ids))) (g2 : h'.1[a + 1]? = some (.inl (false, ids.set L.length w))) (hag : ∀ k, (k < a ∨ a + 2 ≤ k) → h'.1[k]? = h.1[k]?) :
    ∃ bs, kp_R h' a room (L ++ [(w, bs)]) := by
  obtain ⟨ids', rows, h1, h2, h3, h4, h5, h6, h7, h8, h9, h10⟩ := hb
  rw [g0] at h2
  cases h2
  obtain ⟨r, q1, q2, q3, q4, bs, q5⟩ := h9 L.length hl
  refine ⟨bs, ids.set L.length w, rows, by rw [List.length_append, List.length_singleton]; exact g1, g2, (hag _ (by omega)).trans h3, by rw [List.length_set]; exact h4, h5, by rw [List.length_append, List.length_singleton]; omega, h7, h8, fun i hi => ?_, fun i q hq => ?_⟩
  · obtain ⟨r2, p1, p2, p3, p4, cs, p5⟩ := h9 i hi
    exact ⟨r2, p1, p2, p3, p4, cs, p5.keep fun k _ _ => hag k (by omega)⟩
  · by_cases hil : i < L.length
    · rw [List.getElem?_append_left hil] at hq
      obtain ⟨p1, r2, p2, p3⟩ := h10 i q hq
      obtain ⟨r3, w1, w2, -⟩ := h9 i (by omega)
      rw [p2] at w1
      cases w1
      exact ⟨by rw [List.getElem?_set_ne (by omega)]; exact p1, r2, p2, p3.keep fun k _ _ => hag k (by omega)⟩
    · have hil2 : i = L.length := by
        have := (List.getElem?_eq_some_iff.mp hq).1
        rw [List.length_append, List.length_singleton] at this
        omega
      subst hil2
      rw [List.getElem?_append_right (Nat.le_refl _), Nat.sub_self] at hq
      cases hq
      exact ⟨List.getElem?_set_self (by omega), r, q1, q5.keep fun k _ _ => hag k (by omega)⟩
theorem ct_K_placeForNew (hb : kp_R h a room L) (hr : 0 < room) {w : Int32} (k : ∀ (h' : pm_H) (bs : List Int32), kp_R h' a room (kp_room room L ++ [(w, bs)]) → fr_ag a (a + 3) h h' → Q (some (.int (nI (kp_room room L).length))) h') : pm_X xs 1 mK_placeForNew [.ref a, .int w] h Q := by
  have tail : ∀ (h1 : pm_H), kp_R h1 a room (kp_room room L) → (kp_room room L).length < room → fr_ag a (a + 3) h h1 → pm_W xs 1 mK_placeForNew 18 [.ref a, .int w] [] h1 Q := by
    intro g hg hl hag
    obtain ⟨ids, rows, h1, h2, h3, h4, h5, h6, h7, h8, h9, h10⟩ := id hg
    (repeat (first | refine pm_W.ts rfl rfl ?_ | refine pm_W.tl rfl rfl ?_ | refine pm_W.get rfl rfl h1 rfl ?_))
    refine pm_W.iast rfl h2 (pm_ix_ok (j := (kp_room room L).length) (by omega) (by omega)) ?_
    have h1a := fr_ne (c := .inl (false, ids.set (kp_room room L).length w)) h1 (show a + 1 ≠ a by omega)
    (repeat (first | refine pm_W.ts rfl rfl ?_ | refine pm_W.tl rfl rfl ?_ | refine pm_W.get rfl rfl h1a rfl ?_))
    refine pm_W.put (v := .int (nI (kp_room room L).length + 1)) rfl rfl h1a (fr_ble rfl) rfl (Or.inl rfl) ?_
    have e1 : nI (kp_room room L).length + 1 = nI ((kp_room room L).length + 1) := nI_1 _
    rw [e1]
    have h1b := fr_set (c := .inr (.inr (kK, [Value.ref (a + 1), .ref (a + 2), .int (nI ((kp_room room L).length + 1))]))) h1a
    obtain ⟨bs, hbs⟩ := kp_push (w := w) (h' := ((g.1.set (a + 1) (.inl (false, ids.set (kp_room room L).length w))).set a (.inr (.inr (kK, [Value.ref (a + 1), .ref (a + 2), .int (nI ((kp_room room L).length + 1))]))), g.2)) hg hl h1b h2 (fr_ne (fr_set h2) (by omega)) (fun k hk => by
      show ((g.1.set (a + 1) _).set a _)[k]? = _
      rw [List.getElem?_set_ne (by omega), List.getElem?_set_ne (by omega)])
    (iterate 4 (first | refine pm_W.ts rfl rfl ?_ | refine pm_W.tl rfl rfl ?_ | refine pm_W.get rfl rfl h1b rfl ?_))
    have e2 : nI ((kp_room room L).length + 1) - Int32.ofInt 1 = nI (kp_room room L).length := nI_pred _
    rw [e2]
    exact pm_W.iret rfl rfl (k _ bs hbs ((hag.tr (fr_agset (by omega) (by omega))).tr (fr_agset (by omega) (by omega))))
  obtain ⟨ids, rows, h1, h2, h3, h4, h5, h6, h7, h8, h9, h10⟩ := id hb
  unfold pm_X
  (repeat (first | refine pm_W.ts rfl rfl ?_ | refine pm_W.tl rfl rfl ?_ | refine pm_W.get rfl rfl h1 rfl ?_))
  refine pm_W.alen rfl h2 ?_
  refine pm_W.icmp rfl (fun c => ?_) (fun c => ?_)
  · have c : ¬ nI L.length = nI ids.length := c
    rw [nI_eq (by omega) (by omega)] at c
    have e : kp_room room L = L := if_neg (by omega)
    exact tail h (by rw [e]; exact hb) (by rw [e]; omega) fr_ag.rf
  · have c : ¬ ¬ nI L.length = nI ids.length := c
    have c := Classical.not_not.mp c
    rw [nI_eq (by omega) (by omega)] at c
    have e : kp_room room L = L.eraseIdx 0 := if_pos (by omega)
    (repeat (first | refine pm_W.ts rfl rfl ?_ | refine pm_W.tl rfl rfl ?_))
    refine pm_W.callV (d' := 0) rfl rfl rfl rfl (fr_ble rfl) h1 (fr_ble rfl) (ct_K_takeOut (p := 0) hb (by omega) (fun h2 hb2 hag2 => ?_))
    (iterate 1 (first | refine pm_W.ts rfl rfl ?_ | refine pm_W.tl rfl rfl ?_))
    exact tail h2 (by rw [e]; exact hb2) (by rw [e, List.length_eraseIdx_of_lt (by omega)]; omega) hag2
theorem kp_i_app {w : Int32} {bs : List Int32} : kp_i (L ++ [(w, bs)]) L.length = w := by simp [kp_i]
theorem ct_K_put {o ro n : Nat} {os : List Int32} {w s : Int32} (hb : kp_R h a room L) (hr : 0 < room) (ho : bt_R h o ro os) (hd : o + 2 ≤ a ∨ a + 3 + 2 * room ≤ o) (hn : n ≤ 32)
    (k1 : ∀ i, i < L.length → kp_i L i = w → (∀ j, j < i → kp_i L j ≠ w) → ∀ h' : pm_H, kp_R h' a room (L.set i (w, bt_from os s n)) → fr_ag a (a + 3 + 2 * room) h h' → Q none h')
    (k0 : (∀ j, j < L.length → kp_i L j ≠ w) → ∀ h' : pm_H, kp_R h' a room (kp_room room L ++ [(w, bt_from os s n)]) → fr_ag a (a + 3 + 2 * room) h h' → Q none h') : pm_X xs 3 mK_put [.ref a, .int w, .ref o, .int s, .int (nI n)] h Q := by
  have tail : ∀ (h1 : pm_H) (M : List (Int32 × List Int32)) (i : Nat), kp_R h1 a room M → i < M.length → fr_ag a (a + 3 + 2 * room) h h1 → (∀ h' : pm_H, kp_R h' a room (M.set i (kp_i M i, bt_from os s n)) → fr_ag a (a + 3 + 2 * room) h h' → Q none h') → pm_W xs 3 mK_put 20 [.ref a, .int w, .ref o, .int s, .int (nI n), .int (nI i)] [] h1 Q := by
    intro g M i hg hi hag k
    obtain ⟨rows, r, g3, g4, g5, g6, g7, g8, g9⟩ := kp_row hg hi
    obtain ⟨ids', rows', h1, h2, h3, h4, h5, h6, h7, -⟩ := id hg
    (repeat (first | refine pm_W.ts rfl rfl ?_ | refine pm_W.tl rfl rfl ?_ | refine pm_W.get rfl rfl h1 rfl ?_))
    refine pm_W.aald rfl g3 (pm_ix_ok (j := i) (by omega) (by omega)) (by decide) ?_
    rw [g5]
    obtain ⟨ys, r1, -⟩ := id g8
    refine pm_W.callV (d' := 0) rfl rfl rfl rfl (fr_ble rfl) r1 (fr_ble rfl) (ct_B_clear g8 (fun h2 hb2 hag2 => ?_))
    have h1' := hag2.at (by omega) h1
    (repeat (first | refine pm_W.ts rfl rfl ?_ | refine pm_W.tl rfl rfl ?_ | refine pm_W.get rfl rfl h1' rfl ?_))
    refine pm_W.aald rfl (hag2.at (by omega) g3) (pm_ix_ok (j := i) (by omega) (by omega)) (by decide) ?_
    rw [g5]
    (repeat (first | refine pm_W.ts rfl rfl ?_ | refine pm_W.tl rfl rfl ?_))
    obtain ⟨zs, r2, -⟩ := id hb2
    have ho2 := (ho.ag hag (by omega)).ag hag2 (by omega)
    refine pm_W.callV rfl rfl rfl rfl (fr_ble rfl) r2 (fr_ble rfl) (ct_B_addFrom hb2 ho2 (by omega) (by simpa using hn) (fun h3 hb3 hag3 => ?_))
    exact pm_W.ret rfl rfl (k h3 (g9 _ _ hb3 (hag2.tr hag3)) ((hag.tr (hag2.wide (by omega) (by omega))).tr (hag3.wide (by omega) (by omega))))
  obtain ⟨ids, rows, h1, h2, h3, h4, h5, h6, h7, h8, h9, h10⟩ := id hb
  unfold pm_X
  (repeat (first | refine pm_W.ts rfl rfl ?_ | refine pm_W.tl rfl rfl ?_))
  refine pm_W.callV (d' := 0) rfl rfl rfl rfl (fr_ble rfl) h1 (fr_ble rfl) (ct_K_placeOf hb (fun i hi hw hj => ?_) (fun hn0 => ?_))
  · (repeat (first | refine pm_W.ts rfl rfl ?_ | refine pm_W.tl rfl rfl ?_))
    refine pm_W.icmp rfl (fun c => ?_) (fun c => ?_)
    · exact tail h L i hb hi fr_ag.rf (fun h' hb' hag' => k1 i hi hw hj h' (by rw [hw] at hb'; exact hb') hag')
    · have c : ¬ ¬ nI i = Int32.ofInt (-1) := c
      have c := Classical.not_not.mp c
      have c2 : (nI i).toInt = -1 := by rw [c]; rfl
      rw [nI_toInt (by omega)] at c2
      omega
  · (repeat (first | refine pm_W.ts rfl rfl ?_ | refine pm_W.tl rfl rfl ?_))
    refine pm_W.icmp rfl (fun c => ?_) (fun c => ?_)
    · exact absurd rfl c
    · (repeat (first | refine pm_W.ts rfl rfl ?_ | refine pm_W.tl rfl rfl ?_))
      refine pm_W.callV rfl rfl rfl rfl (fr_ble rfl) h1 (fr_ble rfl) (ct_K_placeForNew hb hr (fun h2 bs hb2 hag2 => ?_))
      (iterate 1 (first | refine pm_W.ts rfl rfl ?_ | refine pm_W.tl rfl rfl ?_))
      refine tail h2 _ (kp_room room L).length hb2 (by simp) (hag2.wide (by omega) (by omega)) (fun h' hb' hag' => k0 hn0 h' ?_ hag')
      rw [kp_i_app] at hb'
      simpa using hb'
theorem ct_K_goodBytes {n : Nat} {w : Int32} (hb : kp_R h a room L) (hn : n ≤ 1000) (k1 : ∀ i r, i < L.length → kp_i L i = w → (∀ j, j < i → kp_i L j ≠ w) → (kp_b L i).length = n → bt_id (kp_b L i) 0 n = w → a + 3 ≤ r → r + 2 ≤ a + 3 + 2 * room → bt_R h r 32 (kp_b L i) → Q (some (.ref r)) h)
    (k0 : (∀ i, i < L.length → kp_i L i = w → (∀ j, j < i → kp_i L j ≠ w) → ¬ ((kp_b L i).length = n ∧ bt_id (kp_b L i) 0 n = w)) → Q (some .null) h) : pm_X xs 3 mK_goodBytes [.ref a, .int w, .int (nI n)] h Q := by
  obtain ⟨ids, rows, h1, h2, h3, h4, h5, h6, h7, h8, h9, h10⟩ := id hb
  unfold pm_X
  (repeat (first | refine pm_W.ts rfl rfl ?_ | refine pm_W.tl rfl rfl ?_))
  refine pm_W.callV rfl rfl rfl rfl (fr_ble rfl) h1 (fr_ble rfl) (ct_K_bytesUnder hb (fun i r hi hw hj hr1 hr2 hbr _ => ?_) (fun hn0 => ?_))
  · have bad : ¬ ((kp_b L i).length = n ∧ bt_id (kp_b L i) 0 n = w) → Q (some .null) h := fun q => k0 (fun i2 hi2 hw2 hj2 => by
      have : i2 = i := by
        rcases Nat.lt_trichotomy i2 i with z | z | z
        · exact absurd hw2 (hj i2 z)
        · exact z
        · exact absurd hw (hj2 i z)
      rw [this]
      exact q)
    obtain ⟨ys, r1, r2, r3, r4, r5, r6⟩ := id hbr
    (repeat (first | refine pm_W.ts rfl rfl ?_ | refine pm_W.tl rfl rfl ?_))
    refine pm_W.ifnullR rfl ?_
    (repeat (first | refine pm_W.ts rfl rfl ?_ | refine pm_W.tl rfl rfl ?_))
    refine pm_W.callV (d' := 0) rfl rfl rfl rfl (fr_ble rfl) r1 (fr_ble rfl) (ct_B_count hbr ?_)
    (repeat (first | refine pm_W.ts rfl rfl ?_ | refine pm_W.tl rfl rfl ?_))
    refine pm_W.icmp rfl (fun c => ?_) (fun c => ?_)
    · have c : ¬ nI (kp_b L i).length = nI n := c
      rw [nI_eq (by omega) (by omega)] at c
      (repeat (first | refine pm_W.ts rfl rfl ?_ | refine pm_W.tl rfl rfl ?_))
      refine pm_W.ifz rfl (fun c2 => ?_) (fun c2 => absurd rfl c2)
      (repeat (first | refine pm_W.ts rfl rfl ?_ | refine pm_W.tl rfl rfl ?_))
      exact pm_W.aretN rfl rfl (bad (fun z => c z.1))
    · have c : ¬ ¬ nI (kp_b L i).length = nI n := c
      have c := Classical.not_not.mp c
      rw [nI_eq (by omega) (by omega)] at c
      (repeat (first | refine pm_W.ts rfl rfl ?_ | refine pm_W.tl rfl rfl ?_))
      refine pm_W.callV rfl rfl rfl rfl (fr_ble rfl) r1 (fr_ble rfl) (ct_B_idOf hbr hn ?_)
      (repeat (first | refine pm_W.ts rfl rfl ?_ | refine pm_W.tl rfl rfl ?_))
      refine pm_W.icmp rfl (fun c2 => ?_) (fun c2 => ?_)
      · have c2 : ¬ bt_id (kp_b L i) 0 n = w := c2
        (repeat (first | refine pm_W.ts rfl rfl ?_ | refine pm_W.tl rfl rfl ?_))
        refine pm_W.ifz rfl (fun c3 => ?_) (fun c3 => absurd rfl c3)
        (repeat (first | refine pm_W.ts rfl rfl ?_ | refine pm_W.tl rfl rfl ?_))
        exact pm_W.aretN rfl rfl (bad (fun z => c2 z.2))
      · have c2 : ¬ ¬ bt_id (kp_b L i) 0 n = w := c2
        (repeat (first | refine pm_W.ts rfl rfl ?_ | refine pm_W.tl rfl rfl ?_))
        refine pm_W.goto rfl ?_
        (repeat (first | refine pm_W.ts rfl rfl ?_ | refine pm_W.tl rfl rfl ?_))
        refine pm_W.ifz rfl (fun c3 => absurd (show Int32.ofInt 1 = 0 from c3) (by decide)) (fun c3 => ?_)
        (repeat (first | refine pm_W.ts rfl rfl ?_ | refine pm_W.tl rfl rfl ?_))
        refine pm_W.goto rfl ?_
        exact pm_W.aretR rfl rfl (k1 i r hi hw hj c (Classical.not_not.mp c2) hr1 hr2 hbr)
  · (repeat (first | refine pm_W.ts rfl rfl ?_ | refine pm_W.tl rfl rfl ?_))
    refine pm_W.ifnullN rfl ?_
    (repeat (first | refine pm_W.ts rfl rfl ?_ | refine pm_W.tl rfl rfl ?_))
    refine pm_W.ifz rfl (fun c2 => ?_) (fun c2 => absurd rfl c2)
    (repeat (first | refine pm_W.ts rfl rfl ?_ | refine pm_W.tl rfl rfl ?_))
    exact pm_W.aretN rfl rfl (k0 (fun i hi hw _ => absurd hw (hn0 i hi)))
def kp_sum (L : List (Int32 × List Int32)) : Nat → Nat
  | 0 => 0
  | n + 1 => kp_sum L n + (kp_b L n).length
theorem kp_sum_le (hb : kp_R h a room L) : ∀ n, n ≤ L.length → kp_sum L n ≤ 32 * n := by
  intro n
  induction n with
  | zero => intro _; exact Nat.le_refl _
  | succ n ih =>
    intro hn
    have i1 := ih (by omega)
    obtain ⟨rows, r, -, -, -, -, -, ⟨ys, -, -, -, -, g, -⟩, -⟩ := kp_row hb (i := n) (by omega)
    show kp_sum L n + (kp_b L n).length ≤ _
    omega
theorem ct_K_bytesInAll (hb : kp_R h a room L) (k : Q (some (.int (nI (kp_sum L L.length)))) h) : pm_X xs 1 mK_bytesInAll [.ref a] h Q := by
  obtain ⟨ids, rows, h1, h2, h3, h4, h5, h6, h7, h8, h9, h10⟩ := id hb
  have loop : ∀ (r i : Nat), i + r = L.length → pm_W xs 1 mK_bytesInAll 4 [.ref a, .int (nI (kp_sum L i)), .int (nI i)] [] h Q := by
    intro r
    induction r with
    | zero =>
      intro i hi
      (repeat (first | refine pm_W.ts rfl rfl ?_ | refine pm_W.tl rfl rfl ?_ | refine pm_W.get rfl rfl h1 rfl ?_))
      refine pm_W.icmp rfl (fun c => ?_) (fun c => ?_)
      · (repeat (first | refine pm_W.ts rfl rfl ?_ | refine pm_W.tl rfl rfl ?_ | refine pm_W.get rfl rfl h1 rfl ?_))
        have hi : i = L.length := by omega
        subst hi
        exact pm_W.iret rfl rfl k
      · have c : ¬ nI L.length ≤ nI i := c
        rw [nI_leI (by omega) (by omega)] at c
        omega
    | succ r ih =>
      intro i hi
      (repeat (first | refine pm_W.ts rfl rfl ?_ | refine pm_W.tl rfl rfl ?_ | refine pm_W.get rfl rfl h1 rfl ?_))
      refine pm_W.icmp rfl (fun c => ?_) (fun c => ?_)
      · have c : nI L.length ≤ nI i := c
        rw [nI_leI (by omega) (by omega)] at c
        omega
      · (repeat (first | refine pm_W.ts rfl rfl ?_ | refine pm_W.tl rfl rfl ?_ | refine pm_W.get rfl rfl h1 rfl ?_))
        obtain ⟨rows', r', g3, g4, g5, g6, g7, g8, g9⟩ := kp_row hb (i := i) (by omega)
        refine pm_W.aald rfl g3 (pm_ix_ok (j := i) (by omega) (by omega)) (by decide) ?_
        rw [g5]
        obtain ⟨ys, r1, -⟩ := id g8
        refine pm_W.callV rfl rfl rfl rfl (fr_ble rfl) r1 (fr_ble rfl) (ct_B_count g8 ?_)
        (repeat (first | refine pm_W.ts rfl rfl ?_ | refine pm_W.tl rfl rfl ?_))
        refine pm_W.goto rfl ?_
        have := ih (i + 1) (by omega)
        rw [← fr_inc, show kp_sum L (i + 1) = kp_sum L i + (kp_b L i).length from rfl, ← nI_add] at this
        exact this
  unfold pm_X
  (iterate 4 (first | refine pm_W.ts rfl rfl ?_ | refine pm_W.tl rfl rfl ?_))
  exact loop L.length 0 (by omega)
end KEEP3
end
section
def sd_R (h : pm_H) (a : Nat) (bs : List Int32) (ps : List (Nat × Int32)) : Prop := h.1[a]? = some (.inr (.inr (kS, [.ref (a + 1), .ref (a + 3)]))) ∧ bt_R h (a + 1) 117 bs ∧ pl_R h (a + 3) ps
theorem sd_R.ag {h h' : pm_H} {a lo hi : Nat} {bs : List Int32} {ps : List (Nat × Int32)} (hb : sd_R h a bs ps) (e : fr_ag lo hi h h') (hd : a + 6 ≤ lo ∨ hi ≤ a) : sd_R h' a bs ps := ⟨e.at (by omega) hb.1, hb.2.1.ag e (by omega), hb.2.2.ag e (by omega)⟩
section SEED
variable {xs : List Int32} {h : pm_H} {a : Nat} {bs : List Int32} {ps : List (Nat × Int32)} {Q : Option Value → pm_H → Prop}
theorem ct_S_bytes (hb : sd_R h a bs ps) (k : Q (some (.ref (a + 1))) h) : pm_X xs 0 mS_bytes [.ref a] h Q := by
  obtain ⟨h1, h2, h3⟩ := hb
  unfold pm_X
  (repeat (first | refine pm_W.ts rfl rfl ?_ | refine pm_W.tl rfl rfl ?_ | refine pm_W.get rfl rfl h1 rfl ?_))
  exact pm_W.aretR rfl rfl k
theorem ct_S_cutWith {c : Nat} {z : cz_N} (hb : sd_R h a bs ps) (hc : cz_R h c z) (hz : cz_ok z) (hl : bs.length ≤ 117) (hd : c < a ∨ a + 6 ≤ c)
    (k : ∀ h' : pm_H, sd_R h' a bs (cz_cut z bs bs.length).1 → fr_ag a (a + 6) h h' → Q (some (.int (nI (cz_cut z bs bs.length).1.length))) h') : pm_X xs 5 mS_cutWith [.ref a, .ref c] h Q := by
  obtain ⟨h1, h2, h3⟩ := hb
  unfold pm_X
  (repeat (first | refine pm_W.ts rfl rfl ?_ | refine pm_W.tl rfl rfl ?_ | refine pm_W.get rfl rfl h1 rfl ?_))
  refine pm_W.callV rfl rfl rfl rfl (fr_ble rfl) hc (fr_ble rfl) (ct_C_cut hc hz h2 hl h3 (by omega) (by omega) (fun h' hp hag => ?_))
  have h1' := hag.at (by omega) h1
  (repeat (first | refine pm_W.ts rfl rfl ?_ | refine pm_W.tl rfl rfl ?_ | refine pm_W.get rfl rfl h1' rfl ?_))
  obtain ⟨es, is, q1, -⟩ := id hp
  refine pm_W.callV (d' := 0) rfl rfl rfl rfl (fr_ble rfl) q1 (fr_ble rfl) (ct_P_count hp ?_)
  exact pm_W.iret rfl rfl (k h' ⟨h1', h2.ag hag (by omega), hp⟩ (hag.wide (by omega) (by omega)))
def sd_g (bs : List Int32) (ps : List (Nat × Int32)) (w : Int32) (n i : Nat) : Prop := pl_i ps i = w ∧ pl_n ps i = nI n ∧ bt_id bs (nI (pl_s ps i)) n = w
theorem ct_S_startOfGood {w : Int32} {n : Nat} (hb : sd_R h a bs ps) (hn : n ≤ 1000) (k1 : ∀ i, i < ps.length → sd_g bs ps w n i → (∀ j, j < i → ¬ sd_g bs ps w n j) → Q (some (.int (nI (pl_s ps i)))) h) (k0 : (∀ j, j < ps.length → ¬ sd_g bs ps w n j) → Q (some (.int (-1))) h) : pm_X xs 3 mS_startOfGood [.ref a, .int w, .int (nI n)] h Q := by
  obtain ⟨h1, h2, h3⟩ := hb
  obtain ⟨es, is, q1, q2, q3, q4, q5, q6, q7, q8⟩ := id h3
  obtain ⟨ys, b1, -⟩ := id h2
  have loop : ∀ (r i : Nat) (v : Value), i + r = ps.length → (∀ j, j < i → ¬ sd_g bs ps w n j) → pm_W xs 3 mS_startOfGood 2 [.ref a, .int w, .int (nI n), .int (nI i), v] [] h Q := by
    intro r
    induction r with
    | zero =>
      intro i v hi hj
      (repeat (first | refine pm_W.ts rfl rfl ?_ | refine pm_W.tl rfl rfl ?_ | refine pm_W.get rfl rfl h1 rfl ?_))
      refine pm_W.callV (d' := 0) rfl rfl rfl rfl (fr_ble rfl) q1 (fr_ble rfl) (ct_P_count h3 ?_)
      refine pm_W.icmp rfl (fun c => ?_) (fun c => ?_)
      · (repeat (first | refine pm_W.ts rfl rfl ?_ | refine pm_W.tl rfl rfl ?_ | refine pm_W.get rfl rfl h1 rfl ?_))
        exact pm_W.iret rfl rfl (k0 (by rw [← hi]; exact hj))
      · have c : ¬ nI ps.length ≤ nI i := c
        rw [nI_leI (by omega) (by omega)] at c
        omega
    | succ r ih =>
      intro i v hi hj
      have next : ¬ sd_g bs ps w n i → pm_W xs 3 mS_startOfGood 64 [.ref a, .int w, .int (nI n), .int (nI i), .int (nI (pl_s ps i))] [] h Q := by
        intro c2
        (repeat (first | refine pm_W.ts rfl rfl ?_ | refine pm_W.tl rfl rfl ?_))
        refine pm_W.goto rfl ?_
        have := ih (i + 1) (.int (nI (pl_s ps i))) (by omega) (fun j hj2 => by
          by_cases hji : j = i
          · rw [hji]; exact c2
          · exact hj j (by omega))
        rw [← fr_inc] at this
        exact this
      (repeat (first | refine pm_W.ts rfl rfl ?_ | refine pm_W.tl rfl rfl ?_ | refine pm_W.get rfl rfl h1 rfl ?_))
      refine pm_W.callV (d' := 0) rfl rfl rfl rfl (fr_ble rfl) q1 (fr_ble rfl) (ct_P_count h3 ?_)
      refine pm_W.icmp rfl (fun c => ?_) (fun c => ?_)
      · have c : nI ps.length ≤ nI i := c
        rw [nI_leI (by omega) (by omega)] at c
        omega
      · (repeat (first | refine pm_W.ts rfl rfl ?_ | refine pm_W.tl rfl rfl ?_ | refine pm_W.get rfl rfl h1 rfl ?_))
        refine pm_W.callV (d' := 1) rfl rfl rfl rfl (fr_ble rfl) q1 (fr_ble rfl) (ct_P_startOf h3 (by omega) ?_)
        (repeat (first | refine pm_W.ts rfl rfl ?_ | refine pm_W.tl rfl rfl ?_ | refine pm_W.get rfl rfl h1 rfl ?_))
        refine pm_W.callV (d' := 1) rfl rfl rfl rfl (fr_ble rfl) q1 (fr_ble rfl) (ct_P_idOf h3 (by omega) ?_)
        (repeat (first | refine pm_W.ts rfl rfl ?_ | refine pm_W.tl rfl rfl ?_ | refine pm_W.get rfl rfl h1 rfl ?_))
        refine pm_W.icmp rfl (fun c2 => ?_) (fun c2 => ?_)
        · have c2 : ¬ pl_i ps i = w := c2
          exact next (fun z => c2 z.1)
        · have c2 : ¬ ¬ pl_i ps i = w := c2
          (repeat (first | refine pm_W.ts rfl rfl ?_ | refine pm_W.tl rfl rfl ?_ | refine pm_W.get rfl rfl h1 rfl ?_))
          refine pm_W.callV rfl rfl rfl rfl (fr_ble rfl) q1 (fr_ble rfl) (ct_P_lengthOf h3 (by omega) ?_)
          (repeat (first | refine pm_W.ts rfl rfl ?_ | refine pm_W.tl rfl rfl ?_ | refine pm_W.get rfl rfl h1 rfl ?_))
          refine pm_W.icmp rfl (fun c3 => ?_) (fun c3 => ?_)
          · have c3 : ¬ pl_n ps i = nI n := c3
            exact next (fun z => c3 z.2.1)
          · have c3 : ¬ ¬ pl_n ps i = nI n := c3
            (repeat (first | refine pm_W.ts rfl rfl ?_ | refine pm_W.tl rfl rfl ?_ | refine pm_W.get rfl rfl h1 rfl ?_))
            refine pm_W.callV rfl rfl rfl rfl (fr_ble rfl) b1 (fr_ble rfl) (ct_B_idOf h2 hn ?_)
            (repeat (first | refine pm_W.ts rfl rfl ?_ | refine pm_W.tl rfl rfl ?_ | refine pm_W.get rfl rfl h1 rfl ?_))
            refine pm_W.icmp rfl (fun c4 => ?_) (fun c4 => ?_)
            · have c4 : ¬ bt_id bs (nI (pl_s ps i)) n = w := c4
              exact next (fun z => c4 z.2.2)
            · have c4 : ¬ ¬ bt_id bs (nI (pl_s ps i)) n = w := c4
              (repeat (first | refine pm_W.ts rfl rfl ?_ | refine pm_W.tl rfl rfl ?_ | refine pm_W.get rfl rfl h1 rfl ?_))
              exact pm_W.iret rfl rfl (k1 i (by omega) ⟨Classical.not_not.mp c2, Classical.not_not.mp c3, Classical.not_not.mp c4⟩ hj)
  unfold pm_X
  (iterate 2 (first | refine pm_W.ts rfl rfl ?_ | refine pm_W.tl rfl rfl ?_))
  exact loop ps.length 0 pm_none (by omega) (fun j hj => by omega)
end SEED
theorem fr_div {a b : Nat} (ha : a < 2 ^ 31) (hb : b < 2 ^ 31) : nI a / nI b = nI (a / b) := by
  apply Int32.toInt_inj.mp
  have h1 : a / b ≤ a := Nat.div_le_self a b
  rw [Jvm.Kit.i32_div (by rw [nI_toInt ha]; omega), nI_toInt ha, nI_toInt hb, nI_toInt (by omega), Int.tdiv_eq_ediv_of_nonneg (by omega)]
  exact (Int.natCast_ediv a b).symm
def rt_j (p q : Int32) : Int32 := (p * 31 + q) ^^^ pm_ushr q 7
def rt_at (l : List Int32) (j : Nat) : Int32 := if 2 * j + 1 < l.length then rt_j (l.getD (2 * j) 0) (l.getD (2 * j + 1) 0) else l.getD (2 * j) 0
def rt_up (l : List Int32) : List Int32 := (List.range ((l.length + 1) / 2)).map (rt_at l)
def rt_root : Nat → List Int32 → Int32
  | 0, l => l.getD 0 0
  | f + 1, l => if 1 < l.length then rt_root f (rt_up l) else l.getD 0 0
theorem rt_up_len {l : List Int32} : (rt_up l).length = (l.length + 1) / 2 := by simp [rt_up]
theorem rt_up_at {l : List Int32} {j : Nat} (hj : j < (l.length + 1) / 2) : (rt_up l).getD j 0 = rt_at l j := by
  simp [rt_up, hj]
def rt_S (l A : List Int32) (j : Nat) : Prop := (∀ t, t < j → A.getD t 0 = rt_at l t) ∧ ∀ t, 2 * j ≤ t → t < l.length → A.getD t 0 = l.getD t 0
theorem rt_S0 {l A : List Int32} (h : ∀ t, t < l.length → A.getD t 0 = l.getD t 0) : rt_S l A 0 := ⟨fun t ht => by omega, fun t _ ht => h t ht⟩
theorem fr_getD_set {A : List Int32} {j t : Nat} {x : Int32} (hj : j < A.length) : (A.set j x).getD t 0 = if t = j then x else A.getD t 0 := by
  by_cases h : t = j
  · subst h; simp [hj]
  · rw [if_neg h, List.getD_eq_getElem?_getD, List.getElem?_set_ne (fun z => h z.symm), List.getD_eq_getElem?_getD]
theorem rt_S1 {l A : List Int32} {j : Nat} (h : rt_S l A j) (hj : 2 * j < l.length) (hA : l.length ≤ A.length) : rt_S l (A.set j (if 2 * j + 1 < l.length then rt_j (A.getD (2 * j) 0) (A.getD (2 * j + 1) 0) else A.getD (2 * j) 0)) (j + 1) := by
  refine ⟨fun t ht => ?_, fun t h1 h2 => ?_⟩
  · rw [fr_getD_set (by omega)]
    by_cases e : t = j
    · rw [if_pos e, e]
      unfold rt_at
      by_cases c : 2 * j + 1 < l.length
      · rw [if_pos c, if_pos c, h.2 _ (Nat.le_refl _) hj, h.2 _ (by omega) c]
      · rw [if_neg c, if_neg c, h.2 _ (Nat.le_refl _) hj]
    · rw [if_neg e]
      exact h.1 t (by omega)
  · rw [fr_getD_set (by omega), if_neg (by omega)]
    exact h.2 t (by omega) h2
section ROOT
variable {xs : List Int32} {h : pm_H} {a : Nat} {ps : List (Nat × Int32)} {Q : Option Value → pm_H → Prop}
theorem ct_P_joined {p q : Int32} (k : Q (some (.int (rt_j p q))) h) : pm_X xs 0 mP_joined [.int p, .int q] h Q := by
  unfold pm_X
  (repeat (first | refine pm_W.ts rfl rfl ?_ | refine pm_W.tl rfl rfl ?_))
  exact pm_W.iret rfl rfl k
theorem ct_P_joinPairs {l A : List Int32} (hA : h.1[a]? = some (.inl (false, A))) (hl : l.length ≤ A.length) (hA2 : A.length ≤ 100) (hs : ∀ t, t < l.length → A.getD t 0 = l.getD t 0)
    (k : ∀ A' : List Int32, A'.length = A.length → (∀ t, t < (l.length + 1) / 2 → A'.getD t 0 = (rt_up l).getD t 0) → Q none (h.1.set a (.inl (false, A')), h.2)) : pm_X xs 1 mP_joinPairs [.ref a, .int (nI l.length)] h Q := by
  have loop : ∀ (r j : Nat) (A' : List Int32) (g : pm_H), 2 * j + r = l.length + 1 → A'.length = A.length → rt_S l A' j → g = (h.1.set a (.inl (false, A')), h.2) → pm_W xs 1 mP_joinPairs 2 [.ref a, .int (nI l.length), .int (nI (2 * j))] [] g Q := by
    intro r
    induction r using Nat.strongRecOn with
    | ind r ih =>
      intro j A' g hr hA' hS hg
      have hgA : g.1[a]? = some (.inl (false, A')) := by rw [hg]; exact fr_set hA
      (repeat (first | refine pm_W.ts rfl rfl ?_ | refine pm_W.tl rfl rfl ?_))
      refine pm_W.icmp rfl (fun c => ?_) (fun c => ?_)
      · have c : nI l.length ≤ nI (2 * j) := c
        rw [nI_leI (by omega) (by omega)] at c
        rw [hg]
        exact pm_W.ret rfl rfl (k A' hA' (fun t ht => by rw [rt_up_at ht]; exact hS.1 t (by omega)))
      · have c : ¬ nI l.length ≤ nI (2 * j) := c
        rw [nI_leI (by omega) (by omega)] at c
        have e1 : nI (2 * j) / Int32.ofInt 2 = nI j := by
          have := fr_div (a := 2 * j) (b := 2) (by omega) (by omega)
          rw [show 2 * j / 2 = j by omega] at this
          exact this
        have e2 : nI (2 * j) + Int32.ofInt 1 = nI (2 * j + 1) := fr_inc _
        have e3 : nI (2 * j) + Int32.ofInt 2 = nI (2 * (j + 1)) := nI_add (2 * j) 2
        have fin : ∀ x : Int32, x = (if 2 * j + 1 < l.length then rt_j (A'.getD (2 * j) 0) (A'.getD (2 * j + 1) 0) else A'.getD (2 * j) 0) → pm_W xs 1 mP_joinPairs 35 [.ref a, .int (nI l.length), .int (nI (2 * j))] [.int x, .int (nI j), .ref a] g Q := by
          intro x hx
          refine pm_W.iast rfl hgA (pm_ix_ok (j := j) (by omega) (by omega)) ?_
          (repeat (first | refine pm_W.ts rfl rfl ?_ | refine pm_W.tl rfl rfl ?_))
          refine pm_W.goto rfl ?_
          rw [e3]
          refine ih (r - 2) (by omega) (j + 1) (A'.set j x) _ (by omega) (by rw [List.length_set]; exact hA') (by rw [hx]; exact rt_S1 hS (by omega) (by omega)) ?_
          rw [hg]
          show (List.set (h.1.set a _) a _, h.2) = _
          rw [List.set_set]
        (iterate 3 (first | refine pm_W.ts rfl rfl ?_ | refine pm_W.tl rfl rfl ?_))
        refine pm_W.idiv rfl (by decide) ?_
        rw [e1]
        (repeat (first | refine pm_W.ts rfl rfl ?_ | refine pm_W.tl rfl rfl ?_))
        rw [e2]
        refine pm_W.icmp rfl (fun c2 => ?_) (fun c2 => ?_)
        · have c2 : nI l.length ≤ nI (2 * j + 1) := c2
          rw [nI_leI (by omega) (by omega)] at c2
          (repeat (first | refine pm_W.ts rfl rfl ?_ | refine pm_W.tl rfl rfl ?_))
          refine pm_W.iald rfl hgA (pm_ix_ok (j := 2 * j) (by omega) (by omega)) ?_
          exact fin _ (by rw [if_neg (by omega)])
        · have c2 : ¬ nI l.length ≤ nI (2 * j + 1) := c2
          rw [nI_leI (by omega) (by omega)] at c2
          (repeat (first | refine pm_W.ts rfl rfl ?_ | refine pm_W.tl rfl rfl ?_))
          refine pm_W.iald rfl hgA (pm_ix_ok (j := 2 * j) (by omega) (by omega)) ?_
          (repeat (first | refine pm_W.ts rfl rfl ?_ | refine pm_W.tl rfl rfl ?_))
          rw [e2]
          refine pm_W.iald rfl hgA (pm_ix_ok (j := 2 * j + 1) (by omega) (by omega)) ?_
          refine pm_W.callS (d' := 0) rfl rfl rfl rfl (fr_ble rfl) (fr_ble rfl) (ct_P_joined ?_)
          refine pm_W.goto rfl ?_
          exact fin _ (by rw [if_pos (by omega)])
  unfold pm_X
  (iterate 2 (first | refine pm_W.ts rfl rfl ?_ | refine pm_W.tl rfl rfl ?_))
  refine loop (l.length + 1) 0 A h (by omega) rfl (rt_S0 hs) ?_
  have hl2 : a < h.1.length := (List.getElem?_eq_some_iff.mp hA).1
  have e := (List.getElem?_eq_some_iff.mp hA).2
  rw [← e, List.set_getElem_self]
theorem ct_P_rootId (hb : pl_R h a ps) (hp : 0 < ps.length) (k : ∀ A : List Int32, Q (some (.int (rt_root 15 (ps.map (fun q => q.2))))) (h.1 ++ [.inl (false, A)], h.2 + 15)) : pm_X xs 2 mP_rootId [.ref a] h Q := by
  obtain ⟨es, is, h1, h2, h3, h4, h5, h6, h7, h8⟩ := hb
  have hlast : ∀ A : List Int32, (h.1 ++ [.inl (false, A)])[h.1.length]? = some (.inl (false, A)) := fun A => by simp
  have hset : ∀ A A' : List Int32, (h.1 ++ [(.inl (false, A) : pm_C)]).set h.1.length (.inl (false, A')) = h.1 ++ [.inl (false, A')] := fun A A' => by simp
  have loop : ∀ (f : Nat) (l A : List Int32), l.length ≤ f + 1 → 0 < l.length → A.length = 15 → l.length ≤ 15 → (∀ t, t < l.length → A.getD t 0 = l.getD t 0) → rt_root f l = rt_root 15 (ps.map (fun q => q.2)) → pm_W xs 2 mP_rootId 16 [.ref a, .ref h.1.length, .int (nI l.length)] [] (h.1 ++ [.inl (false, A)], h.2 + 15) Q := by
    intro f
    induction f with
    | zero =>
      intro l A hf h0 hA hl hs hr
      (repeat (first | refine pm_W.ts rfl rfl ?_ | refine pm_W.tl rfl rfl ?_))
      refine pm_W.icmp rfl (fun c => ?_) (fun c => ?_)
      · (repeat (first | refine pm_W.ts rfl rfl ?_ | refine pm_W.tl rfl rfl ?_))
        refine pm_W.iald (j := nI 0) rfl (hlast A) (pm_ix_ok (j := 0) (by omega) (by omega)) ?_
        refine pm_W.iret rfl rfl ?_
        rw [hs 0 h0, show l.getD 0 0 = rt_root 0 l from rfl, hr]
        exact k A
      · have c : ¬ nI l.length ≤ nI 1 := c
        rw [nI_leI (by omega) (by omega)] at c
        omega
    | succ f ih =>
      intro l A hf h0 hA hl hs hr
      (repeat (first | refine pm_W.ts rfl rfl ?_ | refine pm_W.tl rfl rfl ?_))
      refine pm_W.icmp rfl (fun c => ?_) (fun c => ?_)
      · have c : nI l.length ≤ nI 1 := c
        rw [nI_leI (by omega) (by omega)] at c
        (repeat (first | refine pm_W.ts rfl rfl ?_ | refine pm_W.tl rfl rfl ?_))
        refine pm_W.iald (j := nI 0) rfl (hlast A) (pm_ix_ok (j := 0) (by omega) (by omega)) ?_
        refine pm_W.iret rfl rfl ?_
        rw [hs 0 h0, show l.getD 0 0 = rt_root (f + 1) l from by rw [rt_root, if_neg (by omega)], hr]
        exact k A
      · have c : ¬ nI l.length ≤ nI 1 := c
        rw [nI_leI (by omega) (by omega)] at c
        (repeat (first | refine pm_W.ts rfl rfl ?_ | refine pm_W.tl rfl rfl ?_))
        refine pm_W.callS rfl rfl rfl rfl (fr_ble rfl) (fr_ble rfl) (ct_P_joinPairs (hlast A) (by omega) (by omega) hs (fun A' hA' hs' => ?_))
        have e3 : nI l.length + Int32.ofInt 1 = nI (l.length + 1) := fr_inc _
        have e4 : nI (l.length + 1) / Int32.ofInt 2 = nI (rt_up l).length := by
          rw [rt_up_len]
          exact fr_div (b := 2) (by omega) (by omega)
        (iterate 3 (first | refine pm_W.ts rfl rfl ?_ | refine pm_W.tl rfl rfl ?_))
        rw [e3]
        (iterate 1 (first | refine pm_W.ts rfl rfl ?_ | refine pm_W.tl rfl rfl ?_))
        refine pm_W.idiv rfl (by decide) ?_
        rw [e4]
        (iterate 1 (first | refine pm_W.ts rfl rfl ?_ | refine pm_W.tl rfl rfl ?_))
        refine pm_W.goto rfl ?_
        have hlen := rt_up_len (l := l)
        have := ih (rt_up l) A' (by omega) (by omega) (by omega) (by omega) (fun t ht => hs' t (by omega)) (by rw [← hr, show rt_root (f + 1) l = rt_root f (rt_up l) from by rw [rt_root, if_pos (by omega)]])
        rw [← hset A A'] at this
        exact this
  unfold pm_X
  (repeat (first | refine pm_W.ts rfl rfl ?_ | refine pm_W.tl rfl rfl ?_ | refine pm_W.get rfl rfl h1 rfl ?_))
  refine pm_W.clone rfl rfl rfl rfl h3 ?_
  refine pm_W.cast rfl rfl (hlast is) ?_
  have h1' : (h.1 ++ [.inl (false, is)])[a]? = some (.inr (.inr (kP, [Value.ref (a + 1), .ref (a + 2), .int (nI ps.length)]))) := by
    rw [List.getElem?_append_left (List.getElem?_eq_some_iff.mp h1).1]
    exact h1
  (iterate 4 (first | refine pm_W.ts rfl rfl ?_ | refine pm_W.tl rfl rfl ?_ | refine pm_W.get rfl rfl h1' rfl ?_))
  rw [h5]
  have := loop 15 (ps.map (fun q => q.2)) is (by simp; omega) (by simpa using hp) h5 (by simpa using h8) (fun t ht => by
    rw [List.length_map] at ht
    rw [pl_getI h7 ht]
    simp [pl_i, ht]) rfl
  rw [List.length_map] at this
  exact this
end ROOT
end
section
theorem fr_u (n : Nat) : (nI n).toUInt32 = UInt32.ofNat n := rfl
theorem fr_toI (y : UInt32) : y.toInt32 = nI y.toNat := by
  show (⟨y⟩ : Int32) = ⟨UInt32.ofNat y.toNat⟩
  rw [UInt32.ofNat_toNat]
theorem fr_any (x : Int32) : ∃ p : Nat, p < 2 ^ 32 ∧ x = nI p := ⟨x.toUInt32.toNat, x.toUInt32.toNat_lt, by
  rw [← fr_toI]
  rfl⟩
theorem fr_ushr {p j : Nat} (hp : p < 2 ^ 32) (hj : j < 32) : pm_ushr (nI p) (nI j) = nI (p / 2 ^ j) := by
  unfold pm_ushr
  rw [fr_toI]
  congr 1
  rw [fr_u, fr_u, UInt32.toNat_shiftRight, UInt32.toNat_and]
  have h1 : (UInt32.ofNat p).toNat = p := by rw [UInt32.toNat_ofNat']; omega
  have h2 : (UInt32.ofNat j).toNat = j := by rw [UInt32.toNat_ofNat']; omega
  have h3 : (Int32.toUInt32 31).toNat = 2 ^ 5 - 1 := rfl
  rw [h1, h2, h3, Nat.and_two_pow_sub_one_eq_mod, Nat.shiftRight_eq_div_pow]
  congr 2
  omega
theorem fr_and (a b : Nat) : nI a &&& nI b = nI (a &&& b) := by
  apply Int32.toBitVec_inj.mp
  show BitVec.ofNat 32 a &&& BitVec.ofNat 32 b = BitVec.ofNat 32 (a &&& b)
  apply BitVec.eq_of_toNat_eq
  simp only [BitVec.toNat_and, BitVec.toNat_ofNat, Nat.and_mod_two_pow]
theorem fr_mask {a : Nat} (j : Nat) : nI a &&& nI (2 ^ j - 1) = nI (a % 2 ^ j) := by
  rw [fr_and, Nat.and_two_pow_sub_one_eq_mod]
theorem fr_mul (a b : Nat) : nI a * nI b = nI (a * b) := (Int32.ofNat_mul a b).symm
theorem fr_ofNat_mod (n : Nat) : nI (n % 2 ^ 32) = nI n := by
  apply Int32.toBitVec_inj.mp
  show BitVec.ofNat 32 (n % 2 ^ 32) = BitVec.ofNat 32 n
  apply BitVec.eq_of_toNat_eq
  simp only [BitVec.toNat_ofNat, Nat.mod_mod]
theorem fr_shl {a j : Nat} (hj : j < 32) : nI a <<< (nI j &&& 31) = nI (a * 2 ^ j) := by
  have e : nI j &&& 31 = nI j := by
    have := fr_mask (a := j) 5
    rw [show j % 2 ^ 5 = j by omega] at this
    exact this
  rw [e]
  apply Int32.toBitVec_inj.mp
  rw [Int32.toBitVec_shiftLeft]
  show BitVec.ofNat 32 a <<< ((BitVec.ofNat 32 j).smod 32) = BitVec.ofNat 32 (a * 2 ^ j)
  have h2 : (BitVec.ofNat 32 j).smod 32 = BitVec.ofNat 32 j := by
    match j, hj with
    | 0, _ => rfl
    | 1, _ => rfl
    | 2, _ => rfl
    | 3, _ => rfl
    | 4, _ => rfl
    | 5, _ => rfl
    | 6, _ => rfl
    | 7, _ => rfl
    | 8, _ => rfl
    | 9, _ => rfl
    | 10, _ => rfl
    | 11, _ => rfl
    | 12, _ => rfl
    | 13, _ => rfl
    | 14, _ => rfl
    | 15, _ => rfl
    | 16, _ => rfl
    | 17, _ => rfl
    | 18, _ => rfl
    | 19, _ => rfl
    | 20, _ => rfl
    | 21, _ => rfl
    | 22, _ => rfl
    | 23, _ => rfl
    | 24, _ => rfl
    | 25, _ => rfl
    | 26, _ => rfl
    | 27, _ => rfl
    | 28, _ => rfl
    | 29, _ => rfl
    | 30, _ => rfl
    | 31, _ => rfl
    | n + 32, h => omega
  rw [h2]
  apply BitVec.eq_of_toNat_eq
  rw [BitVec.shiftLeft_eq', BitVec.toNat_shiftLeft, BitVec.toNat_ofNat, BitVec.toNat_ofNat, BitVec.toNat_ofNat, Nat.mod_eq_of_lt (show j < 2 ^ 32 by omega), Nat.shiftLeft_eq]
  rw [Nat.mod_mul_mod]
def pa_n (p i : Nat) : Nat := p / 2 ^ (5 * i) % 32
def pa_dr (p : Nat) : Nat → Nat → Nat
  | 0, d => d
  | r + 1, d => if pa_n p d = 0 then d else pa_dr p r (d + 1)
def pa_d (p : Nat) : Nat := pa_dr p 6 0
theorem pa_dr_spec {p : Nat} : ∀ (r d : Nat), d + r = 6 → (∀ i, i < d → pa_n p i ≠ 0) → d ≤ pa_dr p r d ∧ pa_dr p r d ≤ 6 ∧ (∀ i, i < pa_dr p r d → pa_n p i ≠ 0) ∧ (pa_dr p r d = 6 ∨ pa_n p (pa_dr p r d) = 0) := by
  intro r
  induction r with
  | zero => intro d hd hi; exact ⟨Nat.le_refl _, by show d ≤ 6; omega, hi, Or.inl (by show d = 6; omega)⟩
  | succ r ih =>
    intro d hd hi
    unfold pa_dr
    by_cases h : pa_n p d = 0
    · rw [if_pos h]
      exact ⟨Nat.le_refl _, by omega, hi, Or.inr h⟩
    · rw [if_neg h]
      obtain ⟨h1, h2, h3, h4⟩ := ih (d + 1) (by omega) (fun i hj => by
        by_cases e : i = d
        · rw [e]; exact h
        · exact hi i (by omega))
      exact ⟨by omega, h2, h3, h4⟩
theorem pa_d_spec (p : Nat) : pa_d p ≤ 6 ∧ (∀ i, i < pa_d p → pa_n p i ≠ 0) ∧ (pa_d p = 6 ∨ pa_n p (pa_d p) = 0) := (pa_dr_spec 6 0 (by omega) (fun i hi => by omega)).2
def pa_ok (p : Nat) : Bool := decide (p / 2 ^ (5 * pa_d p) = 0)
def pa_last (p : Nat) : Nat := pa_n p (pa_d p - 1)
def pa_up (p : Nat) : Nat := p % 2 ^ (5 * (pa_d p - 1))
section PATHS
variable {xs : List Int32} {h : pm_H} {Q : Option Value → pm_H → Prop} {p : Nat}
theorem ct_T_nameIn {i : Nat} (hp : p < 2 ^ 32) (hi : i ≤ 6) (k : Q (some (.int (nI (pa_n p i)))) h) : pm_X xs 0 mT_nameIn [.int (nI p), .int (nI i)] h Q := by
  unfold pm_X
  (repeat (first | refine pm_W.ts rfl rfl ?_ | refine pm_W.tl rfl rfl ?_))
  have e : pm_ushr (nI p) (Int32.ofInt 5 * nI i) &&& (Int8.ofInt 31).toInt32 = nI (pa_n p i) := by
    show pm_ushr (nI p) (nI 5 * nI i) &&& nI (2 ^ 5 - 1) = _
    rw [fr_mul, fr_ushr hp (by omega), fr_mask]
    rfl
  refine pm_W.iret rfl rfl ?_
  rw [e]
  exact k
theorem ct_T_namesIn (hp : p < 2 ^ 32) (k : Q (some (.int (nI (pa_d p)))) h) : pm_X xs 1 mT_namesIn [.int (nI p)] h Q := by
  have loop : ∀ (r d : Nat), d + r = 6 → pa_dr p r d = pa_d p → pm_W xs 1 mT_namesIn 2 [.int (nI p), .int (nI d)] [] h Q := by
    intro r
    induction r with
    | zero =>
      intro d hd he
      (repeat (first | refine pm_W.ts rfl rfl ?_ | refine pm_W.tl rfl rfl ?_))
      refine pm_W.icmp rfl (fun c => ?_) (fun c => ?_)
      · (repeat (first | refine pm_W.ts rfl rfl ?_ | refine pm_W.tl rfl rfl ?_))
        refine pm_W.iret rfl rfl ?_
        rw [show d = pa_d p from he]
        exact k
      · have c : ¬ nI 6 ≤ nI d := c
        rw [nI_leI (by omega) (by omega)] at c
        omega
    | succ r ih =>
      intro d hd he
      (repeat (first | refine pm_W.ts rfl rfl ?_ | refine pm_W.tl rfl rfl ?_))
      refine pm_W.icmp rfl (fun c => ?_) (fun c => ?_)
      · have c : nI 6 ≤ nI d := c
        rw [nI_leI (by omega) (by omega)] at c
        omega
      · (repeat (first | refine pm_W.ts rfl rfl ?_ | refine pm_W.tl rfl rfl ?_))
        refine pm_W.callS rfl rfl rfl rfl (fr_ble rfl) (fr_ble rfl) (ct_T_nameIn hp (by omega) ?_)
        have hlt : pa_n p d < 2 ^ 31 := by unfold pa_n; omega
        refine pm_W.ifz rfl (fun c2 => ?_) (fun c2 => ?_)
        · have c2 : nI (pa_n p d) = nI 0 := c2
          rw [nI_eq hlt (by omega)] at c2
          (repeat (first | refine pm_W.ts rfl rfl ?_ | refine pm_W.tl rfl rfl ?_))
          refine pm_W.iret rfl rfl ?_
          unfold pa_dr at he
          rw [if_pos c2] at he
          rw [he]
          exact k
        · have c2 : ¬ nI (pa_n p d) = nI 0 := c2
          rw [nI_eq hlt (by omega)] at c2
          (repeat (first | refine pm_W.ts rfl rfl ?_ | refine pm_W.tl rfl rfl ?_))
          refine pm_W.goto rfl ?_
          unfold pa_dr at he
          rw [if_neg c2] at he
          have := ih (d + 1) (by omega) he
          rw [← fr_inc] at this
          exact this
  unfold pm_X
  (iterate 2 (first | refine pm_W.ts rfl rfl ?_ | refine pm_W.tl rfl rfl ?_))
  exact loop 6 0 (by omega) rfl
theorem ct_T_isPath (hp : p < 2 ^ 32) (k : Q (some (.int (fr_b (pa_ok p)))) h) : pm_X xs 2 mT_isPath [.int (nI p)] h Q := by
  have hd := (pa_d_spec p).1
  unfold pm_X
  (repeat (first | refine pm_W.ts rfl rfl ?_ | refine pm_W.tl rfl rfl ?_))
  refine pm_W.callS rfl rfl rfl rfl (fr_ble rfl) (fr_ble rfl) (ct_T_namesIn hp ?_)
  (repeat (first | refine pm_W.ts rfl rfl ?_ | refine pm_W.tl rfl rfl ?_))
  have e : pm_ushr (nI p) (Int32.ofInt 5 * nI (pa_d p)) = nI (p / 2 ^ (5 * pa_d p)) := by
    show pm_ushr (nI p) (nI 5 * nI (pa_d p)) = _
    rw [fr_mul, fr_ushr hp (by omega)]
  rw [e]
  have hz : nI (p / 2 ^ (5 * pa_d p)) = 0 ↔ p / 2 ^ (5 * pa_d p) = 0 := by
    have hlt : p / 2 ^ (5 * pa_d p) < 2 ^ 32 := Nat.lt_of_le_of_lt (Nat.div_le_self _ _) hp
    constructor
    · intro z
      have z2 := congrArg (fun x : Int32 => x.toUInt32.toNat) z
      have z3 : (nI (p / 2 ^ (5 * pa_d p))).toUInt32.toNat = p / 2 ^ (5 * pa_d p) := by
        rw [fr_u, UInt32.toNat_ofNat']
        exact Nat.mod_eq_of_lt hlt
      rw [← z3]
      exact z2
    · intro z
      rw [z]
      rfl
  refine pm_W.ifz rfl (fun c => ?_) (fun c => ?_)
  · have c : ¬ nI (p / 2 ^ (5 * pa_d p)) = 0 := c
    (repeat (first | refine pm_W.ts rfl rfl ?_ | refine pm_W.tl rfl rfl ?_))
    refine pm_W.iret rfl rfl ?_
    rw [fr_bf (show pa_ok p = false from decide_eq_false (fun z => c (hz.mpr z)))] at k
    exact k
  · have c : ¬ ¬ nI (p / 2 ^ (5 * pa_d p)) = 0 := c
    (repeat (first | refine pm_W.ts rfl rfl ?_ | refine pm_W.tl rfl rfl ?_))
    refine pm_W.goto rfl ?_
    refine pm_W.iret rfl rfl ?_
    rw [fr_bt (show pa_ok p = true from decide_eq_true (hz.mp (Classical.not_not.mp c)))] at k
    exact k
theorem fr_max0 {d : Nat} (hd : d < 2 ^ 30) : (if Int32.ofInt 0 < nI d - Int32.ofInt 1 then nI d - Int32.ofInt 1 else Int32.ofInt 0) = nI (d - 1) := by
  cases d with
  | zero => decide
  | succ d =>
    have e : nI (d + 1) - Int32.ofInt 1 = nI d := nI_pred d
    rw [e]
    show (if nI 0 < nI d then nI d else nI 0) = nI d
    by_cases h : 0 < d
    · rw [if_pos (nI_lt h (by omega))]
    · rw [show d = 0 by omega]
      rfl
theorem ct_T_lastNameOf (hp : p < 2 ^ 32) (k : Q (some (.int (nI (pa_last p)))) h) : pm_X xs 2 mT_lastNameOf [.int (nI p)] h Q := by
  have hd := (pa_d_spec p).1
  unfold pm_X
  (repeat (first | refine pm_W.ts rfl rfl ?_ | refine pm_W.tl rfl rfl ?_))
  refine pm_W.callS rfl rfl rfl rfl (fr_ble rfl) (fr_ble rfl) (ct_T_namesIn hp ?_)
  (repeat (first | refine pm_W.ts rfl rfl ?_ | refine pm_W.tl rfl rfl ?_))
  refine pm_W.max rfl rfl rfl rfl ?_
  rw [fr_max0 (by omega)]
  refine pm_W.callS (d' := 0) rfl rfl rfl rfl (fr_ble rfl) (fr_ble rfl) (ct_T_nameIn hp (by omega) ?_)
  exact pm_W.iret rfl rfl k
theorem ct_T_pathOfParent (hp : p < 2 ^ 32) (k : Q (some (.int (nI (pa_up p)))) h) : pm_X xs 2 mT_pathOfParent [.int (nI p)] h Q := by
  have hd := (pa_d_spec p).1
  unfold pm_X
  (repeat (first | refine pm_W.ts rfl rfl ?_ | refine pm_W.tl rfl rfl ?_))
  refine pm_W.callS rfl rfl rfl rfl (fr_ble rfl) (fr_ble rfl) (ct_T_namesIn hp ?_)
  (repeat (first | refine pm_W.ts rfl rfl ?_ | refine pm_W.tl rfl rfl ?_))
  refine pm_W.max rfl rfl rfl rfl ?_
  rw [fr_max0 (by omega)]
  (repeat (first | refine pm_W.ts rfl rfl ?_ | refine pm_W.tl rfl rfl ?_))
  refine pm_W.iret rfl rfl ?_
  have e : nI p &&& (Int32.ofInt 1 <<< (Int32.ofInt 5 * nI (pa_d p - 1) &&& 31) - Int32.ofInt 1) = nI (pa_up p) := by
    show nI p &&& (nI 1 <<< (nI 5 * nI (pa_d p - 1) &&& 31) - nI 1) = _
    rw [fr_mul, fr_shl (by omega), fr_sub (j := 1) (Nat.one_le_iff_ne_zero.mpr (by rw [Nat.one_mul]; exact Nat.ne_of_gt (Nat.two_pow_pos _))), Nat.one_mul, fr_mask]
    rfl
  rw [e]
  exact k
end PATHS
end
section
abbrev tr_S : Type := List Nat × List Nat × List (Option Nat) × (Nat → List Int32)
def tr_pv : Option Nat → Int32
  | none => -1
  | some q => nI q
def tr_K (S : tr_S) (s : Nat) : Nat := S.1.getD s 0
def tr_N (S : tr_S) (s : Nat) : Nat := S.2.1.getD s 0
def tr_P (S : tr_S) (s : Nat) : Option Nat := S.2.2.1.getD s none
def tr_B (S : tr_S) (s : Nat) : List Int32 := S.2.2.2 s
def tr_ok (S : tr_S) : Prop := S.1.length = 11 ∧ S.2.1.length = 11 ∧ S.2.2.1.length = 11 ∧ (∀ s, tr_K S s ≤ 2) ∧ (∀ s, tr_N S s ≤ 31) ∧ (∀ s q, tr_P S s = some q → q ≤ 10)
def tr_row (a : Nat) : List (Option Nat) := (List.range 11).map fun s => some (a + 5 + 2 * s)
def tr_R (h : pm_H) (a : Nat) (S : tr_S) : Prop := h.1[a]? = some (.inr (.inr (kT, [.ref (a + 1), .ref (a + 2), .ref (a + 3), .ref (a + 4)]))) ∧ h.1[a + 1]? = some (.inl (false, S.1.map nI)) ∧ h.1[a + 2]? = some (.inl (false, S.2.1.map nI)) ∧ h.1[a + 3]? = some (.inl (false, S.2.2.1.map tr_pv)) ∧ h.1[a + 4]? = some (.inr (.inl (kB, tr_row a))) ∧
  (∀ s, s < 11 → bt_R h (a + 5 + 2 * s) 16 (tr_B S s)) ∧ tr_ok S
theorem tr_R.keep {h h' : pm_H} {a : Nat} {S : tr_S} (hb : tr_R h a S) (e : ∀ k, a ≤ k → k < a + 27 → h'.1[k]? = h.1[k]?) : tr_R h' a S := by
  obtain ⟨h1, h2, h3, h4, h5, h6, h7⟩ := hb
  exact ⟨(e a (by omega) (by omega)).trans h1, (e (a + 1) (by omega) (by omega)).trans h2, (e (a + 2) (by omega) (by omega)).trans h3, (e (a + 3) (by omega) (by omega)).trans h4, (e (a + 4) (by omega) (by omega)).trans h5, fun s hs => (h6 s hs).keep fun k _ _ => e k (by omega) (by omega), h7⟩
theorem tr_R.ag {h h' : pm_H} {a lo hi : Nat} {S : tr_S} (hb : tr_R h a S) (e : fr_ag lo hi h h') (hd : a + 27 ≤ lo ∨ hi ≤ a) : tr_R h' a S := hb.keep fun k _ _ => e.2.2 k (by omega)
theorem fr_mapD {l : List Nat} {s : Nat} : (l.map nI).getD s 0 = nI (l.getD s 0) := by
  rw [List.getD_eq_getElem?_getD, List.getElem?_map, List.getD_eq_getElem?_getD]
  cases l[s]? <;> rfl
theorem tr_mapP {l : List (Option Nat)} {s : Nat} (hs : s < l.length) : (l.map tr_pv).getD s 0 = tr_pv (l.getD s none) := by
  rw [List.getD_eq_getElem?_getD, List.getElem?_map, List.getD_eq_getElem?_getD, List.getElem?_eq_getElem hs]
  rfl
theorem tr_rowD {a s : Nat} (hs : s < 11) : (tr_row a).getD s none = some (a + 5 + 2 * s) := by
  simp [tr_row, hs]
theorem tr_row_len {a : Nat} : (tr_row a).length = 11 := by simp [tr_row]
theorem tr_pv_eq {o : Option Nat} {d : Nat} (ho : ∀ q, o = some q → q ≤ 10) (hd : d ≤ 10) : tr_pv o = nI d ↔ o = some d := by
  cases o with
  | none =>
    constructor
    · intro z
      have : (nI d).toInt = -1 := by rw [← z]; rfl
      rw [nI_toInt (by omega)] at this
      omega
    · intro z; cases z
  | some q =>
    have := ho q rfl
    show nI q = nI d ↔ _
    rw [nI_eq (by omega) (by omega)]
    constructor
    · intro z; rw [z]
    · intro z; cases z; rfl
theorem tr_pv_none {o : Option Nat} (ho : ∀ q, o = some q → q ≤ 10) : tr_pv o = -1 ↔ o = none := by
  cases o with
  | none => exact ⟨fun _ => rfl, fun _ => rfl⟩
  | some q =>
    have := ho q rfl
    constructor
    · intro z
      have z : nI q = -1 := z
      have : (nI q).toInt = -1 := by rw [z]; rfl
      rw [nI_toInt (by omega)] at this
      omega
    · intro z; cases z
def tr_c (S : tr_S) (d s : Nat) : Bool := decide (tr_K S s ≠ 0 ∧ tr_P S s = some d)
def tr_cnt (f : Nat → Bool) : Nat → Nat
  | 0 => 0
  | n + 1 => tr_cnt f n + (if f (n + 1) = true then 1 else 0)
def tr_sm (f : Nat → Bool) (g : Nat → Nat) : Nat → Nat
  | 0 => 0
  | n + 1 => tr_sm f g n + (if f (n + 1) = true then g (n + 1) else 0)
def tr_mx (f : Nat → Bool) (g : Nat → Nat) : Nat → Nat
  | 0 => 0
  | n + 1 => if f (n + 1) = true ∧ tr_mx f g n < g (n + 1) then g (n + 1) else tr_mx f g n
theorem tr_cnt_le {f : Nat → Bool} : ∀ n, tr_cnt f n ≤ n := by
  intro n
  induction n with
  | zero => exact Nat.le_refl _
  | succ n ih =>
    show _ + _ ≤ _
    split <;> omega
theorem tr_sm_le {f : Nat → Bool} {g : Nat → Nat} {b : Nat} (hg : ∀ s, g s ≤ b) : ∀ n, tr_sm f g n ≤ b * n := by
  intro n
  induction n with
  | zero => exact Nat.zero_le _
  | succ n ih =>
    have := hg (n + 1)
    show _ + _ ≤ _
    rw [Nat.mul_succ]
    split <;> omega
theorem tr_mx_le {f : Nat → Bool} {g : Nat → Nat} {b : Nat} (hg : ∀ s, g s ≤ b) : ∀ n, tr_mx f g n ≤ b := by
  intro n
  induction n with
  | zero => exact Nat.zero_le _
  | succ n ih =>
    have := hg (n + 1)
    unfold tr_mx
    split <;> omega
section TREE
variable {xs : List Int32} {h : pm_H} {a : Nat} {S : tr_S} {Q : Option Value → pm_H → Prop}
theorem ct_T_isSlot {s : Nat} (hs : s < 11) (k : Q (some (.int 1)) h) : pm_X xs 0 mT_isSlot [.int (nI s)] h Q := by
  unfold pm_X
  (repeat (first | refine pm_W.ts rfl rfl ?_ | refine pm_W.tl rfl rfl ?_))
  refine pm_W.ifz rfl (fun c => absurd c (nI_pos (by omega))) (fun c => ?_)
  (repeat (first | refine pm_W.ts rfl rfl ?_ | refine pm_W.tl rfl rfl ?_))
  refine pm_W.icmp rfl (fun c2 => ?_) (fun c2 => ?_)
  · have c2 : nI 11 ≤ nI s := c2
    rw [nI_leI (by omega) (by omega)] at c2
    omega
  · (repeat (first | refine pm_W.ts rfl rfl ?_ | refine pm_W.tl rfl rfl ?_))
    refine pm_W.goto rfl ?_
    exact pm_W.iret rfl rfl k
theorem ct_T_isSlotN (k : Q (some (.int 0)) h) : pm_X xs 0 mT_isSlot [.int (-1)] h Q := by
  unfold pm_X
  (repeat (first | refine pm_W.ts rfl rfl ?_ | refine pm_W.tl rfl rfl ?_))
  refine pm_W.ifz rfl (fun c => ?_) (fun c => absurd (show (-1 : Int32) < 0 by decide) c)
  (repeat (first | refine pm_W.ts rfl rfl ?_ | refine pm_W.tl rfl rfl ?_))
  exact pm_W.iret rfl rfl k
theorem ct_T_isChild {s d : Nat} (hb : tr_R h a S) (hs : s < 11) (hd : d ≤ 10) (k : Q (some (.int (fr_b (tr_c S d s)))) h) : pm_X xs 0 mT_isChild [.ref a, .int (nI s), .int (nI d)] h Q := by
  obtain ⟨h1, h2, h3, h4, h5, h6, l1, l2, l3, bK, bN, bP⟩ := hb
  unfold pm_X
  (repeat (first | refine pm_W.ts rfl rfl ?_ | refine pm_W.tl rfl rfl ?_ | refine pm_W.get rfl rfl h1 rfl ?_))
  refine pm_W.iald rfl h2 (pm_ix_ok (j := s) (by rw [List.length_map]; omega) (by rw [List.length_map]; omega)) ?_
  rw [fr_mapD]
  have hk := bK s
  refine pm_W.ifz rfl (fun c => ?_) (fun c => ?_)
  · have c : nI (tr_K S s) = nI 0 := c
    rw [nI_eq (by omega) (by omega)] at c
    (repeat (first | refine pm_W.ts rfl rfl ?_ | refine pm_W.tl rfl rfl ?_))
    rw [fr_bf (show tr_c S d s = false from decide_eq_false (fun z => z.1 c))] at k
    exact pm_W.iret rfl rfl k
  · have c : ¬ nI (tr_K S s) = nI 0 := c
    rw [nI_eq (by omega) (by omega)] at c
    (repeat (first | refine pm_W.ts rfl rfl ?_ | refine pm_W.tl rfl rfl ?_ | refine pm_W.get rfl rfl h1 rfl ?_))
    refine pm_W.iald rfl h4 (pm_ix_ok (j := s) (by rw [List.length_map]; omega) (by rw [List.length_map]; omega)) ?_
    rw [tr_mapP (by omega)]
    (repeat (first | refine pm_W.ts rfl rfl ?_ | refine pm_W.tl rfl rfl ?_))
    refine pm_W.icmp rfl (fun c2 => ?_) (fun c2 => ?_)
    · have c2 : ¬ tr_pv (tr_P S s) = nI d := c2
      rw [tr_pv_eq (bP s) hd] at c2
      (repeat (first | refine pm_W.ts rfl rfl ?_ | refine pm_W.tl rfl rfl ?_))
      rw [fr_bf (show tr_c S d s = false from decide_eq_false (fun z => c2 z.2))] at k
      exact pm_W.iret rfl rfl k
    · have c2 : ¬ ¬ tr_pv (tr_P S s) = nI d := c2
      have c2 := Classical.not_not.mp c2
      rw [tr_pv_eq (bP s) hd] at c2
      (repeat (first | refine pm_W.ts rfl rfl ?_ | refine pm_W.tl rfl rfl ?_))
      refine pm_W.goto rfl ?_
      rw [fr_bt (show tr_c S d s = true from decide_eq_true ⟨c, c2⟩)] at k
      exact pm_W.iret rfl rfl k
theorem ct_T_childNamed {d w : Nat} (hb : tr_R h a S) (hd : d ≤ 10) (hw : w ≤ 31) (k1 : ∀ s, 1 ≤ s → s ≤ 10 → tr_c S d s = true → tr_N S s = w → Q (some (.int (nI s))) h) (k0 : (∀ s, 1 ≤ s → s ≤ 10 → ¬ (tr_c S d s = true ∧ tr_N S s = w)) → Q (some (.int (-1))) h) : pm_X xs 1 mT_childNamed [.ref a, .int (nI d), .int (nI w)] h Q := by
  obtain ⟨h1, h2, h3, h4, h5, h6, l1, l2, l3, bK, bN, bP⟩ := id hb
  have loop : ∀ (r n : Nat), n + r = 10 → (∀ s, 1 ≤ s → s ≤ n → ¬ (tr_c S d s = true ∧ tr_N S s = w)) → pm_W xs 1 mT_childNamed 2 [.ref a, .int (nI d), .int (nI w), .int (nI (n + 1))] [] h Q := by
    intro r
    induction r with
    | zero =>
      intro n hn hj
      (repeat (first | refine pm_W.ts rfl rfl ?_ | refine pm_W.tl rfl rfl ?_))
      refine pm_W.icmp rfl (fun c => ?_) (fun c => ?_)
      · (repeat (first | refine pm_W.ts rfl rfl ?_ | refine pm_W.tl rfl rfl ?_))
        exact pm_W.iret rfl rfl (k0 (by rw [show n = 10 by omega] at hj; exact hj))
      · have c : ¬ nI 11 ≤ nI (n + 1) := c
        rw [nI_leI (by omega) (by omega)] at c
        omega
    | succ r ih =>
      intro n hn hj
      have next : ¬ (tr_c S d (n + 1) = true ∧ tr_N S (n + 1) = w) → pm_W xs 1 mT_childNamed 29 [.ref a, .int (nI d), .int (nI w), .int (nI (n + 1))] [] h Q := by
        intro c2
        (repeat (first | refine pm_W.ts rfl rfl ?_ | refine pm_W.tl rfl rfl ?_))
        refine pm_W.goto rfl ?_
        have := ih (n + 1) (by omega) (fun s hs1 hs2 => by
          by_cases e : s = n + 1
          · rw [e]; exact c2
          · exact hj s hs1 (by omega))
        rw [← fr_inc (n + 1)] at this
        exact this
      (repeat (first | refine pm_W.ts rfl rfl ?_ | refine pm_W.tl rfl rfl ?_))
      refine pm_W.icmp rfl (fun c => ?_) (fun c => ?_)
      · have c : nI 11 ≤ nI (n + 1) := c
        rw [nI_leI (by omega) (by omega)] at c
        omega
      · (repeat (first | refine pm_W.ts rfl rfl ?_ | refine pm_W.tl rfl rfl ?_))
        refine pm_W.callV rfl rfl rfl rfl (fr_ble rfl) h1 (fr_ble rfl) (ct_T_isChild hb (by omega) hd ?_)
        refine pm_W.ifz rfl (fun c2 => ?_) (fun c2 => ?_)
        · have c2 := fr_b0 c2
          exact next (fun z => by rw [c2] at z; cases z.1)
        · have c2 := fr_b1 c2
          (repeat (first | refine pm_W.ts rfl rfl ?_ | refine pm_W.tl rfl rfl ?_ | refine pm_W.get rfl rfl h1 rfl ?_))
          refine pm_W.iald rfl h3 (pm_ix_ok (j := n + 1) (by rw [List.length_map]; omega) (by rw [List.length_map]; omega)) ?_
          rw [fr_mapD]
          have hN := bN (n + 1)
          (repeat (first | refine pm_W.ts rfl rfl ?_ | refine pm_W.tl rfl rfl ?_))
          refine pm_W.icmp rfl (fun c3 => ?_) (fun c3 => ?_)
          · have c3 : ¬ nI (tr_N S (n + 1)) = nI w := c3
            rw [nI_eq (by omega) (by omega)] at c3
            exact next (fun z => c3 z.2)
          · have c3 : ¬ ¬ nI (tr_N S (n + 1)) = nI w := c3
            have c3 := Classical.not_not.mp c3
            rw [nI_eq (by omega) (by omega)] at c3
            (repeat (first | refine pm_W.ts rfl rfl ?_ | refine pm_W.tl rfl rfl ?_))
            exact pm_W.iret rfl rfl (k1 (n + 1) (by omega) (by omega) c2 c3)
  unfold pm_X
  (iterate 2 (first | refine pm_W.ts rfl rfl ?_ | refine pm_W.tl rfl rfl ?_))
  exact loop 10 0 (by omega) (fun s h1 h2 => by omega)
theorem ct_T_childrenOf {d : Nat} (hb : tr_R h a S) (hd : d ≤ 10) (k : Q (some (.int (nI (tr_cnt (tr_c S d) 10)))) h) : pm_X xs 1 mT_childrenOf [.ref a, .int (nI d)] h Q := by
  obtain ⟨h1, -⟩ := id hb
  have loop : ∀ (r n : Nat), n + r = 10 → pm_W xs 1 mT_childrenOf 4 [.ref a, .int (nI d), .int (nI (tr_cnt (tr_c S d) n)), .int (nI (n + 1))] [] h Q := by
    intro r
    induction r with
    | zero =>
      intro n hn
      (repeat (first | refine pm_W.ts rfl rfl ?_ | refine pm_W.tl rfl rfl ?_))
      refine pm_W.icmp rfl (fun c => ?_) (fun c => ?_)
      · (repeat (first | refine pm_W.ts rfl rfl ?_ | refine pm_W.tl rfl rfl ?_))
        rw [show n = 10 by omega]
        exact pm_W.iret rfl rfl k
      · have c : ¬ nI 11 ≤ nI (n + 1) := c
        rw [nI_leI (by omega) (by omega)] at c
        omega
    | succ r ih =>
      intro n hn
      have i1 := ih (n + 1) (by omega)
      (repeat (first | refine pm_W.ts rfl rfl ?_ | refine pm_W.tl rfl rfl ?_))
      refine pm_W.icmp rfl (fun c => ?_) (fun c => ?_)
      · have c : nI 11 ≤ nI (n + 1) := c
        rw [nI_leI (by omega) (by omega)] at c
        omega
      · (repeat (first | refine pm_W.ts rfl rfl ?_ | refine pm_W.tl rfl rfl ?_))
        refine pm_W.callV rfl rfl rfl rfl (fr_ble rfl) h1 (fr_ble rfl) (ct_T_isChild hb (by omega) hd ?_)
        refine pm_W.ifz rfl (fun c2 => ?_) (fun c2 => ?_)
        · have c2 := fr_b0 c2
          rw [show tr_cnt (tr_c S d) (n + 1) = tr_cnt (tr_c S d) n from by show _ + _ = _; rw [c2]; rfl, ← fr_inc (n + 1)] at i1
          (repeat (first | refine pm_W.ts rfl rfl ?_ | refine pm_W.tl rfl rfl ?_))
          refine pm_W.goto rfl ?_
          exact i1
        · have c2 := fr_b1 c2
          rw [show tr_cnt (tr_c S d) (n + 1) = tr_cnt (tr_c S d) n + 1 from by show _ + _ = _; rw [c2]; rfl, ← fr_inc (n + 1), ← fr_inc (tr_cnt (tr_c S d) n)] at i1
          (repeat (first | refine pm_W.ts rfl rfl ?_ | refine pm_W.tl rfl rfl ?_))
          refine pm_W.goto rfl ?_
          exact i1
  unfold pm_X
  (iterate 4 (first | refine pm_W.ts rfl rfl ?_ | refine pm_W.tl rfl rfl ?_))
  exact loop 10 0 (by omega)
theorem ct_T_greatestNameIn {d : Nat} (hb : tr_R h a S) (hd : d ≤ 10) (k : Q (some (.int (nI (tr_mx (tr_c S d) (tr_N S) 10)))) h) : pm_X xs 1 mT_greatestNameIn [.ref a, .int (nI d)] h Q := by
  obtain ⟨h1, h2, h3, h4, h5, h6, l1, l2, l3, bK, bN, bP⟩ := id hb
  have loop : ∀ (r n : Nat), n + r = 10 → pm_W xs 1 mT_greatestNameIn 4 [.ref a, .int (nI d), .int (nI (tr_mx (tr_c S d) (tr_N S) n)), .int (nI (n + 1))] [] h Q := by
    intro r
    induction r with
    | zero =>
      intro n hn
      (repeat (first | refine pm_W.ts rfl rfl ?_ | refine pm_W.tl rfl rfl ?_))
      refine pm_W.icmp rfl (fun c => ?_) (fun c => ?_)
      · (repeat (first | refine pm_W.ts rfl rfl ?_ | refine pm_W.tl rfl rfl ?_))
        rw [show n = 10 by omega]
        exact pm_W.iret rfl rfl k
      · have c : ¬ nI 11 ≤ nI (n + 1) := c
        rw [nI_leI (by omega) (by omega)] at c
        omega
    | succ r ih =>
      intro n hn
      have i1 := ih (n + 1) (by omega)
      (repeat (first | refine pm_W.ts rfl rfl ?_ | refine pm_W.tl rfl rfl ?_))
      refine pm_W.icmp rfl (fun c => ?_) (fun c => ?_)
      · have c : nI 11 ≤ nI (n + 1) := c
        rw [nI_leI (by omega) (by omega)] at c
        omega
      · (repeat (first | refine pm_W.ts rfl rfl ?_ | refine pm_W.tl rfl rfl ?_))
        refine pm_W.callV rfl rfl rfl rfl (fr_ble rfl) h1 (fr_ble rfl) (ct_T_isChild hb (by omega) hd ?_)
        refine pm_W.ifz rfl (fun c2 => ?_) (fun c2 => ?_)
        · have c2 := fr_b0 c2
          rw [show tr_mx (tr_c S d) (tr_N S) (n + 1) = tr_mx (tr_c S d) (tr_N S) n from by rw [tr_mx, if_neg (fun z => by rw [c2] at z; cases z.1)], ← fr_inc (n + 1)] at i1
          (repeat (first | refine pm_W.ts rfl rfl ?_ | refine pm_W.tl rfl rfl ?_))
          refine pm_W.goto rfl ?_
          exact i1
        · have c2 := fr_b1 c2
          (repeat (first | refine pm_W.ts rfl rfl ?_ | refine pm_W.tl rfl rfl ?_ | refine pm_W.get rfl rfl h1 rfl ?_))
          refine pm_W.iald rfl h3 (pm_ix_ok (j := n + 1) (by rw [List.length_map]; omega) (by rw [List.length_map]; omega)) ?_
          rw [fr_mapD]
          have hN := bN (n + 1)
          have hM := tr_mx_le (f := tr_c S d) (g := tr_N S) bN n
          refine pm_W.max rfl rfl rfl rfl ?_
          have e : (if nI (tr_mx (tr_c S d) (tr_N S) n) < nI (S.2.1.getD (n + 1) 0) then nI (S.2.1.getD (n + 1) 0) else nI (tr_mx (tr_c S d) (tr_N S) n)) = nI (tr_mx (tr_c S d) (tr_N S) (n + 1)) := by
            show (if nI (tr_mx (tr_c S d) (tr_N S) n) < nI (tr_N S (n + 1)) then nI (tr_N S (n + 1)) else _) = _
            rw [tr_mx]
            by_cases q : tr_mx (tr_c S d) (tr_N S) n < tr_N S (n + 1)
            · rw [if_pos (nI_lt q (by omega)), if_pos ⟨c2, q⟩]
            · rw [if_neg (fun z => q ((nI_ltI (by omega) (by omega)).mp z)), if_neg (fun z => q z.2)]
          rw [e]
          rw [← fr_inc (n + 1)] at i1
          (repeat (first | refine pm_W.ts rfl rfl ?_ | refine pm_W.tl rfl rfl ?_))
          refine pm_W.goto rfl ?_
          exact i1
  unfold pm_X
  (iterate 4 (first | refine pm_W.ts rfl rfl ?_ | refine pm_W.tl rfl rfl ?_))
  exact loop 10 0 (by omega)
def tr_u (S : tr_S) (s : Nat) : Bool := decide (tr_K S s ≠ 0)
def tr_f (S : tr_S) (s : Nat) : Bool := decide (tr_K S s = 1)
theorem ct_T_entries (hb : tr_R h a S) (k : Q (some (.int (nI (tr_cnt (tr_u S) 10)))) h) : pm_X xs 0 mT_entries [.ref a] h Q := by
  obtain ⟨h1, h2, h3, h4, h5, h6, l1, l2, l3, bK, bN, bP⟩ := id hb
  have loop : ∀ (r n : Nat), n + r = 10 → pm_W xs 0 mT_entries 4 [.ref a, .int (nI (tr_cnt (tr_u S) n)), .int (nI (n + 1))] [] h Q := by
    intro r
    induction r with
    | zero =>
      intro n hn
      (repeat (first | refine pm_W.ts rfl rfl ?_ | refine pm_W.tl rfl rfl ?_))
      refine pm_W.icmp rfl (fun c => ?_) (fun c => ?_)
      · (repeat (first | refine pm_W.ts rfl rfl ?_ | refine pm_W.tl rfl rfl ?_))
        rw [show n = 10 by omega]
        exact pm_W.iret rfl rfl k
      · have c : ¬ nI 11 ≤ nI (n + 1) := c
        rw [nI_leI (by omega) (by omega)] at c
        omega
    | succ r ih =>
      intro n hn
      have i1 := ih (n + 1) (by omega)
      (repeat (first | refine pm_W.ts rfl rfl ?_ | refine pm_W.tl rfl rfl ?_))
      refine pm_W.icmp rfl (fun c => ?_) (fun c => ?_)
      · have c : nI 11 ≤ nI (n + 1) := c
        rw [nI_leI (by omega) (by omega)] at c
        omega
      · (repeat (first | refine pm_W.ts rfl rfl ?_ | refine pm_W.tl rfl rfl ?_ | refine pm_W.get rfl rfl h1 rfl ?_))
        refine pm_W.iald rfl h2 (pm_ix_ok (j := n + 1) (by rw [List.length_map]; omega) (by rw [List.length_map]; omega)) ?_
        rw [fr_mapD]
        have hk := bK (n + 1)
        refine pm_W.ifz rfl (fun c2 => ?_) (fun c2 => ?_)
        · have c2 : nI (tr_K S (n + 1)) = nI 0 := c2
          rw [nI_eq (by omega) (by omega)] at c2
          rw [show tr_cnt (tr_u S) (n + 1) = tr_cnt (tr_u S) n from by show _ + _ = _; rw [show tr_u S (n + 1) = false from decide_eq_false (fun z => z c2)]; rfl, ← fr_inc (n + 1)] at i1
          (repeat (first | refine pm_W.ts rfl rfl ?_ | refine pm_W.tl rfl rfl ?_))
          refine pm_W.goto rfl ?_
          exact i1
        · have c2 : ¬ nI (tr_K S (n + 1)) = nI 0 := c2
          rw [nI_eq (by omega) (by omega)] at c2
          rw [show tr_cnt (tr_u S) (n + 1) = tr_cnt (tr_u S) n + 1 from by show _ + _ = _; rw [show tr_u S (n + 1) = true from decide_eq_true c2]; rfl, ← fr_inc (n + 1), ← fr_inc (tr_cnt (tr_u S) n)] at i1
          (repeat (first | refine pm_W.ts rfl rfl ?_ | refine pm_W.tl rfl rfl ?_))
          refine pm_W.goto rfl ?_
          exact i1
  unfold pm_X
  (iterate 4 (first | refine pm_W.ts rfl rfl ?_ | refine pm_W.tl rfl rfl ?_))
  exact loop 10 0 (by omega)
theorem ct_T_fileBytes (hb : tr_R h a S) (k : Q (some (.int (nI (tr_sm (tr_f S) (fun s => (tr_B S s).length) 10)))) h) : pm_X xs 1 mT_fileBytes [.ref a] h Q := by
  obtain ⟨h1, h2, h3, h4, h5, h6, l1, l2, l3, bK, bN, bP⟩ := id hb
  have loop : ∀ (r n : Nat), n + r = 10 → pm_W xs 1 mT_fileBytes 4 [.ref a, .int (nI (tr_sm (tr_f S) (fun s => (tr_B S s).length) n)), .int (nI (n + 1))] [] h Q := by
    intro r
    induction r with
    | zero =>
      intro n hn
      (repeat (first | refine pm_W.ts rfl rfl ?_ | refine pm_W.tl rfl rfl ?_))
      refine pm_W.icmp rfl (fun c => ?_) (fun c => ?_)
      · (repeat (first | refine pm_W.ts rfl rfl ?_ | refine pm_W.tl rfl rfl ?_))
        rw [show n = 10 by omega]
        exact pm_W.iret rfl rfl k
      · have c : ¬ nI 11 ≤ nI (n + 1) := c
        rw [nI_leI (by omega) (by omega)] at c
        omega
    | succ r ih =>
      intro n hn
      have i1 := ih (n + 1) (by omega)
      (repeat (first | refine pm_W.ts rfl rfl ?_ | refine pm_W.tl rfl rfl ?_))
      refine pm_W.icmp rfl (fun c => ?_) (fun c => ?_)
      · have c : nI 11 ≤ nI (n + 1) := c
        rw [nI_leI (by omega) (by omega)] at c
        omega
      · (repeat (first | refine pm_W.ts rfl rfl ?_ | refine pm_W.tl rfl rfl ?_ | refine pm_W.get rfl rfl h1 rfl ?_))
        refine pm_W.iald rfl h2 (pm_ix_ok (j := n + 1) (by rw [List.length_map]; omega) (by rw [List.length_map]; omega)) ?_
        rw [fr_mapD]
        have hk := bK (n + 1)
        (repeat (first | refine pm_W.ts rfl rfl ?_ | refine pm_W.tl rfl rfl ?_))
        refine pm_W.icmp rfl (fun c2 => ?_) (fun c2 => ?_)
        · have c2 : ¬ nI (tr_K S (n + 1)) = nI 1 := c2
          rw [nI_eq (by omega) (by omega)] at c2
          rw [show tr_sm (tr_f S) (fun s => (tr_B S s).length) (n + 1) = tr_sm (tr_f S) (fun s => (tr_B S s).length) n from by show _ + _ = _; rw [show tr_f S (n + 1) = false from decide_eq_false c2]; rfl, ← fr_inc (n + 1)] at i1
          (repeat (first | refine pm_W.ts rfl rfl ?_ | refine pm_W.tl rfl rfl ?_))
          refine pm_W.goto rfl ?_
          exact i1
        · have c2 : ¬ ¬ nI (tr_K S (n + 1)) = nI 1 := c2
          have c2 := Classical.not_not.mp c2
          rw [nI_eq (by omega) (by omega)] at c2
          rw [show tr_sm (tr_f S) (fun s => (tr_B S s).length) (n + 1) = tr_sm (tr_f S) (fun s => (tr_B S s).length) n + (tr_B S (n + 1)).length from by show _ + _ = _; rw [show tr_f S (n + 1) = true from decide_eq_true c2]; rfl, ← fr_inc (n + 1), ← nI_add] at i1
          (repeat (first | refine pm_W.ts rfl rfl ?_ | refine pm_W.tl rfl rfl ?_ | refine pm_W.get rfl rfl h1 rfl ?_))
          refine pm_W.aald rfl h5 (pm_ix_ok (j := n + 1) (by rw [tr_row_len]; omega) (by rw [tr_row_len]; omega)) (by decide) ?_
          rw [tr_rowD (by omega)]
          have hB := h6 (n + 1) (by omega)
          obtain ⟨ys, r1, -⟩ := id hB
          refine pm_W.callV rfl rfl rfl rfl (fr_ble rfl) r1 (fr_ble rfl) (ct_B_count hB ?_)
          (repeat (first | refine pm_W.ts rfl rfl ?_ | refine pm_W.tl rfl rfl ?_))
          refine pm_W.goto rfl ?_
          exact i1
  unfold pm_X
  (iterate 4 (first | refine pm_W.ts rfl rfl ?_ | refine pm_W.tl rfl rfl ?_))
  exact loop 10 0 (by omega)
theorem ct_T_parentOf {s : Nat} (hb : tr_R h a S) (hs : s < 11) (k : Q (some (.int (tr_pv (tr_P S s)))) h) : pm_X xs 1 mT_parentOf [.ref a, .int (nI s)] h Q := by
  obtain ⟨h1, h2, h3, h4, h5, h6, l1, l2, l3, bK, bN, bP⟩ := id hb
  unfold pm_X
  (repeat (first | refine pm_W.ts rfl rfl ?_ | refine pm_W.tl rfl rfl ?_))
  refine pm_W.callS rfl rfl rfl rfl (fr_ble rfl) (fr_ble rfl) (ct_T_isSlot hs ?_)
  refine pm_W.ifz rfl (fun c => absurd (show (1 : Int32) = 0 from c) (by decide)) (fun c => ?_)
  (repeat (first | refine pm_W.ts rfl rfl ?_ | refine pm_W.tl rfl rfl ?_ | refine pm_W.get rfl rfl h1 rfl ?_))
  refine pm_W.iald rfl h4 (pm_ix_ok (j := s) (by rw [List.length_map]; omega) (by rw [List.length_map]; omega)) ?_
  rw [tr_mapP (by omega)]
  refine pm_W.goto rfl ?_
  exact pm_W.iret rfl rfl k
theorem ct_T_isDirectory {s : Nat} (hb : tr_R h a S) (hs : s < 11) (k : Q (some (.int (fr_b (decide (tr_K S s = 2))))) h) : pm_X xs 1 mT_isDirectory [.ref a, .int (nI s)] h Q := by
  obtain ⟨h1, h2, h3, h4, h5, h6, l1, l2, l3, bK, bN, bP⟩ := id hb
  unfold pm_X
  (repeat (first | refine pm_W.ts rfl rfl ?_ | refine pm_W.tl rfl rfl ?_))
  refine pm_W.callS rfl rfl rfl rfl (fr_ble rfl) (fr_ble rfl) (ct_T_isSlot hs ?_)
  refine pm_W.ifz rfl (fun c => absurd (show (1 : Int32) = 0 from c) (by decide)) (fun c => ?_)
  (repeat (first | refine pm_W.ts rfl rfl ?_ | refine pm_W.tl rfl rfl ?_ | refine pm_W.get rfl rfl h1 rfl ?_))
  refine pm_W.iald rfl h2 (pm_ix_ok (j := s) (by rw [List.length_map]; omega) (by rw [List.length_map]; omega)) ?_
  rw [fr_mapD]
  have hk := bK s
  (repeat (first | refine pm_W.ts rfl rfl ?_ | refine pm_W.tl rfl rfl ?_))
  refine pm_W.icmp rfl (fun c2 => ?_) (fun c2 => ?_)
  · have c2 : ¬ nI (tr_K S s) = nI 2 := c2
    rw [nI_eq (by omega) (by omega)] at c2
    (repeat (first | refine pm_W.ts rfl rfl ?_ | refine pm_W.tl rfl rfl ?_))
    rw [fr_bf (decide_eq_false c2)] at k
    exact pm_W.iret rfl rfl k
  · have c2 : ¬ ¬ nI (tr_K S s) = nI 2 := c2
    have c2 := Classical.not_not.mp c2
    rw [nI_eq (by omega) (by omega)] at c2
    (repeat (first | refine pm_W.ts rfl rfl ?_ | refine pm_W.tl rfl rfl ?_))
    refine pm_W.goto rfl ?_
    rw [fr_bt (decide_eq_true c2)] at k
    exact pm_W.iret rfl rfl k
theorem ct_T_isDirectoryN (hb : tr_R h a S) (k : Q (some (.int 0)) h) : pm_X xs 1 mT_isDirectory [.ref a, .int (-1)] h Q := by
  unfold pm_X
  (repeat (first | refine pm_W.ts rfl rfl ?_ | refine pm_W.tl rfl rfl ?_))
  refine pm_W.callS rfl rfl rfl rfl (fr_ble rfl) (fr_ble rfl) (ct_T_isSlotN ?_)
  refine pm_W.ifz rfl (fun c => ?_) (fun c => absurd rfl c)
  (repeat (first | refine pm_W.ts rfl rfl ?_ | refine pm_W.tl rfl rfl ?_))
  exact pm_W.iret rfl rfl k
theorem ct_T_contentOf {s : Nat} (hb : tr_R h a S) (hs : s < 11) (k : Q (some (.ref (a + 5 + 2 * s))) h) : pm_X xs 1 mT_contentOf [.ref a, .int (nI s)] h Q := by
  obtain ⟨h1, h2, h3, h4, h5, h6, l1, l2, l3, bK, bN, bP⟩ := id hb
  unfold pm_X
  (repeat (first | refine pm_W.ts rfl rfl ?_ | refine pm_W.tl rfl rfl ?_))
  refine pm_W.callS rfl rfl rfl rfl (fr_ble rfl) (fr_ble rfl) (ct_T_isSlot hs ?_)
  refine pm_W.ifz rfl (fun c => absurd (show (1 : Int32) = 0 from c) (by decide)) (fun c => ?_)
  (repeat (first | refine pm_W.ts rfl rfl ?_ | refine pm_W.tl rfl rfl ?_ | refine pm_W.get rfl rfl h1 rfl ?_))
  refine pm_W.aald rfl h5 (pm_ix_ok (j := s) (by rw [tr_row_len]; omega) (by rw [tr_row_len]; omega)) (by decide) ?_
  rw [tr_rowD (by omega)]
  refine pm_W.goto rfl ?_
  exact pm_W.aretR rfl rfl k
end TREE
end
section
theorem fr_setD {α : Type} {l : List α} {j t : Nat} {x d : α} (hj : j < l.length) : (l.set j x).getD t d = if t = j then x else l.getD t d := by
  by_cases h : t = j
  · subst h; simp [hj]
  · rw [if_neg h, List.getD_eq_getElem?_getD, List.getElem?_set_ne (fun z => h z.symm), List.getD_eq_getElem?_getD]
def tr_setK (S : tr_S) (s v : Nat) : tr_S := (S.1.set s v, S.2.1, S.2.2.1, S.2.2.2)
def tr_add (S : tr_S) (s d w v : Nat) : tr_S := (S.1.set s v, S.2.1.set s w, S.2.2.1.set s (some d), fun t => if t = s then [] else S.2.2.2 t)
def tr_setB (S : tr_S) (s : Nat) (bs : List Int32) : tr_S := (S.1, S.2.1, S.2.2.1, fun t => if t = s then bs else S.2.2.2 t)
theorem tr_setK_K {S : tr_S} {s v t : Nat} (h : tr_ok S) (hs : s < 11) : tr_K (tr_setK S s v) t = if t = s then v else tr_K S t := fr_setD (by rw [h.1]; exact hs)
theorem tr_setK_ok {S : tr_S} {s v : Nat} (h : tr_ok S) (hs : s < 11) (hv : v ≤ 2) : tr_ok (tr_setK S s v) := by
  refine ⟨by show (S.1.set s v).length = 11; rw [List.length_set]; exact h.1, h.2.1, h.2.2.1, fun t => ?_, h.2.2.2.2.1, h.2.2.2.2.2⟩
  rw [tr_setK_K h hs]
  split
  · exact hv
  · exact h.2.2.2.1 t
theorem tr_R.setK {h : pm_H} {a : Nat} {S : tr_S} {s v : Nat} (hb : tr_R h a S) (hs : s < 11) (hv : v ≤ 2) : tr_R (h.1.set (a + 1) (.inl (false, (S.1.map nI).set s (nI v))), h.2) a (tr_setK S s v) := by
  obtain ⟨h1, h2, h3, h4, h5, h6, h7⟩ := hb
  refine ⟨fr_ne h1 (by omega), ?_, fr_ne h3 (by omega), fr_ne h4 (by omega), fr_ne h5 (by omega), fun t ht => (h6 t ht).ag (fr_agset (lo := a + 1) (hi := a + 2) (by omega) (by omega)) (by omega), tr_setK_ok h7 hs hv⟩
  rw [← List.map_set]
  exact fr_set h2
theorem tr_R.setB {h h' : pm_H} {a : Nat} {S : tr_S} {s : Nat} {bs : List Int32} (hb : tr_R h a S) (hs : s < 11) (hB : bt_R h' (a + 5 + 2 * s) 16 bs) (hag : fr_ag (a + 5 + 2 * s) (a + 5 + 2 * s + 2) h h') : tr_R h' a (tr_setB S s bs) := by
  obtain ⟨h1, h2, h3, h4, h5, h6, h7⟩ := hb
  refine ⟨hag.at (by omega) h1, hag.at (by omega) h2, hag.at (by omega) h3, hag.at (by omega) h4, hag.at (by omega) h5, fun t ht => ?_, h7⟩
  show bt_R h' _ 16 (if t = s then bs else S.2.2.2 t)
  by_cases e : t = s
  · subst e
    rw [if_pos rfl]
    exact hB
  · rw [if_neg e]
    exact (h6 t ht).ag hag (by omega)
section TREE2
variable {xs : List Int32} {h : pm_H} {a : Nat} {S : tr_S} {Q : Option Value → pm_H → Prop}
def tr_climb (S : tr_S) : Nat → Option Nat → Nat
  | 0, _ => 0
  | _ + 1, none => 0
  | f + 1, some q => tr_climb S f (tr_P S q) + 1
theorem ct_T_depthOf {s : Nat} (hb : tr_R h a S) (hs : s < 11) (k : Q (some (.int (nI (tr_climb S 6 (tr_P S s))))) h) : pm_X xs 2 mT_depthOf [.ref a, .int (nI s)] h Q := by
  obtain ⟨h1, h2, h3, h4, h5, h6, l1, l2, l3, bK, bN, bP⟩ := id hb
  have loop : ∀ (f d : Nat) (o : Option Nat), d + f = 6 → (∀ q, o = some q → q ≤ 10) → d + tr_climb S f o = tr_climb S 6 (tr_P S s) → pm_W xs 2 mT_depthOf 8 [.ref a, .int (nI s), .int (nI d), .int (tr_pv o)] [] h Q := by
    intro f
    induction f with
    | zero =>
      intro d o hd ho he
      have fin : pm_W xs 2 mT_depthOf 31 [.ref a, .int (nI s), .int (nI d), .int (tr_pv o)] [] h Q := by
        (repeat (first | refine pm_W.ts rfl rfl ?_ | refine pm_W.tl rfl rfl ?_))
        refine pm_W.iret rfl rfl ?_
        rw [← he] at k
        exact k
      (repeat (first | refine pm_W.ts rfl rfl ?_ | refine pm_W.tl rfl rfl ?_))
      refine pm_W.icmp rfl (fun c => fin) (fun c => ?_)
      (repeat (first | refine pm_W.ts rfl rfl ?_ | refine pm_W.tl rfl rfl ?_))
      refine pm_W.icmp rfl (fun c2 => fin) (fun c2 => ?_)
      have c2 : ¬ nI 6 ≤ nI d := c2
      rw [nI_leI (by omega) (by omega)] at c2
      omega
    | succ f ih =>
      intro d o hd ho he
      (repeat (first | refine pm_W.ts rfl rfl ?_ | refine pm_W.tl rfl rfl ?_))
      refine pm_W.icmp rfl (fun c => ?_) (fun c => ?_)
      · have c : tr_pv o = -1 := c
        rw [tr_pv_none ho] at c
        subst c
        (repeat (first | refine pm_W.ts rfl rfl ?_ | refine pm_W.tl rfl rfl ?_))
        refine pm_W.iret rfl rfl ?_
        rw [← he] at k
        exact k
      · have c : ¬ tr_pv o = -1 := c
        rw [tr_pv_none ho] at c
        (repeat (first | refine pm_W.ts rfl rfl ?_ | refine pm_W.tl rfl rfl ?_))
        refine pm_W.icmp rfl (fun c2 => ?_) (fun c2 => ?_)
        · have c2 : nI 6 ≤ nI d := c2
          rw [nI_leI (by omega) (by omega)] at c2
          omega
        · cases o with
          | none => exact absurd rfl c
          | some q =>
            have hq := ho q rfl
            (repeat (first | refine pm_W.ts rfl rfl ?_ | refine pm_W.tl rfl rfl ?_))
            refine pm_W.callV rfl rfl rfl rfl (fr_ble rfl) h1 (fr_ble rfl) (ct_T_parentOf hb (s := q) (by omega) ?_)
            (iterate 1 (first | refine pm_W.ts rfl rfl ?_ | refine pm_W.tl rfl rfl ?_))
            refine pm_W.goto rfl ?_
            have := ih (d + 1) (tr_P S q) (by omega) (bP q) (by
              have e : tr_climb S (f + 1) (some q) = tr_climb S f (tr_P S q) + 1 := rfl
              rw [e] at he
              omega)
            rw [← fr_inc d] at this
            exact this
  unfold pm_X
  (iterate 4 (first | refine pm_W.ts rfl rfl ?_ | refine pm_W.tl rfl rfl ?_))
  refine pm_W.callV rfl rfl rfl rfl (fr_ble rfl) h1 (fr_ble rfl) (ct_T_parentOf hb hs ?_)
  (iterate 1 (first | refine pm_W.ts rfl rfl ?_ | refine pm_W.tl rfl rfl ?_))
  exact loop 6 0 (tr_P S s) (by omega) (bP s) (by omega)
def tr_lies (S : tr_S) (top : Nat) : Nat → Option Nat → Bool
  | 0, _ => false
  | _ + 1, none => false
  | f + 1, some q => Nat.beq q top || tr_lies S top f (tr_P S q)
theorem ct_T_liesIn {s t : Nat} (hb : tr_R h a S) (hs : s < 11) (ht : t < 11) (k : Q (some (.int (fr_b (tr_lies S t 7 (some s))))) h) : pm_X xs 2 mT_liesIn [.ref a, .int (nI s), .int (nI t)] h Q := by
  obtain ⟨h1, h2, h3, h4, h5, h6, l1, l2, l3, bK, bN, bP⟩ := id hb
  have loop : ∀ (f u : Nat) (o : Option Nat), u + f = 7 → (∀ q, o = some q → q ≤ 10) → tr_lies S t f o = tr_lies S t 7 (some s) → pm_W xs 2 mT_liesIn 5 [.ref a, .int (nI s), .int (nI t), .int (tr_pv o), .int (nI u)] [] h Q := by
    intro f
    induction f with
    | zero =>
      intro u o hu ho he
      (repeat (first | refine pm_W.ts rfl rfl ?_ | refine pm_W.tl rfl rfl ?_))
      refine pm_W.icmp rfl (fun c => ?_) (fun c => ?_)
      · (repeat (first | refine pm_W.ts rfl rfl ?_ | refine pm_W.tl rfl rfl ?_))
        refine pm_W.iret rfl rfl ?_
        rw [← he, fr_bf (show tr_lies S t 0 o = false from rfl)] at k
        exact k
      · have c : ¬ nI 6 < nI u := c
        rw [nI_ltI (by omega) (by omega)] at c
        omega
    | succ f ih =>
      intro u o hu ho he
      (repeat (first | refine pm_W.ts rfl rfl ?_ | refine pm_W.tl rfl rfl ?_))
      refine pm_W.icmp rfl (fun c => ?_) (fun c => ?_)
      · have c : nI 6 < nI u := c
        rw [nI_ltI (by omega) (by omega)] at c
        omega
      · (repeat (first | refine pm_W.ts rfl rfl ?_ | refine pm_W.tl rfl rfl ?_))
        refine pm_W.icmp rfl (fun c => ?_) (fun c => ?_)
        · have c : tr_pv o = -1 := c
          rw [tr_pv_none ho] at c
          subst c
          (repeat (first | refine pm_W.ts rfl rfl ?_ | refine pm_W.tl rfl rfl ?_))
          refine pm_W.iret rfl rfl ?_
          rw [← he, fr_bf (show tr_lies S t (f + 1) none = false from rfl)] at k
          exact k
        · have c : ¬ tr_pv o = -1 := c
          rw [tr_pv_none ho] at c
          cases o with
          | none => exact absurd rfl c
          | some q =>
            have hq := ho q rfl
            have e : tr_lies S t (f + 1) (some q) = (Nat.beq q t || tr_lies S t f (tr_P S q)) := rfl
            (repeat (first | refine pm_W.ts rfl rfl ?_ | refine pm_W.tl rfl rfl ?_))
            refine pm_W.icmp rfl (fun c2 => ?_) (fun c2 => ?_)
            · have c2 : ¬ nI q = nI t := c2
              rw [nI_eq (by omega) (by omega)] at c2
              have e2 : Nat.beq q t = false := by
                cases hq2 : Nat.beq q t with
                | false => rfl
                | true => exact absurd (Nat.eq_of_beq_eq_true hq2) c2
              rw [e, e2, Bool.false_or] at he
              (repeat (first | refine pm_W.ts rfl rfl ?_ | refine pm_W.tl rfl rfl ?_))
              refine pm_W.callV rfl rfl rfl rfl (fr_ble rfl) h1 (fr_ble rfl) (ct_T_parentOf hb (s := q) (by omega) ?_)
              (iterate 2 (first | refine pm_W.ts rfl rfl ?_ | refine pm_W.tl rfl rfl ?_))
              refine pm_W.goto rfl ?_
              have := ih (u + 1) (tr_P S q) (by omega) (bP q) he
              rw [← fr_inc u] at this
              exact this
            · have c2 : ¬ ¬ nI q = nI t := c2
              have c2 := Classical.not_not.mp c2
              rw [nI_eq (by omega) (by omega)] at c2
              (repeat (first | refine pm_W.ts rfl rfl ?_ | refine pm_W.tl rfl rfl ?_))
              refine pm_W.iret rfl rfl ?_
              rw [← he, e, fr_bt (by rw [c2, Nat.beq_refl]; rfl)] at k
              exact k
  unfold pm_X
  (iterate 4 (first | refine pm_W.ts rfl rfl ?_ | refine pm_W.tl rfl rfl ?_))
  exact loop 7 0 (some s) (by omega) (fun q hq => by cases hq; omega) rfl
theorem tr_lies_setK {s v t : Nat} : ∀ (f : Nat) (o : Option Nat), tr_lies (tr_setK S s v) t f o = tr_lies S t f o := by
  intro f
  induction f with
  | zero => intro o; rfl
  | succ f ih =>
    intro o
    cases o with
    | none => rfl
    | some q =>
      show (_ || tr_lies (tr_setK S s v) t f (tr_P S q)) = _
      rw [ih]
      rfl
def tr_g (S : tr_S) (t s : Nat) : Bool := tr_u S s && tr_lies S t 7 (some s)
def tr_away (S : tr_S) (t : Nat) : Nat → tr_S
  | 0 => S
  | n + 1 => if tr_g S t (n + 1) = true then tr_setK (tr_away S t n) (n + 1) 0 else tr_away S t n
theorem tr_away_ok {t : Nat} (h : tr_ok S) : ∀ n, n ≤ 10 → tr_ok (tr_away S t n) ∧ (∀ s, n < s → tr_K (tr_away S t n) s = tr_K S s) ∧ (∀ f o, tr_lies (tr_away S t n) t f o = tr_lies S t f o) := by
  intro n
  induction n with
  | zero => intro _; exact ⟨h, fun _ _ => rfl, fun _ _ => rfl⟩
  | succ n ih =>
    intro hn
    obtain ⟨i1, i2, i3⟩ := ih (by omega)
    unfold tr_away
    split
    · refine ⟨tr_setK_ok i1 (by omega) (by omega), fun s hs => ?_, fun f o => ?_⟩
      · rw [tr_setK_K i1 (by omega), if_neg (by omega)]
        exact i2 s (by omega)
      · rw [tr_lies_setK]
        exact i3 f o
    · exact ⟨i1, fun s hs => i2 s (by omega), i3⟩
theorem ct_T_takeAway {t : Nat} (hb : tr_R h a S) (ht : t < 11) (k : ∀ h' : pm_H, tr_R h' a (tr_away S t 10) → fr_ag a (a + 27) h h' → Q (some (.int (nI (tr_cnt (tr_g S t) 10)))) h') : pm_X xs 3 mT_takeAway [.ref a, .int (nI t)] h Q := by
  have hok : tr_ok S := hb.2.2.2.2.2.2
  have loop : ∀ (r n : Nat) (g : pm_H), n + r = 10 → tr_R g a (tr_away S t n) → fr_ag a (a + 27) h g → pm_W xs 3 mT_takeAway 4 [.ref a, .int (nI t), .int (nI (tr_cnt (tr_g S t) n)), .int (nI (n + 1))] [] g Q := by
    intro r
    induction r with
    | zero =>
      intro n g hn hg hag
      (repeat (first | refine pm_W.ts rfl rfl ?_ | refine pm_W.tl rfl rfl ?_))
      refine pm_W.icmp rfl (fun c => ?_) (fun c => ?_)
      · (repeat (first | refine pm_W.ts rfl rfl ?_ | refine pm_W.tl rfl rfl ?_))
        have e : n = 10 := by omega
        subst e
        exact pm_W.iret rfl rfl (k g hg hag)
      · have c : ¬ nI 11 ≤ nI (n + 1) := c
        rw [nI_leI (by omega) (by omega)] at c
        omega
    | succ r ih =>
      intro n g hn hg hag
      obtain ⟨h1, h2, h3, h4, h5, h6, l1, l2, l3, bK, bN, bP⟩ := id hg
      obtain ⟨o1, o2, o3⟩ := tr_away_ok (t := t) hok n (by omega)
      have hK : tr_K (tr_away S t n) (n + 1) = tr_K S (n + 1) := o2 (n + 1) (by omega)
      have hk := bK (n + 1)
      have no : tr_g S t (n + 1) = false → pm_W xs 3 mT_takeAway 38 [.ref a, .int (nI t), .int (nI (tr_cnt (tr_g S t) n)), .int (nI (n + 1))] [] g Q := by
        intro c2
        have i1 := ih (n + 1) g (by omega) (by rw [tr_away, if_neg (by rw [c2]; decide)]; exact hg) hag
        rw [show tr_cnt (tr_g S t) (n + 1) = tr_cnt (tr_g S t) n from by show _ + _ = _; rw [c2]; rfl, ← fr_inc (n + 1)] at i1
        (repeat (first | refine pm_W.ts rfl rfl ?_ | refine pm_W.tl rfl rfl ?_))
        refine pm_W.goto rfl ?_
        exact i1
      (repeat (first | refine pm_W.ts rfl rfl ?_ | refine pm_W.tl rfl rfl ?_))
      refine pm_W.icmp rfl (fun c => ?_) (fun c => ?_)
      · have c : nI 11 ≤ nI (n + 1) := c
        rw [nI_leI (by omega) (by omega)] at c
        omega
      · (repeat (first | refine pm_W.ts rfl rfl ?_ | refine pm_W.tl rfl rfl ?_ | refine pm_W.get rfl rfl h1 rfl ?_))
        refine pm_W.iald rfl h2 (pm_ix_ok (j := n + 1) (by rw [List.length_map]; omega) (by rw [List.length_map]; omega)) ?_
        rw [fr_mapD]
        refine pm_W.ifz rfl (fun c2 => ?_) (fun c2 => ?_)
        · have c2 : nI (tr_K (tr_away S t n) (n + 1)) = nI 0 := c2
          rw [nI_eq (by omega) (by omega), hK] at c2
          exact no (by unfold tr_g; rw [show tr_u S (n + 1) = false from decide_eq_false (fun z => z c2)]; rfl)
        · have c2 : ¬ nI (tr_K (tr_away S t n) (n + 1)) = nI 0 := c2
          rw [nI_eq (by omega) (by omega), hK] at c2
          (repeat (first | refine pm_W.ts rfl rfl ?_ | refine pm_W.tl rfl rfl ?_))
          refine pm_W.callV rfl rfl rfl rfl (fr_ble rfl) h1 (fr_ble rfl) (ct_T_liesIn hg (by omega) ht ?_)
          rw [o3]
          refine pm_W.ifz rfl (fun c3 => ?_) (fun c3 => ?_)
          · have c3 := fr_b0 c3
            exact no (by unfold tr_g; rw [c3, Bool.and_false])
          · have c3 := fr_b1 c3
            have cg : tr_g S t (n + 1) = true := by unfold tr_g; rw [c3, show tr_u S (n + 1) = true from decide_eq_true c2]; rfl
            (repeat (first | refine pm_W.ts rfl rfl ?_ | refine pm_W.tl rfl rfl ?_ | refine pm_W.get rfl rfl h1 rfl ?_))
            refine pm_W.iast (x := nI 0) rfl h2 (pm_ix_ok (j := n + 1) (by rw [List.length_map]; omega) (by rw [List.length_map]; omega)) ?_
            (repeat (first | refine pm_W.ts rfl rfl ?_ | refine pm_W.tl rfl rfl ?_))
            refine pm_W.goto rfl ?_
            have hg2 := hg.setK (s := n + 1) (v := 0) (by omega) (by omega)
            have i1 := ih (n + 1) _ (by omega) (by rw [tr_away, if_pos cg]; exact hg2) (hag.tr (fr_agset (by omega) (by omega)))
            rw [show tr_cnt (tr_g S t) (n + 1) = tr_cnt (tr_g S t) n + 1 from by show _ + _ = _; rw [cg]; rfl, ← fr_inc (n + 1), ← fr_inc (tr_cnt (tr_g S t) n)] at i1
            exact i1
  unfold pm_X
  (iterate 4 (first | refine pm_W.ts rfl rfl ?_ | refine pm_W.tl rfl rfl ?_))
  exact loop 10 0 h (by omega) hb fr_ag.rf
def tr_clr (S : tr_S) : Nat → tr_S
  | 0 => S
  | n + 1 => tr_setK (tr_clr S n) (n + 1) 0
theorem ct_T_clear (hb : tr_R h a S) (k : ∀ h' : pm_H, tr_R h' a (tr_clr S 10) → fr_ag a (a + 27) h h' → Q none h') : pm_X xs 0 mT_clear [.ref a] h Q := by
  have loop : ∀ (r n : Nat) (g : pm_H), n + r = 10 → tr_R g a (tr_clr S n) → fr_ag a (a + 27) h g → pm_W xs 0 mT_clear 2 [.ref a, .int (nI (n + 1))] [] g Q := by
    intro r
    induction r with
    | zero =>
      intro n g hn hg hag
      (repeat (first | refine pm_W.ts rfl rfl ?_ | refine pm_W.tl rfl rfl ?_))
      refine pm_W.icmp rfl (fun c => ?_) (fun c => ?_)
      · have e : n = 10 := by omega
        subst e
        exact pm_W.ret rfl rfl (k g hg hag)
      · have c : ¬ nI 11 ≤ nI (n + 1) := c
        rw [nI_leI (by omega) (by omega)] at c
        omega
    | succ r ih =>
      intro n g hn hg hag
      obtain ⟨h1, h2, h3, h4, h5, h6, l1, l2, l3, bK, bN, bP⟩ := id hg
      (repeat (first | refine pm_W.ts rfl rfl ?_ | refine pm_W.tl rfl rfl ?_))
      refine pm_W.icmp rfl (fun c => ?_) (fun c => ?_)
      · have c : nI 11 ≤ nI (n + 1) := c
        rw [nI_leI (by omega) (by omega)] at c
        omega
      · (repeat (first | refine pm_W.ts rfl rfl ?_ | refine pm_W.tl rfl rfl ?_ | refine pm_W.get rfl rfl h1 rfl ?_))
        refine pm_W.iast (x := nI 0) rfl h2 (pm_ix_ok (j := n + 1) (by rw [List.length_map]; omega) (by rw [List.length_map]; omega)) ?_
        (repeat (first | refine pm_W.ts rfl rfl ?_ | refine pm_W.tl rfl rfl ?_))
        refine pm_W.goto rfl ?_
        have i1 := ih (n + 1) _ (by omega) (hg.setK (s := n + 1) (v := 0) (by omega) (by omega)) (hag.tr (fr_agset (by omega) (by omega)))
        rw [← fr_inc (n + 1)] at i1
        exact i1
  unfold pm_X
  (iterate 2 (first | refine pm_W.ts rfl rfl ?_ | refine pm_W.tl rfl rfl ?_))
  exact loop 10 0 h (by omega) hb fr_ag.rf
theorem tr_add_ok {s d w v : Nat} (h : tr_ok S) (hs : s < 11) (hd : d ≤ 10) (hw : w ≤ 31) (hv : v ≤ 2) : tr_ok (tr_add S s d w v) := by
  refine ⟨by show (S.1.set s v).length = 11; rw [List.length_set]; exact h.1, by show (S.2.1.set s w).length = 11; rw [List.length_set]; exact h.2.1, by show (S.2.2.1.set s (some d)).length = 11; rw [List.length_set]; exact h.2.2.1, fun t => ?_, fun t => ?_, fun t q hq => ?_⟩
  · show (S.1.set s v).getD t 0 ≤ 2
    rw [fr_setD (by rw [h.1]; exact hs)]
    split
    · exact hv
    · exact h.2.2.2.1 t
  · show (S.2.1.set s w).getD t 0 ≤ 31
    rw [fr_setD (by rw [h.2.1]; exact hs)]
    split
    · exact hw
    · exact h.2.2.2.2.1 t
  · have hq : (S.2.2.1.set s (some d)).getD t none = some q := hq
    rw [fr_setD (by rw [h.2.2.1]; exact hs)] at hq
    split at hq
    · cases hq; exact hd
    · exact h.2.2.2.2.2 t q hq
theorem ct_T_addEntry {d w v : Nat} (hb : tr_R h a S) (hd : d ≤ 10) (hw : w ≤ 31) (hv : v ≤ 2) (k1 : ∀ s, 1 ≤ s → s ≤ 10 → tr_K S s = 0 → (∀ t, 1 ≤ t → t < s → tr_K S t ≠ 0) → ∀ h' : pm_H, tr_R h' a (tr_add S s d w v) → fr_ag a (a + 27) h h' → Q (some (.int (nI s))) h') (k0 : (∀ t, 1 ≤ t → t ≤ 10 → tr_K S t ≠ 0) → Q (some (.int (-1))) h) : pm_X xs 1 mT_addEntry [.ref a, .int (nI d), .int (nI w), .int (nI v)] h Q := by
  obtain ⟨h1, h2, h3, h4, h5, h6, l1, l2, l3, bK, bN, bP⟩ := id hb
  have hok : tr_ok S := hb.2.2.2.2.2.2
  have loop : ∀ (r n : Nat), n + r = 10 → (∀ t, 1 ≤ t → t ≤ n → tr_K S t ≠ 0) → pm_W xs 1 mT_addEntry 3 [.ref a, .int (nI d), .int (nI w), .int (nI v), .int (nI (n + 1))] [] h Q := by
    intro r
    induction r with
    | zero =>
      intro n hn hj
      (repeat (first | refine pm_W.ts rfl rfl ?_ | refine pm_W.tl rfl rfl ?_))
      refine pm_W.icmp rfl (fun c => ?_) (fun c => ?_)
      · (repeat (first | refine pm_W.ts rfl rfl ?_ | refine pm_W.tl rfl rfl ?_))
        exact pm_W.iret rfl rfl (k0 (by rw [show n = 10 by omega] at hj; exact hj))
      · have c : ¬ nI 11 ≤ nI (n + 1) := c
        rw [nI_leI (by omega) (by omega)] at c
        omega
    | succ r ih =>
      intro n hn hj
      (repeat (first | refine pm_W.ts rfl rfl ?_ | refine pm_W.tl rfl rfl ?_))
      refine pm_W.icmp rfl (fun c => ?_) (fun c => ?_)
      · have c : nI 11 ≤ nI (n + 1) := c
        rw [nI_leI (by omega) (by omega)] at c
        omega
      · (repeat (first | refine pm_W.ts rfl rfl ?_ | refine pm_W.tl rfl rfl ?_ | refine pm_W.get rfl rfl h1 rfl ?_))
        refine pm_W.iald rfl h2 (pm_ix_ok (j := n + 1) (by rw [List.length_map]; omega) (by rw [List.length_map]; omega)) ?_
        rw [fr_mapD]
        have hk := bK (n + 1)
        refine pm_W.ifz rfl (fun c2 => ?_) (fun c2 => ?_)
        · have c2 : ¬ nI (tr_K S (n + 1)) = nI 0 := c2
          rw [nI_eq (by omega) (by omega)] at c2
          (repeat (first | refine pm_W.ts rfl rfl ?_ | refine pm_W.tl rfl rfl ?_))
          refine pm_W.goto rfl ?_
          have i1 := ih (n + 1) (by omega) (fun t ht1 ht2 => by
            by_cases e : t = n + 1
            · rw [e]; exact c2
            · exact hj t ht1 (by omega))
          rw [← fr_inc (n + 1)] at i1
          exact i1
        · have c2 : ¬ ¬ nI (tr_K S (n + 1)) = nI 0 := c2
          have c2 := Classical.not_not.mp c2
          rw [nI_eq (by omega) (by omega)] at c2
          (repeat (first | refine pm_W.ts rfl rfl ?_ | refine pm_W.tl rfl rfl ?_ | refine pm_W.get rfl rfl h1 rfl ?_))
          refine pm_W.iast rfl h2 (pm_ix_ok (j := n + 1) (by rw [List.length_map]; omega) (by rw [List.length_map]; omega)) ?_
          rw [← List.map_set]
          have c1 : pm_C := .inl (false, (S.1.set (n + 1) v).map nI)
          have h1a := fr_ne (c := .inl (false, (S.1.set (n + 1) v).map nI)) h1 (show a + 1 ≠ a by omega)
          have h2a := fr_set (c := .inl (false, (S.1.set (n + 1) v).map nI)) h2
          have h3a := fr_ne (c := .inl (false, (S.1.set (n + 1) v).map nI)) h3 (show a + 1 ≠ a + 2 by omega)
          have h4a := fr_ne (c := .inl (false, (S.1.set (n + 1) v).map nI)) h4 (show a + 1 ≠ a + 3 by omega)
          have h5a := fr_ne (c := .inl (false, (S.1.set (n + 1) v).map nI)) h5 (show a + 1 ≠ a + 4 by omega)
          (repeat (first | refine pm_W.ts rfl rfl ?_ | refine pm_W.tl rfl rfl ?_ | refine pm_W.get rfl rfl h1a rfl ?_))
          refine pm_W.iast rfl h3a (pm_ix_ok (j := n + 1) (by rw [List.length_map]; omega) (by rw [List.length_map]; omega)) ?_
          rw [← List.map_set]
          have h1b := fr_ne (c := .inl (false, (S.2.1.set (n + 1) w).map nI)) h1a (show a + 2 ≠ a by omega)
          have h2b := fr_ne (c := .inl (false, (S.2.1.set (n + 1) w).map nI)) h2a (show a + 2 ≠ a + 1 by omega)
          have h3b := fr_set (c := .inl (false, (S.2.1.set (n + 1) w).map nI)) h3a
          have h4b := fr_ne (c := .inl (false, (S.2.1.set (n + 1) w).map nI)) h4a (show a + 2 ≠ a + 3 by omega)
          have h5b := fr_ne (c := .inl (false, (S.2.1.set (n + 1) w).map nI)) h5a (show a + 2 ≠ a + 4 by omega)
          (repeat (first | refine pm_W.ts rfl rfl ?_ | refine pm_W.tl rfl rfl ?_ | refine pm_W.get rfl rfl h1b rfl ?_))
          refine pm_W.iast (x := tr_pv (some d)) rfl h4b (pm_ix_ok (j := n + 1) (by rw [List.length_map]; omega) (by rw [List.length_map]; omega)) ?_
          rw [← List.map_set]
          have h1c := fr_ne (c := .inl (false, (S.2.2.1.set (n + 1) (some d)).map tr_pv)) h1b (show a + 3 ≠ a by omega)
          have h2c := fr_ne (c := .inl (false, (S.2.2.1.set (n + 1) (some d)).map tr_pv)) h2b (show a + 3 ≠ a + 1 by omega)
          have h3c := fr_ne (c := .inl (false, (S.2.2.1.set (n + 1) (some d)).map tr_pv)) h3b (show a + 3 ≠ a + 2 by omega)
          have h4c := fr_set (c := .inl (false, (S.2.2.1.set (n + 1) (some d)).map tr_pv)) h4b
          have h5c := fr_ne (c := .inl (false, (S.2.2.1.set (n + 1) (some d)).map tr_pv)) h5b (show a + 3 ≠ a + 4 by omega)
          have hag : fr_ag (a + 1) (a + 4) h ((((h.1.set (a + 1) (.inl (false, (S.1.set (n + 1) v).map nI))).set (a + 2) (.inl (false, (S.2.1.set (n + 1) w).map nI))).set (a + 3) (.inl (false, (S.2.2.1.set (n + 1) (some d)).map tr_pv))), h.2) :=
            ((fr_agset (lo := a + 1) (hi := a + 4) (k := a + 1) (by omega) (by omega)).tr (fr_agset (lo := a + 1) (hi := a + 4) (k := a + 2) (by omega) (by omega))).tr (fr_agset (lo := a + 1) (hi := a + 4) (k := a + 3) (by omega) (by omega))
          (repeat (first | refine pm_W.ts rfl rfl ?_ | refine pm_W.tl rfl rfl ?_ | refine pm_W.get rfl rfl h1c rfl ?_))
          refine pm_W.aald rfl h5c (pm_ix_ok (j := n + 1) (by rw [tr_row_len]; omega) (by rw [tr_row_len]; omega)) (by decide) ?_
          rw [tr_rowD (by omega)]
          have hB := (h6 (n + 1) (by omega)).ag hag (by omega)
          obtain ⟨ys, r1, -⟩ := id hB
          refine pm_W.callV rfl rfl rfl rfl (fr_ble rfl) r1 (fr_ble rfl) (ct_B_clear hB (fun h' hB' hag' => ?_))
          (repeat (first | refine pm_W.ts rfl rfl ?_ | refine pm_W.tl rfl rfl ?_))
          refine pm_W.iret rfl rfl (k1 (n + 1) (by omega) (by omega) c2 (fun t ht1 ht2 => hj t ht1 (by omega)) h' ⟨hag'.at (by omega) h1c, hag'.at (by omega) h2c, hag'.at (by omega) h3c, hag'.at (by omega) h4c, hag'.at (by omega) h5c, fun t ht => ?_, tr_add_ok hok (by omega) hd hw hv⟩ ((hag.wide (by omega) (by omega)).tr (hag'.wide (by omega) (by omega))))
          show bt_R h' _ 16 (if t = n + 1 then [] else S.2.2.2 t)
          by_cases e : t = n + 1
          · subst e
            rw [if_pos rfl]
            exact hB'
          · rw [if_neg e]
            exact ((h6 t ht).ag hag (by omega)).ag hag' (by omega)
  unfold pm_X
  (iterate 2 (first | refine pm_W.ts rfl rfl ?_ | refine pm_W.tl rfl rfl ?_))
  exact loop 10 0 (by omega) (fun t h1 h2 => by omega)
end TREE2
end
section
def tr_at (S : tr_S) (p : Nat) : Nat → Option Nat → Prop
  | 0, o => o = some 0
  | k + 1, o => ∃ o', tr_at S p k o' ∧ match o' with
    | none => o = none
    | some d => (∃ s, o = some s ∧ 1 ≤ s ∧ s ≤ 10 ∧ tr_c S d s = true ∧ tr_N S s = pa_n p k) ∨ (o = none ∧ ∀ s, 1 ≤ s → s ≤ 10 → ¬ (tr_c S d s = true ∧ tr_N S s = pa_n p k))
theorem tr_at_le {S : tr_S} {p : Nat} : ∀ (k : Nat) (o : Option Nat), tr_at S p k o → ∀ q, o = some q → q ≤ 10 := by
  intro k
  cases k with
  | zero => intro o h q hq; rw [h] at hq; cases hq; omega
  | succ k =>
    intro o ⟨o', h1, h2⟩ q hq
    cases o' with
    | none => rw [h2] at hq; cases hq
    | some d =>
      rcases h2 with ⟨s, e, -, hs, -⟩ | ⟨e, -⟩
      · rw [e] at hq; cases hq; exact hs
      · rw [e] at hq; cases hq
theorem tr_at_none {S : tr_S} {p : Nat} : ∀ (r k : Nat), tr_at S p k none → tr_at S p (k + r) none := by
  intro r
  induction r with
  | zero => intro k h; exact h
  | succ r ih => intro k h; exact ⟨none, ih k h, rfl⟩
section TREE3
variable {xs : List Int32} {h : pm_H} {a : Nat} {S : tr_S} {Q : Option Value → pm_H → Prop}
theorem ct_T_find {p : Nat} (hb : tr_R h a S) (hp : p < 2 ^ 32) (k0 : pa_ok p = false → Q (some (.int (-1))) h) (k1 : pa_ok p = true → ∀ o, tr_at S p (pa_d p) o → Q (some (.int (tr_pv o))) h) : pm_X xs 3 mT_find [.ref a, .int (nI p)] h Q := by
  obtain ⟨h1, h2, h3, h4, h5, h6, l1, l2, l3, bK, bN, bP⟩ := id hb
  have hd := (pa_d_spec p).1
  unfold pm_X
  (repeat (first | refine pm_W.ts rfl rfl ?_ | refine pm_W.tl rfl rfl ?_))
  refine pm_W.callS rfl rfl rfl rfl (fr_ble rfl) (fr_ble rfl) (ct_T_isPath hp ?_)
  refine pm_W.ifz rfl (fun c => ?_) (fun c => ?_)
  · have c := fr_b1 c
    have loop : ∀ (r i : Nat) (o : Option Nat), i + r = pa_d p → tr_at S p i o → pm_W xs 3 mT_find 19 [.ref a, .int (nI p), .int (tr_pv o), .int (nI (pa_d p)), .int (nI i)] [] h Q := by
      intro r
      induction r with
      | zero =>
        intro i o hi ho
        (repeat (first | refine pm_W.ts rfl rfl ?_ | refine pm_W.tl rfl rfl ?_))
        refine pm_W.icmp rfl (fun c2 => ?_) (fun c2 => ?_)
        · (repeat (first | refine pm_W.ts rfl rfl ?_ | refine pm_W.tl rfl rfl ?_))
          rw [show i = pa_d p by omega] at ho
          exact pm_W.iret rfl rfl (k1 c o ho)
        · have c2 : ¬ nI (pa_d p) ≤ nI i := c2
          rw [nI_leI (by omega) (by omega)] at c2
          omega
      | succ r ih =>
        intro i o hi ho
        have hle := tr_at_le i o ho
        (repeat (first | refine pm_W.ts rfl rfl ?_ | refine pm_W.tl rfl rfl ?_))
        refine pm_W.icmp rfl (fun c2 => ?_) (fun c2 => ?_)
        · have c2 : nI (pa_d p) ≤ nI i := c2
          rw [nI_leI (by omega) (by omega)] at c2
          omega
        · (repeat (first | refine pm_W.ts rfl rfl ?_ | refine pm_W.tl rfl rfl ?_))
          refine pm_W.icmp rfl (fun c3 => ?_) (fun c3 => ?_)
          · have c3 : tr_pv o = -1 := c3
            rw [tr_pv_none hle] at c3
            subst c3
            (repeat (first | refine pm_W.ts rfl rfl ?_ | refine pm_W.tl rfl rfl ?_))
            have := tr_at_none (r + 1) i ho
            rw [hi] at this
            exact pm_W.iret rfl rfl (k1 c none this)
          · have c3 : ¬ tr_pv o = -1 := c3
            rw [tr_pv_none hle] at c3
            cases o with
            | none => exact absurd rfl c3
            | some d =>
              have hd10 := hle d rfl
              have hn : pa_n p i ≤ 31 := by unfold pa_n; omega
              (repeat (first | refine pm_W.ts rfl rfl ?_ | refine pm_W.tl rfl rfl ?_))
              refine pm_W.callS (d' := 0) rfl rfl rfl rfl (fr_ble rfl) (fr_ble rfl) (ct_T_nameIn hp (by omega) ?_)
              refine pm_W.callV rfl rfl rfl rfl (fr_ble rfl) h1 (fr_ble rfl) (ct_T_childNamed hb hd10 hn (fun s hs1 hs2 hc hN => ?_) (fun hno => ?_))
              · (iterate 2 (first | refine pm_W.ts rfl rfl ?_ | refine pm_W.tl rfl rfl ?_))
                refine pm_W.goto rfl ?_
                have := ih (i + 1) (some s) (by omega) ⟨some d, ho, Or.inl ⟨s, rfl, hs1, hs2, hc, hN⟩⟩
                rw [← fr_inc i] at this
                exact this
              · (iterate 2 (first | refine pm_W.ts rfl rfl ?_ | refine pm_W.tl rfl rfl ?_))
                refine pm_W.goto rfl ?_
                have := ih (i + 1) none (by omega) ⟨some d, ho, Or.inr ⟨rfl, hno⟩⟩
                rw [← fr_inc i] at this
                exact this
    (iterate 3 (first | refine pm_W.ts rfl rfl ?_ | refine pm_W.tl rfl rfl ?_))
    refine pm_W.callS rfl rfl rfl rfl (fr_ble rfl) (fr_ble rfl) (ct_T_namesIn hp ?_)
    (iterate 3 (first | refine pm_W.ts rfl rfl ?_ | refine pm_W.tl rfl rfl ?_))
    exact loop (pa_d p) 0 (some 0) (by omega) rfl
  · have c : ¬ ¬ fr_b (pa_ok p) = 0 := c
    (repeat (first | refine pm_W.ts rfl rfl ?_ | refine pm_W.tl rfl rfl ?_))
    exact pm_W.iret rfl rfl (k0 (fr_b0 (Classical.not_not.mp c)))
theorem ct_T_fileAt {p : Nat} (hb : tr_R h a S) (hp : p < 2 ^ 32) (k1 : pa_ok p = true → ∀ s, tr_at S p (pa_d p) (some s) → s ≤ 10 → tr_K S s = 1 → Q (some (.ref (a + 5 + 2 * s))) h) (k0 : (pa_ok p = true → ∃ o, tr_at S p (pa_d p) o ∧ ∀ s, o = some s → tr_K S s ≠ 1) → Q (some .null) h) : pm_X xs 4 mT_fileAt [.ref a, .int (nI p)] h Q := by
  obtain ⟨h1, h2, h3, h4, h5, h6, l1, l2, l3, bK, bN, bP⟩ := id hb
  have nul : Q (some .null) h → pm_W xs 4 mT_fileAt 5 [.ref a, .int (nI p), pm_none] [.int (-1)] h Q := by
    intro q
    (repeat (first | refine pm_W.ts rfl rfl ?_ | refine pm_W.tl rfl rfl ?_))
    refine pm_W.callS (d' := 0) rfl rfl rfl rfl (fr_ble rfl) (fr_ble rfl) (ct_T_isSlotN ?_)
    refine pm_W.ifz rfl (fun c => ?_) (fun c => absurd rfl c)
    (repeat (first | refine pm_W.ts rfl rfl ?_ | refine pm_W.tl rfl rfl ?_))
    exact pm_W.aretN rfl rfl q
  unfold pm_X
  (iterate 2 (first | refine pm_W.ts rfl rfl ?_ | refine pm_W.tl rfl rfl ?_))
  refine pm_W.callV rfl rfl rfl rfl (fr_ble rfl) h1 (fr_ble rfl) (ct_T_find hb hp (fun hn => ?_) (fun hy o ho => ?_))
  · exact nul (k0 (fun z => by rw [hn] at z; cases z))
  · cases o with
    | none => exact nul (k0 (fun _ => ⟨none, ho, fun s hs => by cases hs⟩))
    | some s =>
      have hs := tr_at_le _ _ ho s rfl
      (repeat (first | refine pm_W.ts rfl rfl ?_ | refine pm_W.tl rfl rfl ?_))
      refine pm_W.callS (d' := 0) rfl rfl rfl rfl (fr_ble rfl) (fr_ble rfl) (ct_T_isSlot (s := s) (by omega) ?_)
      refine pm_W.ifz rfl (fun c => absurd (show (1 : Int32) = 0 from c) (by decide)) (fun c => ?_)
      (repeat (first | refine pm_W.ts rfl rfl ?_ | refine pm_W.tl rfl rfl ?_ | refine pm_W.get rfl rfl h1 rfl ?_))
      refine pm_W.iald rfl h2 (pm_ix_ok (j := s) (by rw [List.length_map]; omega) (by rw [List.length_map]; omega)) ?_
      rw [fr_mapD]
      have hk := bK s
      (repeat (first | refine pm_W.ts rfl rfl ?_ | refine pm_W.tl rfl rfl ?_))
      refine pm_W.icmp rfl (fun c2 => ?_) (fun c2 => ?_)
      · have c2 : ¬ nI (tr_K S s) = nI 1 := c2
        rw [nI_eq (by omega) (by omega)] at c2
        (repeat (first | refine pm_W.ts rfl rfl ?_ | refine pm_W.tl rfl rfl ?_))
        exact pm_W.aretN rfl rfl (k0 (fun _ => ⟨some s, ho, fun t ht => by cases ht; exact c2⟩))
      · have c2 : ¬ ¬ nI (tr_K S s) = nI 1 := c2
        have c2 := Classical.not_not.mp c2
        rw [nI_eq (by omega) (by omega)] at c2
        (repeat (first | refine pm_W.ts rfl rfl ?_ | refine pm_W.tl rfl rfl ?_ | refine pm_W.get rfl rfl h1 rfl ?_))
        refine pm_W.aald rfl h5 (pm_ix_ok (j := s) (by rw [tr_row_len]; omega) (by rw [tr_row_len]; omega)) (by decide) ?_
        rw [tr_rowD (by omega)]
        refine pm_W.goto rfl ?_
        exact pm_W.aretR rfl rfl (k1 hy s ho hs c2)
def tr_best (f : Nat → Bool) (g : Nat → Nat) (w : Nat) : Nat → Option Nat
  | 0 => none
  | n + 1 => if f (n + 1) = true ∧ w < g (n + 1) ∧ (∀ b, tr_best f g w n = some b → g (n + 1) < g b) then some (n + 1) else tr_best f g w n
theorem tr_best_le {f : Nat → Bool} {g : Nat → Nat} {w : Nat} : ∀ (n b : Nat), tr_best f g w n = some b → 1 ≤ b ∧ b ≤ n := by
  intro n
  induction n with
  | zero => intro b hb; cases hb
  | succ n ih =>
    intro b hb
    unfold tr_best at hb
    split at hb
    · cases hb; omega
    · have := ih b hb; omega
theorem ct_T_childBehind {d w : Nat} (hb : tr_R h a S) (hd : d ≤ 10) (hw : w ≤ 31) (k : Q (some (.int (tr_pv (tr_best (tr_c S d) (tr_N S) w 10)))) h) : pm_X xs 1 mT_childBehind [.ref a, .int (nI d), .int (nI w)] h Q := by
  obtain ⟨h1, h2, h3, h4, h5, h6, l1, l2, l3, bK, bN, bP⟩ := id hb
  have loop : ∀ (r n : Nat), n + r = 10 → pm_W xs 1 mT_childBehind 5 [.ref a, .int (nI d), .int (nI w), .int (tr_pv (tr_best (tr_c S d) (tr_N S) w n)), .int (nI (n + 1))] [] h Q := by
    intro r
    induction r with
    | zero =>
      intro n hn
      (repeat (first | refine pm_W.ts rfl rfl ?_ | refine pm_W.tl rfl rfl ?_))
      refine pm_W.icmp rfl (fun c => ?_) (fun c => ?_)
      · (repeat (first | refine pm_W.ts rfl rfl ?_ | refine pm_W.tl rfl rfl ?_))
        rw [show n = 10 by omega]
        exact pm_W.iret rfl rfl k
      · have c : ¬ nI 11 ≤ nI (n + 1) := c
        rw [nI_leI (by omega) (by omega)] at c
        omega
    | succ r ih =>
      intro n hn
      have i1 := ih (n + 1) (by omega)
      have hN := bN (n + 1)
      have no : tr_best (tr_c S d) (tr_N S) w (n + 1) = tr_best (tr_c S d) (tr_N S) w n → pm_W xs 1 mT_childBehind 57 [.ref a, .int (nI d), .int (nI w), .int (tr_pv (tr_best (tr_c S d) (tr_N S) w n)), .int (nI (n + 1))] [] h Q := by
        intro e
        rw [e, ← fr_inc (n + 1)] at i1
        (repeat (first | refine pm_W.ts rfl rfl ?_ | refine pm_W.tl rfl rfl ?_))
        refine pm_W.goto rfl ?_
        exact i1
      have yes : tr_best (tr_c S d) (tr_N S) w (n + 1) = some (n + 1) → pm_W xs 1 mT_childBehind 54 [.ref a, .int (nI d), .int (nI w), .int (tr_pv (tr_best (tr_c S d) (tr_N S) w n)), .int (nI (n + 1))] [] h Q := by
        intro e
        rw [e, ← fr_inc (n + 1)] at i1
        (repeat (first | refine pm_W.ts rfl rfl ?_ | refine pm_W.tl rfl rfl ?_))
        refine pm_W.goto rfl ?_
        exact i1
      (repeat (first | refine pm_W.ts rfl rfl ?_ | refine pm_W.tl rfl rfl ?_))
      refine pm_W.icmp rfl (fun c => ?_) (fun c => ?_)
      · have c : nI 11 ≤ nI (n + 1) := c
        rw [nI_leI (by omega) (by omega)] at c
        omega
      · (repeat (first | refine pm_W.ts rfl rfl ?_ | refine pm_W.tl rfl rfl ?_))
        refine pm_W.callV rfl rfl rfl rfl (fr_ble rfl) h1 (fr_ble rfl) (ct_T_isChild hb (by omega) hd ?_)
        refine pm_W.ifz rfl (fun c2 => ?_) (fun c2 => ?_)
        · have c2 := fr_b0 c2
          exact no (by rw [tr_best, if_neg (fun z => by rw [c2] at z; cases z.1)])
        · have c2 := fr_b1 c2
          (repeat (first | refine pm_W.ts rfl rfl ?_ | refine pm_W.tl rfl rfl ?_ | refine pm_W.get rfl rfl h1 rfl ?_))
          refine pm_W.iald rfl h3 (pm_ix_ok (j := n + 1) (by rw [List.length_map]; omega) (by rw [List.length_map]; omega)) ?_
          rw [fr_mapD]
          (repeat (first | refine pm_W.ts rfl rfl ?_ | refine pm_W.tl rfl rfl ?_))
          refine pm_W.icmp rfl (fun c3 => ?_) (fun c3 => ?_)
          · have c3 : nI (tr_N S (n + 1)) ≤ nI w := c3
            rw [nI_leI (by omega) (by omega)] at c3
            exact no (by rw [tr_best, if_neg (fun z => by omega)])
          · have c3 : ¬ nI (tr_N S (n + 1)) ≤ nI w := c3
            rw [nI_leI (by omega) (by omega)] at c3
            (repeat (first | refine pm_W.ts rfl rfl ?_ | refine pm_W.tl rfl rfl ?_))
            cases hbest : tr_best (tr_c S d) (tr_N S) w n with
            | none =>
              rw [hbest] at yes no
              refine pm_W.icmp rfl (fun c4 => ?_) (fun c4 => absurd rfl c4)
              exact yes (by rw [tr_best, if_pos ⟨c2, by omega, fun b hb => by rw [hbest] at hb; cases hb⟩])
            | some b =>
              rw [hbest] at yes no
              have hb2 := tr_best_le n b hbest
              have hNb := bN b
              refine pm_W.icmp rfl (fun c4 => ?_) (fun c4 => ?_)
              · have c4 : nI b = -1 := c4
                have : (nI b).toInt = -1 := by rw [c4]; rfl
                rw [nI_toInt (by omega)] at this
                omega
              · (repeat (first | refine pm_W.ts rfl rfl ?_ | refine pm_W.tl rfl rfl ?_ | refine pm_W.get rfl rfl h1 rfl ?_))
                refine pm_W.iald rfl h3 (pm_ix_ok (j := n + 1) (by rw [List.length_map]; omega) (by rw [List.length_map]; omega)) ?_
                rw [fr_mapD]
                (repeat (first | refine pm_W.ts rfl rfl ?_ | refine pm_W.tl rfl rfl ?_ | refine pm_W.get rfl rfl h1 rfl ?_))
                refine pm_W.iald rfl h3 (pm_ix_ok (j := b) (by rw [List.length_map]; omega) (by rw [List.length_map]; omega)) ?_
                rw [fr_mapD]
                refine pm_W.icmp rfl (fun c5 => ?_) (fun c5 => ?_)
                · have c5 : nI (tr_N S b) ≤ nI (tr_N S (n + 1)) := c5
                  rw [nI_leI (by omega) (by omega)] at c5
                  exact no (by rw [tr_best, if_neg (fun z => by have := z.2.2 b hbest; omega), hbest])
                · have c5 : ¬ nI (tr_N S b) ≤ nI (tr_N S (n + 1)) := c5
                  rw [nI_leI (by omega) (by omega)] at c5
                  exact yes (by rw [tr_best, if_pos ⟨c2, by omega, fun b' hb' => by rw [hbest] at hb'; cases hb'; omega⟩])
  unfold pm_X
  (iterate 4 (first | refine pm_W.ts rfl rfl ?_ | refine pm_W.tl rfl rfl ?_))
  exact loop 10 0 (by omega)
end TREE3
end
section
def bt_ok (bs : List Int32) : Prop := ∀ x ∈ bs, x &&& 255 = x
theorem fr_255 (n : Nat) (h : n < 256) : nI n &&& 255 = nI n := by
  have := fr_mask (a := n) 8
  rw [show n % 2 ^ 8 = n by omega] at this
  exact this
theorem bt_from_all {bs : List Int32} (hb : bt_ok bs) (hl : bs.length ≤ 1000) : bt_from bs 0 bs.length = bs := by
  apply List.ext_getElem?
  intro i
  by_cases hi : i < bs.length
  · have e : (0 : Int32) + nI i = nI i := Int32.zero_add _
    simp only [bt_from, List.getElem?_map, List.getElem?_range hi, Option.map_some]
    rw [e, bt_at_nat hi hl, List.getElem?_eq_getElem hi]
    have h1 : bs.getD i 0 = bs[i] := by simp [hi]
    rw [h1, hb _ (List.getElem_mem hi)]
  · rw [List.getElem?_eq_none (by rw [bt_from_len]; omega), List.getElem?_eq_none (by omega)]
abbrev ws_Q : Type := Option Nat × Nat × List Int32
def ws_file (S : tr_S) (c : Nat) : List Int32 := [1, nI (tr_N S c), nI (tr_B S c).length] ++ tr_B S c
def ws_step (S : tr_S) (d w : Nat) (o : List Int32) : ws_Q := match tr_best (tr_c S d) (tr_N S) w 10 with
  | none => (tr_P S d, tr_N S d, o ++ [9, nI (tr_cnt (tr_c S d) 10)])
  | some c => if tr_K S c = 1 then (some d, tr_N S c, o ++ ws_file S c) else (some c, 0, o ++ [2, nI (tr_N S c)])
def ws_run (S : tr_S) : Nat → ws_Q → ws_Q
  | 0, q => q
  | f + 1, q => match q.1 with
    | none => q
    | some d => ws_run S f (ws_step S d q.2.1 q.2.2)
theorem ws_step_len {S : tr_S} {d w : Nat} {o : List Int32} : o.length ≤ (ws_step S d w o).2.2.length := by
  unfold ws_step
  split
  · show o.length ≤ (o ++ _).length
    rw [List.length_append]; omega
  · split
    · show o.length ≤ (o ++ _).length
      rw [List.length_append]; omega
    · show o.length ≤ (o ++ _).length
      rw [List.length_append]; omega
theorem ws_run_len {S : tr_S} : ∀ (f : Nat) (q : ws_Q), q.2.2.length ≤ (ws_run S f q).2.2.length := by
  intro f
  induction f with
  | zero => intro q; exact Nat.le_refl _
  | succ f ih =>
    intro q
    unfold ws_run
    split
    · exact Nat.le_refl _
    · exact Nat.le_trans ws_step_len (ih _)
def ws_out (S : tr_S) : List Int32 := (ws_run S 22 (some 0, 0, [])).2.2
section STREAM
variable {xs : List Int32} {h : pm_H} {a o ro : Nat} {S : tr_S} {os : List Int32} {Q : Option Value → pm_H → Prop}
theorem ct_T_writeFile {s : Nat} (hb : tr_R h a S) (hs : s < 11) (hB : bt_ok (tr_B S s)) (ho : bt_R h o ro os) (hd : o + 2 ≤ a ∨ a + 27 ≤ o) (hl : (os ++ ws_file S s).length ≤ ro)
    (k : ∀ h' : pm_H, bt_R h' o ro (os ++ ws_file S s) → fr_ag o (o + 2) h h' → Q none h') : pm_X xs 3 mT_writeFile [.ref a, .int (nI s), .ref o] h Q := by
  obtain ⟨h1, h2, h3, h4, h5, h6, l1, l2, l3, bK, bN, bP⟩ := id hb
  have hBs := h6 s hs
  have hBl : (tr_B S s).length ≤ 16 := by obtain ⟨ys, -, -, -, -, g, -⟩ := id hBs; exact g
  have hro : ro ≤ 1000 := by obtain ⟨ys, -, -, -, -, -, g⟩ := id ho; exact g
  rw [ws_file, List.length_append, List.length_append] at hl
  simp only [List.length_cons, List.length_nil] at hl
  have hN := bN s
  obtain ⟨ys, o1, -⟩ := id ho
  unfold pm_X
  (repeat (first | refine pm_W.ts rfl rfl ?_ | refine pm_W.tl rfl rfl ?_ | refine pm_W.get rfl rfl h1 rfl ?_))
  refine pm_W.aald rfl h5 (pm_ix_ok (j := s) (by rw [tr_row_len]; omega) (by rw [tr_row_len]; omega)) (by decide) ?_
  rw [tr_rowD (by omega)]
  (repeat (first | refine pm_W.ts rfl rfl ?_ | refine pm_W.tl rfl rfl ?_))
  refine pm_W.callV (d' := 0) rfl rfl rfl rfl (fr_ble rfl) o1 (fr_ble rfl) (ct_B_add ho (fun z => by omega) (fun _ g hg hag => ?_))
  rw [show Int32.ofInt 1 &&& 255 = 1 from by decide] at hg
  have h1a := hag.at (by omega) h1
  (repeat (first | refine pm_W.ts rfl rfl ?_ | refine pm_W.tl rfl rfl ?_ | refine pm_W.get rfl rfl h1a rfl ?_))
  refine pm_W.iald rfl (hag.at (by omega) h3) (pm_ix_ok (j := s) (by rw [List.length_map]; omega) (by rw [List.length_map]; omega)) ?_
  rw [fr_mapD]
  obtain ⟨ys2, o2, -⟩ := id hg
  refine pm_W.callV (d' := 0) rfl rfl rfl rfl (fr_ble rfl) o2 (fr_ble rfl) (ct_B_add hg (fun z => by rw [List.length_append, List.length_singleton] at z; omega) (fun _ g2 hg2 hag2 => ?_))
  rw [show nI (S.2.1.getD s 0) &&& 255 = nI (tr_N S s) from fr_255 (tr_N S s) (by omega)] at hg2
  have hBs2 := (hBs.ag hag (by omega)).ag hag2 (by omega)
  obtain ⟨ys3, b3, -⟩ := id hBs2
  (repeat (first | refine pm_W.ts rfl rfl ?_ | refine pm_W.tl rfl rfl ?_))
  refine pm_W.callV (d' := 0) rfl rfl rfl rfl (fr_ble rfl) b3 (fr_ble rfl) (ct_B_count hBs2 ?_)
  obtain ⟨ys4, o4, -⟩ := id hg2
  refine pm_W.callV (d' := 0) rfl rfl rfl rfl (fr_ble rfl) o4 (fr_ble rfl) (ct_B_add hg2 (fun z => by simp only [List.length_append, List.length_singleton] at z; omega) (fun _ g3 hg3 hag3 => ?_))
  rw [fr_255 _ (by omega)] at hg3
  have hBs3 := hBs2.ag hag3 (by omega)
  obtain ⟨ys5, b5, -⟩ := id hBs3
  (repeat (first | refine pm_W.ts rfl rfl ?_ | refine pm_W.tl rfl rfl ?_))
  refine pm_W.callV (d' := 0) rfl rfl rfl rfl (fr_ble rfl) b5 (fr_ble rfl) (ct_B_count hBs3 ?_)
  obtain ⟨ys6, o6, -⟩ := id hg3
  refine pm_W.callV rfl rfl rfl rfl (fr_ble rfl) o6 (fr_ble rfl) (ct_B_addFrom hg3 hBs3 (by omega) (by simp only [List.length_append, List.length_singleton]; omega) (fun g4 hg4 hag4 => ?_))
  rw [show bt_from (tr_B S s) (Int32.ofInt 0) (tr_B S s).length = tr_B S s from bt_from_all hB (by omega)] at hg4
  refine pm_W.ret rfl rfl (k g4 ?_ (((hag.tr hag2).tr hag3).tr hag4))
  rw [ws_file]
  simpa [List.append_assoc] using hg4
theorem ct_T_writeStream (hb : tr_R h a S) (hB : ∀ s, s < 11 → bt_ok (tr_B S s)) (ho : bt_R h o ro os) (hd : o + 2 ≤ a ∨ a + 27 ≤ o) (hl : (ws_out S).length ≤ ro)
    (k : ∀ h' : pm_H, bt_R h' o ro (ws_out S) → fr_ag o (o + 2) h h' → Q none h') : pm_X xs 4 mT_writeStream [.ref a, .ref o] h Q := by
  obtain ⟨-, -, -, -, -, -, l1, l2, l3, bK, bN, bP⟩ := id hb
  have loop : ∀ (f i : Nat) (q : ws_Q) (g : pm_H) (v : Value), i + f = 22 → (∀ e, q.1 = some e → e ≤ 10) → q.2.1 ≤ 31 → ws_run S f q = ws_run S 22 (some 0, 0, []) → bt_R g o ro q.2.2 → fr_ag o (o + 2) h g → pm_W xs 4 mT_writeStream 11 [.ref a, .ref o, .int (tr_pv q.1), .int (nI q.2.1), .int (nI i), v] [] g Q := by
    intro f
    induction f with
    | zero =>
      intro i q g v hi hq1 hq2 he hg hag
      (repeat (first | refine pm_W.ts rfl rfl ?_ | refine pm_W.tl rfl rfl ?_))
      refine pm_W.icmp rfl (fun c => ?_) (fun c => ?_)
      · refine pm_W.ret rfl rfl (k g ?_ hag)
        rw [ws_out, ← he]
        exact hg
      · have c : ¬ nI 22 ≤ nI i := c
        rw [nI_leI (by omega) (by omega)] at c
        omega
    | succ f ih =>
      intro i q g v hi hq1 hq2 he hg hag
      obtain ⟨qd, w, out⟩ := q
      replace hg : bt_R g o ro out := hg
      replace hq1 : ∀ e, qd = some e → e ≤ 10 := hq1
      replace hq2 : w ≤ 31 := hq2
      have hgT := hb.ag hag (by omega)
      obtain ⟨h1, h2, h3, h4, h5, h6, -⟩ := id hgT
      have hro : ro ≤ 1000 := by obtain ⟨ys, -, -, -, -, -, g⟩ := id hg; exact g
      (repeat (first | refine pm_W.ts rfl rfl ?_ | refine pm_W.tl rfl rfl ?_))
      refine pm_W.icmp rfl (fun c => ?_) (fun c => ?_)
      · have c : nI 22 ≤ nI i := c
        rw [nI_leI (by omega) (by omega)] at c
        omega
      · (repeat (first | refine pm_W.ts rfl rfl ?_ | refine pm_W.tl rfl rfl ?_))
        refine pm_W.icmp rfl (fun c2 => ?_) (fun c2 => ?_)
        · have c2 : tr_pv qd = -1 := c2
          rw [tr_pv_none hq1] at c2
          subst c2
          refine pm_W.ret rfl rfl (k g ?_ hag)
          rw [ws_out, ← he]
          exact hg
        · have c2 : ¬ tr_pv qd = -1 := c2
          rw [tr_pv_none hq1] at c2
          cases qd with
          | none => exact absurd rfl c2
          | some d =>
            have hd10 : d ≤ 10 := hq1 d rfl
            have he2 : ws_run S f (ws_step S d w out) = ws_run S 22 (some 0, 0, []) := he
            have hlen : (ws_step S d w out).2.2.length ≤ ro := by
              have := ws_run_len (S := S) f (ws_step S d w out)
              rw [he2] at this
              exact Nat.le_trans this hl
            (repeat (first | refine pm_W.ts rfl rfl ?_ | refine pm_W.tl rfl rfl ?_))
            refine pm_W.callV (d' := 1) rfl rfl rfl rfl (fr_ble rfl) h1 (fr_ble rfl) (ct_T_childBehind hgT hd10 hq2 ?_)
            cases hbest : tr_best (tr_c S d) (tr_N S) w 10 with
            | none =>
              have hst : ws_step S d w out = (tr_P S d, tr_N S d, out ++ [9, nI (tr_cnt (tr_c S d) 10)]) := by unfold ws_step; rw [hbest]
              rw [hst] at he2 hlen
              have hlen : (out ++ [9, nI (tr_cnt (tr_c S d) 10)]).length ≤ ro := hlen
              rw [List.length_append] at hlen
              simp only [List.length_cons, List.length_nil] at hlen
              have hcnt := tr_cnt_le (f := tr_c S d) 10
              obtain ⟨ys, o1, -⟩ := id hg
              (repeat (first | refine pm_W.ts rfl rfl ?_ | refine pm_W.tl rfl rfl ?_))
              refine pm_W.icmp rfl (fun c3 => absurd rfl c3) (fun c3 => ?_)
              (repeat (first | refine pm_W.ts rfl rfl ?_ | refine pm_W.tl rfl rfl ?_))
              refine pm_W.callV (d' := 0) rfl rfl rfl rfl (fr_ble rfl) o1 (fr_ble rfl) (ct_B_add hg (fun z => by omega) (fun _ g2 hg2 hag2 => ?_))
              rw [show (Int8.ofInt 9).toInt32 &&& 255 = 9 from by decide] at hg2
              have hgT2 := hgT.ag hag2 (by omega)
              obtain ⟨k1, k2, k3, k4, -⟩ := id hgT2
              obtain ⟨ys2, o2, -⟩ := id hg2
              (repeat (first | refine pm_W.ts rfl rfl ?_ | refine pm_W.tl rfl rfl ?_))
              refine pm_W.callV (d' := 1) rfl rfl rfl rfl (fr_ble rfl) k1 (fr_ble rfl) (ct_T_childrenOf hgT2 hd10 ?_)
              refine pm_W.callV (d' := 0) rfl rfl rfl rfl (fr_ble rfl) o2 (fr_ble rfl) (ct_B_add hg2 (fun z => by rw [List.length_append, List.length_singleton] at z; omega) (fun _ g3 hg3 hag3 => ?_))
              rw [fr_255 _ (by omega)] at hg3
              have m1 := hag3.at (by omega) k1
              (repeat (first | refine pm_W.ts rfl rfl ?_ | refine pm_W.tl rfl rfl ?_ | refine pm_W.get rfl rfl m1 rfl ?_))
              refine pm_W.iald rfl (hag3.at (by omega) k3) (pm_ix_ok (j := d) (by rw [List.length_map]; omega) (by rw [List.length_map]; omega)) ?_
              rw [fr_mapD]
              (repeat (first | refine pm_W.ts rfl rfl ?_ | refine pm_W.tl rfl rfl ?_ | refine pm_W.get rfl rfl m1 rfl ?_))
              refine pm_W.iald rfl (hag3.at (by omega) k4) (pm_ix_ok (j := d) (by rw [List.length_map]; omega) (by rw [List.length_map]; omega)) ?_
              rw [tr_mapP (by omega)]
              (iterate 1 (first | refine pm_W.ts rfl rfl ?_ | refine pm_W.tl rfl rfl ?_))
              refine pm_W.goto rfl ?_
              (iterate 1 (first | refine pm_W.ts rfl rfl ?_ | refine pm_W.tl rfl rfl ?_))
              refine pm_W.goto rfl ?_
              have := ih (i + 1) (tr_P S d, tr_N S d, out ++ [9, nI (tr_cnt (tr_c S d) 10)]) g3 (.int (-1)) (by omega) (bP d) (bN d) he2 (by simpa [List.append_assoc] using hg3) ((hag.tr hag2).tr hag3)
              rw [← fr_inc i] at this
              exact this
            | some c =>
              have hc := tr_best_le 10 c hbest
              have hk := bK c
              have hNc := bN c
              (repeat (first | refine pm_W.ts rfl rfl ?_ | refine pm_W.tl rfl rfl ?_))
              refine pm_W.icmp rfl (fun c3 => ?_) (fun c3 => ?_)
              · (repeat (first | refine pm_W.ts rfl rfl ?_ | refine pm_W.tl rfl rfl ?_ | refine pm_W.get rfl rfl h1 rfl ?_))
                refine pm_W.iald rfl h2 (pm_ix_ok (j := c) (by rw [List.length_map]; omega) (by rw [List.length_map]; omega)) ?_
                rw [fr_mapD]
                (repeat (first | refine pm_W.ts rfl rfl ?_ | refine pm_W.tl rfl rfl ?_))
                refine pm_W.icmp rfl (fun c4 => ?_) (fun c4 => ?_)
                · have c4 : ¬ nI (tr_K S c) = nI 1 := c4
                  rw [nI_eq (by omega) (by omega)] at c4
                  have hst : ws_step S d w out = (some c, 0, out ++ [2, nI (tr_N S c)]) := by unfold ws_step; rw [hbest]; show (if _ then _ else _) = _; rw [if_neg c4]
                  rw [hst] at he2 hlen
                  have hlen : (out ++ [2, nI (tr_N S c)]).length ≤ ro := hlen
                  rw [List.length_append] at hlen
                  simp only [List.length_cons, List.length_nil] at hlen
                  obtain ⟨ys, o1, -⟩ := id hg
                  (repeat (first | refine pm_W.ts rfl rfl ?_ | refine pm_W.tl rfl rfl ?_))
                  refine pm_W.callV (d' := 0) rfl rfl rfl rfl (fr_ble rfl) o1 (fr_ble rfl) (ct_B_add hg (fun z => by omega) (fun _ g2 hg2 hag2 => ?_))
                  rw [show Int32.ofInt 2 &&& 255 = 2 from by decide] at hg2
                  have m1 := hag2.at (by omega) h1
                  obtain ⟨ys2, o2, -⟩ := id hg2
                  (repeat (first | refine pm_W.ts rfl rfl ?_ | refine pm_W.tl rfl rfl ?_ | refine pm_W.get rfl rfl m1 rfl ?_))
                  refine pm_W.iald rfl (hag2.at (by omega) h3) (pm_ix_ok (j := c) (by rw [List.length_map]; omega) (by rw [List.length_map]; omega)) ?_
                  rw [fr_mapD]
                  refine pm_W.callV (d' := 0) rfl rfl rfl rfl (fr_ble rfl) o2 (fr_ble rfl) (ct_B_add hg2 (fun z => by rw [List.length_append, List.length_singleton] at z; omega) (fun _ g3 hg3 hag3 => ?_))
                  rw [show nI (S.2.1.getD c 0) &&& 255 = nI (tr_N S c) from fr_255 (tr_N S c) (by omega)] at hg3
                  (iterate 6 (first | refine pm_W.ts rfl rfl ?_ | refine pm_W.tl rfl rfl ?_))
                  refine pm_W.goto rfl ?_
                  have := ih (i + 1) (some c, 0, out ++ [2, nI (tr_N S c)]) g3 (.int (nI c)) (by omega) (fun e he => by cases he; omega) (by show 0 ≤ 31; omega) he2 (by simpa [List.append_assoc] using hg3) ((hag.tr hag2).tr hag3)
                  rw [← fr_inc i] at this
                  exact this
                · have c4 : ¬ ¬ nI (tr_K S c) = nI 1 := c4
                  have c4 := Classical.not_not.mp c4
                  rw [nI_eq (by omega) (by omega)] at c4
                  have hst : ws_step S d w out = (some d, tr_N S c, out ++ ws_file S c) := by unfold ws_step; rw [hbest]; show (if _ then _ else _) = _; rw [if_pos c4]
                  rw [hst] at he2 hlen
                  (repeat (first | refine pm_W.ts rfl rfl ?_ | refine pm_W.tl rfl rfl ?_))
                  refine pm_W.callV rfl rfl rfl rfl (fr_ble rfl) h1 (fr_ble rfl) (ct_T_writeFile hgT (by omega) (hB c (by omega)) hg hd hlen (fun g2 hg2 hag2 => ?_))
                  have m1 := hag2.at (by omega) h1
                  (repeat (first | refine pm_W.ts rfl rfl ?_ | refine pm_W.tl rfl rfl ?_ | refine pm_W.get rfl rfl m1 rfl ?_))
                  refine pm_W.iald rfl (hag2.at (by omega) h3) (pm_ix_ok (j := c) (by rw [List.length_map]; omega) (by rw [List.length_map]; omega)) ?_
                  rw [fr_mapD]
                  (iterate 1 (first | refine pm_W.ts rfl rfl ?_ | refine pm_W.tl rfl rfl ?_))
                  refine pm_W.goto rfl ?_
                  (iterate 1 (first | refine pm_W.ts rfl rfl ?_ | refine pm_W.tl rfl rfl ?_))
                  refine pm_W.goto rfl ?_
                  have := ih (i + 1) (some d, tr_N S c, out ++ ws_file S c) g2 (.int (nI c)) (by omega) hq1 hNc he2 hg2 (hag.tr hag2)
                  rw [← fr_inc i] at this
                  exact this
              · have c3 : ¬ ¬ nI c = Int32.ofInt (-1) := c3
                have c3 := Classical.not_not.mp c3
                have : (nI c).toInt = -1 := by rw [c3]; rfl
                rw [nI_toInt (by omega)] at this
                omega
  obtain ⟨ys, o1, -⟩ := id ho
  unfold pm_X
  (repeat (first | refine pm_W.ts rfl rfl ?_ | refine pm_W.tl rfl rfl ?_))
  refine pm_W.callV (d' := 0) rfl rfl rfl rfl (fr_ble rfl) o1 (fr_ble rfl) (ct_B_clear ho (fun g hg hag => ?_))
  (iterate 6 (first | refine pm_W.ts rfl rfl ?_ | refine pm_W.tl rfl rfl ?_))
  exact loop 22 0 (some 0, 0, []) g pm_none (by omega) (fun e he => by cases he; omega) (by show 0 ≤ 31; omega) rfl hg hag
end STREAM
end
section
def rd_R (h : pm_H) (r o t p : Nat) (f : Bool) : Prop := h.1[r]? = some (.inr (.inr (kR, [.ref o, .ref t, .int (nI p), .int (fr_b f)])))
def rd_w (ws : List Nat) (p : Nat) : Nat := ws.getD p 0
def rd_ok (ws : List Nat) (p lo hi : Nat) : Prop := p < ws.length ∧ lo ≤ rd_w ws p ∧ rd_w ws p ≤ hi
def rd_by (ws : List Nat) : Prop := ∀ x ∈ ws, x < 256
theorem rd_lt {ws : List Nat} (hw : rd_by ws) (p : Nat) : rd_w ws p < 256 := by
  unfold rd_w
  rw [List.getD_eq_getElem?_getD]
  cases he : ws[p]? with
  | none => show 0 < 256; omega
  | some x => exact hw x (List.mem_of_getElem? he)
theorem rd_at {ws : List Nat} {p : Nat} (hp : p < 2 ^ 31) (hl : ws.length ≤ 1000) : bt_at (ws.map nI) (nI p) = nI (rd_w ws p) := by
  rw [bt_at_D hp (by rw [List.length_map]; exact hl), fr_mapD]
  rfl
theorem rd_has {ws : List Nat} {p : Nat} (hp : p < 2 ^ 31) (hl : ws.length ≤ 1000) : bt_has (ws.map nI) (nI p) = decide (p < ws.length) := by
  unfold bt_has
  rw [List.length_map]
  by_cases h : p < ws.length
  · rw [decide_eq_true h, decide_eq_true ⟨nI_pos' hp, nI_lt h (by omega)⟩]
  · rw [decide_eq_false h, decide_eq_false (fun z => h ((nI_ltI hp (by omega)).mp z.2))]
theorem rd_out {ws : List Nat} {p : Nat} (h : ws.length ≤ p) : rd_w ws p = 0 := by
  unfold rd_w
  rw [List.getD_eq_getElem?_getD, List.getElem?_eq_none h]
  rfl
section READER
variable {xs : List Int32} {h : pm_H} {r o ro t p : Nat} {ws : List Nat} {S : tr_S} {Q : Option Value → pm_H → Prop}
theorem ct_R_take {lo hi : Nat} {f : Bool} (hr : rd_R h r o t p f) (ho : bt_R h o ro (ws.map nI)) (hw : rd_by ws) (hp : p < 100000) (hlo : lo < 100000) (hhi : hi < 100000)
    (k1 : f = false → rd_ok ws p lo hi → ∀ h' : pm_H, rd_R h' r o t (p + 1) false → fr_ag r (r + 1) h h' → Q (some (.int (nI (rd_w ws p)))) h')
    (k0 : ¬ (f = false ∧ rd_ok ws p lo hi) → ∀ h' : pm_H, rd_R h' r o t p true → fr_ag r (r + 1) h h' → Q (some (.int (-1))) h') : pm_X xs 2 mR_take [.ref r, .int (nI lo), .int (nI hi)] h Q := by
  have hr' : h.1[r]? = some (.inr (.inr (kR, [Value.ref o, .ref t, .int (nI p), .int (fr_b f)]))) := hr
  obtain ⟨ys, o1, o2, o3, o4, o5, o6⟩ := id ho
  rw [List.length_map] at o5
  have hwl := rd_lt hw p
  have bad : ¬ (f = false ∧ rd_ok ws p lo hi) → pm_W xs 2 mR_take 43 [.ref r, .int (nI lo), .int (nI hi), .int (nI (rd_w ws p))] [] h Q := by
    intro c
    (repeat (first | refine pm_W.ts rfl rfl ?_ | refine pm_W.tl rfl rfl ?_))
    refine pm_W.put (v := .int (fr_b true)) rfl rfl hr' (fr_ble rfl) rfl (Or.inl rfl) ?_
    (repeat (first | refine pm_W.ts rfl rfl ?_ | refine pm_W.tl rfl rfl ?_))
    exact pm_W.iret rfl rfl (k0 c _ (fr_set hr') (fr_agset (by omega) (by omega)))
  unfold pm_X
  (repeat (first | refine pm_W.ts rfl rfl ?_ | refine pm_W.tl rfl rfl ?_ | refine pm_W.get rfl rfl hr' rfl ?_))
  refine pm_W.callV rfl rfl rfl rfl (fr_ble rfl) o1 (fr_ble rfl) (ct_B_at ho ?_)
  rw [rd_at (by omega) (by omega)]
  (repeat (first | refine pm_W.ts rfl rfl ?_ | refine pm_W.tl rfl rfl ?_ | refine pm_W.get rfl rfl hr' rfl ?_))
  refine pm_W.ifz rfl (fun c => ?_) (fun c => ?_)
  · have c : ¬ fr_b f = 0 := c
    have c := fr_b1 c
    exact bad (fun z => by rw [c] at z; cases z.1)
  · have c : ¬ ¬ fr_b f = 0 := c
    have c := fr_b0 (Classical.not_not.mp c)
    subst c
    (repeat (first | refine pm_W.ts rfl rfl ?_ | refine pm_W.tl rfl rfl ?_ | refine pm_W.get rfl rfl hr' rfl ?_))
    refine pm_W.callV (d' := 0) rfl rfl rfl rfl (fr_ble rfl) o1 (fr_ble rfl) (ct_B_has ho ?_)
    rw [rd_has (by omega) (by omega)]
    refine pm_W.ifz rfl (fun c2 => ?_) (fun c2 => ?_)
    · have c2 := of_decide_eq_false (fr_b0 c2)
      exact bad (fun z => c2 z.2.1)
    · have c2 := of_decide_eq_true (fr_b1 c2)
      (repeat (first | refine pm_W.ts rfl rfl ?_ | refine pm_W.tl rfl rfl ?_))
      refine pm_W.icmp rfl (fun c3 => ?_) (fun c3 => ?_)
      · have c3 : nI (rd_w ws p) < nI lo := c3
        rw [nI_ltI (by omega) (by omega)] at c3
        exact bad (fun z => by have := z.2.2.1; omega)
      · have c3 : ¬ nI (rd_w ws p) < nI lo := c3
        rw [nI_ltI (by omega) (by omega)] at c3
        (repeat (first | refine pm_W.ts rfl rfl ?_ | refine pm_W.tl rfl rfl ?_))
        refine pm_W.icmp rfl (fun c4 => ?_) (fun c4 => ?_)
        · have c4 : nI (rd_w ws p) ≤ nI hi := c4
          rw [nI_leI (by omega) (by omega)] at c4
          (repeat (first | refine pm_W.ts rfl rfl ?_ | refine pm_W.tl rfl rfl ?_ | refine pm_W.get rfl rfl hr' rfl ?_))
          refine pm_W.put (v := .int (nI p + 1)) rfl rfl hr' (fr_ble rfl) rfl (Or.inl rfl) ?_
          (repeat (first | refine pm_W.ts rfl rfl ?_ | refine pm_W.tl rfl rfl ?_))
          refine pm_W.iret rfl rfl (k1 rfl ⟨c2, by omega, c4⟩ _ ?_ (fr_agset (by omega) (by omega)))
          show (h.1.set r (.inr (.inr (kR, [Value.ref o, .ref t, .int (nI p + 1), .int (fr_b false)]))))[r]? = some (.inr (.inr (kR, [Value.ref o, .ref t, .int (nI (p + 1)), .int (fr_b false)])))
          rw [← nI_1]
          exact fr_set hr'
        · have c4 : ¬ nI (rd_w ws p) ≤ nI hi := c4
          rw [nI_leI (by omega) (by omega)] at c4
          exact bad (fun z => by have := z.2.2.2; omega)
def rd_mg (S : tr_S) (d : Nat) : Prop := tr_cnt (tr_u S) 10 < 10 ∧ tr_climb S 6 (tr_P S d) < 6
def rd_ie (ws : List Nat) (p : Nat) : Prop := rd_w ws p = 1 ∨ rd_w ws p = 2
theorem tr_climb_le {S : tr_S} : ∀ (f : Nat) (q : Option Nat), tr_climb S f q ≤ f := by
  intro f
  induction f with
  | zero => intro q; exact Nat.le_refl _
  | succ f ih =>
    intro q
    cases q with
    | none => exact Nat.zero_le _
    | some q => have := ih (tr_P S q); show _ + 1 ≤ f + 1; omega
theorem ct_R_takeKind {d : Nat} (hr : rd_R h r o t p false) (ho : bt_R h o ro (ws.map nI)) (hw : rd_by ws) (hp : p < 10000) (ht : tr_R h t S) (hd : d ≤ 10)
    (k1 : rd_mg S d → rd_ie ws p → p < ws.length → ∀ h' : pm_H, rd_R h' r o t (p + 1) false → fr_ag r (r + 1) h h' → Q (some (.int (nI (rd_w ws p)))) h')
    (k9 : p < ws.length → rd_w ws p = 9 → ∀ h' : pm_H, rd_R h' r o t (p + 1) false → fr_ag r (r + 1) h h' → Q (some (.int (nI 9))) h')
    (k0 : ¬ (rd_mg S d ∧ rd_ie ws p) → ¬ (p < ws.length ∧ rd_w ws p = 9) → ∀ h' : pm_H, rd_R h' r o t p true → fr_ag r (r + 1) h h' → Q (some (.int (-1))) h') : pm_X xs 3 mR_takeKind [.ref r, .int (nI d)] h Q := by
  have hr' : h.1[r]? = some (.inr (.inr (kR, [Value.ref o, .ref t, .int (nI p), .int (fr_b false)]))) := hr
  obtain ⟨ys, o1, o2, o3, o4, o5, o6⟩ := id ho
  rw [List.length_map] at o5
  obtain ⟨t1, -⟩ := id ht
  have hwl := rd_lt hw p
  have hcnt := tr_cnt_le (f := tr_u S) 10
  have hcl := tr_climb_le (S := S) 6 (tr_P S d)
  have nine : ∀ v2 v3 : Value, ¬ (rd_mg S d ∧ rd_ie ws p) → pm_W xs 3 mR_takeKind 84 [.ref r, .int (nI d), v2, v3] [] h Q := by
    intro v2 v3 hno
    (repeat (first | refine pm_W.ts rfl rfl ?_ | refine pm_W.tl rfl rfl ?_))
    refine pm_W.callV rfl rfl rfl rfl (fr_ble rfl) hr' (fr_ble rfl) (ct_R_take (lo := 9) (hi := 9) hr ho hw (by omega) (by omega) (by omega) (fun _ hk h' hr2 hag => ?_) (fun hk h' hr2 hag => ?_))
    · have e : rd_w ws p = 9 := by have := hk.2.1; have := hk.2.2; omega
      rw [e]
      exact pm_W.iret rfl rfl (k9 hk.1 e h' hr2 hag)
    · exact pm_W.iret rfl rfl (k0 hno (fun z => hk ⟨rfl, z.1, by omega, by omega⟩) h' hr2 hag)
  have entry : ∀ v2 v3 : Value, rd_mg S d → rd_ie ws p → pm_W xs 3 mR_takeKind 75 [.ref r, .int (nI d), v2, v3] [] h Q := by
    intro v2 v3 hm hi
    have hlt : p < ws.length := by
      apply Nat.lt_of_not_le
      intro z
      have := rd_out z
      rcases hi with q | q <;> omega
    (repeat (first | refine pm_W.ts rfl rfl ?_ | refine pm_W.tl rfl rfl ?_))
    refine pm_W.callV rfl rfl rfl rfl (fr_ble rfl) hr' (fr_ble rfl) (ct_R_take (lo := 1) (hi := 2) hr ho hw (by omega) (by omega) (by omega) (fun _ hk h' hr2 hag => ?_) (fun hk h' hr2 hag => ?_))
    · refine pm_W.goto rfl ?_
      exact pm_W.iret rfl rfl (k1 hm hi hlt h' hr2 hag)
    · exact absurd ⟨rfl, hlt, by rcases hi with q | q <;> omega, by rcases hi with q | q <;> omega⟩ hk
  have mid : ∀ (b : Bool), (b = true ↔ rd_mg S d) → pm_W xs 3 mR_takeKind 31 [.ref r, .int (nI d), .int (fr_b b), pm_none] [] h Q := by
    intro b hbm
    have last : ∀ (e : Bool), (e = true ↔ rd_ie ws p) → pm_W xs 3 mR_takeKind 67 [.ref r, .int (nI d), .int (fr_b b), .int (fr_b e)] [] h Q := by
      intro e hei
      (repeat (first | refine pm_W.ts rfl rfl ?_ | refine pm_W.tl rfl rfl ?_))
      refine pm_W.ifz rfl (fun c => ?_) (fun c => ?_)
      · have c := fr_b0 c
        exact nine _ _ (fun z => by rw [hbm.mpr z.1] at c; cases c)
      · have c := fr_b1 c
        (repeat (first | refine pm_W.ts rfl rfl ?_ | refine pm_W.tl rfl rfl ?_))
        refine pm_W.ifz rfl (fun c2 => ?_) (fun c2 => ?_)
        · have c2 := fr_b0 c2
          exact nine _ _ (fun z => by rw [hei.mpr z.2] at c2; cases c2)
        · have c2 := fr_b1 c2
          exact entry _ _ (hbm.mp c) (hei.mp c2)
    (repeat (first | refine pm_W.ts rfl rfl ?_ | refine pm_W.tl rfl rfl ?_ | refine pm_W.get rfl rfl hr' rfl ?_))
    refine pm_W.callV (d' := 1) rfl rfl rfl rfl (fr_ble rfl) o1 (fr_ble rfl) (ct_B_at ho ?_)
    rw [rd_at (by omega) (by omega)]
    (repeat (first | refine pm_W.ts rfl rfl ?_ | refine pm_W.tl rfl rfl ?_))
    refine pm_W.icmp rfl (fun c => ?_) (fun c => ?_)
    · have c : nI (rd_w ws p) = nI 1 := c
      rw [nI_eq (by omega) (by omega)] at c
      (iterate 1 (first | refine pm_W.ts rfl rfl ?_ | refine pm_W.tl rfl rfl ?_))
      refine pm_W.goto rfl ?_
      (iterate 1 (first | refine pm_W.ts rfl rfl ?_ | refine pm_W.tl rfl rfl ?_))
      exact last true ⟨fun _ => Or.inl c, fun _ => rfl⟩
    · have c : ¬ nI (rd_w ws p) = nI 1 := c
      rw [nI_eq (by omega) (by omega)] at c
      (repeat (first | refine pm_W.ts rfl rfl ?_ | refine pm_W.tl rfl rfl ?_ | refine pm_W.get rfl rfl hr' rfl ?_))
      refine pm_W.callV (d' := 1) rfl rfl rfl rfl (fr_ble rfl) o1 (fr_ble rfl) (ct_B_at ho ?_)
      rw [rd_at (by omega) (by omega)]
      (repeat (first | refine pm_W.ts rfl rfl ?_ | refine pm_W.tl rfl rfl ?_))
      refine pm_W.icmp rfl (fun c2 => ?_) (fun c2 => ?_)
      · have c2 : ¬ nI (rd_w ws p) = nI 2 := c2
        rw [nI_eq (by omega) (by omega)] at c2
        (iterate 2 (first | refine pm_W.ts rfl rfl ?_ | refine pm_W.tl rfl rfl ?_))
        exact last false ⟨(fun z => by cases z), fun z => by rcases z with q | q <;> omega⟩
      · have c2 : ¬ ¬ nI (rd_w ws p) = nI 2 := c2
        have c2 := Classical.not_not.mp c2
        rw [nI_eq (by omega) (by omega)] at c2
        (iterate 1 (first | refine pm_W.ts rfl rfl ?_ | refine pm_W.tl rfl rfl ?_))
        refine pm_W.goto rfl ?_
        (iterate 1 (first | refine pm_W.ts rfl rfl ?_ | refine pm_W.tl rfl rfl ?_))
        exact last true ⟨fun _ => Or.inr c2, fun _ => rfl⟩
  unfold pm_X
  (repeat (first | refine pm_W.ts rfl rfl ?_ | refine pm_W.tl rfl rfl ?_ | refine pm_W.get rfl rfl hr' rfl ?_))
  refine pm_W.callV (d' := 0) rfl rfl rfl rfl (fr_ble rfl) t1 (fr_ble rfl) (ct_T_entries ht ?_)
  (repeat (first | refine pm_W.ts rfl rfl ?_ | refine pm_W.tl rfl rfl ?_))
  refine pm_W.icmp rfl (fun c => ?_) (fun c => ?_)
  · have c : nI 10 ≤ nI (tr_cnt (tr_u S) 10) := c
    rw [nI_leI (by omega) (by omega)] at c
    (iterate 2 (first | refine pm_W.ts rfl rfl ?_ | refine pm_W.tl rfl rfl ?_))
    exact mid false ⟨(fun z => by cases z), fun z => by have := z.1; omega⟩
  · have c : ¬ nI 10 ≤ nI (tr_cnt (tr_u S) 10) := c
    rw [nI_leI (by omega) (by omega)] at c
    (repeat (first | refine pm_W.ts rfl rfl ?_ | refine pm_W.tl rfl rfl ?_ | refine pm_W.get rfl rfl hr' rfl ?_))
    refine pm_W.callV rfl rfl rfl rfl (fr_ble rfl) t1 (fr_ble rfl) (ct_T_depthOf ht (by omega) ?_)
    (repeat (first | refine pm_W.ts rfl rfl ?_ | refine pm_W.tl rfl rfl ?_))
    refine pm_W.icmp rfl (fun c2 => ?_) (fun c2 => ?_)
    · have c2 : nI 6 ≤ nI (tr_climb S 6 (tr_P S d)) := c2
      rw [nI_leI (by omega) (by omega)] at c2
      (iterate 2 (first | refine pm_W.ts rfl rfl ?_ | refine pm_W.tl rfl rfl ?_))
      exact mid false ⟨(fun z => by cases z), fun z => by have := z.2; omega⟩
    · have c2 : ¬ nI 6 ≤ nI (tr_climb S 6 (tr_P S d)) := c2
      rw [nI_leI (by omega) (by omega)] at c2
      (iterate 1 (first | refine pm_W.ts rfl rfl ?_ | refine pm_W.tl rfl rfl ?_))
      refine pm_W.goto rfl ?_
      (iterate 1 (first | refine pm_W.ts rfl rfl ?_ | refine pm_W.tl rfl rfl ?_))
      exact mid true ⟨fun _ => ⟨by omega, by omega⟩, fun _ => rfl⟩
def tr_rt (S : tr_S) : Prop := tr_K S 0 = 2 ∧ tr_N S 0 = 0 ∧ tr_P S 0 = none
theorem tr_rt_add {S : tr_S} {s d w v : Nat} (h : tr_rt S) (hs : 1 ≤ s) : tr_rt (tr_add S s d w v) := by
  obtain ⟨h1, h2, h3⟩ := h
  refine ⟨?_, ?_, ?_⟩
  · show (S.1.set s v).getD 0 0 = 2
    rw [List.getD_eq_getElem?_getD, List.getElem?_set_ne (by omega)]
    rw [tr_K, List.getD_eq_getElem?_getD] at h1
    exact h1
  · show (S.2.1.set s w).getD 0 0 = 0
    rw [List.getD_eq_getElem?_getD, List.getElem?_set_ne (by omega)]
    rw [tr_N, List.getD_eq_getElem?_getD] at h2
    exact h2
  · show (S.2.2.1.set s (some d)).getD 0 none = none
    rw [List.getD_eq_getElem?_getD, List.getElem?_set_ne (by omega)]
    rw [tr_P, List.getD_eq_getElem?_getD] at h3
    exact h3
theorem tr_rt_setB {S : tr_S} {s : Nat} {bs : List Int32} (h : tr_rt S) : tr_rt (tr_setB S s bs) := h
theorem tr_rt_setK {S : tr_S} {s v : Nat} (h : tr_rt S) (hs : 1 ≤ s) : tr_rt (tr_setK S s v) := by
  obtain ⟨h1, h2, h3⟩ := h
  refine ⟨?_, h2, h3⟩
  show (S.1.set s v).getD 0 0 = 2
  rw [List.getD_eq_getElem?_getD, List.getElem?_set_ne (by omega)]
  rw [tr_K, List.getD_eq_getElem?_getD] at h1
  exact h1
theorem tr_rt_clr {S : tr_S} (h : tr_rt S) : ∀ n, tr_rt (tr_clr S n) := by
  intro n
  induction n with
  | zero => exact h
  | succ n ih => exact tr_rt_setK ih (by omega)
def tr_fb (S : tr_S) : Nat := tr_sm (tr_f S) (fun s => (tr_B S s).length) 10
theorem ct_R_readFile {s : Nat} (hr : rd_R h r o t p false) (ho : bt_R h o ro (ws.map nI)) (hw : rd_by ws) (hp : p < 10000) (ht : tr_R h t S) (hs : s < 11) (hB : tr_B S s = []) (hfb : tr_fb S ≤ 80)
    (d1 : r < o ∨ o + 2 ≤ r) (d2 : r < t ∨ t + 27 ≤ r) (d3 : t + 27 ≤ o ∨ o + 2 ≤ t)
    (kF1 : ¬ (p < ws.length ∧ rd_w ws p ≤ 16 ∧ tr_fb S + rd_w ws p ≤ 80) → ∀ h' : pm_H, rd_R h' r o t p true → tr_R h' t S → bt_R h' o ro (ws.map nI) → h'.2 = h.2 → h'.1.length = h.1.length → (∀ k, k ≠ r → (k < t ∨ t + 27 ≤ k) → h'.1[k]? = h.1[k]?) → Q none h')
    (kF2 : p < ws.length → rd_w ws p ≤ 16 → tr_fb S + rd_w ws p ≤ 80 → ws.length < p + 1 + rd_w ws p → ∀ (h' : pm_H) (S' : tr_S), (∃ bs, S' = tr_setB S s bs) → rd_R h' r o t ws.length true → tr_R h' t S' → bt_R h' o ro (ws.map nI) → h'.2 = h.2 → h'.1.length = h.1.length → (∀ k, k ≠ r → (k < t ∨ t + 27 ≤ k) → h'.1[k]? = h.1[k]?) → Q none h')
    (kOk : p < ws.length → rd_w ws p ≤ 16 → tr_fb S + rd_w ws p ≤ 80 → p + 1 + rd_w ws p ≤ ws.length → ∀ h' : pm_H, rd_R h' r o t (p + 1 + rd_w ws p) false → tr_R h' t (tr_setB S s (((ws.drop (p + 1)).take (rd_w ws p)).map nI)) → bt_R h' o ro (ws.map nI) → h'.2 = h.2 → h'.1.length = h.1.length → (∀ k, k ≠ r → (k < t ∨ t + 27 ≤ k) → h'.1[k]? = h.1[k]?) → Q none h') :
    pm_X xs 3 mR_readFile [.ref r, .ref (t + 5 + 2 * s)] h Q := by
  have hr' : h.1[r]? = some (.inr (.inr (kR, [Value.ref o, .ref t, .int (nI p), .int (fr_b false)]))) := hr
  obtain ⟨t1, -⟩ := id ht
  have hwl := rd_lt hw p
  have hro : ws.length ≤ ro ∧ ro ≤ 1000 := by obtain ⟨ys, -, -, -, -, g5, g6⟩ := id ho; rw [List.length_map] at g5; exact ⟨g5, g6⟩
  have badloop : ∀ (q i : Nat) (g : pm_H) (bs : List Int32), i + q = rd_w ws p → p < ws.length → rd_w ws p ≤ 16 → tr_fb S + rd_w ws p ≤ 80 → ws.length < p + 1 + rd_w ws p → bs.length = i → rd_R g r o t ws.length true → tr_R g t (tr_setB S s bs) → bt_R g o ro (ws.map nI) → g.2 = h.2 → g.1.length = h.1.length → (∀ k, k ≠ r → (k < t ∨ t + 27 ≤ k) → g.1[k]? = h.1[k]?) →
      pm_W xs 3 mR_readFile 23 [.ref r, .ref (t + 5 + 2 * s), .int (nI (rd_w ws p)), .int (nI i)] [] g Q := by
    intro q
    induction q with
    | zero =>
      intro i g bs hi a1 a2 a3 a4 hbs gr gt go e1 e2 e3
      (repeat (first | refine pm_W.ts rfl rfl ?_ | refine pm_W.tl rfl rfl ?_))
      refine pm_W.icmp rfl (fun c => ?_) (fun c => ?_)
      · exact pm_W.ret rfl rfl (kF2 a1 a2 a3 a4 g _ ⟨bs, rfl⟩ gr gt go e1 e2 e3)
      · have c : ¬ nI (rd_w ws p) ≤ nI i := c
        rw [nI_leI (by omega) (by omega)] at c
        omega
    | succ q ih =>
      intro i g bs hi a1 a2 a3 a4 hbs gr gt go e1 e2 e3
      (repeat (first | refine pm_W.ts rfl rfl ?_ | refine pm_W.tl rfl rfl ?_))
      refine pm_W.icmp rfl (fun c => ?_) (fun c => ?_)
      · have c : nI (rd_w ws p) ≤ nI i := c
        rw [nI_leI (by omega) (by omega)] at c
        omega
      · (repeat (first | refine pm_W.ts rfl rfl ?_ | refine pm_W.tl rfl rfl ?_))
        refine pm_W.ifnullR rfl ?_
        (repeat (first | refine pm_W.ts rfl rfl ?_ | refine pm_W.tl rfl rfl ?_))
        have gr' : g.1[r]? = some (.inr (.inr (kR, [Value.ref o, .ref t, .int (nI ws.length), .int (fr_b true)]))) := gr
        refine pm_W.callV rfl rfl rfl rfl (fr_ble rfl) gr' (fr_ble rfl) (ct_R_take (lo := 0) (hi := 255) gr go hw (by omega) (by omega) (by omega) (fun z => by cases z) (fun _ g2 gr2 hag => ?_))
        have gt2 := gt.ag hag (by omega)
        have gB := gt2.2.2.2.2.2.1 s hs
        have eB : tr_B (tr_setB S s bs) s = bs := by show (if s = s then bs else _) = bs; rw [if_pos rfl]
        rw [eB] at gB
        obtain ⟨ys, b1, -⟩ := id gB
        refine pm_W.callV (d' := 0) rfl rfl rfl rfl (fr_ble rfl) b1 (fr_ble rfl) (ct_B_add gB (fun z => by omega) (fun _ g3 gB3 hag3 => ?_))
        (iterate 2 (first | refine pm_W.ts rfl rfl ?_ | refine pm_W.tl rfl rfl ?_))
        refine pm_W.goto rfl ?_
        have gt3 := gt2.setB (s := s) hs gB3 hag3
        have eS : tr_setB (tr_setB S s bs) s (bs ++ [-1 &&& 255]) = tr_setB S s (bs ++ [-1 &&& 255]) := by
          show (S.1, S.2.1, S.2.2.1, fun t => if t = s then _ else if t = s then bs else S.2.2.2 t) = _
          unfold tr_setB
          congr 3
          funext t
          by_cases e : t = s
          · rw [if_pos e, if_pos e]
          · rw [if_neg e, if_neg e, if_neg e]
        rw [eS] at gt3
        have := ih (i + 1) g3 (bs ++ [-1 &&& 255]) (by omega) a1 a2 a3 a4 (by rw [List.length_append, List.length_singleton]; omega) (hag3.at (by omega) gr2) gt3 ((go.ag hag (by omega)).ag hag3 (by omega)) (hag3.1.trans (hag.1.trans e1)) (hag3.2.1.trans (hag.2.1.trans e2)) (fun k hk1 hk2 => by rw [hag3.2.2 k (by omega), hag.2.2 k (by omega)]; exact e3 k hk1 hk2)
        rw [← fr_inc i] at this
        exact this
  have loop : ∀ (q i : Nat) (g : pm_H), i + q = rd_w ws p → p < ws.length → rd_w ws p ≤ 16 → tr_fb S + rd_w ws p ≤ 80 → p + 1 + i ≤ ws.length → rd_R g r o t (p + 1 + i) false → tr_R g t (tr_setB S s (((ws.drop (p + 1)).take i).map nI)) → bt_R g o ro (ws.map nI) → g.2 = h.2 → g.1.length = h.1.length → (∀ k, k ≠ r → (k < t ∨ t + 27 ≤ k) → g.1[k]? = h.1[k]?) →
      pm_W xs 3 mR_readFile 23 [.ref r, .ref (t + 5 + 2 * s), .int (nI (rd_w ws p)), .int (nI i)] [] g Q := by
    intro q
    induction q with
    | zero =>
      intro i g hi a1 a2 a3 a4 gr gt go e1 e2 e3
      (repeat (first | refine pm_W.ts rfl rfl ?_ | refine pm_W.tl rfl rfl ?_))
      refine pm_W.icmp rfl (fun c => ?_) (fun c => ?_)
      · have e : i = rd_w ws p := by omega
        subst e
        exact pm_W.ret rfl rfl (kOk a1 a2 a3 a4 g gr gt go e1 e2 e3)
      · have c : ¬ nI (rd_w ws p) ≤ nI i := c
        rw [nI_leI (by omega) (by omega)] at c
        omega
    | succ q ih =>
      intro i g hi a1 a2 a3 a4 gr gt go e1 e2 e3
      have hwi := rd_lt hw (p + 1 + i)
      (repeat (first | refine pm_W.ts rfl rfl ?_ | refine pm_W.tl rfl rfl ?_))
      refine pm_W.icmp rfl (fun c => ?_) (fun c => ?_)
      · have c : nI (rd_w ws p) ≤ nI i := c
        rw [nI_leI (by omega) (by omega)] at c
        omega
      · (repeat (first | refine pm_W.ts rfl rfl ?_ | refine pm_W.tl rfl rfl ?_))
        refine pm_W.ifnullR rfl ?_
        (repeat (first | refine pm_W.ts rfl rfl ?_ | refine pm_W.tl rfl rfl ?_))
        have gr' : g.1[r]? = some (.inr (.inr (kR, [Value.ref o, .ref t, .int (nI (p + 1 + i)), .int (fr_b false)]))) := gr
        have lenB : (((ws.drop (p + 1)).take i).map nI).length = i := by rw [List.length_map, List.length_take, List.length_drop]; omega
        refine pm_W.callV rfl rfl rfl rfl (fr_ble rfl) gr' (fr_ble rfl) (ct_R_take (lo := 0) (hi := 255) gr go hw (by omega) (by omega) (by omega) (fun _ hk g2 gr2 hag => ?_) (fun hk g2 gr2 hag => ?_))
        · have gt2 := gt.ag hag (by omega)
          have gB := gt2.2.2.2.2.2.1 s hs
          have eB : tr_B (tr_setB S s (((ws.drop (p + 1)).take i).map nI)) s = ((ws.drop (p + 1)).take i).map nI := by show (if s = s then _ else _) = _; rw [if_pos rfl]
          rw [eB] at gB
          obtain ⟨ys, b1, -⟩ := id gB
          refine pm_W.callV (d' := 0) rfl rfl rfl rfl (fr_ble rfl) b1 (fr_ble rfl) (ct_B_add gB (fun z => by omega) (fun _ g3 gB3 hag3 => ?_))
          (iterate 2 (first | refine pm_W.ts rfl rfl ?_ | refine pm_W.tl rfl rfl ?_))
          refine pm_W.goto rfl ?_
          have eN : ((ws.drop (p + 1)).take i).map nI ++ [nI (rd_w ws (p + 1 + i)) &&& 255] = ((ws.drop (p + 1)).take (i + 1)).map nI := by
            rw [fr_255 _ hwi, List.take_add_one, List.getElem?_drop, List.map_append]
            congr 1
            have hk1 := hk.1
            rw [List.getElem?_eq_getElem hk1]
            show [nI (rd_w ws (p + 1 + i))] = [nI _]
            congr 2
            simp [rd_w, hk1]
          rw [eN] at gB3
          have gt3 := gt2.setB (s := s) hs gB3 hag3
          have eS : tr_setB (tr_setB S s (((ws.drop (p + 1)).take i).map nI)) s (((ws.drop (p + 1)).take (i + 1)).map nI) = tr_setB S s (((ws.drop (p + 1)).take (i + 1)).map nI) := by
            show (S.1, S.2.1, S.2.2.1, fun t => if t = s then _ else if t = s then _ else S.2.2.2 t) = _
            unfold tr_setB
            congr 3
            funext t
            by_cases e : t = s
            · rw [if_pos e, if_pos e]
            · rw [if_neg e, if_neg e, if_neg e]
          rw [eS] at gt3
          have := ih (i + 1) g3 (by omega) a1 a2 a3 hk.1 (hag3.at (by omega) gr2) gt3 ((go.ag hag (by omega)).ag hag3 (by omega)) (hag3.1.trans (hag.1.trans e1)) (hag3.2.1.trans (hag.2.1.trans e2)) (fun k hk1 hk2 => by rw [hag3.2.2 k (by omega), hag.2.2 k (by omega)]; exact e3 k hk1 hk2)
          rw [← fr_inc i] at this
          exact this
        · have hend : p + 1 + i = ws.length := by
            apply Nat.le_antisymm a4
            apply Nat.le_of_not_lt
            intro z
            exact hk ⟨rfl, z, Nat.zero_le _, by omega⟩
          have gt2 := gt.ag hag (by omega)
          have gB := gt2.2.2.2.2.2.1 s hs
          have eB : tr_B (tr_setB S s (((ws.drop (p + 1)).take i).map nI)) s = ((ws.drop (p + 1)).take i).map nI := by show (if s = s then _ else _) = _; rw [if_pos rfl]
          rw [eB] at gB
          obtain ⟨ys, b1, -⟩ := id gB
          refine pm_W.callV (d' := 0) rfl rfl rfl rfl (fr_ble rfl) b1 (fr_ble rfl) (ct_B_add gB (fun z => by omega) (fun _ g3 gB3 hag3 => ?_))
          (iterate 2 (first | refine pm_W.ts rfl rfl ?_ | refine pm_W.tl rfl rfl ?_))
          refine pm_W.goto rfl ?_
          have gt3 := gt2.setB (s := s) hs gB3 hag3
          have eS : tr_setB (tr_setB S s (((ws.drop (p + 1)).take i).map nI)) s (((ws.drop (p + 1)).take i).map nI ++ [-1 &&& 255]) = tr_setB S s (((ws.drop (p + 1)).take i).map nI ++ [-1 &&& 255]) := by
            show (S.1, S.2.1, S.2.2.1, fun t => if t = s then _ else if t = s then _ else S.2.2.2 t) = _
            unfold tr_setB
            congr 3
            funext t
            by_cases e : t = s
            · rw [if_pos e, if_pos e]
            · rw [if_neg e, if_neg e, if_neg e]
          rw [eS] at gt3
          rw [hend] at gr2
          have := badloop q (i + 1) g3 (((ws.drop (p + 1)).take i).map nI ++ [-1 &&& 255]) (by omega) a1 a2 a3 (by omega) (by rw [List.length_append, List.length_singleton, lenB]) (hag3.at (by omega) gr2) gt3 ((go.ag hag (by omega)).ag hag3 (by omega)) (hag3.1.trans (hag.1.trans e1)) (hag3.2.1.trans (hag.2.1.trans e2)) (fun k hk1 hk2 => by rw [hag3.2.2 k (by omega), hag.2.2 k (by omega)]; exact e3 k hk1 hk2)
          rw [← fr_inc i] at this
          exact this
  unfold pm_X
  (repeat (first | refine pm_W.ts rfl rfl ?_ | refine pm_W.tl rfl rfl ?_ | refine pm_W.get rfl rfl hr' rfl ?_))
  refine pm_W.callV (d' := 1) rfl rfl rfl rfl (fr_ble rfl) t1 (fr_ble rfl) (ct_T_fileBytes ht ?_)
  have e1 : (Int8.ofInt 80).toInt32 - nI (tr_fb S) = nI (80 - tr_fb S) := fr_sub (i := 80) hfb
  (iterate 1 (first | refine pm_W.ts rfl rfl ?_ | refine pm_W.tl rfl rfl ?_))
  rw [show nI (tr_sm (tr_f S) (fun s => (tr_B S s).length) 10) = nI (tr_fb S) from rfl, e1]
  refine pm_W.min rfl rfl rfl rfl ?_
  have e2 : (if nI (80 - tr_fb S) < (Int8.ofInt 16).toInt32 then nI (80 - tr_fb S) else (Int8.ofInt 16).toInt32) = nI (min 16 (80 - tr_fb S)) := by
    show (if nI (80 - tr_fb S) < nI 16 then nI (80 - tr_fb S) else nI 16) = _
    by_cases q : 80 - tr_fb S < 16
    · rw [if_pos (nI_lt q (by omega))]; congr 1; omega
    · rw [if_neg (fun z => q ((nI_ltI (by omega) (by omega)).mp z))]; congr 1; omega
  rw [e2]
  refine pm_W.callV rfl rfl rfl rfl (fr_ble rfl) hr' (fr_ble rfl) (ct_R_take (lo := 0) (hi := min 16 (80 - tr_fb S)) hr ho hw (by omega) (by omega) (by omega) (fun _ hk g2 gr2 hag => ?_) (fun hk g2 gr2 hag => ?_))
  · (iterate 3 (first | refine pm_W.ts rfl rfl ?_ | refine pm_W.tl rfl rfl ?_))
    have hk3 := hk.2.2
    refine loop (rd_w ws p) 0 g2 (by omega) hk.1 (by omega) (by omega) (by have := hk.1; omega) gr2 ?_ (ho.ag hag (by omega)) hag.1 hag.2.1 (fun k hk1 hk2 => hag.2.2 k (by omega))
    have eS : tr_setB S s (((ws.drop (p + 1)).take 0).map nI) = S := by
      show (S.1, S.2.1, S.2.2.1, fun t => if t = s then [] else S.2.2.2 t) = S
      have : (fun t => if t = s then [] else S.2.2.2 t) = S.2.2.2 := by
        funext t
        by_cases e : t = s
        · rw [if_pos e, e]; exact hB.symm
        · rw [if_neg e]
      rw [this]
    rw [eS]
    exact ht.ag hag (by omega)
  · (repeat (first | refine pm_W.ts rfl rfl ?_ | refine pm_W.tl rfl rfl ?_))
    refine pm_W.icmp rfl (fun c => ?_) (fun c => absurd (show (-1 : Int32) ≤ Int32.ofInt 0 by decide) c)
    exact pm_W.ret rfl rfl (kF1 (fun z => hk ⟨rfl, z.1, Nat.zero_le _, by have := z.2.1; have := z.2.2; omega⟩) g2 gr2 (ht.ag hag (by omega)) (ho.ag hag (by omega)) hag.1 hag.2.1 (fun k hk1 hk2 => hag.2.2 k (by omega)))
end READER
end
section
def rd_nm (ws : List Nat) (S : tr_S) (d p : Nat) : Prop := p + 1 < ws.length ∧ tr_mx (tr_c S d) (tr_N S) 10 + 1 ≤ rd_w ws (p + 1) ∧ rd_w ws (p + 1) ≤ 31
def rd_ln (ws : List Nat) (S : tr_S) (p : Nat) : Prop := p + 2 < ws.length ∧ rd_w ws (p + 2) ≤ 16 ∧ tr_fb S + rd_w ws (p + 2) ≤ 80
def rd_F (ws : List Nat) (S : tr_S) (d p q : Nat) : Prop :=
  (q = p ∧ ¬ (rd_mg S d ∧ rd_ie ws p) ∧ ¬ (p < ws.length ∧ rd_w ws p = 9)) ∨
  (q = p + 1 ∧ p < ws.length ∧ rd_w ws p = 9 ∧ ¬ (p + 1 < ws.length ∧ rd_w ws (p + 1) = tr_cnt (tr_c S d) 10)) ∨
  (q = p + 1 ∧ rd_mg S d ∧ rd_ie ws p ∧ ¬ rd_nm ws S d p) ∨
  (q = p + 2 ∧ rd_mg S d ∧ rd_w ws p = 1 ∧ rd_nm ws S d p ∧ ¬ rd_ln ws S p) ∨
  (q = ws.length ∧ rd_mg S d ∧ rd_w ws p = 1 ∧ rd_nm ws S d p ∧ rd_ln ws S p ∧ ws.length < p + 3 + rd_w ws (p + 2))
def tr_1st (S : tr_S) (s : Nat) : Prop := 1 ≤ s ∧ s ≤ 10 ∧ tr_K S s = 0 ∧ ∀ t, 1 ≤ t → t < s → tr_K S t ≠ 0
def rd_bs (ws : List Nat) (p : Nat) : List Int32 := ((ws.drop (p + 3)).take (rd_w ws (p + 2))).map nI
def rd_N (ws : List Nat) (S : tr_S) (d p p' : Nat) (S' : tr_S) (o' : Option Nat) : Prop :=
  (p + 1 < ws.length ∧ rd_w ws p = 9 ∧ rd_w ws (p + 1) = tr_cnt (tr_c S d) 10 ∧ p' = p + 2 ∧ S' = S ∧ o' = tr_P S d) ∨
  (rd_mg S d ∧ rd_w ws p = 2 ∧ rd_nm ws S d p ∧ ∃ s, tr_1st S s ∧ p' = p + 2 ∧ S' = tr_add S s d (rd_w ws (p + 1)) 2 ∧ o' = some s) ∨
  (rd_mg S d ∧ rd_w ws p = 1 ∧ rd_nm ws S d p ∧ rd_ln ws S p ∧ p + 3 + rd_w ws (p + 2) ≤ ws.length ∧ ∃ s, tr_1st S s ∧ p' = p + 3 + rd_w ws (p + 2) ∧ S' = tr_setB (tr_add S s d (rd_w ws (p + 1)) 1) s (rd_bs ws p) ∧ o' = some d)
def rd_fr (r t : Nat) (h h' : pm_H) : Prop := h'.2 = h.2 ∧ h'.1.length = h.1.length ∧ ∀ k, k ≠ r → (k < t ∨ t + 27 ≤ k) → h'.1[k]? = h.1[k]?
theorem rd_fr.rf {r t : Nat} {h : pm_H} : rd_fr r t h h := ⟨rfl, rfl, fun _ _ _ => rfl⟩
theorem rd_fr.tr {r t : Nat} {h h1 h2 : pm_H} (a : rd_fr r t h h1) (b : rd_fr r t h1 h2) : rd_fr r t h h2 := ⟨b.1.trans a.1, b.2.1.trans a.2.1, fun k h1 h2 => (b.2.2 k h1 h2).trans (a.2.2 k h1 h2)⟩
theorem rd_fr.r {r t : Nat} {h h1 : pm_H} (a : fr_ag r (r + 1) h h1) : rd_fr r t h h1 := ⟨a.1, a.2.1, fun k h1 _ => a.2.2 k (by omega)⟩
theorem rd_fr.t {r t : Nat} {h h1 : pm_H} (a : fr_ag t (t + 27) h h1) : rd_fr r t h h1 := ⟨a.1, a.2.1, fun k _ h2 => a.2.2 k (by omega)⟩
theorem tr_sm_eq {f f' : Nat → Bool} {g g' : Nat → Nat} : ∀ n, (∀ s, 1 ≤ s → s ≤ n → (if f s = true then g s else 0) = (if f' s = true then g' s else 0)) → tr_sm f g n = tr_sm f' g' n := by
  intro n
  induction n with
  | zero => intro _; rfl
  | succ n ih =>
    intro hs
    show _ + _ = _ + _
    rw [ih (fun s h1 h2 => hs s h1 (by omega)), hs (n + 1) (by omega) (Nat.le_refl _)]
theorem tr_cnt_all {f : Nat → Bool} : ∀ n, (∀ s, 1 ≤ s → s ≤ n → f s = true) → tr_cnt f n = n := by
  intro n
  induction n with
  | zero => intro _; rfl
  | succ n ih =>
    intro hs
    show _ + _ = _
    rw [ih (fun s h1 h2 => hs s h1 (by omega)), hs (n + 1) (by omega) (Nat.le_refl _)]
    rfl
theorem tr_add_K {S : tr_S} {s d w v t : Nat} (h : tr_ok S) (hs : s < 11) : tr_K (tr_add S s d w v) t = if t = s then v else tr_K S t := fr_setD (by rw [h.1]; exact hs)
theorem tr_add_N {S : tr_S} {s d w v t : Nat} (h : tr_ok S) (hs : s < 11) : tr_N (tr_add S s d w v) t = if t = s then w else tr_N S t := fr_setD (by rw [h.2.1]; exact hs)
theorem tr_add_P {S : tr_S} {s d w v t : Nat} (h : tr_ok S) (hs : s < 11) : tr_P (tr_add S s d w v) t = if t = s then some d else tr_P S t := fr_setD (by rw [h.2.2.1]; exact hs)
theorem tr_fb_add {S : tr_S} {s d w : Nat} (h : tr_ok S) (hs : s < 11) (h0 : tr_K S s = 0) : tr_fb (tr_add S s d w 1) = tr_fb S := by
  unfold tr_fb
  apply tr_sm_eq
  intro t _ _
  have hK := tr_add_K (d := d) (w := w) (v := 1) (t := t) h hs
  have hB : tr_B (tr_add S s d w 1) t = if t = s then [] else tr_B S t := rfl
  unfold tr_f
  rw [hK, hB]
  by_cases e : t = s
  · subst e
    rw [if_pos rfl, if_pos rfl, h0]
    rfl
  · rw [if_neg e, if_neg e]
section READER2
variable {xs : List Int32} {h : pm_H} {r o ro t p : Nat} {ws : List Nat} {S : tr_S} {Q : Option Value → pm_H → Prop}
theorem ct_R_readPart {d : Nat} (hr : rd_R h r o t p false) (ho : bt_R h o ro (ws.map nI)) (hw : rd_by ws) (hp : p ≤ ws.length) (ht : tr_R h t S) (hd : d ≤ 10) (hfb : tr_fb S ≤ 80)
    (d1 : r < o ∨ o + 2 ≤ r) (d2 : r < t ∨ t + 27 ≤ r) (d3 : t + 27 ≤ o ∨ o + 2 ≤ t)
    (kF : ∀ (q : Nat) (v : Option Nat) (S' : tr_S) (h' : pm_H), rd_F ws S d p q → (tr_rt S → tr_rt S') → (∀ e, v = some e → e ≤ 10) → rd_R h' r o t q true → tr_R h' t S' → bt_R h' o ro (ws.map nI) → rd_fr r t h h' → Q (some (.int (tr_pv v))) h')
    (kN : ∀ (p' : Nat) (S' : tr_S) (o' : Option Nat) (h' : pm_H), rd_N ws S d p p' S' o' → rd_R h' r o t p' false → tr_R h' t S' → bt_R h' o ro (ws.map nI) → rd_fr r t h h' → Q (some (.int (tr_pv o'))) h') :
    pm_X xs 4 mR_readPart [.ref r, .int (nI d)] h Q := by
  have hr' : h.1[r]? = some (.inr (.inr (kR, [Value.ref o, .ref t, .int (nI p), .int (fr_b false)]))) := hr
  have hok : tr_ok S := ht.2.2.2.2.2.2
  obtain ⟨l1, l2, l3, bK, bN, bP⟩ := id hok
  have hro : ws.length ≤ ro ∧ ro ≤ 1000 := by obtain ⟨ys, -, -, -, -, g5, g6⟩ := id ho; rw [List.length_map] at g5; exact ⟨g5, g6⟩
  have hmx := tr_mx_le (f := tr_c S d) (g := tr_N S) bN 10
  have hw1 := rd_lt hw (p + 1)
  have hw0 := rd_lt hw p
  unfold pm_X
  (repeat (first | refine pm_W.ts rfl rfl ?_ | refine pm_W.tl rfl rfl ?_))
  refine pm_W.callV rfl rfl rfl rfl (fr_ble rfl) hr' (fr_ble rfl) (ct_R_takeKind hr ho hw (by omega) ht hd (fun hm hi hlt g gr hag => ?_) (fun hlt h9 g gr hag => ?_) (fun hn1 hn2 g gr hag => ?_))
  ·
    have gr' : g.1[r]? = some (.inr (.inr (kR, [Value.ref o, .ref t, .int (nI (p + 1)), .int (fr_b false)]))) := gr
    have gt := ht.ag hag (by omega)
    have go := ho.ag hag (by omega)
    obtain ⟨t1, -⟩ := id gt
    (repeat (first | refine pm_W.ts rfl rfl ?_ | refine pm_W.tl rfl rfl ?_))
    refine pm_W.icmp rfl (fun c => ?_) (fun c => ?_)
    · (repeat (first | refine pm_W.ts rfl rfl ?_ | refine pm_W.tl rfl rfl ?_ | refine pm_W.get rfl rfl gr' rfl ?_))
      refine pm_W.callV (d' := 1) rfl rfl rfl rfl (fr_ble rfl) t1 (fr_ble rfl) (ct_T_greatestNameIn gt hd ?_)
      have e1 : nI (tr_mx (tr_c S d) (tr_N S) 10) + Int32.ofInt 1 = nI (tr_mx (tr_c S d) (tr_N S) 10 + 1) := fr_inc _
      (iterate 2 (first | refine pm_W.ts rfl rfl ?_ | refine pm_W.tl rfl rfl ?_))
      rw [e1]
      (iterate 1 (first | refine pm_W.ts rfl rfl ?_ | refine pm_W.tl rfl rfl ?_))
      refine pm_W.callV rfl rfl rfl rfl (fr_ble rfl) gr' (fr_ble rfl) (ct_R_take (lo := tr_mx (tr_c S d) (tr_N S) 10 + 1) (hi := 31) gr go hw (by omega) (by omega) (by omega) (fun _ hk g2 gr2 hag2 => ?_) (fun hk g2 gr2 hag2 => ?_))
      · have gr2' : g2.1[r]? = some (.inr (.inr (kR, [Value.ref o, .ref t, .int (nI (p + 1 + 1)), .int (fr_b false)]))) := gr2
        have gt2 := gt.ag hag2 (by omega)
        have go2 := go.ag hag2 (by omega)
        obtain ⟨u1, -⟩ := id gt2
        have hnm : rd_nm ws S d p := hk
        (repeat (first | refine pm_W.ts rfl rfl ?_ | refine pm_W.tl rfl rfl ?_ | refine pm_W.get rfl rfl gr2' rfl ?_))
        refine pm_W.ifz rfl (fun c2 => ?_) (fun c2 => absurd rfl c2)
        (repeat (first | refine pm_W.ts rfl rfl ?_ | refine pm_W.tl rfl rfl ?_ | refine pm_W.get rfl rfl gr2' rfl ?_))
        have hv : rd_w ws p ≤ 2 := by rcases hi with q | q <;> omega
        refine pm_W.callV (d' := 1) rfl rfl rfl rfl (fr_ble rfl) u1 (fr_ble rfl) (ct_T_addEntry gt2 hd hk.2.2 hv (fun s hs1 hs2 hs3 hs4 g3 gt3 hag3 => ?_) (fun hno => ?_))
        · have gr3 : rd_R g3 r o t (p + 1 + 1) false := hag3.at (by omega) gr2
          have go3 := go2.ag hag3 (by omega)
          have gr3' : g3.1[r]? = some (.inr (.inr (kR, [Value.ref o, .ref t, .int (nI (p + 1 + 1)), .int (fr_b false)]))) := gr3
          have hfr : rd_fr r t h g3 := (((rd_fr.r hag).tr (rd_fr.r hag2)).tr (rd_fr.t hag3))
          (repeat (first | refine pm_W.ts rfl rfl ?_ | refine pm_W.tl rfl rfl ?_))
          refine pm_W.icmp rfl (fun c3 => ?_) (fun c3 => ?_)
          · have c3 : ¬ nI (rd_w ws p) = nI 2 := c3
            rw [nI_eq (by omega) (by omega)] at c3
            have e1 : rd_w ws p = 1 := by rcases hi with q | q <;> omega
            rw [e1] at gt3
            obtain ⟨v1, -⟩ := id gt3
            (repeat (first | refine pm_W.ts rfl rfl ?_ | refine pm_W.tl rfl rfl ?_ | refine pm_W.get rfl rfl gr3' rfl ?_))
            refine pm_W.callV (d' := 1) rfl rfl rfl rfl (fr_ble rfl) v1 (fr_ble rfl) (ct_T_contentOf gt3 (s := s) (by omega) ?_)
            have hfbA := tr_fb_add (d := d) (w := rd_w ws (p + 1)) hok (by omega) hs3
            have hBA : tr_B (tr_add S s d (rd_w ws (p + 1)) 1) s = [] := by show (if s = s then [] else _) = []; rw [if_pos rfl]
            have hw2 : rd_w ws (p + 1 + 1) = rd_w ws (p + 2) := rfl
            refine pm_W.callV rfl rfl rfl rfl (fr_ble rfl) gr3' (fr_ble rfl) (ct_R_readFile gr3 go3 hw (by omega) gt3 (by omega) hBA (by rw [hfbA]; exact hfb) d1 d2 d3 (fun hk1 g4 gr4 gt4 go4 f1 f2 f3 => ?_) (fun a1 a2 a3 a4 g4 S4 hS4 gr4 gt4 go4 f1 f2 f3 => ?_) (fun a1 a2 a3 a4 g4 gr4 gt4 go4 f1 f2 f3 => ?_))
            · rw [hfbA] at hk1
              (repeat (first | refine pm_W.ts rfl rfl ?_ | refine pm_W.tl rfl rfl ?_))
              exact pm_W.iret rfl rfl (kF (p + 2) (some d) _ g4 (Or.inr (Or.inr (Or.inr (Or.inl ⟨rfl, hm, e1, hnm, hk1⟩)))) (fun z => tr_rt_add z hs1) (fun e he => by cases he; exact hd) gr4 gt4 go4 (hfr.tr ⟨f1, f2, f3⟩))
            · rw [hfbA] at a3
              (repeat (first | refine pm_W.ts rfl rfl ?_ | refine pm_W.tl rfl rfl ?_))
              exact pm_W.iret rfl rfl (kF ws.length (some d) _ g4 (Or.inr (Or.inr (Or.inr (Or.inr ⟨rfl, hm, e1, hnm, ⟨a1, a2, a3⟩, by omega⟩)))) (fun z => by obtain ⟨bs, rfl⟩ := hS4; exact tr_rt_setB (tr_rt_add z hs1)) (fun e he => by cases he; exact hd) gr4 gt4 go4 (hfr.tr ⟨f1, f2, f3⟩))
            · rw [hfbA] at a3
              (repeat (first | refine pm_W.ts rfl rfl ?_ | refine pm_W.tl rfl rfl ?_))
              refine pm_W.iret rfl rfl (kN (p + 3 + rd_w ws (p + 2)) _ (some d) g4 (Or.inr (Or.inr ⟨hm, e1, hnm, ⟨a1, a2, a3⟩, by omega, s, ⟨hs1, hs2, hs3, hs4⟩, rfl, rfl, rfl⟩)) ?_ gt4 go4 (hfr.tr ⟨f1, f2, f3⟩))
              rw [show p + 3 + rd_w ws (p + 2) = p + 1 + 1 + 1 + rd_w ws (p + 2) by omega]
              exact gr4
          · have c3 : ¬ ¬ nI (rd_w ws p) = nI 2 := c3
            have c3 := Classical.not_not.mp c3
            rw [nI_eq (by omega) (by omega)] at c3
            rw [c3] at gt3
            (repeat (first | refine pm_W.ts rfl rfl ?_ | refine pm_W.tl rfl rfl ?_))
            exact pm_W.iret rfl rfl (kN (p + 2) _ (some s) g3 (Or.inr (Or.inl ⟨hm, c3, hnm, s, ⟨hs1, hs2, hs3, hs4⟩, rfl, rfl, rfl⟩)) gr3 gt3 go3 hfr)
        · have : tr_cnt (tr_u S) 10 = 10 := tr_cnt_all 10 (fun s h1 h2 => decide_eq_true (hno s h1 h2))
          have := hm.1
          omega
      · have gr2' : g2.1[r]? = some (.inr (.inr (kR, [Value.ref o, .ref t, .int (nI (p + 1)), .int (fr_b true)]))) := gr2
        (repeat (first | refine pm_W.ts rfl rfl ?_ | refine pm_W.tl rfl rfl ?_ | refine pm_W.get rfl rfl gr2' rfl ?_))
        refine pm_W.ifz rfl (fun c2 => absurd (show fr_b true = 0 from c2) (by decide)) (fun c2 => ?_)
        (repeat (first | refine pm_W.ts rfl rfl ?_ | refine pm_W.tl rfl rfl ?_))
        exact pm_W.iret rfl rfl (kF (p + 1) (some d) S g2 (Or.inr (Or.inr (Or.inl ⟨rfl, hm, hi, fun z => hk ⟨rfl, z⟩⟩))) (fun z => z) (fun e he => by cases he; exact hd) gr2 (gt.ag hag2 (by omega)) (go.ag hag2 (by omega)) ((rd_fr.r hag).tr (rd_fr.r hag2)))
    · have c : ¬ ¬ nI (rd_w ws p) = nI 9 := c
      have c := Classical.not_not.mp c
      rw [nI_eq (by omega) (by omega)] at c
      rcases hi with q | q <;> omega
  ·
    have gr' : g.1[r]? = some (.inr (.inr (kR, [Value.ref o, .ref t, .int (nI (p + 1)), .int (fr_b false)]))) := gr
    have gt := ht.ag hag (by omega)
    have go := ho.ag hag (by omega)
    obtain ⟨t1, -⟩ := id gt
    have hcnt := tr_cnt_le (f := tr_c S d) 10
    (repeat (first | refine pm_W.ts rfl rfl ?_ | refine pm_W.tl rfl rfl ?_))
    refine pm_W.icmp rfl (fun c => absurd rfl c) (fun c => ?_)
    (repeat (first | refine pm_W.ts rfl rfl ?_ | refine pm_W.tl rfl rfl ?_ | refine pm_W.get rfl rfl gr' rfl ?_))
    refine pm_W.callV (d' := 1) rfl rfl rfl rfl (fr_ble rfl) t1 (fr_ble rfl) (ct_T_childrenOf gt hd ?_)
    (repeat (first | refine pm_W.ts rfl rfl ?_ | refine pm_W.tl rfl rfl ?_))
    refine pm_W.callV rfl rfl rfl rfl (fr_ble rfl) gr' (fr_ble rfl) (ct_R_take (lo := tr_cnt (tr_c S d) 10) (hi := tr_cnt (tr_c S d) 10) gr go hw (by omega) (by omega) (by omega) (fun _ hk g2 gr2 hag2 => ?_) (fun hk g2 gr2 hag2 => ?_))
    · have gr2' : g2.1[r]? = some (.inr (.inr (kR, [Value.ref o, .ref t, .int (nI (p + 1 + 1)), .int (fr_b false)]))) := gr2
      have gt2 := gt.ag hag2 (by omega)
      obtain ⟨u1, -⟩ := id gt2
      (repeat (first | refine pm_W.ts rfl rfl ?_ | refine pm_W.tl rfl rfl ?_ | refine pm_W.get rfl rfl gr2' rfl ?_))
      refine pm_W.callV (d' := 1) rfl rfl rfl rfl (fr_ble rfl) u1 (fr_ble rfl) (ct_T_parentOf gt2 (by omega) ?_)
      exact pm_W.iret rfl rfl (kN (p + 2) S (tr_P S d) g2 (Or.inl ⟨hk.1, h9, by have := hk.2.1; have := hk.2.2; omega, rfl, rfl, rfl⟩) gr2 gt2 (go.ag hag2 (by omega)) ((rd_fr.r hag).tr (rd_fr.r hag2)))
    · have gr2' : g2.1[r]? = some (.inr (.inr (kR, [Value.ref o, .ref t, .int (nI (p + 1)), .int (fr_b true)]))) := gr2
      have gt2 := gt.ag hag2 (by omega)
      obtain ⟨u1, -⟩ := id gt2
      (repeat (first | refine pm_W.ts rfl rfl ?_ | refine pm_W.tl rfl rfl ?_ | refine pm_W.get rfl rfl gr2' rfl ?_))
      refine pm_W.callV (d' := 1) rfl rfl rfl rfl (fr_ble rfl) u1 (fr_ble rfl) (ct_T_parentOf gt2 (by omega) ?_)
      exact pm_W.iret rfl rfl (kF (p + 1) (tr_P S d) S g2 (Or.inr (Or.inl ⟨rfl, hlt, h9, fun z => hk ⟨rfl, z.1, by omega, by omega⟩⟩)) (fun z => z) (bP d) gr2 gt2 (go.ag hag2 (by omega)) ((rd_fr.r hag).tr (rd_fr.r hag2)))
  ·
    have gr' : g.1[r]? = some (.inr (.inr (kR, [Value.ref o, .ref t, .int (nI p), .int (fr_b true)]))) := gr
    have gt := ht.ag hag (by omega)
    have go := ho.ag hag (by omega)
    obtain ⟨t1, -⟩ := id gt
    (repeat (first | refine pm_W.ts rfl rfl ?_ | refine pm_W.tl rfl rfl ?_))
    refine pm_W.icmp rfl (fun c => ?_) (fun c => absurd (show ¬ (-1 : Int32) = (Int8.ofInt 9).toInt32 by decide) c)
    (repeat (first | refine pm_W.ts rfl rfl ?_ | refine pm_W.tl rfl rfl ?_ | refine pm_W.get rfl rfl gr' rfl ?_))
    refine pm_W.callV (d' := 1) rfl rfl rfl rfl (fr_ble rfl) t1 (fr_ble rfl) (ct_T_greatestNameIn gt hd ?_)
    have e1 : nI (tr_mx (tr_c S d) (tr_N S) 10) + Int32.ofInt 1 = nI (tr_mx (tr_c S d) (tr_N S) 10 + 1) := fr_inc _
    (iterate 2 (first | refine pm_W.ts rfl rfl ?_ | refine pm_W.tl rfl rfl ?_))
    rw [e1]
    (iterate 1 (first | refine pm_W.ts rfl rfl ?_ | refine pm_W.tl rfl rfl ?_))
    refine pm_W.callV rfl rfl rfl rfl (fr_ble rfl) gr' (fr_ble rfl) (ct_R_take (lo := tr_mx (tr_c S d) (tr_N S) 10 + 1) (hi := 31) gr go hw (by omega) (by omega) (by omega) (fun z => by cases z) (fun _ g2 gr2 hag2 => ?_))
    have gr2' : g2.1[r]? = some (.inr (.inr (kR, [Value.ref o, .ref t, .int (nI p), .int (fr_b true)]))) := gr2
    (repeat (first | refine pm_W.ts rfl rfl ?_ | refine pm_W.tl rfl rfl ?_ | refine pm_W.get rfl rfl gr2' rfl ?_))
    refine pm_W.ifz rfl (fun c2 => absurd (show fr_b true = 0 from c2) (by decide)) (fun c2 => ?_)
    (repeat (first | refine pm_W.ts rfl rfl ?_ | refine pm_W.tl rfl rfl ?_))
    exact pm_W.iret rfl rfl (kF p (some d) S g2 (Or.inl ⟨rfl, hn1, hn2⟩) (fun z => z) (fun e he => by cases he; exact hd) gr2 (gt.ag hag2 (by omega)) (go.ag hag2 (by omega)) ((rd_fr.r hag).tr (rd_fr.r hag2)))
theorem ct_R_readAll {I : Nat → tr_S → Option Nat → Prop} (hr : rd_R h r o t 0 false) (ho : bt_R h o ro (ws.map nI)) (hw : rd_by ws) (ht : tr_R h t S)
    (d1 : r < o ∨ o + 2 ≤ r) (d2 : r < t ∨ t + 27 ≤ r) (d3 : t + 27 ≤ o ∨ o + 2 ≤ t)
    (i0 : I 0 (tr_clr S 10) (some 0)) (i1 : ∀ p S d p' S' o', I p S (some d) → rd_N ws S d p p' S' o' → p ≤ ws.length → I p' S' o') (i2 : ∀ p S o, I p S o → tr_fb S ≤ 80 ∧ ∀ e, o = some e → e ≤ 10)
    (kF : ∀ (p q d : Nat) (S S' : tr_S) (h' : pm_H), I p S (some d) → rd_F ws S d p q → (tr_rt S → tr_rt S') → p ≤ ws.length → rd_R h' r o t q true → tr_R h' t S' → rd_fr r t h h' → Q (some (.int (-1 - nI q))) h')
    (kT : ∀ (p : Nat) (S : tr_S) (h' : pm_H), I p S none → p < ws.length → rd_R h' r o t p false → tr_R h' t S → rd_fr r t h h' → Q (some (.int (-1 - nI p))) h')
    (kO : ∀ (S : tr_S) (h' : pm_H), I ws.length S none → rd_R h' r o t ws.length false → tr_R h' t S → rd_fr r t h h' → Q (some (.int (nI (tr_cnt (tr_u S) 10)))) h') :
    pm_X xs 5 mR_readAll [.ref r] h Q := by
  have hro : ws.length ≤ ro ∧ ro ≤ 1000 := by obtain ⟨ys, -, -, -, -, g5, g6⟩ := id ho; rw [List.length_map] at g5; exact ⟨g5, g6⟩
  have cnt : ∀ {g : pm_H}, bt_R g o ro (ws.map nI) → ∃ fs, g.1[o]? = some (.inr (.inr (kB, fs))) := fun hg => by
    obtain ⟨ys, q, -⟩ := hg
    exact ⟨_, q⟩
  have finF : ∀ (g : pm_H) (q : Nat) (v1 v2 : Value), rd_R g r o t q true → Q (some (.int (-1 - nI q))) g → pm_W xs 5 mR_readAll 46 [.ref r, v1, v2] [] g Q := by
    intro g q v1 v2 gr hq
    have gr' : g.1[r]? = some (.inr (.inr (kR, [Value.ref o, .ref t, .int (nI q), .int (fr_b true)]))) := gr
    (repeat (first | refine pm_W.ts rfl rfl ?_ | refine pm_W.tl rfl rfl ?_ | refine pm_W.get rfl rfl gr' rfl ?_))
    refine pm_W.ifz rfl (fun c => ?_) (fun c => absurd (show ¬ fr_b true = 0 by decide) c)
    (repeat (first | refine pm_W.ts rfl rfl ?_ | refine pm_W.tl rfl rfl ?_ | refine pm_W.get rfl rfl gr' rfl ?_))
    exact pm_W.iret rfl rfl hq
  have finO : ∀ (g : pm_H) (p : Nat) (S' : tr_S) (v1 v2 : Value), I p S' none → p ≤ ws.length → rd_R g r o t p false → tr_R g t S' → bt_R g o ro (ws.map nI) → rd_fr r t h g → pm_W xs 5 mR_readAll 46 [.ref r, v1, v2] [] g Q := by
    intro g p S' v1 v2 hI hp gr gt go hfr
    have gr' : g.1[r]? = some (.inr (.inr (kR, [Value.ref o, .ref t, .int (nI p), .int (fr_b false)]))) := gr
    obtain ⟨fs, o1⟩ := cnt go
    obtain ⟨t1, -⟩ := id gt
    (repeat (first | refine pm_W.ts rfl rfl ?_ | refine pm_W.tl rfl rfl ?_ | refine pm_W.get rfl rfl gr' rfl ?_))
    refine pm_W.ifz rfl (fun c => absurd rfl c) (fun c => ?_)
    (repeat (first | refine pm_W.ts rfl rfl ?_ | refine pm_W.tl rfl rfl ?_ | refine pm_W.get rfl rfl gr' rfl ?_))
    refine pm_W.callV (d' := 0) rfl rfl rfl rfl (fr_ble rfl) o1 (fr_ble rfl) (ct_B_count go ?_)
    rw [List.length_map]
    refine pm_W.icmp rfl (fun c2 => ?_) (fun c2 => ?_)
    · have c2 : nI ws.length ≤ nI p := c2
      rw [nI_leI (by omega) (by omega)] at c2
      have e : p = ws.length := by omega
      subst e
      (repeat (first | refine pm_W.ts rfl rfl ?_ | refine pm_W.tl rfl rfl ?_ | refine pm_W.get rfl rfl gr' rfl ?_))
      refine pm_W.callV (d' := 0) rfl rfl rfl rfl (fr_ble rfl) t1 (fr_ble rfl) (ct_T_entries gt ?_)
      exact pm_W.iret rfl rfl (kO S' g hI gr gt hfr)
    · have c2 : ¬ nI ws.length ≤ nI p := c2
      rw [nI_leI (by omega) (by omega)] at c2
      (repeat (first | refine pm_W.ts rfl rfl ?_ | refine pm_W.tl rfl rfl ?_ | refine pm_W.get rfl rfl gr' rfl ?_))
      exact pm_W.iret rfl rfl (kT p S' g hI (by omega) gr gt hfr)
  have loop : ∀ (q i p : Nat) (S' : tr_S) (o' : Option Nat) (g : pm_H), i + q = ws.length + 1 → 2 * i ≤ p → p ≤ ws.length → I p S' o' → rd_R g r o t p false → tr_R g t S' → bt_R g o ro (ws.map nI) → rd_fr r t h g → pm_W xs 5 mR_readAll 11 [.ref r, .int (tr_pv o'), .int (nI i)] [] g Q := by
    intro q
    induction q with
    | zero => intro i p S' o' g hi hp1 hp2; omega
    | succ q ih =>
      intro i p S' o' g hi hp1 hp2 hI gr gt go hfr
      obtain ⟨hb1, hb2⟩ := i2 p S' o' hI
      have gr' : g.1[r]? = some (.inr (.inr (kR, [Value.ref o, .ref t, .int (nI p), .int (fr_b false)]))) := gr
      obtain ⟨fs, o1⟩ := cnt go
      (repeat (first | refine pm_W.ts rfl rfl ?_ | refine pm_W.tl rfl rfl ?_ | refine pm_W.get rfl rfl gr' rfl ?_))
      refine pm_W.callV (d' := 0) rfl rfl rfl rfl (fr_ble rfl) o1 (fr_ble rfl) (ct_B_count go ?_)
      rw [List.length_map]
      refine pm_W.icmp rfl (fun c => ?_) (fun c => ?_)
      · have c : nI ws.length < nI i := c
        rw [nI_ltI (by omega) (by omega)] at c
        omega
      · (repeat (first | refine pm_W.ts rfl rfl ?_ | refine pm_W.tl rfl rfl ?_))
        refine pm_W.icmp rfl (fun c2 => ?_) (fun c2 => ?_)
        · have c2 : tr_pv o' = -1 := c2
          rw [tr_pv_none hb2] at c2
          subst c2
          exact finO g p S' _ _ hI hp2 gr gt go hfr
        · have c2 : ¬ tr_pv o' = -1 := c2
          rw [tr_pv_none hb2] at c2
          cases o' with
          | none => exact absurd rfl c2
          | some d =>
            have hd := hb2 d rfl
            (repeat (first | refine pm_W.ts rfl rfl ?_ | refine pm_W.tl rfl rfl ?_ | refine pm_W.get rfl rfl gr' rfl ?_))
            refine pm_W.ifz rfl (fun c3 => absurd rfl c3) (fun c3 => ?_)
            (repeat (first | refine pm_W.ts rfl rfl ?_ | refine pm_W.tl rfl rfl ?_))
            refine pm_W.callV rfl rfl rfl rfl (fr_ble rfl) gr' (fr_ble rfl) (ct_R_readPart gr go hw hp2 gt hd hb1 d1 d2 d3 (fun f v S2 g2 hF hrt hv gr2 gt2 go2 hfr2 => ?_) (fun p2 S2 o2 g2 hN gr2 gt2 go2 hfr2 => ?_))
            ·
              have gr2' : g2.1[r]? = some (.inr (.inr (kR, [Value.ref o, .ref t, .int (nI f), .int (fr_b true)]))) := gr2
              have out := kF p f d S' S2 g2 hI hF hrt hp2 gr2 gt2 (hfr.tr hfr2)
              obtain ⟨fs2, o2⟩ := cnt go2
              (iterate 2 (first | refine pm_W.ts rfl rfl ?_ | refine pm_W.tl rfl rfl ?_))
              refine pm_W.goto rfl ?_
              (repeat (first | refine pm_W.ts rfl rfl ?_ | refine pm_W.tl rfl rfl ?_ | refine pm_W.get rfl rfl gr2' rfl ?_))
              refine pm_W.callV (d' := 0) rfl rfl rfl rfl (fr_ble rfl) o2 (fr_ble rfl) (ct_B_count go2 ?_)
              refine pm_W.icmp rfl (fun c4 => finF g2 f _ _ gr2 out) (fun c4 => ?_)
              (repeat (first | refine pm_W.ts rfl rfl ?_ | refine pm_W.tl rfl rfl ?_))
              refine pm_W.icmp rfl (fun c5 => finF g2 f _ _ gr2 out) (fun c5 => ?_)
              (repeat (first | refine pm_W.ts rfl rfl ?_ | refine pm_W.tl rfl rfl ?_ | refine pm_W.get rfl rfl gr2' rfl ?_))
              refine pm_W.ifz rfl (fun c6 => finF g2 f _ _ gr2 out) (fun c6 => absurd (show ¬ fr_b true = 0 by decide) c6)
            · (iterate 2 (first | refine pm_W.ts rfl rfl ?_ | refine pm_W.tl rfl rfl ?_))
              refine pm_W.goto rfl ?_
              have hp' : p + 2 ≤ p2 ∧ p2 ≤ ws.length := by
                rcases hN with ⟨a1, -, -, rfl, -⟩ | ⟨-, -, ⟨a1, -⟩, s, -, rfl, -⟩ | ⟨-, -, -, -, a1, s, -, rfl, -⟩ <;> omega
              have := ih (i + 1) p2 S2 o2 g2 (by omega) (by omega) hp'.2 (i1 p S' d p2 S2 o2 hI hN hp2) gr2 gt2 go2 (hfr.tr hfr2)
              rw [← fr_inc i] at this
              exact this
  have hr' : h.1[r]? = some (.inr (.inr (kR, [Value.ref o, .ref t, .int (nI 0), .int (fr_b false)]))) := hr
  obtain ⟨t1, -⟩ := id ht
  unfold pm_X
  (repeat (first | refine pm_W.ts rfl rfl ?_ | refine pm_W.tl rfl rfl ?_ | refine pm_W.get rfl rfl hr' rfl ?_))
  refine pm_W.callV (d' := 0) rfl rfl rfl rfl (fr_ble rfl) t1 (fr_ble rfl) (ct_T_clear ht (fun g gt hag => ?_))
  (iterate 4 (first | refine pm_W.ts rfl rfl ?_ | refine pm_W.tl rfl rfl ?_))
  exact loop (ws.length + 1) 0 0 (tr_clr S 10) (some 0) g (by omega) (by omega) (by omega) i0 (hag.at (by omega) hr) gt (ho.ag hag (by omega)) (rd_fr.t hag)
end READER2
end
section
def fr_up {α : Type} (g : Nat → α) (i : Nat) (v : α) : Nat → α := fun j => if j = i then v else g j
theorem fr_up_s {α : Type} {g : Nat → α} {i : Nat} {v : α} : fr_up g i v i = v := if_pos rfl
theorem fr_up_n {α : Type} {g : Nat → α} {i j : Nat} {v : α} (h : j ≠ i) : fr_up g i v j = g j := if_neg h
def dp_t (b : Nat) (f : Bool) : Nat := if f = true then b + 158 else b + 131
theorem dp_t_c (b : Nat) (f : Bool) : (dp_t b f = b + 131 ∧ dp_t b (!f) = b + 158) ∨ (dp_t b f = b + 158 ∧ dp_t b (!f) = b + 131) := by
  cases f
  · exact Or.inl ⟨rfl, rfl⟩
  · exact Or.inr ⟨rfl, rfl⟩
abbrev dp_K : Type := List (Int32 × List Int32)
abbrev dp_P : Type := List (Nat × Int32)
def dp_R (h : pm_H) (b : Nat) (z : cz_N) (im : Nat → dp_P) (st ca : dp_K) (sd : Nat → List Int32 × dp_P) (ws ta : List Nat) (f : Bool) (S : tr_S) : Prop :=
  h.1[b]? = some (.inr (.inr (kD, [.ref (b + 1), .ref (b + 2), .ref (b + 15), .ref (b + 98), .ref (b + 113), .ref (b + 126), .ref (b + 128), .ref (b + 130), .ref (dp_t b f), .ref (dp_t b (!f))]))) ∧
  cz_R h (b + 1) z ∧ h.1[b + 2]? = some (.inr (.inl (kP, [some (b + 3), some (b + 6), some (b + 9), some (b + 12)]))) ∧ (∀ i, i < 4 → pl_R h (b + 3 + 3 * i) (im i)) ∧ kp_R h (b + 15) 40 st ∧ kp_R h (b + 98) 6 ca ∧
  h.1[b + 113]? = some (.inr (.inl (kS, [some (b + 114), some (b + 120)]))) ∧ (∀ s, s < 2 → sd_R h (b + 114 + 6 * s) (sd s).1 (sd s).2) ∧ (∃ os, bt_R h (b + 126) 117 os) ∧ bt_R h (b + 128) 120 (ws.map nI) ∧
  h.1[b + 130]? = some (.inl (false, ta.map nI)) ∧ ta.length = 4 ∧ tr_R h (dp_t b f) S ∧ ∃ S', tr_R h (dp_t b (!f)) S' ∧ tr_rt S'
section DEPOT0
variable {h h' : pm_H} {b : Nat} {z : cz_N} {im : Nat → dp_P} {st ca : dp_K} {sd : Nat → List Int32 × dp_P} {ws ta : List Nat} {f : Bool} {S : tr_S}
theorem dp_R.uout (hb : dp_R h b z im st ca sd ws ta f S) {lo hi : Nat} (e : fr_ag lo hi h h') (hd : hi ≤ b ∨ b + 185 ≤ lo) : dp_R h' b z im st ca sd ws ta f S := by
  have ht := dp_t_c b f
  obtain ⟨c1, c2, c3, c4, c5, c6, c7, c8, c9, c10, c11, c12, c13, c14⟩ := hb
  refine ⟨e.at (by omega) c1, e.at (by omega) c2, e.at (by omega) c3, fun i hi => (c4 i hi).ag e (by omega), c5.ag e (by omega), c6.ag e (by omega), e.at (by omega) c7, fun s hs => (c8 s hs).ag e (by omega), c9.imp fun _ q => q.ag e (by omega), c10.ag e (by omega), e.at (by omega) c11, c12, c13.ag e (by omega), c14.imp fun _ q => ⟨q.1.ag e (by omega), q.2⟩⟩
theorem dp_R.uim (hb : dp_R h b z im st ca sd ws ta f S) {i : Nat} {ps : dp_P} (hi : i < 4) (n : pl_R h' (b + 3 + 3 * i) ps) (e : fr_ag (b + 3 + 3 * i) (b + 3 + 3 * i + 3) h h') : dp_R h' b z (fr_up im i ps) st ca sd ws ta f S := by
  have ht := dp_t_c b f
  obtain ⟨c1, c2, c3, c4, c5, c6, c7, c8, c9, c10, c11, c12, c13, c14⟩ := hb
  refine ⟨e.at (by omega) c1, e.at (by omega) c2, e.at (by omega) c3, fun j hj => ?_, c5.ag e (by omega), c6.ag e (by omega), e.at (by omega) c7, fun s hs => (c8 s hs).ag e (by omega), c9.imp fun _ q => q.ag e (by omega), c10.ag e (by omega), e.at (by omega) c11, c12, c13.ag e (by omega), c14.imp fun _ q => ⟨q.1.ag e (by omega), q.2⟩⟩
  by_cases q : j = i
  · subst q
    rw [fr_up_s]
    exact n
  · rw [fr_up_n q]
    exact (c4 j hj).ag e (by omega)
theorem dp_R.ust (hb : dp_R h b z im st ca sd ws ta f S) {L : dp_K} (n : kp_R h' (b + 15) 40 L) (e : fr_ag (b + 15) (b + 98) h h') : dp_R h' b z im L ca sd ws ta f S := by
  have ht := dp_t_c b f
  obtain ⟨c1, c2, c3, c4, c5, c6, c7, c8, c9, c10, c11, c12, c13, c14⟩ := hb
  refine ⟨e.at (by omega) c1, e.at (by omega) c2, e.at (by omega) c3, fun i hi => (c4 i hi).ag e (by omega), n, c6.ag e (by omega), e.at (by omega) c7, fun s hs => (c8 s hs).ag e (by omega), c9.imp fun _ q => q.ag e (by omega), c10.ag e (by omega), e.at (by omega) c11, c12, c13.ag e (by omega), c14.imp fun _ q => ⟨q.1.ag e (by omega), q.2⟩⟩
theorem dp_R.uca (hb : dp_R h b z im st ca sd ws ta f S) {L : dp_K} (n : kp_R h' (b + 98) 6 L) (e : fr_ag (b + 98) (b + 113) h h') : dp_R h' b z im st L sd ws ta f S := by
  have ht := dp_t_c b f
  obtain ⟨c1, c2, c3, c4, c5, c6, c7, c8, c9, c10, c11, c12, c13, c14⟩ := hb
  refine ⟨e.at (by omega) c1, e.at (by omega) c2, e.at (by omega) c3, fun i hi => (c4 i hi).ag e (by omega), c5.ag e (by omega), n, e.at (by omega) c7, fun s hs => (c8 s hs).ag e (by omega), c9.imp fun _ q => q.ag e (by omega), c10.ag e (by omega), e.at (by omega) c11, c12, c13.ag e (by omega), c14.imp fun _ q => ⟨q.1.ag e (by omega), q.2⟩⟩
theorem dp_R.usd (hb : dp_R h b z im st ca sd ws ta f S) {s : Nat} {bs : List Int32} {ps : dp_P} (hs : s < 2) (n : sd_R h' (b + 114 + 6 * s) bs ps) (e : fr_ag (b + 114 + 6 * s) (b + 114 + 6 * s + 6) h h') : dp_R h' b z im st ca (fr_up sd s (bs, ps)) ws ta f S := by
  have ht := dp_t_c b f
  obtain ⟨c1, c2, c3, c4, c5, c6, c7, c8, c9, c10, c11, c12, c13, c14⟩ := hb
  refine ⟨e.at (by omega) c1, e.at (by omega) c2, e.at (by omega) c3, fun i hi => (c4 i hi).ag e (by omega), c5.ag e (by omega), c6.ag e (by omega), e.at (by omega) c7, fun j hj => ?_, c9.imp fun _ q => q.ag e (by omega), c10.ag e (by omega), e.at (by omega) c11, c12, c13.ag e (by omega), c14.imp fun _ q => ⟨q.1.ag e (by omega), q.2⟩⟩
  by_cases q : j = s
  · subst q
    rw [fr_up_s]
    exact n
  · rw [fr_up_n q]
    exact (c8 j hj).ag e (by omega)
theorem dp_R.uos (hb : dp_R h b z im st ca sd ws ta f S) {os : List Int32} (n : bt_R h' (b + 126) 117 os) (e : fr_ag (b + 126) (b + 128) h h') : dp_R h' b z im st ca sd ws ta f S := by
  have ht := dp_t_c b f
  obtain ⟨c1, c2, c3, c4, c5, c6, c7, c8, c9, c10, c11, c12, c13, c14⟩ := hb
  refine ⟨e.at (by omega) c1, e.at (by omega) c2, e.at (by omega) c3, fun i hi => (c4 i hi).ag e (by omega), c5.ag e (by omega), c6.ag e (by omega), e.at (by omega) c7, fun s hs => (c8 s hs).ag e (by omega), ⟨os, n⟩, c10.ag e (by omega), e.at (by omega) c11, c12, c13.ag e (by omega), c14.imp fun _ q => ⟨q.1.ag e (by omega), q.2⟩⟩
theorem dp_R.uws (hb : dp_R h b z im st ca sd ws ta f S) {vs : List Nat} (n : bt_R h' (b + 128) 120 (vs.map nI)) (e : fr_ag (b + 128) (b + 130) h h') : dp_R h' b z im st ca sd vs ta f S := by
  have ht := dp_t_c b f
  obtain ⟨c1, c2, c3, c4, c5, c6, c7, c8, c9, c10, c11, c12, c13, c14⟩ := hb
  refine ⟨e.at (by omega) c1, e.at (by omega) c2, e.at (by omega) c3, fun i hi => (c4 i hi).ag e (by omega), c5.ag e (by omega), c6.ag e (by omega), e.at (by omega) c7, fun s hs => (c8 s hs).ag e (by omega), c9.imp fun _ q => q.ag e (by omega), n, e.at (by omega) c11, c12, c13.ag e (by omega), c14.imp fun _ q => ⟨q.1.ag e (by omega), q.2⟩⟩
theorem dp_R.uta (hb : dp_R h b z im st ca sd ws ta f S) {tb : List Nat} (n : h'.1[b + 130]? = some (.inl (false, tb.map nI))) (hl : tb.length = 4) (e : fr_ag (b + 130) (b + 131) h h') : dp_R h' b z im st ca sd ws tb f S := by
  have ht := dp_t_c b f
  obtain ⟨c1, c2, c3, c4, c5, c6, c7, c8, c9, c10, c11, c12, c13, c14⟩ := hb
  refine ⟨e.at (by omega) c1, e.at (by omega) c2, e.at (by omega) c3, fun i hi => (c4 i hi).ag e (by omega), c5.ag e (by omega), c6.ag e (by omega), e.at (by omega) c7, fun s hs => (c8 s hs).ag e (by omega), c9.imp fun _ q => q.ag e (by omega), c10.ag e (by omega), n, hl, c13.ag e (by omega), c14.imp fun _ q => ⟨q.1.ag e (by omega), q.2⟩⟩
theorem dp_R.utr (hb : dp_R h b z im st ca sd ws ta f S) {S' : tr_S} (n : tr_R h' (dp_t b f) S') (e : fr_ag (dp_t b f) (dp_t b f + 27) h h') : dp_R h' b z im st ca sd ws ta f S' := by
  have ht := dp_t_c b f
  obtain ⟨c1, c2, c3, c4, c5, c6, c7, c8, c9, c10, c11, c12, c13, c14⟩ := hb
  refine ⟨e.at (by omega) c1, e.at (by omega) c2, e.at (by omega) c3, fun i hi => (c4 i hi).ag e (by omega), c5.ag e (by omega), c6.ag e (by omega), e.at (by omega) c7, fun s hs => (c8 s hs).ag e (by omega), c9.imp fun _ q => q.ag e (by omega), c10.ag e (by omega), e.at (by omega) c11, c12, n, c14.imp fun _ q => ⟨q.1.ag e (by omega), q.2⟩⟩
end DEPOT0
end
section
section DEPOT1
variable {xs : List Int32} {h : pm_H} {b : Nat} {z : cz_N} {im : Nat → dp_P} {st ca : dp_K} {sd : Nat → List Int32 × dp_P} {ws ta : List Nat} {f : Bool} {S : tr_S} {Q : Option Value → pm_H → Prop}
theorem fr_4 {x : Int32} (h0 : ¬ x < 0) {n : Nat} (hn : n < 2 ^ 31) (h1 : ¬ nI n ≤ x) : ∃ i : Nat, i < n ∧ x = nI i := by
  obtain ⟨j, hj, rfl⟩ := fr_nat (fr_nlt h0)
  exact ⟨j, by rw [nI_leI hn hj] at h1; omega, rfl⟩
theorem fr_no {x : Int32} {n : Nat} (hn : n < 2 ^ 31) (h : x < 0 ∨ nI n ≤ x) : ∀ i : Nat, i < n → x ≠ nI i := by
  intro i hi e
  subst e
  rcases h with h | h
  · exact nI_pos (by omega) h
  · rw [nI_leI hn (by omega)] at h; omega
theorem ct_D_isByte {x : Int32} (k1 : ∀ i : Nat, i < 256 → x = nI i → Q (some (.int 1)) h) (k0 : (∀ i : Nat, i < 256 → x ≠ nI i) → Q (some (.int 0)) h) : pm_X xs 0 mD_isByte [.int x] h Q := by
  unfold pm_X
  (repeat (first | refine pm_W.ts rfl rfl ?_ | refine pm_W.tl rfl rfl ?_))
  refine pm_W.ifz rfl (fun c => ?_) (fun c => ?_)
  · (repeat (first | refine pm_W.ts rfl rfl ?_ | refine pm_W.tl rfl rfl ?_))
    exact pm_W.iret rfl rfl (k0 (fr_no (by omega) (Or.inl c)))
  · (repeat (first | refine pm_W.ts rfl rfl ?_ | refine pm_W.tl rfl rfl ?_))
    refine pm_W.icmp rfl (fun c2 => ?_) (fun c2 => ?_)
    · have c2 : nI 255 < x := c2
      (repeat (first | refine pm_W.ts rfl rfl ?_ | refine pm_W.tl rfl rfl ?_))
      refine pm_W.iret rfl rfl (k0 (fr_no (by omega) (Or.inr ?_)))
      rw [fr_lt, nI_toInt (by omega)] at c2
      rw [fr_le, nI_toInt (by omega)]
      omega
    · have c2 : ¬ nI 255 < x := c2
      (repeat (first | refine pm_W.ts rfl rfl ?_ | refine pm_W.tl rfl rfl ?_))
      refine pm_W.goto rfl ?_
      obtain ⟨i, hi, e⟩ := fr_4 (n := 256) c (by omega) (by
        rw [fr_lt, nI_toInt (by omega)] at c2
        rw [fr_le, nI_toInt (by omega)]
        omega)
      exact pm_W.iret rfl rfl (k1 i hi e)
theorem ct_D_isSeed {x : Int32} (k1 : ∀ i : Nat, i < 2 → x = nI i → Q (some (.int 1)) h) (k0 : (∀ i : Nat, i < 2 → x ≠ nI i) → Q (some (.int 0)) h) : pm_X xs 0 mD_isSeed [.int x] h Q := by
  unfold pm_X
  (repeat (first | refine pm_W.ts rfl rfl ?_ | refine pm_W.tl rfl rfl ?_))
  refine pm_W.ifz rfl (fun c => ?_) (fun c => ?_)
  · (repeat (first | refine pm_W.ts rfl rfl ?_ | refine pm_W.tl rfl rfl ?_))
    exact pm_W.iret rfl rfl (k0 (fr_no (by omega) (Or.inl c)))
  · (repeat (first | refine pm_W.ts rfl rfl ?_ | refine pm_W.tl rfl rfl ?_))
    refine pm_W.icmp rfl (fun c2 => ?_) (fun c2 => ?_)
    · (repeat (first | refine pm_W.ts rfl rfl ?_ | refine pm_W.tl rfl rfl ?_))
      exact pm_W.iret rfl rfl (k0 (fr_no (by omega) (Or.inr c2)))
    · (repeat (first | refine pm_W.ts rfl rfl ?_ | refine pm_W.tl rfl rfl ?_))
      refine pm_W.goto rfl ?_
      obtain ⟨i, hi, e⟩ := fr_4 (n := 2) c (by omega) c2
      exact pm_W.iret rfl rfl (k1 i hi e)
theorem dp_im4 {i : Nat} (hi : i < 4) : ([some (b + 3), some (b + 6), some (b + 9), some (b + 12)] : List (Option Nat)).getD i none = some (b + 3 + 3 * i) := by
  match i, hi with
  | 0, _ => rfl
  | 1, _ => rfl
  | 2, _ => rfl
  | 3, _ => rfl
theorem dp_sd2 {s : Nat} (hs : s < 2) : ([some (b + 114), some (b + 120)] : List (Option Nat)).getD s none = some (b + 114 + 6 * s) := by
  match s, hs with
  | 0, _ => rfl
  | 1, _ => rfl
theorem ct_D_imageNumbered {x : Int32} (hb : dp_R h b z im st ca sd ws ta f S) (k1 : ∀ i : Nat, i < 4 → x = nI i → im i ≠ [] → Q (some (.ref (b + 3 + 3 * i))) h) (k0 : (∀ i : Nat, i < 4 → x = nI i → im i = []) → Q (some .null) h) : pm_X xs 1 mD_imageNumbered [.ref b, .int x] h Q := by
  obtain ⟨c1, c2, c3, c4, c5, c6, c7, c8, c9, c10, c11, c12, c13, c14⟩ := id hb
  have out : (x < 0 ∨ nI 4 ≤ x) → pm_W xs 1 mD_imageNumbered 21 [.ref b, .int x] [] h Q := by
    intro q
    (repeat (first | refine pm_W.ts rfl rfl ?_ | refine pm_W.tl rfl rfl ?_))
    exact pm_W.aretN rfl rfl (k0 (fun i hi e => absurd e (fr_no (by omega) q i hi)))
  unfold pm_X
  (repeat (first | refine pm_W.ts rfl rfl ?_ | refine pm_W.tl rfl rfl ?_))
  refine pm_W.ifz rfl (fun c => out (Or.inl c)) (fun c => ?_)
  (repeat (first | refine pm_W.ts rfl rfl ?_ | refine pm_W.tl rfl rfl ?_))
  refine pm_W.icmp rfl (fun d => out (Or.inr d)) (fun d => ?_)
  obtain ⟨i, hi, rfl⟩ := fr_4 (n := 4) c (by omega) d
  (repeat (first | refine pm_W.ts rfl rfl ?_ | refine pm_W.tl rfl rfl ?_ | refine pm_W.get rfl rfl c1 rfl ?_))
  refine pm_W.aald rfl c3 (pm_ix_ok (j := i) hi (show 4 < 2 ^ 31 by omega)) (by decide) ?_
  rw [dp_im4 hi]
  have hp := c4 i hi
  have hl : (im i).length ≤ 15 := by obtain ⟨es, is, -, -, -, -, -, -, -, g⟩ := id hp; exact g
  obtain ⟨es, is, p1, -⟩ := id hp
  refine pm_W.callV rfl rfl rfl rfl (fr_ble rfl) p1 (fr_ble rfl) (ct_P_count hp ?_)
  refine pm_W.ifz rfl (fun e => ?_) (fun e => ?_)
  · have e : ¬ nI (im i).length = nI 0 := e
    rw [nI_eq (by omega) (by omega)] at e
    (repeat (first | refine pm_W.ts rfl rfl ?_ | refine pm_W.tl rfl rfl ?_ | refine pm_W.get rfl rfl c1 rfl ?_))
    refine pm_W.aald rfl c3 (pm_ix_ok (j := i) hi (show 4 < 2 ^ 31 by omega)) (by decide) ?_
    rw [dp_im4 hi]
    exact pm_W.aretR rfl rfl (k1 i hi rfl (fun q => e (by rw [q]; rfl)))
  · have e : ¬ ¬ nI (im i).length = nI 0 := e
    have e := Classical.not_not.mp e
    rw [nI_eq (by omega) (by omega)] at e
    (repeat (first | refine pm_W.ts rfl rfl ?_ | refine pm_W.tl rfl rfl ?_))
    refine pm_W.aretN rfl rfl (k0 (fun j hj ej => ?_))
    rw [nI_eq (by omega) (by omega)] at ej
    subst ej
    exact List.eq_nil_of_length_eq_zero e
theorem ct_D_freeImage (hb : dp_R h b z im st ca sd ws ta f S) (k1 : ∀ i : Nat, i < 4 → im i = [] → (∀ j, j < i → im j ≠ []) → Q (some (.int (nI i))) h) (k0 : (∀ i, i < 4 → im i ≠ []) → Q (some (.int (-1))) h) : pm_X xs 2 mD_freeImage [.ref b] h Q := by
  obtain ⟨c1, -⟩ := id hb
  have loop : ∀ (r i : Nat), i + r = 4 → (∀ j, j < i → im j ≠ []) → pm_W xs 2 mD_freeImage 2 [.ref b, .int (nI i)] [] h Q := by
    intro r
    induction r with
    | zero =>
      intro i hi hj
      (repeat (first | refine pm_W.ts rfl rfl ?_ | refine pm_W.tl rfl rfl ?_))
      refine pm_W.icmp rfl (fun c => ?_) (fun c => ?_)
      · (repeat (first | refine pm_W.ts rfl rfl ?_ | refine pm_W.tl rfl rfl ?_))
        exact pm_W.iret rfl rfl (k0 (by rw [show i = 4 by omega] at hj; exact hj))
      · have c : ¬ nI 4 ≤ nI i := c
        rw [nI_leI (by omega) (by omega)] at c
        omega
    | succ r ih =>
      intro i hi hj
      (repeat (first | refine pm_W.ts rfl rfl ?_ | refine pm_W.tl rfl rfl ?_))
      refine pm_W.icmp rfl (fun c => ?_) (fun c => ?_)
      · have c : nI 4 ≤ nI i := c
        rw [nI_leI (by omega) (by omega)] at c
        omega
      · (repeat (first | refine pm_W.ts rfl rfl ?_ | refine pm_W.tl rfl rfl ?_))
        refine pm_W.callV rfl rfl rfl rfl (fr_ble rfl) c1 (fr_ble rfl) (ct_D_imageNumbered hb (fun j hj4 ej hne => ?_) (fun hno => ?_))
        · rw [nI_eq (by omega) (by omega)] at ej
          subst ej
          refine pm_W.ifnonnullR rfl ?_
          (repeat (first | refine pm_W.ts rfl rfl ?_ | refine pm_W.tl rfl rfl ?_))
          refine pm_W.goto rfl ?_
          have := ih (i + 1) (by omega) (fun j hj2 => by
            by_cases e : j = i
            · rw [e]; exact hne
            · exact hj j (by omega))
          rw [← fr_inc] at this
          exact this
        · refine pm_W.ifnonnullN rfl ?_
          (repeat (first | refine pm_W.ts rfl rfl ?_ | refine pm_W.tl rfl rfl ?_))
          exact pm_W.iret rfl rfl (k1 i (by omega) (hno i (by omega) rfl) hj)
  unfold pm_X
  (iterate 2 (first | refine pm_W.ts rfl rfl ?_ | refine pm_W.tl rfl rfl ?_))
  exact loop 4 0 (by omega) (fun j hj => by omega)
def dp_cnt (im : Nat → dp_P) : Nat → Nat
  | 0 => 0
  | n + 1 => dp_cnt im n + (if im n = [] then 0 else 1)
theorem ct_D_imagesThere (hb : dp_R h b z im st ca sd ws ta f S) (k : Q (some (.int (nI (dp_cnt im 4)))) h) : pm_X xs 2 mD_imagesThere [.ref b] h Q := by
  obtain ⟨c1, -⟩ := id hb
  have loop : ∀ (r i : Nat), i + r = 4 → pm_W xs 2 mD_imagesThere 4 [.ref b, .int (nI (dp_cnt im i)), .int (nI i)] [] h Q := by
    intro r
    induction r with
    | zero =>
      intro i hi
      (repeat (first | refine pm_W.ts rfl rfl ?_ | refine pm_W.tl rfl rfl ?_))
      refine pm_W.icmp rfl (fun c => ?_) (fun c => ?_)
      · (repeat (first | refine pm_W.ts rfl rfl ?_ | refine pm_W.tl rfl rfl ?_))
        rw [show i = 4 by omega]
        exact pm_W.iret rfl rfl k
      · have c : ¬ nI 4 ≤ nI i := c
        rw [nI_leI (by omega) (by omega)] at c
        omega
    | succ r ih =>
      intro i hi
      have i1 := ih (i + 1) (by omega)
      (repeat (first | refine pm_W.ts rfl rfl ?_ | refine pm_W.tl rfl rfl ?_))
      refine pm_W.icmp rfl (fun c => ?_) (fun c => ?_)
      · have c : nI 4 ≤ nI i := c
        rw [nI_leI (by omega) (by omega)] at c
        omega
      · (repeat (first | refine pm_W.ts rfl rfl ?_ | refine pm_W.tl rfl rfl ?_))
        refine pm_W.callV rfl rfl rfl rfl (fr_ble rfl) c1 (fr_ble rfl) (ct_D_imageNumbered hb (fun j hj4 ej hne => ?_) (fun hno => ?_))
        · rw [nI_eq (by omega) (by omega)] at ej
          subst ej
          refine pm_W.ifnullR rfl ?_
          rw [show dp_cnt im (i + 1) = dp_cnt im i + 1 from by show _ + _ = _; rw [if_neg hne], ← fr_inc i, ← fr_inc (dp_cnt im i)] at i1
          (repeat (first | refine pm_W.ts rfl rfl ?_ | refine pm_W.tl rfl rfl ?_))
          refine pm_W.goto rfl ?_
          exact i1
        · refine pm_W.ifnullN rfl ?_
          rw [show dp_cnt im (i + 1) = dp_cnt im i from by show _ + _ = _; rw [if_pos (hno i (by omega) rfl)]; rfl, ← fr_inc i] at i1
          (repeat (first | refine pm_W.ts rfl rfl ?_ | refine pm_W.tl rfl rfl ?_))
          refine pm_W.goto rfl ?_
          exact i1
  unfold pm_X
  (iterate 4 (first | refine pm_W.ts rfl rfl ?_ | refine pm_W.tl rfl rfl ?_))
  exact loop 4 0 (by omega)
def dp_in (im : Nat → dp_P) (w : Int32) : Prop := ∃ i, i < 4 ∧ ∃ k, k < (im i).length ∧ pl_i (im i) k = w
theorem ct_D_isIdOfAnImage {w : Int32} (hb : dp_R h b z im st ca sd ws ta f S) (k1 : dp_in im w → Q (some (.int 1)) h) (k0 : ¬ dp_in im w → Q (some (.int 0)) h) : pm_X xs 1 mD_isIdOfAnImage [.ref b, .int w] h Q := by
  obtain ⟨c1, c2, c3, c4, c5, c6, c7, c8, c9, c10, c11, c12, c13, c14⟩ := id hb
  have loop : ∀ (r i : Nat), i + r = 4 → (∀ j, j < i → ∀ k, k < (im j).length → pl_i (im j) k ≠ w) → pm_W xs 1 mD_isIdOfAnImage 2 [.ref b, .int w, .int (nI i)] [] h Q := by
    intro r
    induction r with
    | zero =>
      intro i hi hj
      (repeat (first | refine pm_W.ts rfl rfl ?_ | refine pm_W.tl rfl rfl ?_))
      refine pm_W.icmp rfl (fun c => ?_) (fun c => ?_)
      · (repeat (first | refine pm_W.ts rfl rfl ?_ | refine pm_W.tl rfl rfl ?_))
        refine pm_W.iret rfl rfl (k0 ?_)
        rintro ⟨j, hj4, k, hk, e⟩
        exact hj j (by omega) k hk e
      · have c : ¬ nI 4 ≤ nI i := c
        rw [nI_leI (by omega) (by omega)] at c
        omega
    | succ r ih =>
      intro i hi hj
      (repeat (first | refine pm_W.ts rfl rfl ?_ | refine pm_W.tl rfl rfl ?_))
      refine pm_W.icmp rfl (fun c => ?_) (fun c => ?_)
      · have c : nI 4 ≤ nI i := c
        rw [nI_leI (by omega) (by omega)] at c
        omega
      · (repeat (first | refine pm_W.ts rfl rfl ?_ | refine pm_W.tl rfl rfl ?_ | refine pm_W.get rfl rfl c1 rfl ?_))
        refine pm_W.aald rfl c3 (pm_ix_ok (j := i) (show i < 4 by omega) (show 4 < 2 ^ 31 by omega)) (by decide) ?_
        rw [dp_im4 (by omega)]
        have hp := c4 i (by omega)
        obtain ⟨es, is, p1, p2, p3, p4, p5, p6, p7, p8⟩ := id hp
        (repeat (first | refine pm_W.ts rfl rfl ?_ | refine pm_W.tl rfl rfl ?_))
        refine pm_W.callV rfl rfl rfl rfl (fr_ble rfl) p1 (fr_ble rfl) (ct_P_firstWithId hp (fun k hk e _ => ?_) (fun hno => ?_))
        · (repeat (first | refine pm_W.ts rfl rfl ?_ | refine pm_W.tl rfl rfl ?_))
          refine pm_W.icmp rfl (fun e2 => ?_) (fun e2 => ?_)
          · have e2 : nI k = -1 := e2
            have : (nI k).toInt = -1 := by rw [e2]; rfl
            rw [nI_toInt (by omega)] at this
            omega
          · (repeat (first | refine pm_W.ts rfl rfl ?_ | refine pm_W.tl rfl rfl ?_))
            exact pm_W.iret rfl rfl (k1 ⟨i, by omega, k, hk, e⟩)
        · (repeat (first | refine pm_W.ts rfl rfl ?_ | refine pm_W.tl rfl rfl ?_))
          refine pm_W.icmp rfl (fun e2 => ?_) (fun e2 => absurd rfl e2)
          (repeat (first | refine pm_W.ts rfl rfl ?_ | refine pm_W.tl rfl rfl ?_))
          refine pm_W.goto rfl ?_
          have := ih (i + 1) (by omega) (fun j hj2 k hk => by
            by_cases e : j = i
            · subst e; exact hno k hk
            · exact hj j (by omega) k hk)
          rw [← fr_inc] at this
          exact this
  unfold pm_X
  (iterate 2 (first | refine pm_W.ts rfl rfl ?_ | refine pm_W.tl rfl rfl ?_))
  exact loop 4 0 (by omega) (fun j hj => by omega)
theorem ct_D_discard {x : Int32} (hb : dp_R h b z im st ca sd ws ta f S) (k1 : ∀ i : Nat, i < 4 → x = nI i → im i ≠ [] → ∀ h' : pm_H, dp_R h' b z (fr_up im i []) st ca sd ws ta f S → fr_ag b (b + 185) h h' → Q (some (.int 1)) h') (k0 : (∀ i : Nat, i < 4 → x = nI i → im i = []) → Q (some (.int 0)) h) : pm_X xs 2 mD_discard [.ref b, .int x] h Q := by
  obtain ⟨c1, c2, c3, c4, -⟩ := id hb
  unfold pm_X
  (repeat (first | refine pm_W.ts rfl rfl ?_ | refine pm_W.tl rfl rfl ?_))
  refine pm_W.callV rfl rfl rfl rfl (fr_ble rfl) c1 (fr_ble rfl) (ct_D_imageNumbered hb (fun i hi e hne => ?_) (fun hno => ?_))
  · (repeat (first | refine pm_W.ts rfl rfl ?_ | refine pm_W.tl rfl rfl ?_))
    refine pm_W.ifnonnullR rfl ?_
    (repeat (first | refine pm_W.ts rfl rfl ?_ | refine pm_W.tl rfl rfl ?_))
    have hp := c4 i hi
    obtain ⟨es, is, p1, -⟩ := id hp
    refine pm_W.callV (d' := 0) rfl rfl rfl rfl (fr_ble rfl) p1 (fr_ble rfl) (ct_P_clear hp (fun g hg hag => ?_))
    (repeat (first | refine pm_W.ts rfl rfl ?_ | refine pm_W.tl rfl rfl ?_))
    exact pm_W.iret rfl rfl (k1 i hi e hne g (hb.uim hi hg hag) (hag.wide (by omega) (by omega)))
  · (repeat (first | refine pm_W.ts rfl rfl ?_ | refine pm_W.tl rfl rfl ?_))
    refine pm_W.ifnonnullN rfl ?_
    (repeat (first | refine pm_W.ts rfl rfl ?_ | refine pm_W.tl rfl rfl ?_))
    exact pm_W.iret rfl rfl (k0 hno)
theorem ct_D_root {x : Int32} (hb : dp_R h b z im st ca sd ws ta f S) (k1 : ∀ i : Nat, i < 4 → x = nI i → im i ≠ [] → ∀ A : List Int32, Q (some (.int (rt_root 15 ((im i).map (fun q => q.2))))) (h.1 ++ [.inl (false, A)], h.2 + 15)) (k0 : (∀ i : Nat, i < 4 → x = nI i → im i = []) → Q (some (.int 0)) h) : pm_X xs 3 mD_root [.ref b, .int x] h Q := by
  obtain ⟨c1, c2, c3, c4, -⟩ := id hb
  unfold pm_X
  (repeat (first | refine pm_W.ts rfl rfl ?_ | refine pm_W.tl rfl rfl ?_))
  refine pm_W.callV (d' := 1) rfl rfl rfl rfl (fr_ble rfl) c1 (fr_ble rfl) (ct_D_imageNumbered hb (fun i hi e hne => ?_) (fun hno => ?_))
  · (repeat (first | refine pm_W.ts rfl rfl ?_ | refine pm_W.tl rfl rfl ?_))
    refine pm_W.ifnonnullR rfl ?_
    (repeat (first | refine pm_W.ts rfl rfl ?_ | refine pm_W.tl rfl rfl ?_))
    have hp := c4 i hi
    obtain ⟨es, is, p1, -⟩ := id hp
    refine pm_W.callV rfl rfl rfl rfl (fr_ble rfl) p1 (fr_ble rfl) (ct_P_rootId hp (List.length_pos_iff.mpr hne) (fun A => ?_))
    exact pm_W.iret rfl rfl (k1 i hi e hne A)
  · (repeat (first | refine pm_W.ts rfl rfl ?_ | refine pm_W.tl rfl rfl ?_))
    refine pm_W.ifnonnullN rfl ?_
    (repeat (first | refine pm_W.ts rfl rfl ?_ | refine pm_W.tl rfl rfl ?_))
    refine pm_W.goto rfl ?_
    exact pm_W.iret rfl rfl (k0 hno)
def dp_pc (e : Nat) (i : Int32) : Int64 := (nI e).toInt64 <<< ((32 : Int32).toInt64 &&& 63) + (i.toInt64 &&& 4294967295)
theorem ct_D_piece {x y : Int32} (hb : dp_R h b z im st ca sd ws ta f S) (k1 : ∀ i k : Nat, i < 4 → x = nI i → k < (im i).length → y = nI k → Q (some (.long (dp_pc (pl_e (im i) k) (pl_i (im i) k)))) h) (k0 : (∀ i k : Nat, i < 4 → x = nI i → k < (im i).length → y ≠ nI k) → Q (some (.long (-1))) h) : pm_X xs 2 mD_piece [.ref b, .int x, .int y] h Q := by
  obtain ⟨c1, c2, c3, c4, -⟩ := id hb
  unfold pm_X
  (repeat (first | refine pm_W.ts rfl rfl ?_ | refine pm_W.tl rfl rfl ?_))
  refine pm_W.callV rfl rfl rfl rfl (fr_ble rfl) c1 (fr_ble rfl) (ct_D_imageNumbered hb (fun i hi e hne => ?_) (fun hno => ?_))
  · (repeat (first | refine pm_W.ts rfl rfl ?_ | refine pm_W.tl rfl rfl ?_))
    refine pm_W.ifnullR rfl ?_
    (repeat (first | refine pm_W.ts rfl rfl ?_ | refine pm_W.tl rfl rfl ?_))
    have hp := c4 i hi
    obtain ⟨es, is, p1, p2, p3, p4, p5, p6, p7, p8⟩ := id hp
    refine pm_W.callV (d' := 0) rfl rfl rfl rfl (fr_ble rfl) p1 (fr_ble rfl) (ct_P_has hp ?_)
    refine pm_W.ifz rfl (fun d => ?_) (fun d => ?_)
    · have d := fr_b1 d
      obtain ⟨k, hk, rfl⟩ := pl_has_nat d p8
      (repeat (first | refine pm_W.ts rfl rfl ?_ | refine pm_W.tl rfl rfl ?_))
      refine pm_W.callV (d' := 0) rfl rfl rfl rfl (fr_ble rfl) p1 (fr_ble rfl) (ct_P_endOf hp (by omega) ?_)
      (repeat (first | refine pm_W.ts rfl rfl ?_ | refine pm_W.tl rfl rfl ?_))
      refine pm_W.callV rfl rfl rfl rfl (fr_ble rfl) p1 (fr_ble rfl) (ct_P_idOf hp hk ?_)
      (repeat (first | refine pm_W.ts rfl rfl ?_ | refine pm_W.tl rfl rfl ?_))
      refine pm_W.ldc2 rfl rfl ?_
      (repeat (first | refine pm_W.ts rfl rfl ?_ | refine pm_W.tl rfl rfl ?_))
      exact pm_W.lret rfl rfl (k1 i k hi e hk rfl)
    · have d : ¬ ¬ fr_b (pl_has (im i) y) = 0 := d
      have d := fr_b0 (Classical.not_not.mp d)
      refine pm_W.ldc2 rfl rfl ?_
      refine pm_W.lret rfl rfl (k0 (fun j k hj ej hk ek => ?_))
      rw [e, nI_eq (by omega) (by omega)] at ej
      subst ej
      rw [ek, show pl_has (im i) (nI k) = true from decide_eq_true ⟨nI_pos' (by omega), nI_lt hk (by omega)⟩] at d
      cases d
  · (repeat (first | refine pm_W.ts rfl rfl ?_ | refine pm_W.tl rfl rfl ?_))
    refine pm_W.ifnullN rfl ?_
    refine pm_W.ldc2 rfl rfl ?_
    refine pm_W.lret rfl rfl (k0 (fun j k hj ej hk ek => ?_))
    rw [hno j hj ej] at hk
    cases hk
end DEPOT1
end
section
def dp_inb (im : Nat → dp_P) (w : Int32) : Bool := (List.range 4).any (fun i => (im i).any (fun q => decide (q.2 = w)))
theorem dp_inb_iff {im : Nat → dp_P} {w : Int32} : dp_inb im w = true ↔ dp_in im w := by
  unfold dp_inb dp_in
  rw [List.any_eq_true]
  constructor
  · rintro ⟨i, hi, h⟩
    obtain ⟨q, hq, e⟩ := List.any_eq_true.mp h
    obtain ⟨k, hk, rfl⟩ := List.getElem_of_mem hq
    refine ⟨i, List.mem_range.mp hi, k, hk, ?_⟩
    have e := of_decide_eq_true e
    rw [← e]
    simp [pl_i, hk]
  · rintro ⟨i, hi, k, hk, e⟩
    refine ⟨i, List.mem_range.mpr hi, List.any_eq_true.mpr ⟨(im i)[k], List.getElem_mem hk, decide_eq_true ?_⟩⟩
    rw [← e]
    simp [pl_i, hk]
def cl_go (im : Nat → dp_P) : Nat → dp_K → Nat → dp_K × Nat
  | 0, L, g => (L, g)
  | n + 1, L, g => if dp_inb im (kp_i L n) = true then cl_go im n L g else cl_go im n (L.eraseIdx n) (g + 1)
theorem fr_dec (n : Nat) : nI n + Int32.ofInt (-1) = nI n - Int32.ofInt 1 := by
  rw [Int32.sub_eq_add_neg]
  rfl
theorem fr_not1 {n : Nat} (hn : n < 2 ^ 31) : ¬ nI n = -1 := by
  intro e
  have : (nI n).toInt = -1 := by rw [e]; rfl
  rw [nI_toInt hn] at this
  omega
def dm_R (L : dp_K) (w a v : Int32) (L' : dp_K) : Prop := ∃ p, p < L.length ∧ kp_i L p = w ∧ (∀ j, j < p → kp_i L j ≠ w) ∧
  ((a = -1 ∧ L' = L.eraseIdx p) ∨ (a ≠ -1 ∧ ∃ i j : Nat, i < (kp_b L p).length ∧ a = nI i ∧ j < 256 ∧ v = nI j ∧ L' = L.set p (w, (kp_b L p).set i (nI j))))
def sp_R (ws : List Nat) (x v : Int32) (vs : List Nat) : Prop := (v = -1 ∧ ∃ i : Nat, i ≤ ws.length ∧ x = nI i ∧ vs = ws.take i) ∨ (∃ j : Nat, j < 256 ∧ v = nI j ∧ ∃ i : Nat, x = nI i ∧ ((i = ws.length ∧ i < 120 ∧ vs = ws ++ [j]) ∨ (i < ws.length ∧ vs = ws.set i j)))
section DEPOT2
variable {xs : List Int32} {h : pm_H} {b : Nat} {z : cz_N} {im : Nat → dp_P} {st ca : dp_K} {sd : Nat → List Int32 × dp_P} {ws ta : List Nat} {f : Bool} {S : tr_S} {Q : Option Value → pm_H → Prop}
theorem ct_D_collect (hb : dp_R h b z im st ca sd ws ta f S) (k : ∀ h' : pm_H, dp_R h' b z im (cl_go im st.length st 0).1 ca sd ws ta f S → fr_ag b (b + 185) h h' → Q (some (.int (nI (cl_go im st.length st 0).2))) h') : pm_X xs 2 mD_collect [.ref b] h Q := by
  have loop : ∀ (n : Nat) (L : dp_K) (g : Nat) (h1 : pm_H), n ≤ L.length → dp_R h1 b z im L ca sd ws ta f S → fr_ag b (b + 185) h h1 → cl_go im n L g = cl_go im st.length st 0 → pm_W xs 2 mD_collect 12 [.ref b, .int (nI g), .int (nI n - Int32.ofInt 1)] [] h1 Q := by
    intro n
    induction n with
    | zero =>
      intro L g h1 hn hb1 hag he
      (repeat (first | refine pm_W.ts rfl rfl ?_ | refine pm_W.tl rfl rfl ?_))
      refine pm_W.ifz rfl (fun c => ?_) (fun c => absurd (show nI 0 - Int32.ofInt 1 < 0 by decide) c)
      (repeat (first | refine pm_W.ts rfl rfl ?_ | refine pm_W.tl rfl rfl ?_))
      refine pm_W.iret rfl rfl ?_
      have := k h1 (by rw [← he]; exact hb1) hag
      rw [← he] at this
      exact this
    | succ n ih =>
      intro L g h1 hn hb1 hag he
      obtain ⟨c1, c2, c3, c4, c5, -⟩ := id hb1
      have hl : L.length ≤ 40 := by obtain ⟨ids, rows, -, -, -, -, -, g6, -⟩ := id c5; exact g6
      obtain ⟨ids, rows, s1, -⟩ := id c5
      have e1 : nI (n + 1) - Int32.ofInt 1 = nI n := nI_pred n
      rw [e1]
      rw [show cl_go im (n + 1) L g = if dp_inb im (kp_i L n) = true then cl_go im n L g else cl_go im n (L.eraseIdx n) (g + 1) from rfl] at he
      (repeat (first | refine pm_W.ts rfl rfl ?_ | refine pm_W.tl rfl rfl ?_))
      refine pm_W.ifz rfl (fun c => absurd c (nI_pos (by omega))) (fun c => ?_)
      (repeat (first | refine pm_W.ts rfl rfl ?_ | refine pm_W.tl rfl rfl ?_ | refine pm_W.get rfl rfl c1 rfl ?_))
      refine pm_W.callV (d' := 0) rfl rfl rfl rfl (fr_ble rfl) s1 (fr_ble rfl) (ct_K_idAt c5 (j := n) (by omega) ?_)
      refine pm_W.callV rfl rfl rfl rfl (fr_ble rfl) c1 (fr_ble rfl) (ct_D_isIdOfAnImage hb1 (fun hy => ?_) (fun hno => ?_))
      · rw [if_pos (dp_inb_iff.mpr hy)] at he
        refine pm_W.ifz rfl (fun c => ?_) (fun c => absurd (show ¬ (1 : Int32) = 0 by decide) c)
        (iterate 1 (first | refine pm_W.ts rfl rfl ?_ | refine pm_W.tl rfl rfl ?_))
        refine pm_W.goto rfl ?_
        rw [fr_dec]
        exact ih L g h1 (by omega) hb1 hag he
      · rw [if_neg (fun q => hno (dp_inb_iff.mp q))] at he
        refine pm_W.ifz rfl (fun c => absurd rfl c) (fun c => ?_)
        (repeat (first | refine pm_W.ts rfl rfl ?_ | refine pm_W.tl rfl rfl ?_ | refine pm_W.get rfl rfl c1 rfl ?_))
        refine pm_W.callV (d' := 0) rfl rfl rfl rfl (fr_ble rfl) s1 (fr_ble rfl) (ct_K_takeOut c5 (p := n) (by omega) (fun h2 hk2 hag2 => ?_))
        (iterate 3 (first | refine pm_W.ts rfl rfl ?_ | refine pm_W.tl rfl rfl ?_))
        refine pm_W.goto rfl ?_
        rw [fr_dec, fr_inc]
        exact ih (L.eraseIdx n) (g + 1) h2 (by rw [List.length_eraseIdx_of_lt (by omega)]; omega) (hb1.ust hk2 (hag2.wide (by omega) (by omega))) (hag.tr (hag2.wide (by omega) (by omega))) he
  obtain ⟨c1, c2, c3, c4, c5, -⟩ := id hb
  obtain ⟨ids, rows, s1, -⟩ := id c5
  unfold pm_X
  (repeat (first | refine pm_W.ts rfl rfl ?_ | refine pm_W.tl rfl rfl ?_ | refine pm_W.get rfl rfl c1 rfl ?_))
  refine pm_W.callV (d' := 0) rfl rfl rfl rfl (fr_ble rfl) s1 (fr_ble rfl) (ct_K_count c5 ?_)
  (iterate 3 (first | refine pm_W.ts rfl rfl ?_ | refine pm_W.tl rfl rfl ?_))
  exact loop st.length st 0 h (Nat.le_refl _) hb fr_ag.rf rfl
theorem ct_D_damageK {x y kk a v : Int32} {i k kp room : Nat} {L : dp_K} (hb : dp_R h b z im st ca sd ws ta f S) (hi : i < 4) (hk : k < (im i).length) (hL : kp_R h kp room L)
    (k1 : ∀ L' : dp_K, dm_R L (pl_i (im i) k) a v L' → ∀ h' : pm_H, kp_R h' kp room L' → fr_ag kp (kp + 3 + 2 * room) h h' → Q (some (.int 1)) h')
    (k0 : (∀ L' : dp_K, ¬ dm_R L (pl_i (im i) k) a v L') → Q (some (.int 0)) h) :
    pm_W xs 2 mD_damage 49 [.ref b, .int x, .int y, .int (nI k), .int a, .int v, .ref (b + 3 + 3 * i), .ref kp, pm_none, pm_none] [] h Q := by
  obtain ⟨c1, c2, c3, c4, -⟩ := id hb
  have hp := c4 i hi
  obtain ⟨es, is, p1, p2, p3, p4, p5, p6, p7, p8⟩ := id hp
  obtain ⟨ids, rows, s1, s2, s3, s4, s5, s6, s7, -⟩ := id hL
  have uniq : ∀ {p q : Nat} {w : Int32}, p < L.length → kp_i L p = w → (∀ j, j < p → kp_i L j ≠ w) → q < L.length → kp_i L q = w → (∀ j, j < q → kp_i L j ≠ w) → q = p := by
    intro p q w a1 a2 a3 b1 b2 b3
    rcases Nat.lt_trichotomy q p with t | t | t
    · exact absurd b2 (a3 q t)
    · exact t
    · exact absurd a2 (b3 p t)
  (repeat (first | refine pm_W.ts rfl rfl ?_ | refine pm_W.tl rfl rfl ?_))
  refine pm_W.callV rfl rfl rfl rfl (fr_ble rfl) p1 (fr_ble rfl) (ct_P_idOf hp hk ?_)
  (repeat (first | refine pm_W.ts rfl rfl ?_ | refine pm_W.tl rfl rfl ?_))
  refine pm_W.icmp rfl (fun c => ?_) (fun c => ?_)
  · have c : ¬ a = -1 := c
    (repeat (first | refine pm_W.ts rfl rfl ?_ | refine pm_W.tl rfl rfl ?_))
    refine pm_W.callV rfl rfl rfl rfl (fr_ble rfl) s1 (fr_ble rfl) (ct_K_bytesUnder hL (fun p r hp1 hp2 hp3 hr1 hr2 hbr hput => ?_) (fun hno => ?_))
    · (repeat (first | refine pm_W.ts rfl rfl ?_ | refine pm_W.tl rfl rfl ?_))
      refine pm_W.ifnullR rfl ?_
      (repeat (first | refine pm_W.ts rfl rfl ?_ | refine pm_W.tl rfl rfl ?_))
      refine pm_W.callS (d' := 0) rfl rfl rfl rfl (fr_ble rfl) (fr_ble rfl) (ct_D_isByte (fun j hj ej => ?_) (fun hnb => ?_))
      · refine pm_W.ifz rfl (fun c2 => absurd (show (1 : Int32) = 0 from c2) (by decide)) (fun c2 => ?_)
        (repeat (first | refine pm_W.ts rfl rfl ?_ | refine pm_W.tl rfl rfl ?_))
        obtain ⟨ys, r1, r2, r3, r4, r5, r6⟩ := id hbr
        refine pm_W.callV rfl rfl rfl rfl (fr_ble rfl) r1 (fr_ble rfl) (ct_B_change hbr (fun hn => ?_) (fun t g ht et hg hag => ?_))
        · refine pm_W.ifz rfl (fun c3 => ?_) (fun c3 => absurd rfl c3)
          (repeat (first | refine pm_W.ts rfl rfl ?_ | refine pm_W.tl rfl rfl ?_))
          refine pm_W.iret rfl rfl (k0 ?_)
          rintro L' ⟨q, q1, q2, q3, q4 | ⟨-, i2, j2, q5, q6, -⟩⟩
          · exact c q4.1
          · have e := uniq hp1 hp2 hp3 q1 q2 q3
            subst e
            rw [q6, show bt_has (kp_b L q) (nI i2) = true from decide_eq_true ⟨nI_pos' (by omega), nI_lt q5 (by omega)⟩] at hn
            cases hn
        · refine pm_W.ifz rfl (fun c3 => absurd (show (1 : Int32) = 0 from c3) (by decide)) (fun c3 => ?_)
          (repeat (first | refine pm_W.ts rfl rfl ?_ | refine pm_W.tl rfl rfl ?_))
          refine pm_W.goto rfl ?_
          rw [ej, fr_255 _ hj] at hg
          exact pm_W.iret rfl rfl (k1 _ ⟨p, hp1, hp2, hp3, Or.inr ⟨c, t, j, ht, et, hj, ej, rfl⟩⟩ g (hput _ g hg hag) (hag.wide (by omega) (by omega)))
      · refine pm_W.ifz rfl (fun c2 => ?_) (fun c2 => absurd rfl c2)
        (repeat (first | refine pm_W.ts rfl rfl ?_ | refine pm_W.tl rfl rfl ?_))
        refine pm_W.iret rfl rfl (k0 ?_)
        rintro L' ⟨q, q1, q2, q3, q4 | ⟨-, i2, j2, q5, q6, q7, q8, -⟩⟩
        · exact c q4.1
        · exact hnb j2 q7 q8
    · (repeat (first | refine pm_W.ts rfl rfl ?_ | refine pm_W.tl rfl rfl ?_))
      refine pm_W.ifnullN rfl ?_
      (repeat (first | refine pm_W.ts rfl rfl ?_ | refine pm_W.tl rfl rfl ?_))
      refine pm_W.iret rfl rfl (k0 ?_)
      rintro L' ⟨q, q1, q2, -⟩
      exact hno q q1 q2
  · have c : ¬ ¬ a = -1 := c
    have c := Classical.not_not.mp c
    (repeat (first | refine pm_W.ts rfl rfl ?_ | refine pm_W.tl rfl rfl ?_))
    refine pm_W.callV (d' := 0) rfl rfl rfl rfl (fr_ble rfl) s1 (fr_ble rfl) (ct_K_placeOf hL (fun p hp1 hp2 hp3 => ?_) (fun hno => ?_))
    · refine pm_W.callV (d' := 0) rfl rfl rfl rfl (fr_ble rfl) s1 (fr_ble rfl) (ct_K_takeOut hL hp1 (fun g hg hag => ?_))
      exact pm_W.iret rfl rfl (k1 _ ⟨p, hp1, hp2, hp3, Or.inl ⟨c, rfl⟩⟩ g hg (hag.wide (by omega) (by omega)))
    · refine pm_W.callV (d' := 0) rfl rfl rfl rfl (fr_ble rfl) s1 (fr_ble rfl) (ct_K_takeOutN hL ?_)
      refine pm_W.iret rfl rfl (k0 ?_)
      rintro L' ⟨q, q1, q2, -⟩
      exact hno q q1 q2
theorem ct_D_damage {x y kk a v : Int32} (hb : dp_R h b z im st ca sd ws ta f S)
    (k1 : ∀ i k : Nat, i < 4 → y = nI i → k < (im i).length → kk = nI k → x = 0 → ∀ L' : dp_K, dm_R st (pl_i (im i) k) a v L' → ∀ h' : pm_H, dp_R h' b z im L' ca sd ws ta f S → fr_ag b (b + 185) h h' → Q (some (.int 1)) h')
    (k2 : ∀ i k : Nat, i < 4 → y = nI i → k < (im i).length → kk = nI k → x = 1 → ∀ L' : dp_K, dm_R ca (pl_i (im i) k) a v L' → ∀ h' : pm_H, dp_R h' b z im st L' sd ws ta f S → fr_ag b (b + 185) h h' → Q (some (.int 1)) h')
    (k0 : (∀ i k : Nat, i < 4 → y = nI i → k < (im i).length → kk = nI k → (x = 0 → ∀ L' : dp_K, ¬ dm_R st (pl_i (im i) k) a v L') ∧ (x = 1 → ∀ L' : dp_K, ¬ dm_R ca (pl_i (im i) k) a v L')) → Q (some (.int 0)) h) :
    pm_X xs 2 mD_damage [.ref b, .int x, .int y, .int kk, .int a, .int v] h Q := by
  obtain ⟨c1, c2, c3, c4, c5, c6, -⟩ := id hb
  have no : ∀ v6 : Value, Q (some (.int 0)) h → pm_W xs 2 mD_damage 30 [.ref b, .int x, .int y, .int kk, .int a, .int v, v6, pm_none, pm_none, pm_none] [] h Q := by
    intro v6 q
    (repeat (first | refine pm_W.ts rfl rfl ?_ | refine pm_W.tl rfl rfl ?_))
    exact pm_W.iret rfl rfl q
  unfold pm_X
  (repeat (first | refine pm_W.ts rfl rfl ?_ | refine pm_W.tl rfl rfl ?_))
  refine pm_W.callV rfl rfl rfl rfl (fr_ble rfl) c1 (fr_ble rfl) (ct_D_imageNumbered hb (fun i hi e hne => ?_) (fun hno => ?_))
  · have hp := c4 i hi
    obtain ⟨es, is, p1, p2, p3, p4, p5, p6, p7, p8⟩ := id hp
    have same : ∀ {j : Nat}, j < 4 → y = nI j → j = i := fun hj ej => by
      rw [e, nI_eq (by omega) (by omega)] at ej
      exact ej.symm
    have here : (x = 0 ∨ x = 1) → pm_W xs 2 mD_damage 16 [.ref b, .int x, .int y, .int kk, .int a, .int v, .ref (b + 3 + 3 * i), pm_none, pm_none, pm_none] [] h Q := by
      intro hx
      (repeat (first | refine pm_W.ts rfl rfl ?_ | refine pm_W.tl rfl rfl ?_))
      refine pm_W.ifnullR rfl ?_
      (repeat (first | refine pm_W.ts rfl rfl ?_ | refine pm_W.tl rfl rfl ?_))
      refine pm_W.callV (d' := 0) rfl rfl rfl rfl (fr_ble rfl) p1 (fr_ble rfl) (ct_P_has hp ?_)
      refine pm_W.ifz rfl (fun d => ?_) (fun d => ?_)
      · have d := fr_b1 d
        obtain ⟨k, hk, rfl⟩ := pl_has_nat d p8
        have fin : (∀ (i2 k2 : Nat), i2 < 4 → y = nI i2 → k2 < (im i2).length → nI k = nI k2 → i2 = i ∧ k2 = k) := by
          intro i2 k2 h1 h2 h3 h4
          have e1 := same h1 h2
          subst e1
          rw [nI_eq (by omega) (by omega)] at h4
          exact ⟨rfl, h4.symm⟩
        (repeat (first | refine pm_W.ts rfl rfl ?_ | refine pm_W.tl rfl rfl ?_))
        refine pm_W.ifz rfl (fun q => ?_) (fun q => ?_)
        · have q : ¬ x = 0 := q
          have hx1 : x = 1 := hx.resolve_left q
          (iterate 3 (first | refine pm_W.ts rfl rfl ?_ | refine pm_W.tl rfl rfl ?_ | refine pm_W.get rfl rfl c1 rfl ?_))
          refine ct_D_damageK (x := x) (y := y) (kk := nI k) (room := 6) (kp := b + 98) hb hi hk c6 (fun L' hd g hg hag => k2 i k hi e hk rfl hx1 L' hd g (hb.uca hg (hag.wide (by omega) (by omega))) (hag.wide (by omega) (by omega))) (fun hn => k0 (fun i2 k2 h1 h2 h3 h4 => ?_))
          obtain ⟨rfl, rfl⟩ := fin i2 k2 h1 h2 h3 h4
          exact ⟨fun z => absurd z q, fun _ => hn⟩
        · have q : ¬ ¬ x = 0 := q
          have hx0 := Classical.not_not.mp q
          (repeat (first | refine pm_W.ts rfl rfl ?_ | refine pm_W.tl rfl rfl ?_ | refine pm_W.get rfl rfl c1 rfl ?_))
          refine pm_W.goto rfl ?_
          (iterate 1 (first | refine pm_W.ts rfl rfl ?_ | refine pm_W.tl rfl rfl ?_))
          refine ct_D_damageK (x := x) (y := y) (kk := nI k) (room := 40) (kp := b + 15) hb hi hk c5 (fun L' hd g hg hag => k1 i k hi e hk rfl hx0 L' hd g (hb.ust hg (hag.wide (by omega) (by omega))) (hag.wide (by omega) (by omega))) (fun hn => k0 (fun i2 k2 h1 h2 h3 h4 => ?_))
          obtain ⟨rfl, rfl⟩ := fin i2 k2 h1 h2 h3 h4
          exact ⟨fun _ => hn, fun z => absurd (hx0.symm.trans z) (by decide)⟩
      · have d : ¬ ¬ fr_b (pl_has (im i) kk) = 0 := d
        have d := fr_b0 (Classical.not_not.mp d)
        refine no _ (k0 (fun i2 k2 h1 h2 h3 h4 => ?_))
        have e1 := same h1 h2
        subst e1
        rw [h4, show pl_has (im i2) (nI k2) = true from decide_eq_true ⟨nI_pos' (by omega), nI_lt h3 (by omega)⟩] at d
        cases d
    (repeat (first | refine pm_W.ts rfl rfl ?_ | refine pm_W.tl rfl rfl ?_))
    refine pm_W.ifz rfl (fun q => here (Or.inl q)) (fun q => ?_)
    (repeat (first | refine pm_W.ts rfl rfl ?_ | refine pm_W.tl rfl rfl ?_))
    refine pm_W.icmp rfl (fun q2 => ?_) (fun q2 => ?_)
    · have q : ¬ x = 0 := q
      have q2 : ¬ x = 1 := q2
      exact no _ (k0 (fun i2 k2 h1 h2 h3 h4 => ⟨fun z => absurd z q, fun z => absurd z q2⟩))
    · have q2 : ¬ ¬ x = 1 := q2
      exact here (Or.inr (Classical.not_not.mp q2))
  · have all : Q (some (.int 0)) h := k0 (fun i k hi e hk => by rw [hno i hi e] at hk; cases hk)
    (repeat (first | refine pm_W.ts rfl rfl ?_ | refine pm_W.tl rfl rfl ?_))
    refine pm_W.ifz rfl (fun q => ?_) (fun q => ?_)
    · (repeat (first | refine pm_W.ts rfl rfl ?_ | refine pm_W.tl rfl rfl ?_))
      refine pm_W.ifnullN rfl ?_
      exact no _ all
    · (repeat (first | refine pm_W.ts rfl rfl ?_ | refine pm_W.tl rfl rfl ?_))
      refine pm_W.icmp rfl (fun q2 => no _ all) (fun q2 => ?_)
      (repeat (first | refine pm_W.ts rfl rfl ?_ | refine pm_W.tl rfl rfl ?_))
      refine pm_W.ifnullN rfl ?_
      exact no _ all
theorem ct_D_alter {x a v : Int32} (hb : dp_R h b z im st ca sd ws ta f S) (k1 : ∀ i t j : Nat, i < 2 → x = nI i → t < (sd i).1.length → a = nI t → j < 256 → v = nI j → ∀ h' : pm_H, dp_R h' b z im st ca (fr_up sd i ((sd i).1.set t (nI j), (sd i).2)) ws ta f S → fr_ag b (b + 185) h h' → Q (some (.int 1)) h')
    (k0 : (∀ i t j : Nat, i < 2 → x = nI i → t < (sd i).1.length → a = nI t → j < 256 → v ≠ nI j) → Q (some (.int 0)) h) : pm_X xs 2 mD_alter [.ref b, .int x, .int a, .int v] h Q := by
  obtain ⟨c1, c2, c3, c4, c5, c6, c7, c8, -⟩ := id hb
  unfold pm_X
  (repeat (first | refine pm_W.ts rfl rfl ?_ | refine pm_W.tl rfl rfl ?_))
  refine pm_W.callS (d' := 0) rfl rfl rfl rfl (fr_ble rfl) (fr_ble rfl) (ct_D_isSeed (fun i hi ei => ?_) (fun hn => ?_))
  · refine pm_W.ifz rfl (fun c => absurd (show (1 : Int32) = 0 from c) (by decide)) (fun c => ?_)
    (repeat (first | refine pm_W.ts rfl rfl ?_ | refine pm_W.tl rfl rfl ?_))
    refine pm_W.callS (d' := 0) rfl rfl rfl rfl (fr_ble rfl) (fr_ble rfl) (ct_D_isByte (fun j hj ej => ?_) (fun hn => ?_))
    · refine pm_W.ifz rfl (fun c => absurd (show (1 : Int32) = 0 from c) (by decide)) (fun c => ?_)
      subst ei
      (repeat (first | refine pm_W.ts rfl rfl ?_ | refine pm_W.tl rfl rfl ?_ | refine pm_W.get rfl rfl c1 rfl ?_))
      refine pm_W.aald rfl c7 (pm_ix_ok (j := i) hi (show 2 < 2 ^ 31 by omega)) (by decide) ?_
      rw [dp_sd2 hi]
      have hs := c8 i hi
      refine pm_W.callV (d' := 0) rfl rfl rfl rfl (fr_ble rfl) hs.1 (fr_ble rfl) (ct_S_bytes hs ?_)
      (repeat (first | refine pm_W.ts rfl rfl ?_ | refine pm_W.tl rfl rfl ?_))
      obtain ⟨ys, b1, b2, b3, b4, b5, b6⟩ := id hs.2.1
      refine pm_W.callV rfl rfl rfl rfl (fr_ble rfl) b1 (fr_ble rfl) (ct_B_change hs.2.1 (fun hn => ?_) (fun t g ht et hg hag => ?_))
      · refine pm_W.ifz rfl (fun c3 => ?_) (fun c3 => absurd rfl c3)
        (repeat (first | refine pm_W.ts rfl rfl ?_ | refine pm_W.tl rfl rfl ?_))
        refine pm_W.iret rfl rfl (k0 (fun i2 t2 j2 h1 h2 h3 h4 h5 h6 => ?_))
        rw [nI_eq (by omega) (by omega)] at h2
        subst h2
        rw [h4, show bt_has (sd i).1 (nI t2) = true from decide_eq_true ⟨nI_pos' (by omega), nI_lt h3 (by omega)⟩] at hn
        cases hn
      · refine pm_W.ifz rfl (fun c3 => absurd (show (1 : Int32) = 0 from c3) (by decide)) (fun c3 => ?_)
        (repeat (first | refine pm_W.ts rfl rfl ?_ | refine pm_W.tl rfl rfl ?_))
        refine pm_W.goto rfl ?_
        rw [ej, fr_255 _ hj] at hg
        exact pm_W.iret rfl rfl (k1 i t j hi rfl ht et hj ej g (hb.usd hi ⟨hag.at (by omega) hs.1, hg, hs.2.2.ag hag (by omega)⟩ (hag.wide (by omega) (by omega))) (hag.wide (by omega) (by omega)))
    · refine pm_W.ifz rfl (fun c2 => ?_) (fun c2 => absurd rfl c2)
      (repeat (first | refine pm_W.ts rfl rfl ?_ | refine pm_W.tl rfl rfl ?_))
      exact pm_W.iret rfl rfl (k0 (fun i2 t2 j2 h1 h2 h3 h4 h5 => hn j2 h5))
  · refine pm_W.ifz rfl (fun c2 => ?_) (fun c2 => absurd rfl c2)
    (repeat (first | refine pm_W.ts rfl rfl ?_ | refine pm_W.tl rfl rfl ?_))
    exact pm_W.iret rfl rfl (k0 (fun i2 t2 j2 h1 h2 => absurd h2 (hn i2 h1)))
theorem ct_D_scan {x : Int32} (hb : dp_R h b z im st ca sd ws ta f S) (hz : cz_ok z) (k1 : ∀ i : Nat, i < 2 → x = nI i → ∀ h' : pm_H, dp_R h' b z im st ca (fr_up sd i ((sd i).1, (cz_cut z (sd i).1 (sd i).1.length).1)) ws ta f S → fr_ag b (b + 185) h h' → Q (some (.int (nI (cz_cut z (sd i).1 (sd i).1.length).1.length))) h')
    (k0 : (∀ i : Nat, i < 2 → x ≠ nI i) → Q (some (.int (-1))) h) : pm_X xs 6 mD_scan [.ref b, .int x] h Q := by
  obtain ⟨c1, c2, c3, c4, c5, c6, c7, c8, -⟩ := id hb
  unfold pm_X
  (repeat (first | refine pm_W.ts rfl rfl ?_ | refine pm_W.tl rfl rfl ?_))
  refine pm_W.callS (d' := 0) rfl rfl rfl rfl (fr_ble rfl) (fr_ble rfl) (ct_D_isSeed (fun i hi ei => ?_) (fun hn => ?_))
  · refine pm_W.ifz rfl (fun c => absurd (show (1 : Int32) = 0 from c) (by decide)) (fun c => ?_)
    subst ei
    (repeat (first | refine pm_W.ts rfl rfl ?_ | refine pm_W.tl rfl rfl ?_ | refine pm_W.get rfl rfl c1 rfl ?_))
    refine pm_W.aald rfl c7 (pm_ix_ok (j := i) hi (show 2 < 2 ^ 31 by omega)) (by decide) ?_
    rw [dp_sd2 hi]
    have hs := c8 i hi
    (repeat (first | refine pm_W.ts rfl rfl ?_ | refine pm_W.tl rfl rfl ?_ | refine pm_W.get rfl rfl c1 rfl ?_))
    have hl : (sd i).1.length ≤ 117 := by obtain ⟨ys, -, -, -, -, g, -⟩ := id hs.2.1; exact g
    refine pm_W.callV rfl rfl rfl rfl (fr_ble rfl) hs.1 (fr_ble rfl) (ct_S_cutWith hs c2 hz hl (by omega) (fun g hg hag => ?_))
    refine pm_W.goto rfl ?_
    exact pm_W.iret rfl rfl (k1 i hi rfl g (hb.usd hi hg hag) (hag.wide (by omega) (by omega)))
  · refine pm_W.ifz rfl (fun c2 => ?_) (fun c2 => absurd rfl c2)
    (repeat (first | refine pm_W.ts rfl rfl ?_ | refine pm_W.tl rfl rfl ?_))
    exact pm_W.iret rfl rfl (k0 hn)
theorem ct_D_counts {x : Int32} (hb : dp_R h b z im st ca sd ws ta f S) (k1 : ∀ i : Nat, i < 4 → x = nI i → Q (some (.int (nI (ta.getD i 0)))) h) (k0 : (∀ i : Nat, i < 4 → x ≠ nI i) → Q (some (.int (-1))) h) : pm_X xs 0 mD_counts [.ref b, .int x] h Q := by
  obtain ⟨c1, c2, c3, c4, c5, c6, c7, c8, c9, c10, c11, c12, -⟩ := id hb
  unfold pm_X
  (repeat (first | refine pm_W.ts rfl rfl ?_ | refine pm_W.tl rfl rfl ?_))
  refine pm_W.ifz rfl (fun c => ?_) (fun c => ?_)
  · (repeat (first | refine pm_W.ts rfl rfl ?_ | refine pm_W.tl rfl rfl ?_))
    exact pm_W.iret rfl rfl (k0 (fr_no (by omega) (Or.inl c)))
  · (repeat (first | refine pm_W.ts rfl rfl ?_ | refine pm_W.tl rfl rfl ?_))
    refine pm_W.icmp rfl (fun c2 => ?_) (fun c2 => ?_)
    · (repeat (first | refine pm_W.ts rfl rfl ?_ | refine pm_W.tl rfl rfl ?_))
      exact pm_W.iret rfl rfl (k0 (fr_no (n := 4) (by omega) (Or.inr c2)))
    · obtain ⟨i, hi, rfl⟩ := fr_4 (n := 4) c (by omega) c2
      (repeat (first | refine pm_W.ts rfl rfl ?_ | refine pm_W.tl rfl rfl ?_ | refine pm_W.get rfl rfl c1 rfl ?_))
      refine pm_W.iald rfl c11 (pm_ix_ok (j := i) (by rw [List.length_map]; omega) (by rw [List.length_map]; omega)) ?_
      rw [fr_mapD]
      refine pm_W.goto rfl ?_
      exact pm_W.iret rfl rfl (k1 i hi rfl)
theorem ct_D_output {x : Int32} (hb : dp_R h b z im st ca sd ws ta f S) (kl : x = -1 → Q (some (.int (nI ws.length))) h) (k1 : ∀ i : Nat, i < ws.length → x = nI i → Q (some (.int (nI (rd_w ws i)))) h) (k0 : x ≠ -1 → (∀ i : Nat, i < ws.length → x ≠ nI i) → Q (some (.int (-2))) h) : pm_X xs 2 mD_output [.ref b, .int x] h Q := by
  obtain ⟨c1, c2, c3, c4, c5, c6, c7, c8, c9, c10, -⟩ := id hb
  obtain ⟨ys, b1, b2, b3, b4, b5, b6⟩ := id c10
  rw [List.length_map] at b5
  unfold pm_X
  (repeat (first | refine pm_W.ts rfl rfl ?_ | refine pm_W.tl rfl rfl ?_))
  refine pm_W.icmp rfl (fun c => ?_) (fun c => ?_)
  · have c : ¬ x = -1 := c
    (repeat (first | refine pm_W.ts rfl rfl ?_ | refine pm_W.tl rfl rfl ?_ | refine pm_W.get rfl rfl c1 rfl ?_))
    refine pm_W.callV (d' := 0) rfl rfl rfl rfl (fr_ble rfl) b1 (fr_ble rfl) (ct_B_has c10 ?_)
    refine pm_W.ifz rfl (fun d => ?_) (fun d => ?_)
    · have d := fr_b0 d
      (repeat (first | refine pm_W.ts rfl rfl ?_ | refine pm_W.tl rfl rfl ?_))
      refine pm_W.iret rfl rfl (k0 c (fun i hi e => ?_))
      rw [e, rd_has (by omega) (by omega), decide_eq_true hi] at d
      cases d
    · have d := fr_b1 d
      obtain ⟨i, hi, rfl⟩ := bt_has_nat d (by rw [List.length_map]; omega)
      rw [List.length_map] at hi
      (repeat (first | refine pm_W.ts rfl rfl ?_ | refine pm_W.tl rfl rfl ?_ | refine pm_W.get rfl rfl c1 rfl ?_))
      refine pm_W.callV rfl rfl rfl rfl (fr_ble rfl) b1 (fr_ble rfl) (ct_B_at c10 ?_)
      rw [rd_at (by omega) (by omega)]
      refine pm_W.goto rfl ?_
      exact pm_W.iret rfl rfl (k1 i hi rfl)
  · have c : ¬ ¬ x = -1 := c
    (repeat (first | refine pm_W.ts rfl rfl ?_ | refine pm_W.tl rfl rfl ?_ | refine pm_W.get rfl rfl c1 rfl ?_))
    refine pm_W.callV (d' := 0) rfl rfl rfl rfl (fr_ble rfl) b1 (fr_ble rfl) (ct_B_count c10 ?_)
    rw [List.length_map]
    exact pm_W.iret rfl rfl (kl (Classical.not_not.mp c))
theorem ct_D_spoil {x v : Int32} (hb : dp_R h b z im st ca sd ws ta f S) (k1 : ∀ vs : List Nat, sp_R ws x v vs → ∀ h' : pm_H, dp_R h' b z im st ca sd vs ta f S → fr_ag b (b + 185) h h' → Q (some (.int 1)) h') (k0 : (∀ vs, ¬ sp_R ws x v vs) → Q (some (.int 0)) h) : pm_X xs 2 mD_spoil [.ref b, .int x, .int v] h Q := by
  obtain ⟨c1, c2, c3, c4, c5, c6, c7, c8, c9, c10, -⟩ := id hb
  obtain ⟨ys, b1, b2, b3, b4, b5, b6⟩ := id c10
  rw [List.length_map] at b5
  unfold pm_X
  (repeat (first | refine pm_W.ts rfl rfl ?_ | refine pm_W.tl rfl rfl ?_))
  refine pm_W.icmp rfl (fun c => ?_) (fun c => ?_)
  · have c : ¬ v = -1 := c
    (repeat (first | refine pm_W.ts rfl rfl ?_ | refine pm_W.tl rfl rfl ?_))
    refine pm_W.callS (d' := 0) rfl rfl rfl rfl (fr_ble rfl) (fr_ble rfl) (ct_D_isByte (fun j hj ej => ?_) (fun hn => ?_))
    · refine pm_W.ifz rfl (fun d => ?_) (fun d => absurd (show ¬ (1 : Int32) = 0 by decide) d)
      (repeat (first | refine pm_W.ts rfl rfl ?_ | refine pm_W.tl rfl rfl ?_ | refine pm_W.get rfl rfl c1 rfl ?_))
      refine pm_W.callV (d' := 0) rfl rfl rfl rfl (fr_ble rfl) b1 (fr_ble rfl) (ct_B_count c10 ?_)
      rw [List.length_map]
      refine pm_W.icmp rfl (fun e => ?_) (fun e => ?_)
      · have e : ¬ x = nI ws.length := e
        (repeat (first | refine pm_W.ts rfl rfl ?_ | refine pm_W.tl rfl rfl ?_ | refine pm_W.get rfl rfl c1 rfl ?_))
        refine pm_W.callV rfl rfl rfl rfl (fr_ble rfl) b1 (fr_ble rfl) (ct_B_change c10 (fun hno => ?_) (fun t g ht et hg hag => ?_))
        · refine pm_W.iret rfl rfl (k0 (fun vs hs => ?_))
          rcases hs with ⟨q, -⟩ | ⟨j2, q1, q2, i, q3, q4 | q4⟩
          · exact c q
          · exact e (by rw [q3, q4.1])
          · rw [q3, rd_has (by omega) (by omega), decide_eq_true q4.1] at hno
            cases hno
        · rw [List.length_map] at ht
          rw [ej, fr_255 _ hj, ← List.map_set] at hg
          exact pm_W.iret rfl rfl (k1 (ws.set t j) (Or.inr ⟨j, hj, ej, t, et, Or.inr ⟨ht, rfl⟩⟩) g (hb.uws hg hag) (hag.wide (by omega) (by omega)))
      · have e : ¬ ¬ x = nI ws.length := e
        have e := Classical.not_not.mp e
        (repeat (first | refine pm_W.ts rfl rfl ?_ | refine pm_W.tl rfl rfl ?_ | refine pm_W.get rfl rfl c1 rfl ?_))
        refine pm_W.callV (d' := 0) rfl rfl rfl rfl (fr_ble rfl) b1 (fr_ble rfl) (ct_B_add c10 (fun hl => ?_) (fun hl g hg hag => ?_))
        · rw [List.length_map] at hl
          refine pm_W.goto rfl ?_
          refine pm_W.iret rfl rfl (k0 (fun vs hs => ?_))
          rcases hs with ⟨q, -⟩ | ⟨j2, q1, q2, i, q3, q4 | q4⟩
          · exact c q
          · omega
          · rw [e, nI_eq (by omega) (by omega)] at q3
            omega
        · rw [List.length_map] at hl
          refine pm_W.goto rfl ?_
          rw [ej, fr_255 _ hj, show ws.map nI ++ [nI j] = (ws ++ [j]).map nI from by rw [List.map_append]; rfl] at hg
          exact pm_W.iret rfl rfl (k1 (ws ++ [j]) (Or.inr ⟨j, hj, ej, ws.length, e, Or.inl ⟨rfl, hl, rfl⟩⟩) g (hb.uws hg hag) (hag.wide (by omega) (by omega)))
    · refine pm_W.ifz rfl (fun d => absurd rfl d) (fun d => ?_)
      (repeat (first | refine pm_W.ts rfl rfl ?_ | refine pm_W.tl rfl rfl ?_))
      refine pm_W.iret rfl rfl (k0 (fun vs hs => ?_))
      rcases hs with ⟨q, -⟩ | ⟨j2, q1, q2, -⟩
      · exact c q
      · exact hn j2 q1 q2
  · have c : ¬ ¬ v = -1 := c
    have c := Classical.not_not.mp c
    (repeat (first | refine pm_W.ts rfl rfl ?_ | refine pm_W.tl rfl rfl ?_ | refine pm_W.get rfl rfl c1 rfl ?_))
    refine pm_W.callV (d' := 0) rfl rfl rfl rfl (fr_ble rfl) b1 (fr_ble rfl) (ct_B_keepFirst c10 (fun hno => ?_) (fun t g ht et hg hag => ?_))
    · refine pm_W.iret rfl rfl (k0 (fun vs hs => ?_))
      rcases hs with ⟨-, i, q1, q2, -⟩ | ⟨j2, q1, q2, -⟩
      · rw [List.length_map] at hno
        exact hno ⟨by rw [q2]; exact nI_pos' (by omega), by rw [q2]; exact nI_le q1 (by omega)⟩
      · exact fr_not1 (n := j2) (by omega) (q2.symm.trans c)
    · rw [List.length_map] at ht
      rw [← List.map_take] at hg
      exact pm_W.iret rfl rfl (k1 (ws.take t) (Or.inl ⟨c, t, ht, et, rfl⟩) g (hb.uws hg hag) (hag.wide (by omega) (by omega)))
end DEPOT2
end
section
def fr_un (x : Int32) : Nat := x.toUInt32.toNat
theorem fr_un_nI (x : Int32) : nI (fr_un x) = x := by
  unfold fr_un
  rw [← fr_toI]
  rfl
theorem fr_un_map (l : List Int32) : (l.map fr_un).map nI = l := by
  rw [List.map_map]
  have : nI ∘ fr_un = id := by
    funext x
    exact fr_un_nI x
  rw [this, List.map_id]
def fr_find (p : Nat → Bool) : Nat → Option Nat
  | 0 => none
  | n + 1 => match fr_find p n with
    | some i => some i
    | none => if p n = true then some n else none
theorem fr_find_some {p : Nat → Bool} : ∀ {n i : Nat}, fr_find p n = some i → i < n ∧ p i = true ∧ ∀ j, j < i → p j = false := by
  intro n
  induction n with
  | zero => intro i h; cases h
  | succ n ih =>
    intro i h
    unfold fr_find at h
    cases hn : fr_find p n with
    | some j =>
      rw [hn] at h
      cases h
      obtain ⟨h1, h2, h3⟩ := ih hn
      exact ⟨by omega, h2, h3⟩
    | none =>
      rw [hn] at h
      have all : ∀ m, fr_find p m = none → ∀ j, j < m → p j = false := by
        intro m
        induction m with
        | zero => intro _ j hj; omega
        | succ m im =>
          intro hm j hj
          unfold fr_find at hm
          cases hm2 : fr_find p m with
          | some x => rw [hm2] at hm; cases hm
          | none =>
            rw [hm2] at hm
            by_cases e : j = m
            · subst e
              cases hp : p j with
              | false => rfl
              | true => simp [hp] at hm
            · exact im hm2 j (by omega)
      by_cases hp : p n = true
      · simp only [hp, if_true] at h
        cases h
        exact ⟨by omega, hp, all n hn⟩
      · simp only [hp] at h
        cases h
theorem fr_find_none {p : Nat → Bool} : ∀ {n : Nat}, fr_find p n = none → ∀ j, j < n → p j = false := by
  intro n
  induction n with
  | zero => intro _ j hj; omega
  | succ n ih =>
    intro h j hj
    unfold fr_find at h
    cases hn : fr_find p n with
    | some x => rw [hn] at h; cases h
    | none =>
      rw [hn] at h
      by_cases e : j = n
      · subst e
        cases hp : p j with
        | false => rfl
        | true => simp [hp] at h
      · exact ih hn j (by omega)
theorem fr_find_is {p : Nat → Bool} {n i : Nat} (h1 : i < n) (h2 : p i = true) (h3 : ∀ j, j < i → p j = false) : fr_find p n = some i := by
  cases hf : fr_find p n with
  | none => rw [fr_find_none hf i h1] at h2; cases h2
  | some k =>
    obtain ⟨g1, g2, g3⟩ := fr_find_some hf
    congr 1
    rcases Nat.lt_trichotomy k i with t | t | t
    · rw [h3 k t] at g2; cases g2
    · exact t
    · rw [g3 i t] at h2; cases h2
theorem fr_find_no {p : Nat → Bool} {n : Nat} (h : ∀ j, j < n → p j = false) : fr_find p n = none := by
  cases hf : fr_find p n with
  | none => rfl
  | some k =>
    obtain ⟨g1, g2, g3⟩ := fr_find_some hf
    rw [h k g1] at g2
    cases g2
def kp_by (L : dp_K) : Prop := ∀ i, i < L.length → bt_ok (kp_b L i)
def pl_V (ps : dp_P) (n : Nat) : Prop := ∀ i, i < ps.length → pl_s ps i < pl_e ps i ∧ pl_e ps i ≤ pl_s ps i + 32 ∧ pl_e ps i ≤ n
theorem pl_mono {ps : dp_P} {n : Nat} (hv : pl_V ps n) : ∀ (d j : Nat), j + d + 1 < ps.length → pl_e ps j ≤ pl_s ps (j + d + 1) := by
  intro d
  induction d with
  | zero => intro j hj; exact Nat.le_refl _
  | succ d ih =>
    intro j hj
    have h1 := ih j (by omega)
    have h2 := (hv (j + d + 1) (by omega)).1
    show pl_e ps j ≤ pl_e ps (j + d + 1)
    omega
theorem pl_mono' {ps : dp_P} {n j k : Nat} (hv : pl_V ps n) (hj : j < k) (hk : k < ps.length) : pl_e ps j ≤ pl_s ps k := by
  obtain ⟨d, rfl⟩ : ∃ d, k = j + d + 1 := ⟨k - j - 1, by omega⟩
  exact pl_mono hv d j hk
def ex_n (ps : dp_P) (k : Nat) : Nat := pl_e ps k - pl_s ps k
theorem ex_n_eq {ps : dp_P} {n k : Nat} (hv : pl_V ps n) (hk : k < ps.length) : pl_n ps k = nI (ex_n ps k) := fr_sub (Nat.le_of_lt (hv k hk).1)
def ex_kp (L : dp_K) (w : Int32) : Option Nat := fr_find (fun j => decide (kp_i L j = w)) L.length
def ex_good (L : dp_K) (w : Int32) (n : Nat) : Option Nat := match ex_kp L w with
  | some p => if (kp_b L p).length = n ∧ bt_id (kp_b L p) 0 n = w then some p else none
  | none => none
def ex_seed (q : List Int32 × dp_P) (w : Int32) (n : Nat) : Option Nat := fr_find (fun i => decide (pl_i q.2 i = w) && (decide (pl_n q.2 i = nI n) && decide (bt_id q.1 (nI (pl_s q.2 i)) n = w))) q.2.length
def ex_again (ps : dp_P) (k : Nat) : Option Nat := fr_find (fun j => decide (pl_i ps j = pl_i ps k) && decide (pl_n ps j = pl_n ps k)) k
def kp_put (room : Nat) (L : dp_K) (w : Int32) (bs : List Int32) : dp_K := match ex_kp L w with
  | some i => L.set i (w, bs)
  | none => kp_room room L ++ [(w, bs)]
def ta_inc (ta : List Nat) (i : Nat) : List Nat := ta.set i (ta.getD i 0 + 1)
def bt_sub (bs : List Int32) (s n : Nat) : List Int32 := (bs.drop s).take n
abbrev ex_T : Type := Option (dp_K × List Nat) × List Nat
def ex_ask (st ca : dp_K) (ws ta : List Nat) (w : Int32) (n : Nat) : ex_T := match ex_good st w n with
  | some p => (some (kp_put 6 ca w (kp_b st p), ws ++ (kp_b st p).map fr_un), ta_inc ta 0)
  | none => (none, ta_inc ta 0)
def ex_sd (sd : Nat → List Int32 × dp_P) (w : Int32) (n : Nat) : Nat → Option (List Int32)
  | 0 => none
  | r + 1 => match ex_seed (sd (1 - r)) w n with
    | some i => some (bt_sub (sd (1 - r)).1 (pl_s (sd (1 - r)).2 i) n)
    | none => ex_sd sd w n r
def ex_one (ps : dp_P) (st : dp_K) (sd : Nat → List Int32 × dp_P) (ca : dp_K) (ws ta : List Nat) (k : Nat) : ex_T := match ex_again ps k with
  | some j => (some (ca, ws ++ (ws.drop (pl_s ps j)).take (ex_n ps k)), ta_inc ta 3)
  | none => match ex_good ca (pl_i ps k) (ex_n ps k) with
    | some p => (some (ca, ws ++ (kp_b ca p).map fr_un), ta_inc ta 1)
    | none => match ex_sd sd (pl_i ps k) (ex_n ps k) 2 with
      | some bs => (some (ca, ws ++ bs.map fr_un), ta_inc ta 2)
      | none => ex_ask st ca ws ta (pl_i ps k) (ex_n ps k)
theorem bt_from_sub {bs : List Int32} {s n : Nat} (hb : bt_ok bs) (hs : s + n ≤ bs.length) (hl : bs.length ≤ 1000) : bt_from bs (nI s) n = bt_sub bs s n := by
  apply List.ext_getElem?
  intro i
  by_cases hi : i < n
  · simp only [bt_from, List.getElem?_map, List.getElem?_range hi, Option.map_some]
    rw [nI_add, bt_at_nat (by omega) hl, bt_sub, List.getElem?_take, if_pos hi, List.getElem?_drop, List.getElem?_eq_getElem (by omega)]
    have h1 : bs.getD (s + i) 0 = bs[s + i] := by simp [show s + i < bs.length by omega]
    rw [h1, hb _ (List.getElem_mem _)]
  · rw [List.getElem?_eq_none (by rw [bt_from_len]; omega), List.getElem?_eq_none (by rw [bt_sub, List.length_take, List.length_drop]; omega)]
section EXTR
variable {xs : List Int32} {h : pm_H} {b : Nat} {z : cz_N} {im : Nat → dp_P} {st ca : dp_K} {sd : Nat → List Int32 × dp_P} {ws ta : List Nat} {f : Bool} {S : tr_S} {Q : Option Value → pm_H → Prop}
theorem dp_tally {g : pm_H} {i : Nat} (hb : dp_R g b z im st ca sd ws ta f S) (hi : i < 4) : dp_R (g.1.set (b + 130) (.inl (false, (ta.map nI).set i (nI (ta.getD i 0 + 1)))), g.2) b z im st ca sd ws (ta_inc ta i) f S := by
  obtain ⟨c1, c2, c3, c4, c5, c6, c7, c8, c9, c10, c11, c12, -⟩ := id hb
  refine hb.uta ?_ (by unfold ta_inc; rw [List.length_set]; exact c12) (fr_agset (by omega) (by omega))
  unfold ta_inc
  rw [List.map_set]
  exact fr_set c11
theorem ct_D_writeAgain {i k : Nat} (hb : dp_R h b z im st ca sd ws ta f S) (hi : i < 4) (hk : k < (im i).length) (hv : pl_V (im i) 117) (hws : ws.length = pl_s (im i) k) (hby : rd_by ws)
    (k1 : ∀ j, ex_again (im i) k = some j → ∀ h' : pm_H, dp_R h' b z im st ca sd (ws ++ (ws.drop (pl_s (im i) j)).take (ex_n (im i) k)) (ta_inc ta 3) f S → fr_ag b (b + 185) h h' → Q (some (.int 1)) h')
    (k0 : ex_again (im i) k = none → Q (some (.int 0)) h) : pm_X xs 4 mD_writeAgain [.ref b, .ref (b + 3 + 3 * i), .int (nI k)] h Q := by
  obtain ⟨c1, c2, c3, c4, c5, c6, c7, c8, c9, c10, c11, c12, -⟩ := id hb
  have hp := c4 i hi
  obtain ⟨es, is, p1, p2, p3, p4, p5, p6, p7, p8⟩ := id hp
  have hvk := hv k hk
  unfold pm_X
  (repeat (first | refine pm_W.ts rfl rfl ?_ | refine pm_W.tl rfl rfl ?_))
  refine pm_W.callV (d' := 1) rfl rfl rfl rfl (fr_ble rfl) p1 (fr_ble rfl) (ct_P_idOf hp hk ?_)
  (repeat (first | refine pm_W.ts rfl rfl ?_ | refine pm_W.tl rfl rfl ?_))
  refine pm_W.callV (d' := 2) rfl rfl rfl rfl (fr_ble rfl) p1 (fr_ble rfl) (ct_P_lengthOf hp (by omega) ?_)
  refine pm_W.callV rfl rfl rfl rfl (fr_ble rfl) p1 (fr_ble rfl) (ct_P_firstLike (n := pl_n (im i) k) hp (fun j hj e hno => ?_) (fun hno => absurd ⟨rfl, rfl⟩ (hno k hk)))
  (repeat (first | refine pm_W.ts rfl rfl ?_ | refine pm_W.tl rfl rfl ?_))
  refine pm_W.icmp rfl (fun c => absurd c (fr_not1 (by omega))) (fun c => ?_)
  (repeat (first | refine pm_W.ts rfl rfl ?_ | refine pm_W.tl rfl rfl ?_))
  refine pm_W.icmp rfl (fun d => ?_) (fun d => ?_)
  · have d : nI j < nI k := d
    rw [nI_ltI (by omega) (by omega)] at d
    have hag0 : ex_again (im i) k = some j := fr_find_is d (by rw [decide_eq_true e.1, decide_eq_true e.2]; rfl) (fun t ht => by
      have := hno t ht
      cases h1 : decide (pl_i (im i) t = pl_i (im i) k) with
      | false => rfl
      | true => cases h2 : decide (pl_n (im i) t = pl_n (im i) k) with
        | false => rfl
        | true => exact absurd ⟨of_decide_eq_true h1, of_decide_eq_true h2⟩ this)
    have hvj := hv j hj
    have hmono := pl_mono' hv d hk
    have en : ex_n (im i) j = ex_n (im i) k := by
      have h1 := ex_n_eq hv hj
      have h2 := ex_n_eq hv hk
      have := e.2
      rw [h1, h2, nI_eq (by unfold ex_n; omega) (by unfold ex_n; omega)] at this
      exact this
    have ek : ex_n (im i) k = pl_e (im i) k - pl_s (im i) k := rfl
    have ej : ex_n (im i) j = pl_e (im i) j - pl_s (im i) j := rfl
    obtain ⟨ys, w1, w2, w3, w4, w5, w6⟩ := id c10
    rw [List.length_map] at w5
    (repeat (first | refine pm_W.ts rfl rfl ?_ | refine pm_W.tl rfl rfl ?_ | refine pm_W.get rfl rfl c1 rfl ?_))
    refine pm_W.callV (d' := 1) rfl rfl rfl rfl (fr_ble rfl) p1 (fr_ble rfl) (ct_P_startOf hp (by omega) ?_)
    (repeat (first | refine pm_W.ts rfl rfl ?_ | refine pm_W.tl rfl rfl ?_))
    refine pm_W.callV (d' := 2) rfl rfl rfl rfl (fr_ble rfl) p1 (fr_ble rfl) (ct_P_lengthOf hp (by omega) ?_)
    rw [show nI (pl_e (im i) j) - nI (pl_s (im i) j) = nI (ex_n (im i) k) from by rw [← en]; exact ex_n_eq hv hj]
    refine pm_W.callV (d' := 2) rfl rfl rfl rfl (fr_ble rfl) w1 (fr_ble rfl) (ct_B_addSelf c10 (by rw [List.length_map]; omega) (by rw [List.length_map]; omega) (fun g hg hag => ?_))
    rw [bt_from_sub (fun x hx => by
      obtain ⟨y, hy, rfl⟩ := List.mem_map.mp hx
      exact fr_255 y (hby y hy)) (by rw [List.length_map]; omega) (by rw [List.length_map]; omega), bt_sub, ← List.map_drop, ← List.map_take, ← List.map_append] at hg
    have hb2 := hb.uws hg hag
    have c1' := hag.at (by omega) c1
    have c11' := hag.at (by omega) c11
    (repeat (first | refine pm_W.ts rfl rfl ?_ | refine pm_W.tl rfl rfl ?_ | refine pm_W.get rfl rfl c1' rfl ?_))
    refine pm_W.iald (j := nI 3) rfl c11' (pm_ix_ok (j := 3) (by rw [List.length_map]; omega) (by rw [List.length_map]; omega)) ?_
    rw [fr_mapD]
    (iterate 2 (first | refine pm_W.ts rfl rfl ?_ | refine pm_W.tl rfl rfl ?_))
    refine pm_W.iast (j := nI 3) (x := nI (ta.getD 3 0) + 1) rfl c11' (pm_ix_ok (j := 3) (by rw [List.length_map]; omega) (by rw [List.length_map]; omega)) ?_
    rw [nI_1]
    (repeat (first | refine pm_W.ts rfl rfl ?_ | refine pm_W.tl rfl rfl ?_))
    exact pm_W.iret rfl rfl (k1 j hag0 _ (dp_tally hb2 (by omega)) ((hag.wide (by omega) (by omega)).tr (fr_agset (by omega) (by omega))))
  · have d : ¬ nI j < nI k := d
    rw [nI_ltI (by omega) (by omega)] at d
    (repeat (first | refine pm_W.ts rfl rfl ?_ | refine pm_W.tl rfl rfl ?_))
    refine pm_W.iret rfl rfl (k0 (fr_find_no (fun t ht => ?_)))
    have := hno t (by omega)
    cases h1 : decide (pl_i (im i) t = pl_i (im i) k) with
    | false => rfl
    | true => cases h2 : decide (pl_n (im i) t = pl_n (im i) k) with
      | false => rfl
      | true => exact absurd ⟨of_decide_eq_true h1, of_decide_eq_true h2⟩ this
theorem ex_good_is {L : dp_K} {w : Int32} {n p : Nat} (h1 : p < L.length) (h2 : kp_i L p = w) (h3 : ∀ j, j < p → kp_i L j ≠ w) (h4 : (kp_b L p).length = n) (h5 : bt_id (kp_b L p) 0 n = w) : ex_good L w n = some p := by
  have e : ex_kp L w = some p := fr_find_is h1 (decide_eq_true h2) (fun j hj => decide_eq_false (h3 j hj))
  unfold ex_good
  rw [e]
  show (if _ then _ else _) = _
  rw [if_pos ⟨h4, h5⟩]
theorem ex_good_no {L : dp_K} {w : Int32} {n : Nat} (h : ∀ i, i < L.length → kp_i L i = w → (∀ j, j < i → kp_i L j ≠ w) → ¬ ((kp_b L i).length = n ∧ bt_id (kp_b L i) 0 n = w)) : ex_good L w n = none := by
  unfold ex_good
  cases e : ex_kp L w with
  | none => rfl
  | some p =>
    obtain ⟨g1, g2, g3⟩ := fr_find_some e
    show (if _ then _ else _) = _
    rw [if_neg (h p g1 (of_decide_eq_true g2) (fun j hj => of_decide_eq_false (g3 j hj)))]
theorem kp_put_is {room : Nat} {L : dp_K} {w : Int32} {bs : List Int32} {p : Nat} (h1 : p < L.length) (h2 : kp_i L p = w) (h3 : ∀ j, j < p → kp_i L j ≠ w) : kp_put room L w bs = L.set p (w, bs) := by
  have e : ex_kp L w = some p := fr_find_is h1 (decide_eq_true h2) (fun j hj => decide_eq_false (h3 j hj))
  unfold kp_put
  rw [e]
theorem kp_put_no {room : Nat} {L : dp_K} {w : Int32} {bs : List Int32} (h : ∀ j, j < L.length → kp_i L j ≠ w) : kp_put room L w bs = kp_room room L ++ [(w, bs)] := by
  have e : ex_kp L w = none := fr_find_no (fun j hj => decide_eq_false (h j hj))
  unfold kp_put
  rw [e]
theorem ct_D_writeCached {w : Int32} {n : Nat} (hb : dp_R h b z im st ca sd ws ta f S) (hby : kp_by ca) (hn : n ≤ 32) (hl : ws.length + n ≤ 120)
    (k1 : ∀ p, ex_good ca w n = some p → ∀ h' : pm_H, dp_R h' b z im st ca sd (ws ++ (kp_b ca p).map fr_un) (ta_inc ta 1) f S → fr_ag b (b + 185) h h' → Q (some (.int 1)) h')
    (k0 : ex_good ca w n = none → Q (some (.int 0)) h) : pm_X xs 4 mD_writeCached [.ref b, .int w, .int (nI n)] h Q := by
  obtain ⟨c1, c2, c3, c4, c5, c6, c7, c8, c9, c10, c11, c12, -⟩ := id hb
  obtain ⟨ids, rows, s1, -⟩ := id c6
  unfold pm_X
  (repeat (first | refine pm_W.ts rfl rfl ?_ | refine pm_W.tl rfl rfl ?_ | refine pm_W.get rfl rfl c1 rfl ?_))
  refine pm_W.callV rfl rfl rfl rfl (fr_ble rfl) s1 (fr_ble rfl) (ct_K_goodBytes c6 (by omega) (fun p r h1 h2 h3 h4 h5 h6 h7 h8 => ?_) (fun hno => ?_))
  · (repeat (first | refine pm_W.ts rfl rfl ?_ | refine pm_W.tl rfl rfl ?_))
    refine pm_W.ifnonnullR rfl ?_
    obtain ⟨ys, w1, -⟩ := id c10
    (repeat (first | refine pm_W.ts rfl rfl ?_ | refine pm_W.tl rfl rfl ?_ | refine pm_W.get rfl rfl c1 rfl ?_))
    refine pm_W.callV (d' := 2) rfl rfl rfl rfl (fr_ble rfl) w1 (fr_ble rfl) (ct_B_addFrom c10 h8 (by omega) (by rw [List.length_map]; omega) (fun g hg hag => ?_))
    rw [show bt_from (kp_b ca p) (Int32.ofInt 0) n = kp_b ca p from by rw [← h4]; exact bt_from_all (hby p h1) (by omega), ← fr_un_map (kp_b ca p), ← List.map_append] at hg
    have hb2 := hb.uws hg hag
    have c1' := hag.at (by omega) c1
    have c11' := hag.at (by omega) c11
    (repeat (first | refine pm_W.ts rfl rfl ?_ | refine pm_W.tl rfl rfl ?_ | refine pm_W.get rfl rfl c1' rfl ?_))
    refine pm_W.iald (j := nI 1) rfl c11' (pm_ix_ok (j := 1) (by rw [List.length_map]; omega) (by rw [List.length_map]; omega)) ?_
    rw [fr_mapD]
    (iterate 2 (first | refine pm_W.ts rfl rfl ?_ | refine pm_W.tl rfl rfl ?_))
    refine pm_W.iast (j := nI 1) (x := nI (ta.getD 1 0) + 1) rfl c11' (pm_ix_ok (j := 1) (by rw [List.length_map]; omega) (by rw [List.length_map]; omega)) ?_
    rw [nI_1]
    (repeat (first | refine pm_W.ts rfl rfl ?_ | refine pm_W.tl rfl rfl ?_))
    exact pm_W.iret rfl rfl (k1 p (ex_good_is h1 h2 h3 h4 h5) _ (dp_tally hb2 (by omega)) ((hag.wide (by omega) (by omega)).tr (fr_agset (by omega) (by omega))))
  · (repeat (first | refine pm_W.ts rfl rfl ?_ | refine pm_W.tl rfl rfl ?_))
    refine pm_W.ifnonnullN rfl ?_
    (repeat (first | refine pm_W.ts rfl rfl ?_ | refine pm_W.tl rfl rfl ?_))
    exact pm_W.iret rfl rfl (k0 (ex_good_no hno))
theorem ct_D_writeAsked {w : Int32} {n : Nat} (hb : dp_R h b z im st ca sd ws ta f S) (hby : kp_by st) (hn : n ≤ 32) (hl : ws.length + n ≤ 120)
    (k1 : ∀ p, ex_good st w n = some p → ∀ h' : pm_H, dp_R h' b z im st (kp_put 6 ca w (kp_b st p)) sd (ws ++ (kp_b st p).map fr_un) (ta_inc ta 0) f S → fr_ag b (b + 185) h h' → Q (some (.int 1)) h')
    (k0 : ex_good st w n = none → ∀ h' : pm_H, dp_R h' b z im st ca sd ws (ta_inc ta 0) f S → fr_ag b (b + 185) h h' → Q (some (.int 0)) h') : pm_X xs 4 mD_writeAsked [.ref b, .int w, .int (nI n)] h Q := by
  obtain ⟨c1, c2, c3, c4, c5, c6, c7, c8, c9, c10, c11, c12, -⟩ := id hb
  unfold pm_X
  (repeat (first | refine pm_W.ts rfl rfl ?_ | refine pm_W.tl rfl rfl ?_ | refine pm_W.get rfl rfl c1 rfl ?_))
  refine pm_W.iald (j := nI 0) rfl c11 (pm_ix_ok (j := 0) (by rw [List.length_map]; omega) (by rw [List.length_map]; omega)) ?_
  rw [fr_mapD]
  (iterate 2 (first | refine pm_W.ts rfl rfl ?_ | refine pm_W.tl rfl rfl ?_))
  refine pm_W.iast (j := nI 0) (x := nI (ta.getD 0 0) + 1) rfl c11 (pm_ix_ok (j := 0) (by rw [List.length_map]; omega) (by rw [List.length_map]; omega)) ?_
  rw [nI_1]
  have hb1 := dp_tally (i := 0) hb (by omega)
  have hag0 : fr_ag b (b + 185) h (h.1.set (b + 130) (.inl (false, (ta.map nI).set 0 (nI (ta.getD 0 0 + 1)))), h.2) := fr_agset (by omega) (by omega)
  generalize hg1 : ((h.1.set (b + 130) (.inl (false, (ta.map nI).set 0 (nI (ta.getD 0 0 + 1)))), h.2) : pm_H) = g1 at hb1 hag0 ⊢
  obtain ⟨d1, d2, d3, d4, d5, d6, d7, d8, d9, d10, -⟩ := id hb1
  obtain ⟨ids, rows, s1, -⟩ := id d5
  (repeat (first | refine pm_W.ts rfl rfl ?_ | refine pm_W.tl rfl rfl ?_ | refine pm_W.get rfl rfl d1 rfl ?_))
  refine pm_W.callV rfl rfl rfl rfl (fr_ble rfl) s1 (fr_ble rfl) (ct_K_goodBytes d5 (by omega) (fun p r h1 h2 h3 h4 h5 h6 h7 h8 => ?_) (fun hno => ?_))
  · (repeat (first | refine pm_W.ts rfl rfl ?_ | refine pm_W.tl rfl rfl ?_))
    refine pm_W.ifnonnullR rfl ?_
    obtain ⟨ys, w1, -⟩ := id d10
    (repeat (first | refine pm_W.ts rfl rfl ?_ | refine pm_W.tl rfl rfl ?_ | refine pm_W.get rfl rfl d1 rfl ?_))
    refine pm_W.callV (d' := 2) rfl rfl rfl rfl (fr_ble rfl) w1 (fr_ble rfl) (ct_B_addFrom d10 h8 (by omega) (by rw [List.length_map]; omega) (fun g hg hag => ?_))
    have eall : bt_from (kp_b st p) (Int32.ofInt 0) n = kp_b st p := by rw [← h4]; exact bt_from_all (hby p h1) (by omega)
    rw [eall, ← fr_un_map (kp_b st p), ← List.map_append] at hg
    have hb2 := hb1.uws hg hag
    obtain ⟨e1, e2, e3, e4, e5, e6, -⟩ := id hb2
    obtain ⟨ids2, rows2, t1, -⟩ := id e6
    have h8' := h8.ag hag (by omega)
    (repeat (first | refine pm_W.ts rfl rfl ?_ | refine pm_W.tl rfl rfl ?_ | refine pm_W.get rfl rfl e1 rfl ?_))
    refine pm_W.callV (d' := 3) rfl rfl rfl rfl (fr_ble rfl) t1 (fr_ble rfl) (ct_K_put e6 (by omega) h8' (by omega) hn (fun q q1 q2 q3 g2 hg2 hag2 => ?_) (fun hno g2 hg2 hag2 => ?_))
    · rw [eall, ← kp_put_is (room := 6) q1 q2 q3] at hg2
      (repeat (first | refine pm_W.ts rfl rfl ?_ | refine pm_W.tl rfl rfl ?_))
      exact pm_W.iret rfl rfl (k1 p (ex_good_is h1 h2 h3 h4 h5) g2 (hb2.uca hg2 (hag2.wide (by omega) (by omega))) ((hag0.tr (hag.wide (by omega) (by omega))).tr (hag2.wide (by omega) (by omega))))
    · rw [eall, ← kp_put_no hno] at hg2
      (repeat (first | refine pm_W.ts rfl rfl ?_ | refine pm_W.tl rfl rfl ?_))
      exact pm_W.iret rfl rfl (k1 p (ex_good_is h1 h2 h3 h4 h5) g2 (hb2.uca hg2 (hag2.wide (by omega) (by omega))) ((hag0.tr (hag.wide (by omega) (by omega))).tr (hag2.wide (by omega) (by omega))))
  · (repeat (first | refine pm_W.ts rfl rfl ?_ | refine pm_W.tl rfl rfl ?_))
    refine pm_W.ifnonnullN rfl ?_
    (repeat (first | refine pm_W.ts rfl rfl ?_ | refine pm_W.tl rfl rfl ?_))
    exact pm_W.iret rfl rfl (k0 (ex_good_no hno) g1 hb1 hag0)
end EXTR
end
section
def sd_V (sd : Nat → List Int32 × dp_P) : Prop := ∀ s, s < 2 → bt_ok (sd s).1 ∧ pl_V (sd s).2 (sd s).1.length
theorem fr_un_lt {x : Int32} (h : x &&& 255 = x) : fr_un x < 256 := by
  obtain ⟨p, hp, rfl⟩ := fr_any x
  have e := fr_mask (a := p) 8
  have e2 : nI p = nI (p % 2 ^ 8) := by rw [← e]; exact h.symm
  rw [e2]
  unfold fr_un
  rw [fr_u, UInt32.toNat_ofNat']
  omega
theorem rd_by_app {ws : List Nat} {bs : List Int32} (h1 : rd_by ws) (h2 : bt_ok bs) : rd_by (ws ++ bs.map fr_un) := by
  intro x hx
  rcases List.mem_append.mp hx with q | q
  · exact h1 x q
  · obtain ⟨y, hy, rfl⟩ := List.mem_map.mp q
    exact fr_un_lt (h2 y hy)
theorem bt_ok_sub {bs : List Int32} {s n : Nat} (h : bt_ok bs) : bt_ok (bt_sub bs s n) := fun x hx => h x (List.mem_of_mem_drop (List.mem_of_mem_take hx))
theorem kp_b_at {L : dp_K} {i : Nat} {q : Int32 × List Int32} (h : L[i]? = some q) : kp_b L i = q.2 := by
  unfold kp_b
  rw [List.getD_eq_getElem?_getD, h]
  rfl
theorem kp_i_at {L : dp_K} {i : Nat} {q : Int32 × List Int32} (h : L[i]? = some q) : kp_i L i = q.1 := by
  unfold kp_i
  rw [List.getD_eq_getElem?_getD, h]
  rfl
theorem kp_by_mem {L : dp_K} : kp_by L ↔ ∀ q ∈ L, bt_ok q.2 := by
  constructor
  · intro h q hq
    obtain ⟨i, hi, rfl⟩ := List.getElem_of_mem hq
    have := h i hi
    rw [kp_b_at (List.getElem?_eq_getElem hi)] at this
    exact this
  · intro h i hi
    rw [kp_b_at (List.getElem?_eq_getElem hi)]
    exact h _ (List.getElem_mem hi)
theorem kp_by_put {room : Nat} {L : dp_K} {w : Int32} {bs : List Int32} (h : kp_by L) (hb : bt_ok bs) : kp_by (kp_put room L w bs) := by
  rw [kp_by_mem] at h ⊢
  intro q hq
  unfold kp_put at hq
  split at hq
  · rcases List.mem_or_eq_of_mem_set hq with z | z
    · exact h q z
    · rw [z]; exact hb
  · rcases List.mem_append.mp hq with z | z
    · unfold kp_room at z
      split at z
      · exact h q (List.mem_of_mem_eraseIdx z)
      · exact h q z
    · rw [List.mem_singleton.mp z]; exact hb
theorem ex_good_some {L : dp_K} {w : Int32} {n p : Nat} (h : ex_good L w n = some p) : p < L.length ∧ kp_i L p = w ∧ (kp_b L p).length = n ∧ bt_id (kp_b L p) 0 n = w := by
  unfold ex_good at h
  cases e : ex_kp L w with
  | none => rw [e] at h; cases h
  | some q =>
    rw [e] at h
    obtain ⟨g1, g2, g3⟩ := fr_find_some e
    have h : (if (kp_b L q).length = n ∧ bt_id (kp_b L q) 0 n = w then some q else none) = some p := h
    by_cases c : (kp_b L q).length = n ∧ bt_id (kp_b L q) 0 n = w
    · rw [if_pos c] at h
      cases h
      exact ⟨g1, of_decide_eq_true g2, c⟩
    · rw [if_neg c] at h
      cases h
theorem ex_seed_some {q : List Int32 × dp_P} {w : Int32} {n i : Nat} (h : ex_seed q w n = some i) : i < q.2.length ∧ pl_i q.2 i = w ∧ pl_n q.2 i = nI n := by
  obtain ⟨h1, h2, -⟩ := fr_find_some h
  simp only [Bool.and_eq_true, decide_eq_true_eq] at h2
  exact ⟨h1, h2.1, h2.2.1⟩
theorem sd_len {sd : Nat → List Int32 × dp_P} {s i n : Nat} (hv : sd_V sd) (hs : s < 2) (hi : i < (sd s).2.length) (hn : n ≤ 32) (e : pl_n (sd s).2 i = nI n) : pl_s (sd s).2 i + n ≤ (sd s).1.length := by
  have h1 := (hv s hs).2 i hi
  have h2 := ex_n_eq (hv s hs).2 hi
  rw [h2, nI_eq (by unfold ex_n; omega) (by omega)] at e
  unfold ex_n at e
  omega
theorem ex_sd_len {sd : Nat → List Int32 × dp_P} {w : Int32} {n : Nat} (hv : sd_V sd) (hn : n ≤ 32) : ∀ r, r ≤ 2 → ∀ bs, ex_sd sd w n r = some bs → bs.length = n ∧ bt_ok bs := by
  intro r
  induction r with
  | zero => intro _ bs h; cases h
  | succ r ih =>
    intro hr bs h
    unfold ex_sd at h
    cases e : ex_seed (sd (1 - r)) w n with
    | none => rw [e] at h; exact ih (by omega) bs h
    | some i =>
      rw [e] at h
      cases h
      obtain ⟨g1, g2, g3⟩ := ex_seed_some e
      have := sd_len hv (by omega) g1 hn g3
      exact ⟨by rw [bt_sub, List.length_take, List.length_drop]; omega, bt_ok_sub (hv _ (by omega)).1⟩
section EXTR2
variable {xs : List Int32} {h : pm_H} {b : Nat} {z : cz_N} {im : Nat → dp_P} {st ca : dp_K} {sd : Nat → List Int32 × dp_P} {ws ta : List Nat} {f : Bool} {S : tr_S} {Q : Option Value → pm_H → Prop}
theorem ct_D_writeSeeded {w : Int32} {n : Nat} (hb : dp_R h b z im st ca sd ws ta f S) (hv : sd_V sd) (hn : n ≤ 32) (hl : ws.length + n ≤ 120)
    (k1 : ∀ bs, ex_sd sd w n 2 = some bs → ∀ h' : pm_H, dp_R h' b z im st ca sd (ws ++ bs.map fr_un) (ta_inc ta 2) f S → fr_ag b (b + 185) h h' → Q (some (.int 1)) h')
    (k0 : ex_sd sd w n 2 = none → Q (some (.int 0)) h) : pm_X xs 4 mD_writeSeeded [.ref b, .int w, .int (nI n)] h Q := by
  obtain ⟨c1, c2, c3, c4, c5, c6, c7, c8, c9, c10, c11, c12, -⟩ := id hb
  have loop : ∀ (r s : Nat) (v : Value), s + r = 2 → ex_sd sd w n r = ex_sd sd w n 2 → pm_W xs 4 mD_writeSeeded 2 [.ref b, .int w, .int (nI n), .int (nI s), v] [] h Q := by
    intro r
    induction r with
    | zero =>
      intro s v hs he
      (repeat (first | refine pm_W.ts rfl rfl ?_ | refine pm_W.tl rfl rfl ?_))
      refine pm_W.icmp rfl (fun c => ?_) (fun c => ?_)
      · (repeat (first | refine pm_W.ts rfl rfl ?_ | refine pm_W.tl rfl rfl ?_))
        exact pm_W.iret rfl rfl (k0 he.symm)
      · have c : ¬ nI 2 ≤ nI s := c
        rw [nI_leI (by omega) (by omega)] at c
        omega
    | succ r ih =>
      intro s v hs he
      have es : 1 - r = s := by omega
      have hsd := c8 s (by omega)
      have e1 : ex_sd sd w n (r + 1) = match ex_seed (sd s) w n with | some i => some (bt_sub (sd s).1 (pl_s (sd s).2 i) n) | none => ex_sd sd w n r := by
        rw [← es]
        rfl
      rw [e1] at he
      (repeat (first | refine pm_W.ts rfl rfl ?_ | refine pm_W.tl rfl rfl ?_))
      refine pm_W.icmp rfl (fun c => ?_) (fun c => ?_)
      · have c : nI 2 ≤ nI s := c
        rw [nI_leI (by omega) (by omega)] at c
        omega
      · (repeat (first | refine pm_W.ts rfl rfl ?_ | refine pm_W.tl rfl rfl ?_ | refine pm_W.get rfl rfl c1 rfl ?_))
        refine pm_W.aald rfl c7 (pm_ix_ok (j := s) (show s < 2 by omega) (show 2 < 2 ^ 31 by omega)) (by decide) ?_
        rw [dp_sd2 (by omega)]
        (repeat (first | refine pm_W.ts rfl rfl ?_ | refine pm_W.tl rfl rfl ?_))
        refine pm_W.callV rfl rfl rfl rfl (fr_ble rfl) hsd.1 (fr_ble rfl) (ct_S_startOfGood hsd (by omega) (fun i hi hg hno => ?_) (fun hno => ?_))
        · have e2 : ex_seed (sd s) w n = some i := fr_find_is hi (by
            simp only [Bool.and_eq_true, decide_eq_true_eq]
            exact hg) (fun j hj => by
            have := hno j hj
            cases hq : (decide (pl_i (sd s).2 j = w) && (decide (pl_n (sd s).2 j = nI n) && decide (bt_id (sd s).1 (nI (pl_s (sd s).2 j)) n = w))) with
            | false => rfl
            | true =>
              simp only [Bool.and_eq_true, decide_eq_true_eq] at hq
              exact absurd hq this)
          rw [e2] at he
          have hlen := sd_len hv (show s < 2 by omega) hi hn hg.2.1
          obtain ⟨ys, w1, -⟩ := id c10
          obtain ⟨zs, b1, b2, b3, b4, b5, b6⟩ := id hsd.2.1
          (repeat (first | refine pm_W.ts rfl rfl ?_ | refine pm_W.tl rfl rfl ?_))
          refine pm_W.icmp rfl (fun c => absurd c (fr_not1 (by omega))) (fun c => ?_)
          (repeat (first | refine pm_W.ts rfl rfl ?_ | refine pm_W.tl rfl rfl ?_ | refine pm_W.get rfl rfl c1 rfl ?_))
          refine pm_W.aald rfl c7 (pm_ix_ok (j := s) (show s < 2 by omega) (show 2 < 2 ^ 31 by omega)) (by decide) ?_
          rw [dp_sd2 (by omega)]
          refine pm_W.callV (d' := 0) rfl rfl rfl rfl (fr_ble rfl) hsd.1 (fr_ble rfl) (ct_S_bytes hsd ?_)
          (repeat (first | refine pm_W.ts rfl rfl ?_ | refine pm_W.tl rfl rfl ?_))
          refine pm_W.callV (d' := 2) rfl rfl rfl rfl (fr_ble rfl) w1 (fr_ble rfl) (ct_B_addFrom c10 hsd.2.1 (by omega) (by rw [List.length_map]; omega) (fun g hg2 hag => ?_))
          rw [bt_from_sub (hv s (by omega)).1 hlen (by omega), ← fr_un_map (bt_sub (sd s).1 (pl_s (sd s).2 i) n), ← List.map_append] at hg2
          have hb2 := hb.uws hg2 hag
          have c1' := hag.at (by omega) c1
          have c11' := hag.at (by omega) c11
          (repeat (first | refine pm_W.ts rfl rfl ?_ | refine pm_W.tl rfl rfl ?_ | refine pm_W.get rfl rfl c1' rfl ?_))
          refine pm_W.iald (j := nI 2) rfl c11' (pm_ix_ok (j := 2) (by rw [List.length_map]; omega) (by rw [List.length_map]; omega)) ?_
          rw [fr_mapD]
          (iterate 2 (first | refine pm_W.ts rfl rfl ?_ | refine pm_W.tl rfl rfl ?_))
          refine pm_W.iast (j := nI 2) (x := nI (ta.getD 2 0) + 1) rfl c11' (pm_ix_ok (j := 2) (by rw [List.length_map]; omega) (by rw [List.length_map]; omega)) ?_
          rw [nI_1]
          (repeat (first | refine pm_W.ts rfl rfl ?_ | refine pm_W.tl rfl rfl ?_))
          exact pm_W.iret rfl rfl (k1 _ he.symm _ (dp_tally hb2 (by omega)) ((hag.wide (by omega) (by omega)).tr (fr_agset (by omega) (by omega))))
        · have e2 : ex_seed (sd s) w n = none := fr_find_no (fun j hj => by
            have := hno j hj
            cases hq : (decide (pl_i (sd s).2 j = w) && (decide (pl_n (sd s).2 j = nI n) && decide (bt_id (sd s).1 (nI (pl_s (sd s).2 j)) n = w))) with
            | false => rfl
            | true =>
              simp only [Bool.and_eq_true, decide_eq_true_eq] at hq
              exact absurd hq this)
          rw [e2] at he
          (repeat (first | refine pm_W.ts rfl rfl ?_ | refine pm_W.tl rfl rfl ?_))
          refine pm_W.icmp rfl (fun c => ?_) (fun c => absurd rfl c)
          (repeat (first | refine pm_W.ts rfl rfl ?_ | refine pm_W.tl rfl rfl ?_))
          refine pm_W.goto rfl ?_
          have := ih (s + 1) (.int (-1)) (by omega) he
          rw [← fr_inc] at this
          exact this
  unfold pm_X
  (iterate 2 (first | refine pm_W.ts rfl rfl ?_ | refine pm_W.tl rfl rfl ?_))
  exact loop 2 0 pm_none (by omega) rfl
theorem ct_D_writePiece {i k : Nat} (hb : dp_R h b z im st ca sd ws ta f S) (hi : i < 4) (hk : k < (im i).length) (hv : pl_V (im i) 117) (hws : ws.length = pl_s (im i) k) (hby : rd_by ws) (hst : kp_by st) (hca : kp_by ca) (hsd : sd_V sd)
    (k1 : ∀ (ca' : dp_K) (ws' ta' : List Nat), ex_one (im i) st sd ca ws ta k = (some (ca', ws'), ta') → ∀ h' : pm_H, dp_R h' b z im st ca' sd ws' ta' f S → fr_ag b (b + 185) h h' → Q (some (.int 1)) h')
    (k0 : ∀ ta' : List Nat, ex_one (im i) st sd ca ws ta k = (none, ta') → ∀ h' : pm_H, dp_R h' b z im st ca sd ws ta' f S → fr_ag b (b + 185) h h' → Q (some (.int 0)) h') : pm_X xs 5 mD_writePiece [.ref b, .ref (b + 3 + 3 * i), .int (nI k)] h Q := by
  obtain ⟨c1, c2, c3, c4, -⟩ := id hb
  have hp := c4 i hi
  obtain ⟨es, is, p1, p2, p3, p4, p5, p6, p7, p8⟩ := id hp
  have hvk := hv k hk
  have en : ex_n (im i) k = pl_e (im i) k - pl_s (im i) k := rfl
  unfold pm_X
  (repeat (first | refine pm_W.ts rfl rfl ?_ | refine pm_W.tl rfl rfl ?_))
  refine pm_W.callV (d' := 1) rfl rfl rfl rfl (fr_ble rfl) p1 (fr_ble rfl) (ct_P_idOf hp hk ?_)
  (repeat (first | refine pm_W.ts rfl rfl ?_ | refine pm_W.tl rfl rfl ?_))
  refine pm_W.callV (d' := 2) rfl rfl rfl rfl (fr_ble rfl) p1 (fr_ble rfl) (ct_P_lengthOf hp (by omega) ?_)
  rw [show nI (pl_e (im i) k) - nI (pl_s (im i) k) = nI (ex_n (im i) k) from ex_n_eq hv hk]
  (repeat (first | refine pm_W.ts rfl rfl ?_ | refine pm_W.tl rfl rfl ?_))
  refine pm_W.callV rfl rfl rfl rfl (fr_ble rfl) c1 (fr_ble rfl) (ct_D_writeAgain hb hi hk hv hws hby (fun j ej g hg hag => ?_) (fun ea => ?_))
  · refine pm_W.ifz rfl (fun c => ?_) (fun c => absurd (show ¬ (1 : Int32) = 0 by decide) c)
    (repeat (first | refine pm_W.ts rfl rfl ?_ | refine pm_W.tl rfl rfl ?_))
    refine pm_W.goto rfl ?_
    exact pm_W.iret rfl rfl (k1 _ _ _ (by unfold ex_one; rw [ej]) g hg hag)
  · refine pm_W.ifz rfl (fun c => absurd rfl c) (fun c => ?_)
    (repeat (first | refine pm_W.ts rfl rfl ?_ | refine pm_W.tl rfl rfl ?_))
    refine pm_W.callV rfl rfl rfl rfl (fr_ble rfl) c1 (fr_ble rfl) (ct_D_writeCached hb hca (by omega) (by omega) (fun p ep g hg hag => ?_) (fun ec => ?_))
    · refine pm_W.ifz rfl (fun c => ?_) (fun c => absurd (show ¬ (1 : Int32) = 0 by decide) c)
      (repeat (first | refine pm_W.ts rfl rfl ?_ | refine pm_W.tl rfl rfl ?_))
      refine pm_W.goto rfl ?_
      exact pm_W.iret rfl rfl (k1 _ _ _ (by unfold ex_one; rw [ea, ep]) g hg hag)
    · refine pm_W.ifz rfl (fun c => absurd rfl c) (fun c => ?_)
      (repeat (first | refine pm_W.ts rfl rfl ?_ | refine pm_W.tl rfl rfl ?_))
      refine pm_W.callV rfl rfl rfl rfl (fr_ble rfl) c1 (fr_ble rfl) (ct_D_writeSeeded hb hsd (by omega) (by omega) (fun bs ebs g hg hag => ?_) (fun es2 => ?_))
      · refine pm_W.ifz rfl (fun c => ?_) (fun c => absurd (show ¬ (1 : Int32) = 0 by decide) c)
        (repeat (first | refine pm_W.ts rfl rfl ?_ | refine pm_W.tl rfl rfl ?_))
        refine pm_W.goto rfl ?_
        exact pm_W.iret rfl rfl (k1 _ _ _ (by unfold ex_one; rw [ea, ec, ebs]) g hg hag)
      · refine pm_W.ifz rfl (fun c => absurd rfl c) (fun c => ?_)
        (repeat (first | refine pm_W.ts rfl rfl ?_ | refine pm_W.tl rfl rfl ?_))
        refine pm_W.callV rfl rfl rfl rfl (fr_ble rfl) c1 (fr_ble rfl) (ct_D_writeAsked hb hst (by omega) (by omega) (fun p ep g hg hag => ?_) (fun eg g hg hag => ?_))
        · refine pm_W.ifz rfl (fun c => absurd (show (1 : Int32) = 0 from c) (by decide)) (fun c => ?_)
          (repeat (first | refine pm_W.ts rfl rfl ?_ | refine pm_W.tl rfl rfl ?_))
          refine pm_W.goto rfl ?_
          exact pm_W.iret rfl rfl (k1 _ _ _ (by unfold ex_one ex_ask; rw [ea, ec, es2, ep]) g hg hag)
        · refine pm_W.ifz rfl (fun c => ?_) (fun c => absurd rfl c)
          (repeat (first | refine pm_W.ts rfl rfl ?_ | refine pm_W.tl rfl rfl ?_))
          exact pm_W.iret rfl rfl (k0 _ (by unfold ex_one ex_ask; rw [ea, ec, es2, eg]) g hg hag)
def ex_go (ps : dp_P) (st : dp_K) (sd : Nat → List Int32 × dp_P) : Nat → Nat → dp_K → List Nat → List Nat → Option Nat × dp_K × List Nat × List Nat
  | 0, _, ca, ws, ta => (none, ca, ws, ta)
  | r + 1, k, ca, ws, ta => match ex_one ps st sd ca ws ta k with
    | (some q, ta') => ex_go ps st sd r (k + 1) q.1 q.2 ta'
    | (none, ta') => (some k, ca, [], ta')
def ex_ans (q : Option Nat × dp_K × List Nat × List Nat) : Int32 := match q.1 with
  | none => nI q.2.2.1.length
  | some k => -2 - nI k
theorem ex_one_inv {ps : dp_P} {ca' : dp_K} {ws' ta' : List Nat} {k : Nat} (hk : k < ps.length) (hv : pl_V ps 117) (hws : ws.length = pl_s ps k) (hby : rd_by ws) (hst : kp_by st) (hca : kp_by ca) (hsd : sd_V sd) (e : ex_one ps st sd ca ws ta k = (some (ca', ws'), ta')) : ws'.length = pl_e ps k ∧ rd_by ws' ∧ kp_by ca' := by
  have hvk := hv k hk
  have en : ex_n ps k = pl_e ps k - pl_s ps k := rfl
  unfold ex_one at e
  split at e
  · rename_i j ej
    obtain ⟨g1, g2, -⟩ := fr_find_some ej
    simp only [Bool.and_eq_true, decide_eq_true_eq] at g2
    have hvj := hv j (by omega)
    have hm := pl_mono' hv g1 hk
    have e2 : ex_n ps j = ex_n ps k := by
      have := g2.2
      rw [ex_n_eq hv (show j < ps.length by omega), ex_n_eq hv hk, nI_eq (by unfold ex_n; omega) (by unfold ex_n; omega)] at this
      exact this
    have ej2 : ex_n ps j = pl_e ps j - pl_s ps j := rfl
    cases e
    refine ⟨by rw [List.length_append, List.length_take, List.length_drop]; omega, fun x hx => ?_, hca⟩
    rcases List.mem_append.mp hx with q | q
    · exact hby x q
    · exact hby x (List.mem_of_mem_drop (List.mem_of_mem_take q))
  · split at e
    · rename_i p ep
      obtain ⟨g1, g2, g3, g4⟩ := ex_good_some ep
      cases e
      exact ⟨by rw [List.length_append, List.length_map]; omega, rd_by_app hby (hca p g1), hca⟩
    · split at e
      · rename_i bs ebs
        obtain ⟨g1, g2⟩ := ex_sd_len hsd (by omega) 2 (Nat.le_refl _) bs ebs
        cases e
        exact ⟨by rw [List.length_append, List.length_map]; omega, rd_by_app hby g2, hca⟩
      · unfold ex_ask at e
        split at e
        · rename_i p ep
          obtain ⟨g1, g2, g3, g4⟩ := ex_good_some ep
          cases e
          exact ⟨by rw [List.length_append, List.length_map]; omega, rd_by_app hby (hst p g1), kp_by_put hca (hst p g1)⟩
        · cases e
theorem ct_D_extract {x : Int32} (hb : dp_R h b z im st ca sd ws ta f S) (hv : ∀ i, i < 4 → pl_V (im i) 117) (hst : kp_by st) (hca : kp_by ca) (hsd : sd_V sd)
    (k1 : ∀ i : Nat, i < 4 → x = nI i → im i ≠ [] → ∀ h' : pm_H, dp_R h' b z im st (ex_go (im i) st sd (im i).length 0 ca [] [0, 0, 0, 0]).2.1 sd (ex_go (im i) st sd (im i).length 0 ca [] [0, 0, 0, 0]).2.2.1 (ex_go (im i) st sd (im i).length 0 ca [] [0, 0, 0, 0]).2.2.2 f S → fr_ag b (b + 185) h h' → Q (some (.int (ex_ans (ex_go (im i) st sd (im i).length 0 ca [] [0, 0, 0, 0])))) h')
    (k0 : (∀ i : Nat, i < 4 → x = nI i → im i = []) → Q (some (.int (-1))) h) : pm_X xs 6 mD_extract [.ref b, .int x] h Q := by
  obtain ⟨c1, c2, c3, c4, c5, c6, c7, c8, c9, c10, -⟩ := id hb
  unfold pm_X
  (repeat (first | refine pm_W.ts rfl rfl ?_ | refine pm_W.tl rfl rfl ?_))
  refine pm_W.callV (d' := 1) rfl rfl rfl rfl (fr_ble rfl) c1 (fr_ble rfl) (ct_D_imageNumbered hb (fun i hi e hne => ?_) (fun hno => ?_))
  · have k1 := k1 i hi e hne
    have hvi := hv i hi
    have loop : ∀ (r k : Nat) (ca1 : dp_K) (ws1 ta1 : List Nat) (g : pm_H), k + r = (im i).length → ws1.length = pl_s (im i) k → rd_by ws1 → kp_by ca1 → dp_R g b z im st ca1 sd ws1 ta1 f S → fr_ag b (b + 185) h g → ex_go (im i) st sd r k ca1 ws1 ta1 = ex_go (im i) st sd (im i).length 0 ca [] [0, 0, 0, 0] → pm_W xs 6 mD_extract 41 [.ref b, .int x, .ref (b + 3 + 3 * i), .int (nI k)] [] g Q := by
      intro r
      induction r with
      | zero =>
        intro k ca1 ws1 ta1 g hk hl hw hc hg hag he
        obtain ⟨d1, d2, d3, d4, d5, d6, d7, d8, d9, d10, -⟩ := id hg
        have hp := d4 i hi
        obtain ⟨es, is, p1, p2, p3, p4, p5, p6, p7, p8⟩ := id hp
        obtain ⟨ys, w1, -⟩ := id d10
        (repeat (first | refine pm_W.ts rfl rfl ?_ | refine pm_W.tl rfl rfl ?_))
        refine pm_W.callV (d' := 0) rfl rfl rfl rfl (fr_ble rfl) p1 (fr_ble rfl) (ct_P_count hp ?_)
        refine pm_W.icmp rfl (fun c => ?_) (fun c => ?_)
        · (repeat (first | refine pm_W.ts rfl rfl ?_ | refine pm_W.tl rfl rfl ?_ | refine pm_W.get rfl rfl d1 rfl ?_))
          refine pm_W.callV (d' := 0) rfl rfl rfl rfl (fr_ble rfl) w1 (fr_ble rfl) (ct_B_count d10 ?_)
          rw [List.length_map]
          have he : (none, ca1, ws1, ta1) = ex_go (im i) st sd (im i).length 0 ca [] [0, 0, 0, 0] := he
          rw [← he] at k1
          exact pm_W.iret rfl rfl (k1 g hg hag)
        · have c : ¬ nI (im i).length ≤ nI k := c
          rw [nI_leI (by omega) (by omega)] at c
          omega
      | succ r ih =>
        intro k ca1 ws1 ta1 g hk hl hw hc hg hag he
        obtain ⟨d1, d2, d3, d4, d5, d6, d7, d8, d9, d10, -⟩ := id hg
        have hp := d4 i hi
        obtain ⟨es, is, p1, p2, p3, p4, p5, p6, p7, p8⟩ := id hp
        rw [show ex_go (im i) st sd (r + 1) k ca1 ws1 ta1 = match ex_one (im i) st sd ca1 ws1 ta1 k with | (some q, ta') => ex_go (im i) st sd r (k + 1) q.1 q.2 ta' | (none, ta') => (some k, ca1, [], ta') from rfl] at he
        (repeat (first | refine pm_W.ts rfl rfl ?_ | refine pm_W.tl rfl rfl ?_))
        refine pm_W.callV (d' := 0) rfl rfl rfl rfl (fr_ble rfl) p1 (fr_ble rfl) (ct_P_count hp ?_)
        refine pm_W.icmp rfl (fun c => ?_) (fun c => ?_)
        · have c : nI (im i).length ≤ nI k := c
          rw [nI_leI (by omega) (by omega)] at c
          omega
        · (repeat (first | refine pm_W.ts rfl rfl ?_ | refine pm_W.tl rfl rfl ?_))
          refine pm_W.callV rfl rfl rfl rfl (fr_ble rfl) d1 (fr_ble rfl) (ct_D_writePiece hg hi (by omega) hvi hl hw hst hc hsd (fun ca2 ws2 ta2 eo g2 hg2 hag2 => ?_) (fun ta2 eo g2 hg2 hag2 => ?_))
          · rw [eo] at he
            obtain ⟨q1, q2, q3⟩ := ex_one_inv (by omega) hvi hl hw hst hc hsd eo
            refine pm_W.ifz rfl (fun c => ?_) (fun c => absurd (show ¬ (1 : Int32) = 0 by decide) c)
            (iterate 1 (first | refine pm_W.ts rfl rfl ?_ | refine pm_W.tl rfl rfl ?_))
            refine pm_W.goto rfl ?_
            have := ih (k + 1) ca2 ws2 ta2 g2 (by omega) q1 q2 q3 hg2 (hag.tr hag2) he
            rw [← fr_inc] at this
            exact this
          · rw [eo] at he
            have he : (some k, ca1, [], ta2) = ex_go (im i) st sd (im i).length 0 ca [] [0, 0, 0, 0] := he
            rw [← he] at k1
            obtain ⟨e1, e2, e3, e4, e5, e6, e7, e8, e9, e10, -⟩ := id hg2
            obtain ⟨ys, w1, -⟩ := id e10
            refine pm_W.ifz rfl (fun c => absurd rfl c) (fun c => ?_)
            (repeat (first | refine pm_W.ts rfl rfl ?_ | refine pm_W.tl rfl rfl ?_ | refine pm_W.get rfl rfl e1 rfl ?_))
            refine pm_W.callV (d' := 0) rfl rfl rfl rfl (fr_ble rfl) w1 (fr_ble rfl) (ct_B_clear e10 (fun g3 hg3 hag3 => ?_))
            (repeat (first | refine pm_W.ts rfl rfl ?_ | refine pm_W.tl rfl rfl ?_))
            exact pm_W.iret rfl rfl (k1 g3 (hg2.uws (vs := []) hg3 hag3) ((hag.tr hag2).tr (hag3.wide (by omega) (by omega))))
    have zero : ∀ (r j : Nat) (g : pm_H), j + r = 4 → dp_R g b z im st ca sd [] (List.replicate j 0 ++ ta.drop j) f S → fr_ag b (b + 185) h g → pm_W xs 6 mD_extract 21 [.ref b, .int x, .ref (b + 3 + 3 * i), .int (nI j)] [] g Q := by
      intro r
      induction r with
      | zero =>
        intro j g hj hg hag
        (repeat (first | refine pm_W.ts rfl rfl ?_ | refine pm_W.tl rfl rfl ?_))
        refine pm_W.icmp rfl (fun c => ?_) (fun c => ?_)
        · (iterate 2 (first | refine pm_W.ts rfl rfl ?_ | refine pm_W.tl rfl rfl ?_))
          have ej : j = 4 := by omega
          subst ej
          have c12 : (List.replicate 4 0 ++ ta.drop 4).length = 4 := hg.2.2.2.2.2.2.2.2.2.2.2.1
          have et : List.replicate 4 0 ++ ta.drop 4 = [0, 0, 0, 0] := by
            rw [List.length_append, List.length_replicate] at c12
            rw [List.eq_nil_of_length_eq_zero (show (ta.drop 4).length = 0 by omega)]
            rfl
          rw [et] at hg
          exact loop (im i).length 0 ca [] [0, 0, 0, 0] g (by omega) rfl (fun x hx => by cases hx) hca hg hag rfl
        · have c : ¬ nI 4 ≤ nI j := c
          rw [nI_leI (by omega) (by omega)] at c
          omega
      | succ r ih =>
        intro j g hj hg hag
        obtain ⟨d1, d2, d3, d4, d5, d6, d7, d8, d9, d10, d11, d12, -⟩ := id hg
        (repeat (first | refine pm_W.ts rfl rfl ?_ | refine pm_W.tl rfl rfl ?_))
        refine pm_W.icmp rfl (fun c => ?_) (fun c => ?_)
        · have c : nI 4 ≤ nI j := c
          rw [nI_leI (by omega) (by omega)] at c
          omega
        · (repeat (first | refine pm_W.ts rfl rfl ?_ | refine pm_W.tl rfl rfl ?_ | refine pm_W.get rfl rfl d1 rfl ?_))
          refine pm_W.iast (x := nI 0) rfl d11 (pm_ix_ok (j := j) (by rw [List.length_map]; omega) (by rw [List.length_map]; omega)) ?_
          (iterate 1 (first | refine pm_W.ts rfl rfl ?_ | refine pm_W.tl rfl rfl ?_))
          refine pm_W.goto rfl ?_
          have es : (List.replicate j 0 ++ ta.drop j).set j 0 = List.replicate (j + 1) 0 ++ ta.drop (j + 1) := by
            have hl : ta.length = 4 := by
              rw [List.length_append, List.length_replicate, List.length_drop] at d12
              omega
            rw [List.set_append_right _ _ (by rw [List.length_replicate]; exact Nat.le_refl _), List.length_replicate, Nat.sub_self, List.drop_eq_getElem_cons (show j < ta.length by omega), List.set_cons_zero, List.replicate_succ', List.append_assoc]
            rfl
          have := ih (j + 1) _ (by omega) (hg.uta (tb := List.replicate (j + 1) 0 ++ ta.drop (j + 1)) (by rw [← es, List.map_set]; exact fr_set d11) (by rw [← es, List.length_set]; exact d12) (fr_agset (by omega) (by omega))) (hag.tr (fr_agset (by omega) (by omega)))
          rw [← fr_inc] at this
          exact this
    (repeat (first | refine pm_W.ts rfl rfl ?_ | refine pm_W.tl rfl rfl ?_))
    refine pm_W.ifnonnullR rfl ?_
    obtain ⟨ys, w1, -⟩ := id c10
    (repeat (first | refine pm_W.ts rfl rfl ?_ | refine pm_W.tl rfl rfl ?_ | refine pm_W.get rfl rfl c1 rfl ?_))
    refine pm_W.callV (d' := 0) rfl rfl rfl rfl (fr_ble rfl) w1 (fr_ble rfl) (ct_B_clear c10 (fun g hg hag => ?_))
    (iterate 2 (first | refine pm_W.ts rfl rfl ?_ | refine pm_W.tl rfl rfl ?_))
    exact zero 4 0 g (by omega) (by simpa using hb.uws (vs := []) hg hag) (hag.wide (by omega) (by omega))
  · (repeat (first | refine pm_W.ts rfl rfl ?_ | refine pm_W.tl rfl rfl ?_))
    refine pm_W.ifnonnullN rfl ?_
    (repeat (first | refine pm_W.ts rfl rfl ?_ | refine pm_W.tl rfl rfl ?_))
    exact pm_W.iret rfl rfl (k0 hno)
end EXTR2
end
section
def dp_isnew (ps : dp_P) (st : dp_K) (k : Nat) : Bool := decide (ex_kp st (pl_i ps k) = none) && decide (fr_find (fun j => decide (pl_i ps j = pl_i ps k)) ps.length = some k)
def dp_new (ps : dp_P) (st : dp_K) : Nat → Nat
  | 0 => 0
  | k + 1 => dp_new ps st k + (if dp_isnew ps st k = true then 1 else 0)
theorem dp_new_le {ps : dp_P} {st : dp_K} : ∀ k, dp_new ps st k ≤ k := by
  intro k
  induction k with
  | zero => exact Nat.le_refl _
  | succ k ih =>
    show _ + _ ≤ _
    split <;> omega
def ms_go (ps : dp_P) (os : List Int32) (st : dp_K) : Nat → dp_K
  | 0 => st
  | k + 1 => if ex_kp (ms_go ps os st k) (pl_i ps k) = none then ms_go ps os st k ++ [(pl_i ps k, bt_sub os (pl_s ps k) (ex_n ps k))] else ms_go ps os st k
theorem ex_kp_some {L : dp_K} {w : Int32} : (∃ i, i < L.length ∧ kp_i L i = w) ↔ ex_kp L w ≠ none := by
  constructor
  · rintro ⟨i, hi, e⟩ hn
    have := fr_find_none hn i hi
    rw [decide_eq_true e] at this
    cases this
  · intro hn
    cases e : ex_kp L w with
    | none => exact absurd e hn
    | some i =>
      obtain ⟨h1, h2, -⟩ := fr_find_some e
      exact ⟨i, h1, of_decide_eq_true h2⟩
theorem kp_i_appL {L : dp_K} {q : Int32 × List Int32} {i : Nat} (hi : i < L.length) : kp_i (L ++ [q]) i = kp_i L i := by
  unfold kp_i
  rw [List.getD_eq_getElem?_getD, List.getElem?_append_left hi, List.getD_eq_getElem?_getD]
theorem ms_has {ps : dp_P} {os : List Int32} {st : dp_K} : ∀ (k : Nat) (w : Int32), (∃ i, i < (ms_go ps os st k).length ∧ kp_i (ms_go ps os st k) i = w) ↔ ((∃ i, i < st.length ∧ kp_i st i = w) ∨ ∃ j, j < k ∧ pl_i ps j = w) := by
  intro k
  induction k with
  | zero =>
    intro w
    constructor
    · intro h; exact Or.inl h
    · rintro (h | ⟨j, hj, -⟩)
      · exact h
      · omega
  | succ k ih =>
    intro w
    unfold ms_go
    split
    · rename_i hn
      constructor
      · rintro ⟨i, hi, e⟩
        rw [List.length_append, List.length_singleton] at hi
        by_cases hil : i < (ms_go ps os st k).length
        · rw [kp_i_appL hil] at e
          rcases (ih w).mp ⟨i, hil, e⟩ with q | ⟨j, hj, ej⟩
          · exact Or.inl q
          · exact Or.inr ⟨j, by omega, ej⟩
        · rw [show i = (ms_go ps os st k).length by omega, kp_i_app] at e
          exact Or.inr ⟨k, by omega, e⟩
      · intro h
        by_cases hk : pl_i ps k = w
        · exact ⟨(ms_go ps os st k).length, by simp, by rw [kp_i_app]; exact hk⟩
        · have : (∃ i, i < st.length ∧ kp_i st i = w) ∨ ∃ j, j < k ∧ pl_i ps j = w := by
            rcases h with q | ⟨j, hj, ej⟩
            · exact Or.inl q
            · refine Or.inr ⟨j, ?_, ej⟩
              by_cases e : j = k
              · subst e; exact absurd ej hk
              · omega
          obtain ⟨i, hi, e⟩ := (ih w).mpr this
          exact ⟨i, by rw [List.length_append]; omega, by rw [kp_i_appL hi]; exact e⟩
    · rename_i hn
      obtain ⟨i0, hi0, e0⟩ := ex_kp_some.mpr hn
      constructor
      · intro h
        rcases (ih w).mp h with q | ⟨j, hj, ej⟩
        · exact Or.inl q
        · exact Or.inr ⟨j, by omega, ej⟩
      · rintro (q | ⟨j, hj, ej⟩)
        · exact (ih w).mpr (Or.inl q)
        · by_cases e : j = k
          · subst e
            exact ⟨i0, hi0, e0.trans ej⟩
          · exact (ih w).mpr (Or.inr ⟨j, by omega, ej⟩)
theorem ms_new {ps : dp_P} {os : List Int32} {st : dp_K} {k : Nat} (hk : k < ps.length) : ex_kp (ms_go ps os st k) (pl_i ps k) = none ↔ dp_isnew ps st k = true := by
  have h1 := ms_has (ps := ps) (os := os) (st := st) k (pl_i ps k)
  unfold dp_isnew
  rw [Bool.and_eq_true, decide_eq_true_eq, decide_eq_true_eq]
  constructor
  · intro hn
    have hno : ¬ ((∃ i, i < st.length ∧ kp_i st i = pl_i ps k) ∨ ∃ j, j < k ∧ pl_i ps j = pl_i ps k) := fun q => ex_kp_some.mp (h1.mpr q) hn
    refine ⟨?_, fr_find_is hk (decide_eq_true rfl) (fun j hj => decide_eq_false (fun q => hno (Or.inr ⟨j, hj, q⟩)))⟩
    cases e : ex_kp st (pl_i ps k) with
    | none => rfl
    | some i => exact absurd (Or.inl (ex_kp_some.mpr (by rw [e]; exact fun q => by cases q))) hno
  · rintro ⟨g1, g2⟩
    obtain ⟨-, -, g3⟩ := fr_find_some g2
    cases e : ex_kp (ms_go ps os st k) (pl_i ps k) with
    | none => rfl
    | some i =>
      rcases h1.mp (ex_kp_some.mpr (by rw [e]; exact fun q => by cases q)) with q | ⟨j, hj, ej⟩
      · exact absurd g1 (ex_kp_some.mp q)
      · have := g3 j hj
        rw [decide_eq_true ej] at this
        cases this
theorem ms_len {ps : dp_P} {os : List Int32} {st : dp_K} : ∀ k, k ≤ ps.length → (ms_go ps os st k).length = st.length + dp_new ps st k := by
  intro k
  induction k with
  | zero => intro _; rfl
  | succ k ih =>
    intro hk
    have hm := ms_new (ps := ps) (os := os) (st := st) (k := k) (by omega)
    unfold ms_go
    show _ = st.length + (dp_new ps st k + _)
    by_cases c : ex_kp (ms_go ps os st k) (pl_i ps k) = none
    · rw [if_pos c, if_pos (hm.mp c), List.length_append, List.length_singleton, ih (by omega)]
      omega
    · rw [if_neg c, if_neg (fun q => c (hm.mpr q)), ih (by omega)]
      rfl
theorem dp_new_mono {ps : dp_P} {st : dp_K} : ∀ (d k : Nat), dp_new ps st k ≤ dp_new ps st (k + d) := by
  intro d
  induction d with
  | zero => intro k; exact Nat.le_refl _
  | succ d ih =>
    intro k
    have := ih k
    show _ ≤ dp_new ps st (k + d) + _
    omega
section MAKE
variable {xs : List Int32} {h : pm_H} {b : Nat} {z : cz_N} {im : Nat → dp_P} {st ca : dp_K} {sd : Nat → List Int32 × dp_P} {ws ta : List Nat} {f : Bool} {S : tr_S} {Q : Option Value → pm_H → Prop}
theorem ct_D_idsNewToStore {i : Nat} (hb : dp_R h b z im st ca sd ws ta f S) (hi : i < 4) (k : Q (some (.int (nI (dp_new (im i) st (im i).length)))) h) : pm_X xs 2 mD_idsNewToStore [.ref b, .ref (b + 3 + 3 * i)] h Q := by
  obtain ⟨c1, c2, c3, c4, c5, -⟩ := id hb
  have hp := c4 i hi
  obtain ⟨es, is, p1, p2, p3, p4, p5, p6, p7, p8⟩ := id hp
  obtain ⟨ids, rows, s1, s2, s3, s4, s5, s6, s7, -⟩ := id c5
  have loop : ∀ (r n : Nat) (v : Value), n + r = (im i).length → pm_W xs 2 mD_idsNewToStore 4 [.ref b, .ref (b + 3 + 3 * i), .int (nI (dp_new (im i) st n)), .int (nI n), v] [] h Q := by
    intro r
    induction r with
    | zero =>
      intro n v hn
      (repeat (first | refine pm_W.ts rfl rfl ?_ | refine pm_W.tl rfl rfl ?_))
      refine pm_W.callV (d' := 0) rfl rfl rfl rfl (fr_ble rfl) p1 (fr_ble rfl) (ct_P_count hp ?_)
      refine pm_W.icmp rfl (fun c => ?_) (fun c => ?_)
      · (repeat (first | refine pm_W.ts rfl rfl ?_ | refine pm_W.tl rfl rfl ?_))
        rw [show n = (im i).length by omega]
        exact pm_W.iret rfl rfl k
      · have c : ¬ nI (im i).length ≤ nI n := c
        rw [nI_leI (by omega) (by omega)] at c
        omega
    | succ r ih =>
      intro n v hn
      have no : dp_isnew (im i) st n = false → pm_W xs 2 mD_idsNewToStore 45 [.ref b, .ref (b + 3 + 3 * i), .int (nI (dp_new (im i) st n)), .int (nI n), .int (pl_i (im i) n)] [] h Q := by
        intro q
        have i1 := ih (n + 1) (.int (pl_i (im i) n)) (by omega)
        rw [show dp_new (im i) st (n + 1) = dp_new (im i) st n from by show _ + _ = _; rw [q]; rfl, ← fr_inc n] at i1
        (iterate 1 (first | refine pm_W.ts rfl rfl ?_ | refine pm_W.tl rfl rfl ?_))
        refine pm_W.goto rfl ?_
        exact i1
      (repeat (first | refine pm_W.ts rfl rfl ?_ | refine pm_W.tl rfl rfl ?_))
      refine pm_W.callV (d' := 0) rfl rfl rfl rfl (fr_ble rfl) p1 (fr_ble rfl) (ct_P_count hp ?_)
      refine pm_W.icmp rfl (fun c => ?_) (fun c => ?_)
      · have c : nI (im i).length ≤ nI n := c
        rw [nI_leI (by omega) (by omega)] at c
        omega
      · (repeat (first | refine pm_W.ts rfl rfl ?_ | refine pm_W.tl rfl rfl ?_))
        refine pm_W.callV (d' := 1) rfl rfl rfl rfl (fr_ble rfl) p1 (fr_ble rfl) (ct_P_idOf hp (by omega) ?_)
        (repeat (first | refine pm_W.ts rfl rfl ?_ | refine pm_W.tl rfl rfl ?_ | refine pm_W.get rfl rfl c1 rfl ?_))
        refine pm_W.callV (d' := 0) rfl rfl rfl rfl (fr_ble rfl) s1 (fr_ble rfl) (ct_K_placeOf c5 (fun p q1 q2 q3 => ?_) (fun hno => ?_))
        · (repeat (first | refine pm_W.ts rfl rfl ?_ | refine pm_W.tl rfl rfl ?_))
          refine pm_W.icmp rfl (fun c2 => ?_) (fun c2 => ?_)
          · have e : ex_kp st (pl_i (im i) n) = some p := fr_find_is q1 (decide_eq_true q2) (fun j hj => decide_eq_false (q3 j hj))
            exact no (by unfold dp_isnew; rw [e]; rfl)
          · have c2 : ¬ ¬ nI p = -1 := c2
            exact absurd (Classical.not_not.mp c2) (fr_not1 (by omega))
        · have e : ex_kp st (pl_i (im i) n) = none := fr_find_no (fun j hj => decide_eq_false (hno j hj))
          (repeat (first | refine pm_W.ts rfl rfl ?_ | refine pm_W.tl rfl rfl ?_))
          refine pm_W.icmp rfl (fun c2 => absurd rfl c2) (fun c2 => ?_)
          (repeat (first | refine pm_W.ts rfl rfl ?_ | refine pm_W.tl rfl rfl ?_))
          refine pm_W.callV (d' := 0) rfl rfl rfl rfl (fr_ble rfl) p1 (fr_ble rfl) (ct_P_firstWithId hp (fun t t1 t2 t3 => ?_) (fun hno2 => absurd rfl (hno2 n (by omega))))
          have e2 : fr_find (fun j => decide (pl_i (im i) j = pl_i (im i) n)) (im i).length = some t := fr_find_is t1 (decide_eq_true t2) (fun j hj => decide_eq_false (t3 j hj))
          (repeat (first | refine pm_W.ts rfl rfl ?_ | refine pm_W.tl rfl rfl ?_))
          refine pm_W.icmp rfl (fun c3 => ?_) (fun c3 => ?_)
          · have c3 : ¬ nI t = nI n := c3
            rw [nI_eq (by omega) (by omega)] at c3
            exact no (by unfold dp_isnew; rw [e2, decide_eq_false (fun q => c3 (Option.some.inj q)), Bool.and_false])
          · have c3 : ¬ ¬ nI t = nI n := c3
            have c3 := Classical.not_not.mp c3
            rw [nI_eq (by omega) (by omega)] at c3
            subst c3
            have i1 := ih (t + 1) (.int (pl_i (im i) t)) (by omega)
            rw [show dp_new (im i) st (t + 1) = dp_new (im i) st t + 1 from by show _ + _ = _; rw [show dp_isnew (im i) st t = true from by unfold dp_isnew; rw [e, e2, decide_eq_true rfl, decide_eq_true rfl]; rfl]; rfl, ← fr_inc t, ← fr_inc (dp_new (im i) st t)] at i1
            (iterate 2 (first | refine pm_W.ts rfl rfl ?_ | refine pm_W.tl rfl rfl ?_))
            refine pm_W.goto rfl ?_
            exact i1
  unfold pm_X
  (iterate 4 (first | refine pm_W.ts rfl rfl ?_ | refine pm_W.tl rfl rfl ?_))
  exact loop (im i).length 0 pm_none (by omega)
theorem ct_D_storePieces {i : Nat} {os : List Int32} (hb : dp_R h b z im st ca sd ws ta f S) (hi : i < 4) (ho : bt_R h (b + 126) 117 os) (hok : bt_ok os) (hv : pl_V (im i) os.length) (hl : os.length ≤ 117) (hfit : st.length + dp_new (im i) st (im i).length ≤ 40)
    (k : ∀ h' : pm_H, dp_R h' b z im (ms_go (im i) os st (im i).length) ca sd ws ta f S → fr_ag b (b + 185) h h' → Q none h') : pm_X xs 4 mD_storePieces [.ref b, .ref (b + 3 + 3 * i)] h Q := by
  have loop : ∀ (r n : Nat) (v : Value) (g : pm_H), n + r = (im i).length → dp_R g b z im (ms_go (im i) os st n) ca sd ws ta f S → bt_R g (b + 126) 117 os → fr_ag b (b + 185) h g → pm_W xs 4 mD_storePieces 2 [.ref b, .ref (b + 3 + 3 * i), .int (nI n), v] [] g Q := by
    intro r
    induction r with
    | zero =>
      intro n v g hn hg hgo hag
      obtain ⟨c1, c2, c3, c4, c5, -⟩ := id hg
      have hp := c4 i hi
      obtain ⟨es, is, p1, p2, p3, p4, p5, p6, p7, p8⟩ := id hp
      (repeat (first | refine pm_W.ts rfl rfl ?_ | refine pm_W.tl rfl rfl ?_))
      refine pm_W.callV (d' := 0) rfl rfl rfl rfl (fr_ble rfl) p1 (fr_ble rfl) (ct_P_count hp ?_)
      refine pm_W.icmp rfl (fun c => ?_) (fun c => ?_)
      · rw [show n = (im i).length by omega] at hg
        exact pm_W.ret rfl rfl (k g hg hag)
      · have c : ¬ nI (im i).length ≤ nI n := c
        rw [nI_leI (by omega) (by omega)] at c
        omega
    | succ r ih =>
      intro n v g hn hg hgo hag
      obtain ⟨c1, c2, c3, c4, c5, -⟩ := id hg
      have hp := c4 i hi
      obtain ⟨es, is, p1, p2, p3, p4, p5, p6, p7, p8⟩ := id hp
      obtain ⟨ids, rows, s1, s2, s3, s4, s5, s6, s7, -⟩ := id c5
      have hvn := hv n (by omega)
      have en : ex_n (im i) n = pl_e (im i) n - pl_s (im i) n := rfl
      (repeat (first | refine pm_W.ts rfl rfl ?_ | refine pm_W.tl rfl rfl ?_))
      refine pm_W.callV (d' := 0) rfl rfl rfl rfl (fr_ble rfl) p1 (fr_ble rfl) (ct_P_count hp ?_)
      refine pm_W.icmp rfl (fun c => ?_) (fun c => ?_)
      · have c : nI (im i).length ≤ nI n := c
        rw [nI_leI (by omega) (by omega)] at c
        omega
      · (repeat (first | refine pm_W.ts rfl rfl ?_ | refine pm_W.tl rfl rfl ?_))
        refine pm_W.callV (d' := 1) rfl rfl rfl rfl (fr_ble rfl) p1 (fr_ble rfl) (ct_P_idOf hp (by omega) ?_)
        (repeat (first | refine pm_W.ts rfl rfl ?_ | refine pm_W.tl rfl rfl ?_ | refine pm_W.get rfl rfl c1 rfl ?_))
        refine pm_W.callV (d' := 0) rfl rfl rfl rfl (fr_ble rfl) s1 (fr_ble rfl) (ct_K_placeOf c5 (fun p q1 q2 q3 => ?_) (fun hno => ?_))
        · have e : ex_kp (ms_go (im i) os st n) (pl_i (im i) n) ≠ none := ex_kp_some.mp ⟨p, q1, q2⟩
          (repeat (first | refine pm_W.ts rfl rfl ?_ | refine pm_W.tl rfl rfl ?_))
          refine pm_W.icmp rfl (fun c2 => ?_) (fun c2 => ?_)
          · (iterate 1 (first | refine pm_W.ts rfl rfl ?_ | refine pm_W.tl rfl rfl ?_))
            refine pm_W.goto rfl ?_
            have := ih (n + 1) (.int (pl_i (im i) n)) g (by omega) (by rw [ms_go, if_neg e]; exact hg) hgo hag
            rw [← fr_inc n] at this
            exact this
          · have c2 : ¬ ¬ nI p = -1 := c2
            exact absurd (Classical.not_not.mp c2) (fr_not1 (by omega))
        · have e : ex_kp (ms_go (im i) os st n) (pl_i (im i) n) = none := fr_find_no (fun j hj => decide_eq_false (hno j hj))
          have hlen : (ms_go (im i) os st n).length < 40 := by
            have h1 := ms_len (ps := im i) (os := os) (st := st) n (by omega)
            have h2 := ms_len (ps := im i) (os := os) (st := st) (n + 1) (by omega)
            have h3 : (ms_go (im i) os st (n + 1)).length = (ms_go (im i) os st n).length + 1 := by rw [ms_go, if_pos e, List.length_append, List.length_singleton]
            have h4 := dp_new_mono (ps := im i) (st := st) r (n + 1)
            rw [show n + 1 + r = (im i).length by omega] at h4
            omega
          (repeat (first | refine pm_W.ts rfl rfl ?_ | refine pm_W.tl rfl rfl ?_))
          refine pm_W.icmp rfl (fun c2 => absurd rfl c2) (fun c2 => ?_)
          (repeat (first | refine pm_W.ts rfl rfl ?_ | refine pm_W.tl rfl rfl ?_ | refine pm_W.get rfl rfl c1 rfl ?_))
          refine pm_W.callV (d' := 1) rfl rfl rfl rfl (fr_ble rfl) p1 (fr_ble rfl) (ct_P_startOf hp (by omega) ?_)
          (repeat (first | refine pm_W.ts rfl rfl ?_ | refine pm_W.tl rfl rfl ?_))
          refine pm_W.callV (d' := 2) rfl rfl rfl rfl (fr_ble rfl) p1 (fr_ble rfl) (ct_P_lengthOf hp (by omega) ?_)
          rw [show nI (pl_e (im i) n) - nI (pl_s (im i) n) = nI (ex_n (im i) n) from ex_n_eq hv (by omega)]
          refine pm_W.callV rfl rfl rfl rfl (fr_ble rfl) s1 (fr_ble rfl) (ct_K_put c5 (by omega) hgo (by omega) (by omega) (fun q q1 q2 q3 => absurd q2 (hno q q1)) (fun _ g2 hg2 hag2 => ?_))
          rw [bt_from_sub hok (by omega) (by omega), kp_room, if_neg (by omega)] at hg2
          (iterate 1 (first | refine pm_W.ts rfl rfl ?_ | refine pm_W.tl rfl rfl ?_))
          refine pm_W.goto rfl ?_
          have := ih (n + 1) (.int (pl_i (im i) n)) g2 (by omega) (by rw [ms_go, if_pos e]; exact hg.ust hg2 (hag2.wide (by omega) (by omega))) (hgo.ag hag2 (by omega)) (hag.tr (hag2.wide (by omega) (by omega)))
          rw [← fr_inc n] at this
          exact this
  unfold pm_X
  (iterate 2 (first | refine pm_W.ts rfl rfl ?_ | refine pm_W.tl rfl rfl ?_))
  exact loop (im i).length 0 pm_none h (by omega) hb ho fr_ag.rf
end MAKE
theorem pl_e_app {ps : dp_P} {q : Nat × Int32} {i : Nat} (hi : i < ps.length) : pl_e (ps ++ [q]) i = pl_e ps i := by
  unfold pl_e
  rw [List.getD_eq_getElem?_getD, List.getElem?_append_left hi, List.getD_eq_getElem?_getD]
theorem pl_e_last {ps : dp_P} {q : Nat × Int32} : pl_e (ps ++ [q]) ps.length = q.1 := by simp [pl_e]
theorem pl_s_app {ps : dp_P} {q : Nat × Int32} {i : Nat} (hi : i ≤ ps.length) : pl_s (ps ++ [q]) i = pl_s ps i := by
  cases i with
  | zero => rfl
  | succ i => exact pl_e_app (by omega)
theorem cz_cut_V {z : cz_N} {bs : List Int32} (hz : cz_ok z) : ∀ e, e ≤ bs.length → pl_V (cz_cut z bs e).1 bs.length ∧ pl_s (cz_cut z bs e).1 (cz_cut z bs e).1.length = (cz_cut z bs e).2 ∧ (cz_cut z bs e).2 ≤ e ∧ (e < bs.length → e - (cz_cut z bs e).2 < z.2.2) := by
  obtain ⟨z1, z2, z3, z4⟩ := id hz
  intro e
  induction e with
  | zero => intro _; exact ⟨(fun i hi => by cases hi), rfl, Nat.le_refl _, fun _ => by show 0 - 0 < z.2.2; omega⟩
  | succ e ih =>
    intro he
    obtain ⟨i1, i2, i3, i4⟩ := ih (by omega)
    have i4 := i4 (by omega)
    have e0 : cz_cut z bs (e + 1) = if cz_end z bs (cz_cut z bs e).2 (e + 1) = true then ((cz_cut z bs e).1 ++ [(e + 1, bt_id bs (nI (cz_cut z bs e).2) (e + 1 - (cz_cut z bs e).2))], e + 1) else cz_cut z bs e := rfl
    rw [e0]
    by_cases hc : cz_end z bs (cz_cut z bs e).2 (e + 1) = true
    · rw [if_pos hc]
      refine ⟨fun i hi => ?_, ?_, Nat.le_refl _, fun _ => by show e + 1 - (e + 1) < _; omega⟩
      · have hi : i < ((cz_cut z bs e).1 ++ [(e + 1, bt_id bs (nI (cz_cut z bs e).2) (e + 1 - (cz_cut z bs e).2))]).length := hi
        rw [List.length_append, List.length_singleton] at hi
        show pl_s ((cz_cut z bs e).1 ++ [_]) i < pl_e ((cz_cut z bs e).1 ++ [_]) i ∧ pl_e ((cz_cut z bs e).1 ++ [_]) i ≤ pl_s ((cz_cut z bs e).1 ++ [_]) i + 32 ∧ pl_e ((cz_cut z bs e).1 ++ [_]) i ≤ bs.length
        rw [pl_s_app (by omega)]
        by_cases hil : i < (cz_cut z bs e).1.length
        · rw [pl_e_app hil]
          exact i1 i hil
        · have e1 : i = (cz_cut z bs e).1.length := by omega
          rw [e1, pl_e_last, i2]
          show _ < e + 1 ∧ e + 1 ≤ _ ∧ e + 1 ≤ _
          omega
      · show pl_s ((cz_cut z bs e).1 ++ [_]) ((cz_cut z bs e).1 ++ [_]).length = e + 1
        rw [List.length_append, List.length_singleton]
        exact pl_e_last
    · rw [if_neg hc]
      refine ⟨i1, i2, by omega, fun hlt => ?_⟩
      have hne : ¬ (e + 1 - (cz_cut z bs e).2 = z.2.2) := fun q => hc (decide_eq_true (Or.inr (Or.inl q)))
      omega
end
section
theorem dp_R.ukeep {h h' : pm_H} {b : Nat} {z : cz_N} {im : Nat → dp_P} {st ca : dp_K} {sd : Nat → List Int32 × dp_P} {ws ta : List Nat} {f : Bool} {S : tr_S} (hb : dp_R h b z im st ca sd ws ta f S) (e : ∀ k, b ≤ k → k < b + 185 → h'.1[k]? = h.1[k]?) : dp_R h' b z im st ca sd ws ta f S := by
  have ht := dp_t_c b f
  obtain ⟨c1, c2, c3, c4, c5, c6, c7, c8, c9, c10, c11, c12, c13, c14⟩ := hb
  refine ⟨(e _ (by omega) (by omega)).trans c1, (e _ (by omega) (by omega)).trans c2, (e _ (by omega) (by omega)).trans c3, fun i hi => (c4 i hi).keep fun k _ _ => e k (by omega) (by omega), c5.keep fun k _ _ => e k (by omega) (by omega), c6.keep fun k _ _ => e k (by omega) (by omega), (e _ (by omega) (by omega)).trans c7, fun s hs => ⟨(e _ (by omega) (by omega)).trans (c8 s hs).1, (c8 s hs).2.1.keep fun k _ _ => e k (by omega) (by omega), (c8 s hs).2.2.keep fun k _ _ => e k (by omega) (by omega)⟩, c9.imp fun _ q => q.keep fun k _ _ => e k (by omega) (by omega), c10.keep fun k _ _ => e k (by omega) (by omega), (e _ (by omega) (by omega)).trans c11, c12, c13.keep fun k _ _ => e k (by omega) (by omega), c14.imp fun _ q => ⟨q.1.keep fun k _ _ => e k (by omega) (by omega), q.2⟩⟩
theorem dp_len {h : pm_H} {b : Nat} {z : cz_N} {im : Nat → dp_P} {st ca : dp_K} {sd : Nat → List Int32 × dp_P} {ws ta : List Nat} {f : Bool} {S : tr_S} (hb : dp_R h b z im st ca sd ws ta f S) : b + 185 ≤ h.1.length := by
  have ht := dp_t_c b f
  obtain ⟨c1, c2, c3, c4, c5, c6, c7, c8, c9, c10, c11, c12, c13, S', c14, -⟩ := hb
  obtain ⟨ys, -, g1, -⟩ := c13.2.2.2.2.2.1 10 (by omega)
  obtain ⟨zs, -, g2, -⟩ := c14.2.2.2.2.2.1 10 (by omega)
  have h1 := (List.getElem?_eq_some_iff.mp g1).1
  have h2 := (List.getElem?_eq_some_iff.mp g2).1
  omega
theorem fr_up_id {α : Type} {g : Nat → α} {i : Nat} {v : α} (h : g i = v) : fr_up g i v = g := by
  funext j
  by_cases e : j = i
  · subst e; rw [fr_up_s, h]
  · rw [fr_up_n e]
theorem fr_up_up {α : Type} {g : Nat → α} {i : Nat} {v w : α} : fr_up (fr_up g i v) i w = fr_up g i w := by
  funext j
  by_cases e : j = i
  · subst e; rw [fr_up_s, fr_up_s]
  · rw [fr_up_n e, fr_up_n e, fr_up_n e]
def dp_cut (z : cz_N) (os : List Int32) : dp_P := (cz_cut z os os.length).1
section DEPOT3
variable {xs : List Int32} {h : pm_H} {b : Nat} {z : cz_N} {im : Nat → dp_P} {st ca : dp_K} {sd : Nat → List Int32 × dp_P} {ws ta : List Nat} {f : Bool} {S : tr_S} {Q : Option Value → pm_H → Prop}
theorem ct_D_make (hb : dp_R h b z im st ca sd ws ta f S) (hz : cz_ok z) (hB : ∀ s, s < 11 → bt_ok (tr_B S s)) (hl : (ws_out S).length ≤ 117) (hok : bt_ok (ws_out S))
    (k0 : (∀ i, i < 4 → im i ≠ []) → Q (some (.int (-1))) h)
    (k2 : ∀ i, i < 4 → im i = [] → (∀ j, j < i → im j ≠ []) → 40 < st.length + dp_new (dp_cut z (ws_out S)) st (dp_cut z (ws_out S)).length → ∀ h' : pm_H, dp_R h' b z im st ca sd ws ta f S → fr_ag b (b + 185) h h' → Q (some (.int (-2))) h')
    (k1 : ∀ i, i < 4 → im i = [] → (∀ j, j < i → im j ≠ []) → st.length + dp_new (dp_cut z (ws_out S)) st (dp_cut z (ws_out S)).length ≤ 40 → ∀ h' : pm_H, dp_R h' b z (fr_up im i (dp_cut z (ws_out S))) (ms_go (dp_cut z (ws_out S)) (ws_out S) st (dp_cut z (ws_out S)).length) ca sd ws ta f S → fr_ag b (b + 185) h h' → Q (some (.int (nI i))) h') :
    pm_X xs 5 mD_make [.ref b] h Q := by
  have ht := dp_t_c b f
  obtain ⟨c1, c2, c3, c4, c5, c6, c7, c8, ⟨os0, c9⟩, c10, c11, c12, c13, c14⟩ := id hb
  unfold pm_X
  (repeat (first | refine pm_W.ts rfl rfl ?_ | refine pm_W.tl rfl rfl ?_))
  refine pm_W.callV (d' := 2) rfl rfl rfl rfl (fr_ble rfl) c1 (fr_ble rfl) (ct_D_freeImage hb (fun i hi he hj => ?_) (fun hall => ?_))
  · (repeat (first | refine pm_W.ts rfl rfl ?_ | refine pm_W.tl rfl rfl ?_))
    refine pm_W.icmp rfl (fun c => ?_) (fun c => absurd (Classical.not_not.mp c) (fr_not1 (n := i) (by omega)))
    (repeat (first | refine pm_W.ts rfl rfl ?_ | refine pm_W.tl rfl rfl ?_ | refine pm_W.get rfl rfl c1 rfl ?_))
    refine pm_W.aald rfl c3 (pm_ix_ok (j := i) hi (show 4 < 2 ^ 31 by omega)) (by decide) ?_
    rw [dp_im4 hi]
    (repeat (first | refine pm_W.ts rfl rfl ?_ | refine pm_W.tl rfl rfl ?_ | refine pm_W.get rfl rfl c1 rfl ?_))
    refine pm_W.callV rfl rfl rfl rfl (fr_ble rfl) c13.1 (fr_ble rfl) (ct_T_writeStream c13 hB c9 (by omega) hl (fun g hg hag => ?_))
    have hb1 := hb.uos hg hag
    obtain ⟨d1, d2, d3, d4, -⟩ := id hb1
    (repeat (first | refine pm_W.ts rfl rfl ?_ | refine pm_W.tl rfl rfl ?_ | refine pm_W.get rfl rfl d1 rfl ?_))
    refine pm_W.callV rfl rfl rfl rfl (fr_ble rfl) d2 (fr_ble rfl) (ct_C_cut d2 hz hg hl (d4 i hi) (by omega) (by omega) (fun g2 hg2 hag2 => ?_))
    have hb2 := hb1.uim hi hg2 hag2
    have hgo := hg.ag hag2 (by omega)
    obtain ⟨e1, e2, e3, e4, e5, -⟩ := id hb2
    obtain ⟨ids, rows, s1, s2, s3, s4, s5, s6, s7, -⟩ := id e5
    (repeat (first | refine pm_W.ts rfl rfl ?_ | refine pm_W.tl rfl rfl ?_ | refine pm_W.get rfl rfl e1 rfl ?_))
    refine pm_W.callV (d' := 0) rfl rfl rfl rfl (fr_ble rfl) s1 (fr_ble rfl) (ct_K_count e5 ?_)
    (repeat (first | refine pm_W.ts rfl rfl ?_ | refine pm_W.tl rfl rfl ?_))
    have hps : fr_up im i (cz_cut z (ws_out S) (ws_out S).length).1 i = dp_cut z (ws_out S) := fr_up_s
    refine pm_W.callV (d' := 2) rfl rfl rfl rfl (fr_ble rfl) e1 (fr_ble rfl) (ct_D_idsNewToStore hb2 hi ?_)
    rw [hps]
    have hnl := dp_new_le (ps := dp_cut z (ws_out S)) (st := st) (dp_cut z (ws_out S)).length
    have hp2 := e4 i hi
    rw [hps] at hp2
    obtain ⟨es, is, p1, p2, p3, p4, p5, p6, p7, p8⟩ := id hp2
    have hagg : fr_ag b (b + 185) h g2 := (hag.wide (by omega) (by omega)).tr (hag2.wide (by omega) (by omega))
    (iterate 1 (first | refine pm_W.ts rfl rfl ?_ | refine pm_W.tl rfl rfl ?_))
    rw [nI_add]
    (iterate 1 (first | refine pm_W.ts rfl rfl ?_ | refine pm_W.tl rfl rfl ?_))
    refine pm_W.icmp rfl (fun c2 => ?_) (fun c2 => ?_)
    · have c2 : nI (st.length + dp_new (dp_cut z (ws_out S)) st (dp_cut z (ws_out S)).length) ≤ nI 40 := c2
      rw [nI_leI (by omega) (by omega)] at c2
      (repeat (first | refine pm_W.ts rfl rfl ?_ | refine pm_W.tl rfl rfl ?_))
      have hV := (cz_cut_V (z := z) (bs := ws_out S) hz _ (Nat.le_refl _)).1
      refine pm_W.callV rfl rfl rfl rfl (fr_ble rfl) e1 (fr_ble rfl) (ct_D_storePieces hb2 hi hgo hok (by rw [hps]; exact hV) hl (by rw [hps]; exact c2) (fun g3 hg3 hag3 => ?_))
      rw [hps] at hg3
      (repeat (first | refine pm_W.ts rfl rfl ?_ | refine pm_W.tl rfl rfl ?_))
      exact pm_W.iret rfl rfl (k1 i hi he hj c2 g3 hg3 (hagg.tr hag3))
    · have c2 : ¬ nI (st.length + dp_new (dp_cut z (ws_out S)) st (dp_cut z (ws_out S)).length) ≤ nI 40 := c2
      rw [nI_leI (by omega) (by omega)] at c2
      (repeat (first | refine pm_W.ts rfl rfl ?_ | refine pm_W.tl rfl rfl ?_))
      refine pm_W.callV (d' := 0) rfl rfl rfl rfl (fr_ble rfl) p1 (fr_ble rfl) (ct_P_clear hp2 (fun g3 hg3 hag3 => ?_))
      have hb3 := hb2.uim hi hg3 hag3
      rw [fr_up_up, fr_up_id he] at hb3
      (repeat (first | refine pm_W.ts rfl rfl ?_ | refine pm_W.tl rfl rfl ?_))
      exact pm_W.iret rfl rfl (k2 i hi he hj (by omega) g3 hb3 (hagg.tr (hag3.wide (by omega) (by omega))))
  · (repeat (first | refine pm_W.ts rfl rfl ?_ | refine pm_W.tl rfl rfl ?_))
    refine pm_W.icmp rfl (fun c => absurd rfl c) (fun c => ?_)
    (repeat (first | refine pm_W.ts rfl rfl ?_ | refine pm_W.tl rfl rfl ?_))
    exact pm_W.iret rfl rfl (k0 hall)
theorem ct_D_seed {x : Int32} (hb : dp_R h b z im st ca sd ws ta f S) (hz : cz_ok z) (hB : ∀ s, s < 11 → bt_ok (tr_B S s)) (hl : (ws_out S).length ≤ 117)
    (k1 : ∀ i : Nat, i < 2 → x = nI i → ∀ h' : pm_H, dp_R h' b z im st ca (fr_up sd i (ws_out S, dp_cut z (ws_out S))) ws ta f S → fr_ag b (b + 185) h h' → Q (some (.int 1)) h')
    (k0 : (∀ i : Nat, i < 2 → x ≠ nI i) → Q (some (.int 0)) h) : pm_X xs 6 mD_seed [.ref b, .int x] h Q := by
  have ht := dp_t_c b f
  obtain ⟨c1, c2, c3, c4, c5, c6, c7, c8, c9, c10, c11, c12, c13, c14⟩ := id hb
  unfold pm_X
  (repeat (first | refine pm_W.ts rfl rfl ?_ | refine pm_W.tl rfl rfl ?_))
  refine pm_W.callS (d' := 0) rfl rfl rfl rfl (fr_ble rfl) (fr_ble rfl) (ct_D_isSeed (fun i hi ei => ?_) (fun hn => ?_))
  · refine pm_W.ifz rfl (fun c => ?_) (fun c => absurd (show ¬ (1 : Int32) = 0 by decide) c)
    subst ei
    (repeat (first | refine pm_W.ts rfl rfl ?_ | refine pm_W.tl rfl rfl ?_ | refine pm_W.get rfl rfl c1 rfl ?_))
    refine pm_W.aald rfl c7 (pm_ix_ok (j := i) hi (show 2 < 2 ^ 31 by omega)) (by decide) ?_
    rw [dp_sd2 hi]
    have hs := c8 i hi
    refine pm_W.callV (d' := 0) rfl rfl rfl rfl (fr_ble rfl) hs.1 (fr_ble rfl) (ct_S_bytes hs ?_)
    refine pm_W.callV (d' := 4) rfl rfl rfl rfl (fr_ble rfl) c13.1 (fr_ble rfl) (ct_T_writeStream c13 hB hs.2.1 (by omega) hl (fun g hg hag => ?_))
    have hs2 : sd_R g (b + 114 + 6 * i) (ws_out S) (sd i).2 := ⟨hag.at (by omega) hs.1, hg, hs.2.2.ag hag (by omega)⟩
    have hb1 := hb.usd hi hs2 (hag.wide (by omega) (by omega))
    obtain ⟨d1, d2, d3, d4, d5, d6, d7, d8, -⟩ := id hb1
    (repeat (first | refine pm_W.ts rfl rfl ?_ | refine pm_W.tl rfl rfl ?_ | refine pm_W.get rfl rfl d1 rfl ?_))
    refine pm_W.aald rfl d7 (pm_ix_ok (j := i) hi (show 2 < 2 ^ 31 by omega)) (by decide) ?_
    rw [dp_sd2 hi]
    (repeat (first | refine pm_W.ts rfl rfl ?_ | refine pm_W.tl rfl rfl ?_ | refine pm_W.get rfl rfl d1 rfl ?_))
    refine pm_W.callV rfl rfl rfl rfl (fr_ble rfl) hs2.1 (fr_ble rfl) (ct_S_cutWith hs2 d2 hz hl (by omega) (fun g2 hg2 hag2 => ?_))
    have hb2 := hb1.usd hi hg2 hag2
    rw [fr_up_up] at hb2
    (repeat (first | refine pm_W.ts rfl rfl ?_ | refine pm_W.tl rfl rfl ?_))
    exact pm_W.iret rfl rfl (k1 i hi rfl g2 hb2 ((hag.wide (by omega) (by omega)).tr (hag2.wide (by omega) (by omega))))
  · refine pm_W.ifz rfl (fun c2 => absurd rfl c2) (fun c2 => ?_)
    (repeat (first | refine pm_W.ts rfl rfl ?_ | refine pm_W.tl rfl rfl ?_))
    exact pm_W.iret rfl rfl (k0 hn)
def dp_size (z : cz_N) (im : Nat → dp_P) (st ca : dp_K) (S : tr_S) (j : Nat) : Nat := match j with
  | 0 => tr_cnt (tr_u S) 10
  | 1 => tr_fb S
  | 2 => (ws_out S).length
  | 3 => dp_cnt im 4
  | 4 => st.length
  | 5 => kp_sum st st.length
  | 6 => ca.length
  | _ => kp_sum ca ca.length
theorem ct_D_size {x : Int32} (hb : dp_R h b z im st ca sd ws ta f S) (hB : ∀ s, s < 11 → bt_ok (tr_B S s)) (hl : (ws_out S).length ≤ 117)
    (k1 : ∀ j : Nat, j < 8 → x = nI j → ∀ h' : pm_H, dp_R h' b z im st ca sd ws ta f S → fr_ag b (b + 185) h h' → Q (some (.int (nI (dp_size z im st ca S j)))) h')
    (k0 : (∀ j : Nat, j < 8 → x ≠ nI j) → Q (some (.int (-1))) h) : pm_X xs 5 mD_size [.ref b, .int x] h Q := by
  have ht := dp_t_c b f
  obtain ⟨c1, c2, c3, c4, c5, c6, c7, c8, ⟨os0, c9⟩, c10, c11, c12, c13, c14⟩ := id hb
  obtain ⟨ids, rows, s1, -⟩ := id c5
  obtain ⟨ids2, rows2, s2, -⟩ := id c6
  by_cases hx : ∃ j : Nat, j < 8 ∧ x = nI j
  · obtain ⟨j, hj, rfl⟩ := hx
    have k1 := k1 j hj rfl
    unfold pm_X
    (iterate 1 (first | refine pm_W.ts rfl rfl ?_ | refine pm_W.tl rfl rfl ?_))
    match j, hj with
    | 0, _ =>
      refine pm_W.sw (off := 47) rfl rfl rfl ?_
      (repeat (first | refine pm_W.ts rfl rfl ?_ | refine pm_W.tl rfl rfl ?_ | refine pm_W.get rfl rfl c1 rfl ?_))
      refine pm_W.callV (d' := 0) rfl rfl rfl rfl (fr_ble rfl) c13.1 (fr_ble rfl) (ct_T_entries c13 ?_)
      exact pm_W.iret rfl rfl (k1 h hb fr_ag.rf)
    | 1, _ =>
      refine pm_W.sw (off := 55) rfl rfl rfl ?_
      (repeat (first | refine pm_W.ts rfl rfl ?_ | refine pm_W.tl rfl rfl ?_ | refine pm_W.get rfl rfl c1 rfl ?_))
      refine pm_W.callV (d' := 1) rfl rfl rfl rfl (fr_ble rfl) c13.1 (fr_ble rfl) (ct_T_fileBytes c13 ?_)
      exact pm_W.iret rfl rfl (k1 h hb fr_ag.rf)
    | 2, _ =>
      refine pm_W.sw (off := 63) rfl rfl rfl ?_
      (repeat (first | refine pm_W.ts rfl rfl ?_ | refine pm_W.tl rfl rfl ?_ | refine pm_W.get rfl rfl c1 rfl ?_))
      refine pm_W.callV rfl rfl rfl rfl (fr_ble rfl) c13.1 (fr_ble rfl) (ct_T_writeStream c13 hB c9 (by omega) hl (fun g hg hag => ?_))
      have hb1 := hb.uos hg hag
      obtain ⟨d1, -⟩ := id hb1
      obtain ⟨ys, w1, -⟩ := id hg
      (repeat (first | refine pm_W.ts rfl rfl ?_ | refine pm_W.tl rfl rfl ?_ | refine pm_W.get rfl rfl d1 rfl ?_))
      refine pm_W.callV (d' := 0) rfl rfl rfl rfl (fr_ble rfl) w1 (fr_ble rfl) (ct_B_count hg ?_)
      exact pm_W.iret rfl rfl (k1 g hb1 (hag.wide (by omega) (by omega)))
    | 3, _ =>
      refine pm_W.sw (off := 82) rfl rfl rfl ?_
      (repeat (first | refine pm_W.ts rfl rfl ?_ | refine pm_W.tl rfl rfl ?_))
      refine pm_W.callV (d' := 2) rfl rfl rfl rfl (fr_ble rfl) c1 (fr_ble rfl) (ct_D_imagesThere hb ?_)
      exact pm_W.iret rfl rfl (k1 h hb fr_ag.rf)
    | 4, _ =>
      refine pm_W.sw (off := 87) rfl rfl rfl ?_
      (repeat (first | refine pm_W.ts rfl rfl ?_ | refine pm_W.tl rfl rfl ?_ | refine pm_W.get rfl rfl c1 rfl ?_))
      refine pm_W.callV (d' := 0) rfl rfl rfl rfl (fr_ble rfl) s1 (fr_ble rfl) (ct_K_count c5 ?_)
      exact pm_W.iret rfl rfl (k1 h hb fr_ag.rf)
    | 5, _ =>
      refine pm_W.sw (off := 95) rfl rfl rfl ?_
      (repeat (first | refine pm_W.ts rfl rfl ?_ | refine pm_W.tl rfl rfl ?_ | refine pm_W.get rfl rfl c1 rfl ?_))
      refine pm_W.callV (d' := 1) rfl rfl rfl rfl (fr_ble rfl) s1 (fr_ble rfl) (ct_K_bytesInAll c5 ?_)
      exact pm_W.iret rfl rfl (k1 h hb fr_ag.rf)
    | 6, _ =>
      refine pm_W.sw (off := 103) rfl rfl rfl ?_
      (repeat (first | refine pm_W.ts rfl rfl ?_ | refine pm_W.tl rfl rfl ?_ | refine pm_W.get rfl rfl c1 rfl ?_))
      refine pm_W.callV (d' := 0) rfl rfl rfl rfl (fr_ble rfl) s2 (fr_ble rfl) (ct_K_count c6 ?_)
      exact pm_W.iret rfl rfl (k1 h hb fr_ag.rf)
    | 7, _ =>
      refine pm_W.sw (off := 111) rfl rfl rfl ?_
      (repeat (first | refine pm_W.ts rfl rfl ?_ | refine pm_W.tl rfl rfl ?_ | refine pm_W.get rfl rfl c1 rfl ?_))
      refine pm_W.callV (d' := 1) rfl rfl rfl rfl (fr_ble rfl) s2 (fr_ble rfl) (ct_K_bytesInAll c6 ?_)
      exact pm_W.iret rfl rfl (k1 h hb fr_ag.rf)
  · have hout : x.toInt < 0 ∨ 7 < x.toInt := by
      apply Classical.byContradiction
      intro q
      have q1 : 0 ≤ x.toInt := by omega
      obtain ⟨i, hi, rfl⟩ := fr_nat (x := x) (by rw [fr_le]; exact q1)
      rw [nI_toInt hi] at q
      exact hx ⟨i, by omega, rfl⟩
    unfold pm_X
    (iterate 1 (first | refine pm_W.ts rfl rfl ?_ | refine pm_W.tl rfl rfl ?_))
    refine pm_W.sw (off := 119) (st' := []) rfl (by
      show (if x.toInt < 0 ∨ 7 < x.toInt then some ((119 : Int), ([] : List Value)) else _) = _
      rw [if_pos hout]) rfl ?_
    (repeat (first | refine pm_W.ts rfl rfl ?_ | refine pm_W.tl rfl rfl ?_))
    exact pm_W.iret rfl rfl (k0 (fun j hj e => hx ⟨j, hj, e⟩))
end DEPOT3
end
section
def fr_al (b n : Nat) (h h' : pm_H) : Prop := h'.1.length = h.1.length + 1 ∧ h'.2 = h.2 + n ∧ ∀ k, k < h.1.length → (k < b ∨ b + 185 ≤ k) → h'.1[k]? = h.1[k]?
section UNPACK
variable {xs : List Int32} {h : pm_H} {b : Nat} {z : cz_N} {im : Nat → dp_P} {st ca : dp_K} {sd : Nat → List Int32 × dp_P} {ws ta : List Nat} {f : Bool} {S : tr_S} {Q : Option Value → pm_H → Prop}
theorem ct_R_init {r o t : Nat} (hr : h.1[r]? = some (.inr (.inr (kR, [.null, .null, .int 0, .int 0])))) (k : ∀ h' : pm_H, rd_R h' r o t 0 false → fr_ag r (r + 1) h h' → Q none h') : pm_X xs 0 mR_init [.ref r, .ref o, .ref t] h Q := by
  unfold pm_X
  (repeat (first | refine pm_W.ts rfl rfl ?_ | refine pm_W.tl rfl rfl ?_))
  refine pm_W.obj rfl rfl rfl rfl ?_
  (repeat (first | refine pm_W.ts rfl rfl ?_ | refine pm_W.tl rfl rfl ?_))
  refine pm_W.put (v := .ref o) rfl rfl hr (fr_ble rfl) rfl (Or.inr ⟨rfl, rfl⟩) ?_
  have hr2 := fr_set (c := .inr (.inr (kR, [Value.ref o, .null, .int 0, .int 0]))) hr
  (repeat (first | refine pm_W.ts rfl rfl ?_ | refine pm_W.tl rfl rfl ?_))
  refine pm_W.put (v := .ref t) rfl rfl hr2 (fr_ble rfl) rfl (Or.inr ⟨rfl, rfl⟩) ?_
  exact pm_W.ret rfl rfl (k _ (fr_set hr2) ((fr_agset (by omega) (by omega)).tr (fr_agset (by omega) (by omega))))
theorem ct_D_unpack {I : Nat → tr_S → Option Nat → Prop} (hb : dp_R h b z im st ca sd ws ta f S) (hS : tr_rt S) (hw : rd_by ws)
    (i0 : ∀ S', tr_rt S' → I 0 (tr_clr S' 10) (some 0)) (i1 : ∀ p S d p' S' o', I p S (some d) → rd_N ws S d p p' S' o' → p ≤ ws.length → I p' S' o') (i2 : ∀ p S o, I p S o → tr_fb S ≤ 80 ∧ ∀ e, o = some e → e ≤ 10) (i3 : ∀ p S o, I p S o → tr_rt S)
    (kF : ∀ (p q d : Nat) (S1 : tr_S) (h' : pm_H), I p S1 (some d) → rd_F ws S1 d p q → p ≤ ws.length → dp_R h' b z im st ca sd ws ta f S → fr_al b 4 h h' → Q (some (.int (-1 - nI q))) h')
    (kT : ∀ (p : Nat) (S1 : tr_S) (h' : pm_H), I p S1 none → p < ws.length → dp_R h' b z im st ca sd ws ta f S → fr_al b 4 h h' → Q (some (.int (-1 - nI p))) h')
    (kO : ∀ (S1 : tr_S) (h' : pm_H), I ws.length S1 none → dp_R h' b z im st ca sd ws ta (!f) S1 → fr_al b 4 h h' → Q (some (.int (nI (tr_cnt (tr_u S1) 10)))) h') :
    pm_X xs 6 mD_unpack [.ref b] h Q := by
  have hlen := dp_len hb
  have ht := dp_t_c b f
  have hwl : ws.length ≤ 120 := by
    obtain ⟨ys, -, -, -, -, g, -⟩ := id hb.2.2.2.2.2.2.2.2.2.1
    rw [List.length_map] at g
    exact g
  have rest : ∀ (g g2 : pm_H) (Sp : tr_S), g.1.length = h.1.length + 1 → g.2 = h.2 + 4 → (∀ k, k < h.1.length → g.1[k]? = h.1[k]?) → rd_fr h.1.length (dp_t b (!f)) g g2 → tr_R g2 (dp_t b (!f)) Sp → tr_rt Sp → dp_R g2 b z im st ca sd ws ta f S ∧ fr_al b 4 h g2 := by
    intro g g2 Sp e1 e2 e3 hfr hT hrt
    obtain ⟨f1, f2, f3⟩ := hfr
    have keep : ∀ k, k < h.1.length → (k < dp_t b (!f) ∨ dp_t b (!f) + 27 ≤ k) → g2.1[k]? = h.1[k]? := fun k hk hq => (f3 k (by omega) hq).trans (e3 k hk)
    obtain ⟨c1, c2, c3, c4, c5, c6, c7, c8, c9, c10, c11, c12, c13, c14⟩ := id hb
    refine ⟨⟨(keep _ (by omega) (by omega)).trans c1, (keep _ (by omega) (by omega)).trans c2, (keep _ (by omega) (by omega)).trans c3, fun i hi => (c4 i hi).keep fun k _ _ => keep k (by omega) (by omega), c5.keep fun k _ _ => keep k (by omega) (by omega), c6.keep fun k _ _ => keep k (by omega) (by omega), (keep _ (by omega) (by omega)).trans c7, fun s hs => ⟨(keep _ (by omega) (by omega)).trans (c8 s hs).1, (c8 s hs).2.1.keep fun k _ _ => keep k (by omega) (by omega), (c8 s hs).2.2.keep fun k _ _ => keep k (by omega) (by omega)⟩, c9.imp fun _ q => q.keep fun k _ _ => keep k (by omega) (by omega), c10.keep fun k _ _ => keep k (by omega) (by omega), (keep _ (by omega) (by omega)).trans c11, c12, c13.keep fun k _ _ => keep k (by omega) (by omega), ⟨Sp, hT, hrt⟩⟩, ?_⟩
    exact ⟨f2.trans e1, f1.trans e2, fun k hk hq => keep k hk (by omega)⟩
  obtain ⟨c1, c2, c3, c4, c5, c6, c7, c8, c9, c10, c11, c12, c13, S', c14, c15⟩ := id hb
  have put : ∀ k, k < h.1.length → (h.1 ++ [(.inr (.inr (kR, [Value.null, .null, .int 0, .int 0])) : pm_C)])[k]? = h.1[k]? := fun k hk => List.getElem?_append_left hk
  have hb1 : dp_R (h.1 ++ [.inr (.inr (kR, [Value.null, .null, .int 0, .int 0]))], h.2 + 4) b z im st ca sd ws ta f S := hb.ukeep (fun k _ _ => put k (by omega))
  have hnew : (h.1 ++ [(.inr (.inr (kR, [Value.null, .null, .int 0, .int 0])) : pm_C)])[h.1.length]? = some (.inr (.inr (kR, [.null, .null, .int 0, .int 0]))) := by simp
  unfold pm_X
  refine pm_W.new rfl rfl ?_
  have d1 := hb1.1
  (repeat (first | refine pm_W.ts rfl rfl ?_ | refine pm_W.tl rfl rfl ?_ | refine pm_W.get rfl rfl d1 rfl ?_))
  refine pm_W.callI (d' := 0) rfl rfl rfl rfl (fr_ble rfl) hnew (fr_ble rfl) (ct_R_init hnew (fun g hr hag => ?_))
  have hlg : g.1.length = h.1.length + 1 := by
    rw [hag.2.1]
    show (h.1 ++ [_]).length = _
    rw [List.length_append, List.length_singleton]
  have hg2 : g.2 = h.2 + 4 := hag.1
  have hgk : ∀ k, k < h.1.length → g.1[k]? = h.1[k]? := fun k hk => (hag.2.2 k (by omega)).trans (put k hk)
  have hgb : dp_R g b z im st ca sd ws ta f S := hb.ukeep (fun k _ _ => hgk k (by omega))
  have hr' : g.1[h.1.length]? = some (.inr (.inr (kR, [Value.ref (b + 128), .ref (dp_t b (!f)), .int (nI 0), .int (fr_b false)]))) := hr
  have hT' : tr_R g (dp_t b (!f)) S' := c14.keep fun k _ _ => hgk k (by omega)
  refine pm_W.callV rfl rfl rfl rfl (fr_ble rfl) hr' (fr_ble rfl) (ct_R_readAll (I := I) hr (hgb.2.2.2.2.2.2.2.2.2.1) hw hT' (by omega) (by omega) (by omega) (i0 S' c15) i1 i2 (fun p q d S1 S2 g2 hI hF hrt hp hr2 hT2 hfr => ?_) (fun p S1 g2 hI hp hr2 hT2 hfr => ?_) (fun S1 g2 hI hr2 hT2 hfr => ?_))
  · obtain ⟨q1, q2⟩ := rest g g2 S2 hlg hg2 hgk hfr hT2 (hrt (i3 _ _ _ hI))
    have hq : q ≤ ws.length + 2 := by
      rcases hF with ⟨e, -⟩ | ⟨e, -⟩ | ⟨e, -⟩ | ⟨e, -⟩ | ⟨e, -⟩ <;> omega
    have hneg : -1 - nI q < 0 := by
      rw [fr_lt, Int32.toInt_sub, nI_toInt (by omega)]
      show ((-1 - (q : Int))).bmod (2 ^ 32) < 0
      rw [Int.bmod_eq_of_le (by omega) (by omega)]
      omega
    (repeat (first | refine pm_W.ts rfl rfl ?_ | refine pm_W.tl rfl rfl ?_))
    refine pm_W.ifz rfl (fun c => ?_) (fun c => absurd hneg c)
    (repeat (first | refine pm_W.ts rfl rfl ?_ | refine pm_W.tl rfl rfl ?_))
    exact pm_W.iret rfl rfl (kF p q d S1 g2 hI hF hp q1 q2)
  · obtain ⟨q1, q2⟩ := rest g g2 S1 hlg hg2 hgk hfr hT2 (i3 _ _ _ hI)
    have hneg : -1 - nI p < 0 := by
      rw [fr_lt, Int32.toInt_sub, nI_toInt (by omega)]
      show ((-1 - (p : Int))).bmod (2 ^ 32) < 0
      rw [Int.bmod_eq_of_le (by omega) (by omega)]
      omega
    (repeat (first | refine pm_W.ts rfl rfl ?_ | refine pm_W.tl rfl rfl ?_))
    refine pm_W.ifz rfl (fun c => ?_) (fun c => absurd hneg c)
    (repeat (first | refine pm_W.ts rfl rfl ?_ | refine pm_W.tl rfl rfl ?_))
    exact pm_W.iret rfl rfl (kT p S1 g2 hI hp q1 q2)
  · obtain ⟨q1, q2⟩ := rest g g2 S1 hlg hg2 hgk hfr hT2 (i3 _ _ _ hI)
    have hcnt := tr_cnt_le (f := tr_u S1) 10
    obtain ⟨e1, e2, e3, e4, e5, e6, e7, e8, e9, e10, e11, e12, e13, e14⟩ := id q1
    (repeat (first | refine pm_W.ts rfl rfl ?_ | refine pm_W.tl rfl rfl ?_))
    refine pm_W.ifz rfl (fun c => absurd c (nI_pos (by omega))) (fun c => ?_)
    (repeat (first | refine pm_W.ts rfl rfl ?_ | refine pm_W.tl rfl rfl ?_ | refine pm_W.get rfl rfl e1 rfl ?_))
    refine pm_W.put (v := .ref (dp_t b (!f))) rfl rfl e1 (fr_ble rfl) rfl (Or.inl rfl) ?_
    have e1' := fr_set (c := .inr (.inr (kD, [Value.ref (b + 1), .ref (b + 2), .ref (b + 15), .ref (b + 98), .ref (b + 113), .ref (b + 126), .ref (b + 128), .ref (b + 130), .ref (dp_t b (!f)), .ref (dp_t b (!f))]))) e1
    (repeat (first | refine pm_W.ts rfl rfl ?_ | refine pm_W.tl rfl rfl ?_))
    refine pm_W.put (v := .ref (dp_t b f)) rfl rfl e1' (fr_ble rfl) rfl (Or.inl rfl) ?_
    have e1'' := fr_set (c := .inr (.inr (kD, [Value.ref (b + 1), .ref (b + 2), .ref (b + 15), .ref (b + 98), .ref (b + 113), .ref (b + 126), .ref (b + 128), .ref (b + 130), .ref (dp_t b (!f)), .ref (dp_t b f)]))) e1'
    have hag2 : fr_ag b (b + 1) g2 ((g2.1.set b (.inr (.inr (kD, [Value.ref (b + 1), .ref (b + 2), .ref (b + 15), .ref (b + 98), .ref (b + 113), .ref (b + 126), .ref (b + 128), .ref (b + 130), .ref (dp_t b (!f)), .ref (dp_t b (!f))])))).set b (.inr (.inr (kD, [Value.ref (b + 1), .ref (b + 2), .ref (b + 15), .ref (b + 98), .ref (b + 113), .ref (b + 126), .ref (b + 128), .ref (b + 130), .ref (dp_t b (!f)), .ref (dp_t b f)]))), g2.2) := (fr_agset (by omega) (by omega)).tr (fr_agset (by omega) (by omega))
    (repeat (first | refine pm_W.ts rfl rfl ?_ | refine pm_W.tl rfl rfl ?_))
    refine pm_W.iret rfl rfl (kO S1 _ hI ?_ ⟨hag2.2.1.trans q2.1, hag2.1.trans q2.2.1, fun k hk hq => (hag2.2.2 k (by omega)).trans (q2.2.2 k hk hq)⟩)
    have hff : (!(!f)) = f := Bool.not_not f
    refine ⟨?_, hag2.at (by omega) e2, hag2.at (by omega) e3, fun i hi => (e4 i hi).ag hag2 (by omega), e5.ag hag2 (by omega), e6.ag hag2 (by omega), hag2.at (by omega) e7, fun s hs => (e8 s hs).ag hag2 (by omega), e9.imp fun _ q => q.ag hag2 (by omega), e10.ag hag2 (by omega), hag2.at (by omega) e11, e12, hT2.ag hag2 (by omega), S, by rw [hff]; exact e13.ag hag2 (by omega), hS⟩
    rw [hff]
    exact e1''
end UNPACK
end
section
theorem pa_pos (k : Nat) : 0 < 2 ^ (5 * k) := Nat.two_pow_pos _
theorem pa_n_mod {p k i : Nat} : pa_n (p % 2 ^ (5 * k)) i = if i < k then pa_n p i else 0 := by
  unfold pa_n
  by_cases h : i < k
  · rw [if_pos h]
    obtain ⟨c, rfl⟩ : ∃ c, k = i + c + 1 := ⟨k - i - 1, by omega⟩
    have e : 2 ^ (5 * (i + c + 1)) = 2 ^ (5 * i) * (32 * 2 ^ (5 * c)) := by
      rw [show 5 * (i + c + 1) = 5 * i + (5 + 5 * c) by omega, Nat.pow_add, Nat.pow_add]
    rw [e, Nat.mod_mul_right_div_self, Nat.mod_mod_of_dvd _ (Nat.dvd_mul_right 32 _)]
  · rw [if_neg h, Nat.div_eq_of_lt]
    exact Nat.lt_of_lt_of_le (Nat.mod_lt _ (pa_pos k)) (Nat.pow_le_pow_right (by omega) (by omega))
theorem pa_d_is {p d : Nat} (h1 : d ≤ 6) (h2 : ∀ i, i < d → pa_n p i ≠ 0) (h3 : d = 6 ∨ pa_n p d = 0) : pa_d p = d := by
  obtain ⟨g1, g2, g3⟩ := pa_d_spec p
  rcases Nat.lt_trichotomy (pa_d p) d with t | t | t
  · rcases g3 with g3 | g3
    · omega
    · exact absurd g3 (h2 _ t)
  · exact t
  · rcases h3 with h3 | h3
    · omega
    · exact absurd h3 (g2 _ t)
theorem pa_ok_lt {p : Nat} (h : pa_ok p = true) : p < 2 ^ (5 * pa_d p) := by
  have h1 := of_decide_eq_true h
  rcases Nat.div_eq_zero_iff.mp h1 with q | q
  · exact absurd q (Nat.ne_of_gt (pa_pos _))
  · exact q
theorem pa_ok_30 {p : Nat} (h : pa_ok p = true) : p < 2 ^ 30 := Nat.lt_of_lt_of_le (pa_ok_lt h) (Nat.pow_le_pow_right (by omega) (by have := (pa_d_spec p).1; omega))
theorem pa_ok_of {p d : Nat} (h : pa_d p = d) (hl : p < 2 ^ (5 * d)) : pa_ok p = true := by
  unfold pa_ok
  rw [h]
  exact decide_eq_true (Nat.div_eq_of_lt hl)
theorem pa_pre {p k : Nat} (hk : k ≤ pa_d p) : pa_d (p % 2 ^ (5 * k)) = k ∧ pa_ok (p % 2 ^ (5 * k)) = true := by
  obtain ⟨g1, g2, g3⟩ := pa_d_spec p
  have e : pa_d (p % 2 ^ (5 * k)) = k := by
    apply pa_d_is (by omega)
    · intro i hi
      rw [pa_n_mod, if_pos hi]
      exact g2 i (by omega)
    · by_cases h6 : k = 6
      · exact Or.inl h6
      · right
        rw [pa_n_mod, if_neg (Nat.lt_irrefl _)]
  exact ⟨e, pa_ok_of e (Nat.mod_lt _ (pa_pos k))⟩
theorem pa_pre_up {p k : Nat} (hk : k < pa_d p) : pa_up (p % 2 ^ (5 * (k + 1))) = p % 2 ^ (5 * k) ∧ pa_last (p % 2 ^ (5 * (k + 1))) = pa_n p k ∧ p % 2 ^ (5 * (k + 1)) ≠ 0 := by
  obtain ⟨e, -⟩ := pa_pre (p := p) (k := k + 1) (by omega)
  have hn : pa_n (p % 2 ^ (5 * (k + 1))) k = pa_n p k := by rw [pa_n_mod, if_pos (by omega)]
  refine ⟨?_, ?_, ?_⟩
  · unfold pa_up
    rw [e, show k + 1 - 1 = k by omega, Nat.mod_mod_of_dvd]
    exact Nat.pow_dvd_pow 2 (by omega)
  · unfold pa_last
    rw [e, show k + 1 - 1 = k by omega]
    exact hn
  · intro z
    rw [z] at hn
    have : pa_n 0 k = 0 := by unfold pa_n; rw [Nat.zero_div]
    rw [this] at hn
    exact (pa_d_spec p).2.1 k hk hn.symm
theorem pa_full {p : Nat} (h : pa_ok p = true) : p % 2 ^ (5 * pa_d p) = p := Nat.mod_eq_of_lt (pa_ok_lt h)
theorem pa_d_pos {p : Nat} (h : pa_ok p = true) (h0 : p ≠ 0) : 1 ≤ pa_d p := by
  apply Nat.pos_of_ne_zero
  intro z
  have := pa_ok_lt h
  rw [z] at this
  have : p < 1 := this
  omega
theorem pa_split {p : Nat} (h : pa_ok p = true) (h0 : p ≠ 0) : p = pa_up p + pa_last p * 2 ^ (5 * (pa_d p - 1)) ∧ pa_d (pa_up p) = pa_d p - 1 ∧ pa_ok (pa_up p) = true ∧ 1 ≤ pa_last p ∧ pa_last p ≤ 31 := by
  have hd := pa_d_pos h h0
  have hlt := pa_ok_lt h
  obtain ⟨g1, g2, g3⟩ := pa_d_spec p
  obtain ⟨e1, e2⟩ := pa_pre (p := p) (k := pa_d p - 1) (by omega)
  have hq : p / 2 ^ (5 * (pa_d p - 1)) < 32 := by
    rw [Nat.div_lt_iff_lt_mul (pa_pos _)]
    have : 2 ^ (5 * pa_d p) = 32 * 2 ^ (5 * (pa_d p - 1)) := by
      rw [show 5 * pa_d p = 5 + 5 * (pa_d p - 1) by omega, Nat.pow_add]
    omega
  have hl : pa_last p = p / 2 ^ (5 * (pa_d p - 1)) := by
    unfold pa_last pa_n
    exact Nat.mod_eq_of_lt hq
  have hne : pa_last p ≠ 0 := g2 (pa_d p - 1) (by omega)
  refine ⟨?_, e1, e2, by omega, by omega⟩
  rw [hl, Nat.mul_comm]
  exact (Nat.mod_add_div p _).symm
theorem pa_inj {p q : Nat} (hp : pa_ok p = true) (hp0 : p ≠ 0) (hq : pa_ok q = true) (hq0 : q ≠ 0) (h1 : pa_up p = pa_up q) (h2 : pa_last p = pa_last q) : p = q := by
  obtain ⟨a1, a2, -⟩ := pa_split hp hp0
  obtain ⟨b1, b2, -⟩ := pa_split hq hq0
  have := pa_d_pos hp hp0
  have := pa_d_pos hq hq0
  have hd : pa_d p = pa_d q := by
    rw [h1] at a2
    omega
  rw [a1, b1, h1, h2, hd]
abbrev te_T : Type := Nat → Nat × Nat × List Int32
def tP (T : te_T) (e : Nat) : Nat := (T e).1
def tK (T : te_T) (e : Nat) : Nat := (T e).2.1
def tB (T : te_T) (e : Nat) : List Int32 := (T e).2.2
def te_at (T : te_T) (q p : Nat) : Prop := (q = 0 ∧ p = 0) ∨ ∃ e, e < 10 ∧ q = e + 1 ∧ p ≠ 0 ∧ tP T e = p
def te_dir (T : te_T) (p : Nat) : Prop := p = 0 ∨ ∃ e, e < 10 ∧ tP T e = p ∧ tK T e = 2
def te_fb (T : te_T) : Nat := tr_sm (fun s => decide (tP T (s - 1) ≠ 0 ∧ tK T (s - 1) = 1)) (fun s => (tB T (s - 1)).length) 10
def tV (T : te_T) : Prop := (∀ e, e < 10 → tP T e ≠ 0 → pa_ok (tP T e) = true ∧ (tK T e = 1 ∨ tK T e = 2) ∧ (tB T e).length ≤ 16 ∧ bt_ok (tB T e) ∧ te_dir T (pa_up (tP T e))) ∧
  (∀ e e', e < 10 → e' < 10 → tP T e ≠ 0 → tP T e = tP T e' → e = e') ∧ te_fb T ≤ 80
def tt (S : tr_S) (T : te_T) : Prop := tr_rt S ∧ ∀ e, e < 10 → (tP T e = 0 ↔ tr_K S (e + 1) = 0) ∧ (tP T e ≠ 0 → tr_K S (e + 1) = tK T e ∧ tr_N S (e + 1) = pa_last (tP T e) ∧ tr_B S (e + 1) = tB T e ∧ ∃ q, tr_P S (e + 1) = some q ∧ te_at T q (pa_up (tP T e)))
section TABLE
variable {S : tr_S} {T : te_T}
theorem te_at_fun {q q' p : Nat} (hV : tV T) (h1 : te_at T q p) (h2 : te_at T q' p) : q = q' := by
  rcases h1 with ⟨rfl, rfl⟩ | ⟨e, he, rfl, hp, ep⟩
  · rcases h2 with ⟨rfl, -⟩ | ⟨e', he', rfl, hp', -⟩
    · rfl
    · exact absurd rfl hp'
  · rcases h2 with ⟨-, rfl⟩ | ⟨e', he', rfl, hp', ep'⟩
    · exact absurd rfl hp
    · have := hV.2.1 e e' he he' (by rw [ep]; exact hp) (ep.trans ep'.symm)
      rw [this]
theorem te_at_inj {q p p' : Nat} (h1 : te_at T q p) (h2 : te_at T q p') : p = p' := by
  rcases h1 with ⟨rfl, rfl⟩ | ⟨e, he, rfl, hp, ep⟩
  · rcases h2 with ⟨-, rfl⟩ | ⟨e', he', e2, -⟩
    · rfl
    · omega
  · rcases h2 with ⟨e2, -⟩ | ⟨e', he', e2, hp', ep'⟩
    · omega
    · have : e = e' := by omega
      subst this
      exact ep.symm.trans ep'
theorem te_at_le {q p : Nat} (h : te_at T q p) : q ≤ 10 := by
  rcases h with ⟨rfl, -⟩ | ⟨e, he, rfl, -⟩ <;> omega
theorem tt_c (h : tt S T) {d e : Nat} (he : e < 10) : tr_c S d (e + 1) = true ↔ tP T e ≠ 0 ∧ te_at T d (pa_up (tP T e)) ∧ tr_P S (e + 1) = some d := by
  unfold tr_c
  rw [decide_eq_true_eq]
  obtain ⟨g1, g2⟩ := h.2 e he
  constructor
  · rintro ⟨hk, hp⟩
    have h0 : tP T e ≠ 0 := fun z => hk (g1.mp z)
    obtain ⟨-, -, -, q, hq, ha⟩ := g2 h0
    rw [hq] at hp
    cases hp
    exact ⟨h0, ha, hq⟩
  · rintro ⟨h0, -, hp⟩
    exact ⟨fun z => h0 (g1.mpr z), hp⟩
theorem tt_c' (hV : tV T) (h : tt S T) {d e p : Nat} (he : e < 10) (hd : te_at T d p) : tr_c S d (e + 1) = true ↔ tP T e ≠ 0 ∧ pa_up (tP T e) = p := by
  rw [tt_c h he]
  constructor
  · rintro ⟨h0, ha, -⟩
    exact ⟨h0, te_at_inj ha hd⟩
  · rintro ⟨h0, hp⟩
    obtain ⟨-, -, -, q, hq, ha⟩ := (h.2 e he).2 h0
    rw [hp] at ha
    have e2 := te_at_fun hV ha hd
    subst e2
    exact ⟨h0, by rw [hp]; exact hd, hq⟩
theorem tt_at (hV : tV T) (h : tt S T) {p : Nat} (hp : pa_ok p = true) : ∀ (k : Nat) (o : Option Nat), k ≤ pa_d p → tr_at S p k o → (∀ q, o = some q → te_at T q (p % 2 ^ (5 * k))) ∧ (o = none → ∀ q, ¬ te_at T q (p % 2 ^ (5 * k))) := by
  intro k
  induction k with
  | zero =>
    intro o _ ho
    have e : p % 2 ^ (5 * 0) = 0 := by rw [Nat.mul_zero, Nat.pow_zero, Nat.mod_one]
    rw [e]
    have ho : o = some 0 := ho
    exact ⟨fun q hq => by rw [ho] at hq; cases hq; exact Or.inl ⟨rfl, rfl⟩, fun hn => by rw [ho] at hn; cases hn⟩
  | succ k ih =>
    intro o hk ⟨o', h1, h2⟩
    obtain ⟨i1, i2⟩ := ih o' (by omega) h1
    obtain ⟨e1, e2, e3⟩ := pa_pre_up (p := p) (k := k) (by omega)
    obtain ⟨-, e4⟩ := pa_pre (p := p) (k := k + 1) hk
    cases o' with
    | none =>
      have h2 : o = none := h2
      refine ⟨(fun q hq => by rw [h2] at hq; cases hq), fun _ q hq => ?_⟩
      rcases hq with ⟨-, z⟩ | ⟨e, he, -, -, ep⟩
      · exact e3 z
      · have hd := ((hV.1 e he (by rw [ep]; exact e3)).2.2.2.2)
        rw [ep, e1] at hd
        rcases hd with z | ⟨e', he', ep', -⟩
        · exact i2 rfl 0 (Or.inl ⟨rfl, z⟩)
        · by_cases z : p % 2 ^ (5 * k) = 0
          · exact i2 rfl 0 (Or.inl ⟨rfl, z⟩)
          · exact i2 rfl (e' + 1) (Or.inr ⟨e', he', rfl, z, ep'⟩)
    | some d =>
      have hd := i1 d rfl
      have key : ∀ e, e < 10 → ((tr_c S d (e + 1) = true ∧ tr_N S (e + 1) = pa_n p k) ↔ tP T e = p % 2 ^ (5 * (k + 1))) := by
        intro e he
        constructor
        · rintro ⟨hc, hn⟩
          obtain ⟨h0, hu⟩ := (tt_c' hV h he hd).mp hc
          have hN := ((h.2 e he).2 h0).2.1
          exact pa_inj (hV.1 e he h0).1 h0 e4 e3 (hu.trans e1.symm) ((hN.symm.trans hn).trans e2.symm)
        · intro ep
          have h0 : tP T e ≠ 0 := by rw [ep]; exact e3
          refine ⟨(tt_c' hV h he hd).mpr ⟨h0, by rw [ep]; exact e1⟩, ?_⟩
          rw [((h.2 e he).2 h0).2.1, ep]
          exact e2
      rcases h2 with ⟨s, hs, hs1, hs2, hc, hn⟩ | ⟨hn, hno⟩
      · obtain ⟨e, rfl⟩ : ∃ e, s = e + 1 := ⟨s - 1, by omega⟩
        have ep := (key e (by omega)).mp ⟨hc, hn⟩
        exact ⟨fun q hq => by rw [hs] at hq; cases hq; exact Or.inr ⟨e, by omega, rfl, e3, ep⟩, fun z => by rw [hs] at z; cases z⟩
      · refine ⟨(fun q hq => by rw [hn] at hq; cases hq), fun _ q hq => ?_⟩
        rcases hq with ⟨-, z⟩ | ⟨e, he, -, -, ep⟩
        · exact e3 z
        · exact hno (e + 1) (by omega) (by omega) ((key e he).mpr ep)
theorem tt_find (hV : tV T) (h : tt S T) {p : Nat} {o : Option Nat} (hp : pa_ok p = true) (ho : tr_at S p (pa_d p) o) : (∀ q, o = some q → te_at T q p) ∧ (o = none → ∀ q, ¬ te_at T q p) := by
  have := tt_at hV h hp (pa_d p) o (Nat.le_refl _) ho
  rw [pa_full hp] at this
  exact this
end TABLE
end
section
def cr_ok (T : te_T) (p : Nat) (y : Int32) (v e : Nat) : Prop := pa_ok p = true ∧ p ≠ 0 ∧ (v = 1 ∨ v = 2) ∧ y = nI v ∧ (∀ e', e' < 10 → tP T e' ≠ p) ∧ te_dir T (pa_up p) ∧ e < 10 ∧ tP T e = 0 ∧ ∀ j, j < e → tP T j ≠ 0
def fl_ok (T : te_T) (p e : Nat) : Prop := pa_ok p = true ∧ p ≠ 0 ∧ e < 10 ∧ tP T e = p ∧ tK T e = 1
def ap_bs (v : Int32) (n : Nat) : List Int32 := (List.range n).map fun i => (v + nI (37 * i)) &&& 255
theorem tP_up {T : te_T} {e j : Nat} {q : Nat × Nat × List Int32} : tP (fr_up T e q) j = if j = e then q.1 else tP T j := by
  unfold tP fr_up
  split <;> rfl
theorem tK_up {T : te_T} {e j : Nat} {q : Nat × Nat × List Int32} : tK (fr_up T e q) j = if j = e then q.2.1 else tK T j := by
  unfold tK fr_up
  split <;> rfl
theorem tB_up {T : te_T} {e j : Nat} {q : Nat × Nat × List Int32} : tB (fr_up T e q) j = if j = e then q.2.2 else tB T j := by
  unfold tB fr_up
  split <;> rfl
theorem te_at_up {T : te_T} {e q p : Nat} {x : Nat × Nat × List Int32} (h0 : tP T e = 0 ∨ tP T e = x.1) (h : te_at T q p) : te_at (fr_up T e x) q p := by
  rcases h with h | ⟨e', he', rfl, hp, ep⟩
  · exact Or.inl h
  · refine Or.inr ⟨e', he', rfl, hp, ?_⟩
    rw [tP_up]
    by_cases c : e' = e
    · subst c
      rw [if_pos rfl]
      rcases h0 with h0 | h0
      · exact absurd (ep.symm.trans h0) hp
      · rw [← h0]; exact ep
    · rw [if_neg c]; exact ep
section TREEOPS
variable {xs : List Int32} {h : pm_H} {b : Nat} {z : cz_N} {im : Nat → dp_P} {st ca : dp_K} {sd : Nat → List Int32 × dp_P} {ws ta : List Nat} {f : Bool} {S : tr_S} {T : te_T} {Q : Option Value → pm_H → Prop}
theorem tt_create {p v e d : Nat} (hok : tr_ok S) (htt : tt S T) (he : e < 10) (h0 : tP T e = 0) (hp0 : p ≠ 0) (hv : v = 1 ∨ v = 2) (hd : te_at T d (pa_up p)) : tt (tr_add S (e + 1) d (pa_last p) v) (fr_up T e (p, v, [])) := by
  refine ⟨tr_rt_add htt.1 (by omega), fun j hj => ?_⟩
  obtain ⟨g1, g2⟩ := htt.2 j hj
  rw [tr_add_K hok (by omega), tr_add_N hok (by omega), tr_add_P hok (by omega), tP_up, tK_up, tB_up]
  have hB : tr_B (tr_add S (e + 1) d (pa_last p) v) (j + 1) = if j + 1 = e + 1 then [] else tr_B S (j + 1) := rfl
  rw [hB]
  by_cases c : j = e
  · subst c
    rw [if_pos rfl, if_pos rfl, if_pos rfl, if_pos rfl, if_pos rfl, if_pos rfl, if_pos rfl]
    refine ⟨⟨fun q => absurd q hp0, fun q => by rcases hv with z | z <;> omega⟩, fun _ => ⟨rfl, rfl, rfl, d, rfl, te_at_up (Or.inl h0) hd⟩⟩
  · rw [if_neg c, if_neg c, if_neg c, if_neg (by omega), if_neg (by omega), if_neg (by omega), if_neg (by omega)]
    refine ⟨g1, fun q => ?_⟩
    obtain ⟨a1, a2, a3, w, a4, a5⟩ := g2 q
    exact ⟨a1, a2, a3, w, a4, te_at_up (Or.inl h0) a5⟩
theorem ct_D_create {p : Nat} {y : Int32} (hb : dp_R h b z im st ca sd ws ta f S) (hV : tV T) (htt : tt S T) (hp : p < 2 ^ 32)
    (k1 : ∀ v e, cr_ok T p y v e → ∀ (h' : pm_H) (S' : tr_S), dp_R h' b z im st ca sd ws ta f S' → tt S' (fr_up T e (p, v, [])) → fr_ag b (b + 185) h h' → Q (some (.int 1)) h')
    (k0 : (∀ v e, ¬ cr_ok T p y v e) → Q (some (.int 0)) h) : pm_X xs 4 mD_create [.ref b, .int (nI p), .int y] h Q := by
  have ht := dp_t_c b f
  obtain ⟨c1, c2, c3, c4, c5, c6, c7, c8, c9, c10, c11, c12, c13, c14⟩ := id hb
  have hok : tr_ok S := c13.2.2.2.2.2.2
  have no : ∀ (v3 v4 : Value), (∀ v e, ¬ cr_ok T p y v e) → pm_W xs 4 mD_create 21 [.ref b, .int (nI p), .int y, v3, v4] [] h Q := by
    intro v3 v4 hq
    (repeat (first | refine pm_W.ts rfl rfl ?_ | refine pm_W.tl rfl rfl ?_))
    exact pm_W.iret rfl rfl (k0 hq)
  unfold pm_X
  (repeat (first | refine pm_W.ts rfl rfl ?_ | refine pm_W.tl rfl rfl ?_))
  refine pm_W.callS (d' := 2) rfl rfl rfl rfl (fr_ble rfl) (fr_ble rfl) (ct_T_isPath hp ?_)
  refine pm_W.ifz rfl (fun c => no _ _ (fun v e q => by have q1 := q.1; rw [fr_b0 c] at q1; cases q1)) (fun c => ?_)
  have hpo := fr_b1 c
  have hp30 := pa_ok_30 hpo
  (repeat (first | refine pm_W.ts rfl rfl ?_ | refine pm_W.tl rfl rfl ?_))
  refine pm_W.ifz rfl (fun c2 => ?_) (fun c2 => ?_)
  · have c2 : nI p = nI 0 := c2
    rw [nI_eq (by omega) (by omega)] at c2
    exact no _ _ (fun v e q => q.2.1 c2)
  · have c2 : ¬ nI p = nI 0 := c2
    rw [nI_eq (by omega) (by omega)] at c2
    obtain ⟨s1, s2, s3, s4, s5⟩ := pa_split hpo c2
    have hup30 := pa_ok_30 s3
    have go : ∀ v : Nat, (v = 1 ∨ v = 2) → y = nI v → pm_W xs 4 mD_create 23 [.ref b, .int (nI p), .int y, pm_none, pm_none] [] h Q := by
      intro v hv hy
      subst hy
      have no2 : ∀ (v3 v4 : Value), (∀ v' e, ¬ cr_ok T p (nI v) v' e) → pm_W xs 4 mD_create 66 [.ref b, .int (nI p), .int (nI v), v3, v4] [] h Q := by
        intro v3 v4 hq
        (repeat (first | refine pm_W.ts rfl rfl ?_ | refine pm_W.tl rfl rfl ?_))
        exact pm_W.iret rfl rfl (k0 hq)
      (repeat (first | refine pm_W.ts rfl rfl ?_ | refine pm_W.tl rfl rfl ?_ | refine pm_W.get rfl rfl c1 rfl ?_))
      refine pm_W.callS (d' := 2) rfl rfl rfl rfl (fr_ble rfl) (fr_ble rfl) (ct_T_pathOfParent hp ?_)
      refine pm_W.callV rfl rfl rfl rfl (fr_ble rfl) c13.1 (fr_ble rfl) (ct_T_find c13 (p := pa_up p) (by omega) (fun hn => by rw [s3] at hn; cases hn) (fun _ o ho => ?_))
      obtain ⟨f1, f2⟩ := tt_find hV htt s3 ho
      (repeat (first | refine pm_W.ts rfl rfl ?_ | refine pm_W.tl rfl rfl ?_))
      refine pm_W.callS (d' := 2) rfl rfl rfl rfl (fr_ble rfl) (fr_ble rfl) (ct_T_lastNameOf hp ?_)
      (repeat (first | refine pm_W.ts rfl rfl ?_ | refine pm_W.tl rfl rfl ?_ | refine pm_W.get rfl rfl c1 rfl ?_))
      cases o with
      | none =>
        refine pm_W.callV (d' := 1) rfl rfl rfl rfl (fr_ble rfl) c13.1 (fr_ble rfl) (ct_T_isDirectoryN c13 ?_)
        refine pm_W.ifz rfl (fun c3 => no2 _ _ (fun v' e q => ?_)) (fun c3 => absurd rfl c3)
        rcases q.2.2.2.2.2.1 with w | ⟨e', he', ep, -⟩
        · exact f2 rfl 0 (Or.inl ⟨rfl, w⟩)
        · by_cases w : pa_up p = 0
          · exact f2 rfl 0 (Or.inl ⟨rfl, w⟩)
          · exact f2 rfl (e' + 1) (Or.inr ⟨e', he', rfl, w, ep⟩)
      | some d =>
        have hd := f1 d rfl
        have hd10 := te_at_le hd
        have hdir : tr_K S d = 2 ↔ te_dir T (pa_up p) := by
          rcases hd with ⟨rfl, w⟩ | ⟨e', he', rfl, w, ep⟩
          · exact ⟨fun _ => Or.inl w, fun _ => htt.1.1⟩
          · have hK := ((htt.2 e' he').2 (by rw [ep]; exact w)).1
            constructor
            · intro q; exact Or.inr ⟨e', he', ep, hK.symm.trans q⟩
            · rintro (q | ⟨e2, he2, ep2, hk2⟩)
              · exact absurd q w
              · have : e' = e2 := hV.2.1 e' e2 he' he2 (by rw [ep]; exact w) (ep.trans ep2.symm)
                subst this
                exact hK.trans hk2
        refine pm_W.callV (d' := 1) rfl rfl rfl rfl (fr_ble rfl) c13.1 (fr_ble rfl) (ct_T_isDirectory c13 (s := d) (by omega) ?_)
        refine pm_W.ifz rfl (fun c3 => no2 _ _ (fun v' e q => ?_)) (fun c3 => ?_)
        · exact of_decide_eq_false (fr_b0 c3) (hdir.mpr q.2.2.2.2.2.1)
        · have hdT := hdir.mp (of_decide_eq_true (fr_b1 c3))
          have key : ∀ e', e' < 10 → ((tr_c S d (e' + 1) = true ∧ tr_N S (e' + 1) = pa_last p) ↔ tP T e' = p) := by
            intro e' he'
            constructor
            · rintro ⟨hc, hn⟩
              obtain ⟨h0, hu⟩ := (tt_c' hV htt he' hd).mp hc
              exact pa_inj (hV.1 e' he' h0).1 h0 hpo c2 hu (((htt.2 e' he').2 h0).2.1.symm.trans hn)
            · intro ep
              have h0 : tP T e' ≠ 0 := by rw [ep]; exact c2
              exact ⟨(tt_c' hV htt he' hd).mpr ⟨h0, by rw [ep]⟩, by rw [((htt.2 e' he').2 h0).2.1, ep]⟩
          (repeat (first | refine pm_W.ts rfl rfl ?_ | refine pm_W.tl rfl rfl ?_ | refine pm_W.get rfl rfl c1 rfl ?_))
          refine pm_W.callV (d' := 1) rfl rfl rfl rfl (fr_ble rfl) c13.1 (fr_ble rfl) (ct_T_childNamed c13 hd10 s5 (fun s hs1 hs2 hc hn => ?_) (fun hno => ?_))
          · obtain ⟨e', rfl⟩ : ∃ e', s = e' + 1 := ⟨s - 1, by omega⟩
            have ep := (key e' (by omega)).mp ⟨hc, hn⟩
            (repeat (first | refine pm_W.ts rfl rfl ?_ | refine pm_W.tl rfl rfl ?_))
            refine pm_W.icmp rfl (fun c4 => absurd c4 (fr_not1 (by omega))) (fun c4 => no2 _ _ (fun v' e q => q.2.2.2.2.1 e' (by omega) ep))
          · have hfree : ∀ e', e' < 10 → tP T e' ≠ p := fun e' he' ep => hno (e' + 1) (by omega) (by omega) ((key e' he').mpr ep)
            (repeat (first | refine pm_W.ts rfl rfl ?_ | refine pm_W.tl rfl rfl ?_))
            refine pm_W.icmp rfl (fun c4 => ?_) (fun c4 => absurd rfl c4)
            (repeat (first | refine pm_W.ts rfl rfl ?_ | refine pm_W.tl rfl rfl ?_ | refine pm_W.get rfl rfl c1 rfl ?_))
            refine pm_W.callV (d' := 1) rfl rfl rfl rfl (fr_ble rfl) c13.1 (fr_ble rfl) (ct_T_addEntry c13 hd10 s5 (by rcases hv with w | w <;> omega) (fun s hs1 hs2 hs3 hs4 g hg hag => ?_) (fun hfull => ?_))
            · obtain ⟨e, rfl⟩ : ∃ e, s = e + 1 := ⟨s - 1, by omega⟩
              have h0 : tP T e = 0 := (htt.2 e (by omega)).1.mpr hs3
              have cr : cr_ok T p (nI v) v e := ⟨hpo, c2, hv, rfl, hfree, hdT, by omega, h0, fun j hj q => hs4 (j + 1) (by omega) (by omega) ((htt.2 j (by omega)).1.mp q)⟩
              (repeat (first | refine pm_W.ts rfl rfl ?_ | refine pm_W.tl rfl rfl ?_))
              refine pm_W.icmp rfl (fun c5 => absurd c5 (fr_not1 (by omega))) (fun c5 => ?_)
              (repeat (first | refine pm_W.ts rfl rfl ?_ | refine pm_W.tl rfl rfl ?_))
              refine pm_W.goto rfl ?_
              exact pm_W.iret rfl rfl (k1 v e cr g _ (hb.utr hg hag) (tt_create hok htt (by omega) h0 c2 hv hd) (hag.wide (by omega) (by omega)))
            · (repeat (first | refine pm_W.ts rfl rfl ?_ | refine pm_W.tl rfl rfl ?_))
              refine pm_W.icmp rfl (fun c5 => ?_) (fun c5 => absurd rfl c5)
              (repeat (first | refine pm_W.ts rfl rfl ?_ | refine pm_W.tl rfl rfl ?_))
              refine pm_W.iret rfl rfl (k0 (fun v' e q => ?_))
              exact hfull (e + 1) (by omega) (by have := q.2.2.2.2.2.2.1; omega) ((htt.2 e q.2.2.2.2.2.2.1).1.mp q.2.2.2.2.2.2.2.1)
    (repeat (first | refine pm_W.ts rfl rfl ?_ | refine pm_W.tl rfl rfl ?_))
    refine pm_W.icmp rfl (fun c3 => go 1 (Or.inl rfl) c3) (fun c3 => ?_)
    (repeat (first | refine pm_W.ts rfl rfl ?_ | refine pm_W.tl rfl rfl ?_))
    refine pm_W.icmp rfl (fun c4 => go 2 (Or.inr rfl) c4) (fun c4 => no _ _ (fun v e q => ?_))
    rcases q.2.2.1 with w | w
    · subst w; exact c3 q.2.2.2.1
    · subst w; exact c4 q.2.2.2.1
theorem ct_T_fileAtT {a p : Nat} (hb : tr_R h a S) (hV : tV T) (htt : tt S T) (hp : p < 2 ^ 32) (k1 : ∀ e, fl_ok T p e → Q (some (.ref (a + 5 + 2 * (e + 1)))) h) (k0 : (∀ e, ¬ fl_ok T p e) → Q (some .null) h) : pm_X xs 4 mT_fileAt [.ref a, .int (nI p)] h Q := by
  refine ct_T_fileAt hb hp (fun hpo s hs hs10 hK => ?_) (fun hno => k0 (fun e q => ?_))
  · rcases (tt_find hV htt hpo hs).1 s rfl with ⟨rfl, -⟩ | ⟨e, he, rfl, hp0, ep⟩
    · rw [htt.1.1] at hK
      omega
    · exact k1 e ⟨hpo, hp0, he, ep, (((htt.2 e he).2 (by rw [ep]; exact hp0)).1).symm.trans hK⟩
  · obtain ⟨q1, q2, q3, q4, q5⟩ := q
    obtain ⟨o, ho, hK⟩ := hno q1
    obtain ⟨f1, f2⟩ := tt_find hV htt q1 ho
    have hat : te_at T (e + 1) p := Or.inr ⟨e, q3, rfl, q2, q4⟩
    cases o with
    | none => exact f2 rfl _ hat
    | some s =>
      have := te_at_fun hV (f1 s rfl) hat
      subst this
      exact hK _ rfl ((((htt.2 e q3).2 (by rw [q4]; exact q2)).1).trans q5)
theorem tt_setB {p e : Nat} {bs : List Int32} (htt : tt S T) (he : e < 10) (ep : tP T e = p) (hp : p ≠ 0) (hk : tK T e = 1) : tt (tr_setB S (e + 1) bs) (fr_up T e (p, 1, bs)) := by
  refine ⟨htt.1, fun j hj => ?_⟩
  obtain ⟨g1, g2⟩ := htt.2 j hj
  have hK : tr_K (tr_setB S (e + 1) bs) (j + 1) = tr_K S (j + 1) := rfl
  have hN : tr_N (tr_setB S (e + 1) bs) (j + 1) = tr_N S (j + 1) := rfl
  have hP : tr_P (tr_setB S (e + 1) bs) (j + 1) = tr_P S (j + 1) := rfl
  have hB : tr_B (tr_setB S (e + 1) bs) (j + 1) = if j + 1 = e + 1 then bs else tr_B S (j + 1) := rfl
  rw [hK, hN, hP, hB, tP_up, tK_up, tB_up]
  by_cases c : j = e
  · subst c
    rw [if_pos rfl, if_pos rfl, if_pos rfl, if_pos rfl]
    rw [ep] at g1 g2
    refine ⟨g1, fun q => ?_⟩
    obtain ⟨a1, a2, a3, w, a4, a5⟩ := g2 q
    exact ⟨a1.trans hk, a2, rfl, w, a4, te_at_up (Or.inr ep) a5⟩
  · rw [if_neg c, if_neg c, if_neg c, if_neg (by omega)]
    refine ⟨g1, fun q => ?_⟩
    obtain ⟨a1, a2, a3, w, a4, a5⟩ := g2 q
    exact ⟨a1, a2, a3, w, a4, te_at_up (Or.inr ep) a5⟩
theorem tt_fb (htt : tt S T) : tr_fb S = te_fb T := by
  unfold tr_fb te_fb
  apply tr_sm_eq
  intro s hs1 hs2
  obtain ⟨e, rfl⟩ : ∃ e, s = e + 1 := ⟨s - 1, by omega⟩
  obtain ⟨g1, g2⟩ := htt.2 e (by omega)
  rw [show e + 1 - 1 = e by omega]
  by_cases c : tP T e = 0
  · rw [if_neg (by unfold tr_f; rw [g1.mp c]; decide), if_neg (by simp [c])]
  · obtain ⟨a1, a2, a3, -⟩ := g2 c
    unfold tr_f
    rw [a1, a3]
    by_cases d : tK T e = 1
    · rw [if_pos (decide_eq_true d), if_pos (decide_eq_true ⟨c, d⟩)]
    · rw [if_neg (by rw [decide_eq_false d]; decide), if_neg (by rw [decide_eq_false (fun q => d q.2)]; decide)]
theorem ct_D_edit {p : Nat} {x v : Int32} (hb : dp_R h b z im st ca sd ws ta f S) (hV : tV T) (htt : tt S T) (hp : p < 2 ^ 32)
    (k1 : ∀ e i, fl_ok T p e → i < (tB T e).length → x = nI i → ∀ (h' : pm_H) (S' : tr_S), dp_R h' b z im st ca sd ws ta f S' → tt S' (fr_up T e (p, 1, (tB T e).set i (v &&& 255))) → fr_ag b (b + 185) h h' → Q (some (.int 1)) h')
    (k0 : (∀ e i, fl_ok T p e → i < (tB T e).length → x ≠ nI i) → Q (some (.int 0)) h) : pm_X xs 5 mD_edit [.ref b, .int (nI p), .int x, .int v] h Q := by
  have ht := dp_t_c b f
  obtain ⟨c1, c2, c3, c4, c5, c6, c7, c8, c9, c10, c11, c12, c13, c14⟩ := id hb
  unfold pm_X
  (repeat (first | refine pm_W.ts rfl rfl ?_ | refine pm_W.tl rfl rfl ?_ | refine pm_W.get rfl rfl c1 rfl ?_))
  refine pm_W.callV rfl rfl rfl rfl (fr_ble rfl) c13.1 (fr_ble rfl) (ct_T_fileAtT c13 hV htt hp (fun e he => ?_) (fun hno => ?_))
  · obtain ⟨q1, q2, q3, q4, q5⟩ := id he
    have hB := c13.2.2.2.2.2.1 (e + 1) (by omega)
    rw [((htt.2 e q3).2 (by rw [q4]; exact q2)).2.2.1] at hB
    obtain ⟨ys, b1, b2, b3, b4, b5, b6⟩ := id hB
    (repeat (first | refine pm_W.ts rfl rfl ?_ | refine pm_W.tl rfl rfl ?_))
    refine pm_W.ifnullR rfl ?_
    (repeat (first | refine pm_W.ts rfl rfl ?_ | refine pm_W.tl rfl rfl ?_))
    refine pm_W.callV (d' := 1) rfl rfl rfl rfl (fr_ble rfl) b1 (fr_ble rfl) (ct_B_change hB (fun hn => ?_) (fun t g ht2 et hg hag => ?_))
    · refine pm_W.ifz rfl (fun c => ?_) (fun c => absurd rfl c)
      (repeat (first | refine pm_W.ts rfl rfl ?_ | refine pm_W.tl rfl rfl ?_))
      refine pm_W.iret rfl rfl (k0 (fun e2 i h1 h2 h3 => ?_))
      have : e2 = e := hV.2.1 e2 e h1.2.2.1 q3 (by rw [h1.2.2.2.1]; exact q2) (h1.2.2.2.1.trans q4.symm)
      subst this
      rw [h3, show bt_has (tB T e2) (nI i) = true from decide_eq_true ⟨nI_pos' (by omega), nI_lt h2 (by omega)⟩] at hn
      cases hn
    · refine pm_W.ifz rfl (fun c => absurd (show (1 : Int32) = 0 from c) (by decide)) (fun c => ?_)
      (repeat (first | refine pm_W.ts rfl rfl ?_ | refine pm_W.tl rfl rfl ?_))
      refine pm_W.goto rfl ?_
      exact pm_W.iret rfl rfl (k1 e t he ht2 et g _ (hb.utr (c13.setB (by omega) hg hag) (hag.wide (by omega) (by omega))) (tt_setB htt q3 q4 q2 q5) (hag.wide (by omega) (by omega)))
  · (repeat (first | refine pm_W.ts rfl rfl ?_ | refine pm_W.tl rfl rfl ?_))
    refine pm_W.ifnullN rfl ?_
    (repeat (first | refine pm_W.ts rfl rfl ?_ | refine pm_W.tl rfl rfl ?_))
    exact pm_W.iret rfl rfl (k0 (fun e i h1 => absurd h1 (hno e)))
end TREEOPS
end
section
def ap_ok (T : te_T) (p n e : Nat) : Prop := fl_ok T p e ∧ 1 ≤ n ∧ (tB T e).length + n ≤ 16 ∧ te_fb T + n ≤ 80
theorem ap_bs_succ {v : Int32} {n : Nat} : ap_bs v (n + 1) = ap_bs v n ++ [(v + nI (37 * n)) &&& 255] := by
  simp [ap_bs, List.range_succ]
theorem ap_bs_len {v : Int32} {n : Nat} : (ap_bs v n).length = n := by simp [ap_bs]
def rm_g (T : te_T) (p e : Nat) : Bool := decide (tP T e ≠ 0 ∧ tP T e % 2 ^ (5 * pa_d p) = p)
def rm_T (T : te_T) (p : Nat) : te_T := fun e => if rm_g T p e = true then (0, 0, []) else T e
section TREEOPS2
variable {xs : List Int32} {h : pm_H} {b : Nat} {z : cz_N} {im : Nat → dp_P} {st ca : dp_K} {sd : Nat → List Int32 × dp_P} {ws ta : List Nat} {f : Bool} {S : tr_S} {T : te_T} {Q : Option Value → pm_H → Prop}
theorem ct_D_append {p : Nat} {v x : Int32} (hb : dp_R h b z im st ca sd ws ta f S) (hV : tV T) (htt : tt S T) (hp : p < 2 ^ 32)
    (k1 : ∀ e n, ap_ok T p n e → x = nI n → ∀ (h' : pm_H) (S' : tr_S), dp_R h' b z im st ca sd ws ta f S' → tt S' (fr_up T e (p, 1, tB T e ++ ap_bs v n)) → fr_ag b (b + 185) h h' → Q (some (.int (nI ((tB T e).length + n)))) h')
    (k0 : (∀ e n, ap_ok T p n e → x ≠ nI n) → Q (some (.int (-1))) h) : pm_X xs 5 mD_append [.ref b, .int (nI p), .int v, .int x] h Q := by
  have ht := dp_t_c b f
  obtain ⟨c1, c2, c3, c4, c5, c6, c7, c8, c9, c10, c11, c12, c13, c14⟩ := id hb
  unfold pm_X
  (repeat (first | refine pm_W.ts rfl rfl ?_ | refine pm_W.tl rfl rfl ?_ | refine pm_W.get rfl rfl c1 rfl ?_))
  refine pm_W.callV rfl rfl rfl rfl (fr_ble rfl) c13.1 (fr_ble rfl) (ct_T_fileAtT c13 hV htt hp (fun e he => ?_) (fun hno => ?_))
  · obtain ⟨q1, q2, q3, q4, q5⟩ := id he
    have hB := c13.2.2.2.2.2.1 (e + 1) (by omega)
    rw [((htt.2 e q3).2 (by rw [q4]; exact q2)).2.2.1] at hB
    have hBl : (tB T e).length ≤ 16 := by obtain ⟨ys, -, -, -, -, g, -⟩ := id hB; exact g
    have uniq : ∀ {e2 n : Nat}, ap_ok T p n e2 → e2 = e := fun h1 => hV.2.1 _ e h1.1.2.2.1 q3 (by rw [h1.1.2.2.2.1]; exact q2) (h1.1.2.2.2.1.trans q4.symm)
    obtain ⟨ys, b1, -⟩ := id hB
    have no1 : (∀ e n, ap_ok T p n e → x ≠ nI n) → pm_W xs 5 mD_append 26 [.ref b, .int (nI p), .int v, .int x, .ref (dp_t b f + 5 + 2 * (e + 1)), pm_none] [] h Q := by
      intro hq
      (repeat (first | refine pm_W.ts rfl rfl ?_ | refine pm_W.tl rfl rfl ?_))
      exact pm_W.iret rfl rfl (k0 hq)
    have no2 : (∀ e n, ap_ok T p n e → x ≠ nI n) → pm_W xs 5 mD_append 54 [.ref b, .int (nI p), .int v, .int x, .ref (dp_t b f + 5 + 2 * (e + 1)), pm_none] [] h Q := by
      intro hq
      (repeat (first | refine pm_W.ts rfl rfl ?_ | refine pm_W.tl rfl rfl ?_))
      exact pm_W.iret rfl rfl (k0 hq)
    (repeat (first | refine pm_W.ts rfl rfl ?_ | refine pm_W.tl rfl rfl ?_))
    refine pm_W.ifnullR rfl ?_
    (repeat (first | refine pm_W.ts rfl rfl ?_ | refine pm_W.tl rfl rfl ?_))
    refine pm_W.icmp rfl (fun c => no1 (fun e2 n h1 h2 => ?_)) (fun c => ?_)
    · have c : x < nI 1 := c
      have := h1.2.1
      have h3 := h1.2.2.1
      rw [h2, nI_ltI (by omega) (by omega)] at c
      omega
    · have c : ¬ x < nI 1 := c
      (repeat (first | refine pm_W.ts rfl rfl ?_ | refine pm_W.tl rfl rfl ?_))
      refine pm_W.icmp rfl (fun d => ?_) (fun d => no1 (fun e2 n h1 h2 => ?_))
      · have d : x ≤ nI 16 := d
        obtain ⟨n, hn, rfl⟩ := fr_nat (x := x) (by
          rw [fr_lt, nI_toInt (by omega)] at c
          rw [fr_le]
          show 0 ≤ x.toInt
          omega)
        rw [nI_ltI hn (by omega)] at c
        rw [nI_leI hn (by omega)] at d
        (repeat (first | refine pm_W.ts rfl rfl ?_ | refine pm_W.tl rfl rfl ?_))
        refine pm_W.callV (d' := 0) rfl rfl rfl rfl (fr_ble rfl) b1 (fr_ble rfl) (ct_B_count hB ?_)
        (iterate 2 (first | refine pm_W.ts rfl rfl ?_ | refine pm_W.tl rfl rfl ?_))
        rw [nI_add]
        (iterate 1 (first | refine pm_W.ts rfl rfl ?_ | refine pm_W.tl rfl rfl ?_))
        refine pm_W.icmp rfl (fun g1 => no2 (fun e2 n2 h1 h2 => ?_)) (fun g1 => ?_)
        · have g1 : nI 16 < nI ((tB T e).length + n) := g1
          rw [nI_ltI (by omega) (by omega)] at g1
          have e3 := uniq h1
          subst e3
          have h3 := h1.2.2.1
          rw [nI_eq (by omega) (by omega)] at h2
          omega
        · have g1 : ¬ nI 16 < nI ((tB T e).length + n) := g1
          rw [nI_ltI (by omega) (by omega)] at g1
          have hfb := hV.2.2
          (repeat (first | refine pm_W.ts rfl rfl ?_ | refine pm_W.tl rfl rfl ?_ | refine pm_W.get rfl rfl c1 rfl ?_))
          refine pm_W.callV (d' := 1) rfl rfl rfl rfl (fr_ble rfl) c13.1 (fr_ble rfl) (ct_T_fileBytes c13 ?_)
          rw [show tr_sm (tr_f S) (fun s => (tr_B S s).length) 10 = te_fb T from tt_fb htt]
          (iterate 2 (first | refine pm_W.ts rfl rfl ?_ | refine pm_W.tl rfl rfl ?_))
          rw [nI_add]
          (iterate 1 (first | refine pm_W.ts rfl rfl ?_ | refine pm_W.tl rfl rfl ?_))
          refine pm_W.icmp rfl (fun g2 => ?_) (fun g2 => no2 (fun e2 n2 h1 h2 => ?_))
          · have g2 : nI (te_fb T + n) ≤ nI 80 := g2
            rw [nI_leI (by omega) (by omega)] at g2
            have loop : ∀ (r i : Nat) (g : pm_H), i + r = n → bt_R g (dp_t b f + 5 + 2 * (e + 1)) 16 (tB T e ++ ap_bs v i) → fr_ag (dp_t b f + 5 + 2 * (e + 1)) (dp_t b f + 5 + 2 * (e + 1) + 2) h g → pm_W xs 5 mD_append 59 [.ref b, .int (nI p), .int v, .int (nI n), .ref (dp_t b f + 5 + 2 * (e + 1)), .int (nI i)] [] g Q := by
              intro r
              induction r with
              | zero =>
                intro i g hi hg hag
                (repeat (first | refine pm_W.ts rfl rfl ?_ | refine pm_W.tl rfl rfl ?_))
                refine pm_W.icmp rfl (fun c => ?_) (fun c => ?_)
                · have hi : i = n := by omega
                  subst hi
                  obtain ⟨zs, w1, -⟩ := id hg
                  (repeat (first | refine pm_W.ts rfl rfl ?_ | refine pm_W.tl rfl rfl ?_))
                  refine pm_W.callV (d' := 0) rfl rfl rfl rfl (fr_ble rfl) w1 (fr_ble rfl) (ct_B_count hg ?_)
                  rw [List.length_append, ap_bs_len]
                  exact pm_W.iret rfl rfl (k1 e i ⟨he, by omega, by omega, g2⟩ rfl g _ (hb.utr (c13.setB (by omega) hg hag) (hag.wide (by omega) (by omega))) (tt_setB htt q3 q4 q2 q5) (hag.wide (by omega) (by omega)))
                · have c : ¬ nI n ≤ nI i := c
                  rw [nI_leI (by omega) (by omega)] at c
                  omega
              | succ r ih =>
                intro i g hi hg hag
                (repeat (first | refine pm_W.ts rfl rfl ?_ | refine pm_W.tl rfl rfl ?_))
                refine pm_W.icmp rfl (fun c => ?_) (fun c => ?_)
                · have c : nI n ≤ nI i := c
                  rw [nI_leI (by omega) (by omega)] at c
                  omega
                · have e1 : (Int8.ofInt 37).toInt32 * nI i = nI (37 * i) := fr_mul 37 i
                  obtain ⟨zs, w1, -⟩ := id hg
                  (repeat (first | refine pm_W.ts rfl rfl ?_ | refine pm_W.tl rfl rfl ?_))
                  rw [e1]
                  refine pm_W.callV (d' := 0) rfl rfl rfl rfl (fr_ble rfl) w1 (fr_ble rfl) (ct_B_add hg (fun q => by rw [List.length_append, ap_bs_len] at q; omega) (fun _ g3 hg3 hag3 => ?_))
                  rw [List.append_assoc, ← ap_bs_succ] at hg3
                  (iterate 2 (first | refine pm_W.ts rfl rfl ?_ | refine pm_W.tl rfl rfl ?_))
                  refine pm_W.goto rfl ?_
                  have := ih (i + 1) g3 (by omega) hg3 (hag.tr hag3)
                  rw [← fr_inc] at this
                  exact this
            (iterate 2 (first | refine pm_W.ts rfl rfl ?_ | refine pm_W.tl rfl rfl ?_))
            exact loop n 0 h (by omega) (by simpa [ap_bs] using hB) fr_ag.rf
          · have g2 : ¬ nI (te_fb T + n) ≤ nI 80 := g2
            rw [nI_leI (by omega) (by omega)] at g2
            have h3 := h1.2.2.2
            rw [nI_eq (by omega) (by omega)] at h2
            omega
      · have d : ¬ x ≤ nI 16 := d
        have h3 := h1.2.2.1
        rw [h2, nI_leI (by omega) (by omega)] at d
        omega
  · (repeat (first | refine pm_W.ts rfl rfl ?_ | refine pm_W.tl rfl rfl ?_))
    refine pm_W.ifnullN rfl ?_
    (repeat (first | refine pm_W.ts rfl rfl ?_ | refine pm_W.tl rfl rfl ?_))
    exact pm_W.iret rfl rfl (k0 (fun e n h1 => absurd h1.1 (hno e)))
theorem tt_lies (hV : tV T) (htt : tt S T) {t p : Nat} (hp : te_at T t p) (hp0 : p ≠ 0) : ∀ (fu q x : Nat), te_at T q x → pa_ok x = true → pa_d x < fu → (tr_lies S t fu (some q) = true ↔ ∃ k, k ≤ pa_d x ∧ x % 2 ^ (5 * k) = p) := by
  intro fu
  induction fu with
  | zero => intro q x _ _ h; omega
  | succ fu ih =>
    intro q x hq hx hd
    have e : tr_lies S t (fu + 1) (some q) = (Nat.beq q t || tr_lies S t fu (tr_P S q)) := rfl
    rw [e, Bool.or_eq_true]
    by_cases c : q = t
    · subst c
      refine ⟨fun _ => ⟨pa_d x, Nat.le_refl _, by rw [pa_full hx]; exact te_at_inj hq hp⟩, fun _ => Or.inl (Nat.beq_refl q)⟩
    · have hne : x ≠ p := fun z => c (te_at_fun hV (by rw [z] at hq; exact hq) hp)
      have hb : Nat.beq q t = false := by
        cases hq2 : Nat.beq q t with
        | false => rfl
        | true => exact absurd (Nat.eq_of_beq_eq_true hq2) c
      rw [hb]
      rcases hq with ⟨rfl, rfl⟩ | ⟨e', he', rfl, hx0, ep⟩
      · rw [htt.1.2.2]
        have hz : tr_lies S t fu none = false := by cases fu <;> rfl
        rw [hz]
        constructor
        · rintro (z | z) <;> cases z
        · rintro ⟨k, -, z⟩
          rw [Nat.zero_mod] at z
          exact absurd z.symm hp0
      · obtain ⟨-, -, -, w, hw, ha⟩ := (htt.2 e' he').2 (by rw [ep]; exact hx0)
        rw [ep] at ha
        obtain ⟨s1, s2, s3, -⟩ := pa_split hx hx0
        have hd1 := pa_d_pos hx hx0
        rw [hw]
        have i1 := ih w (pa_up x) ha s3 (by omega)
        rw [i1]
        constructor
        · rintro (z | ⟨k, hk, z⟩)
          · cases z
          · refine ⟨k, by omega, ?_⟩
            unfold pa_up at z
            rw [Nat.mod_mod_of_dvd] at z
            · exact z
            · exact Nat.pow_dvd_pow 2 (by omega)
        · rintro ⟨k, hk, z⟩
          right
          have hk2 : k ≠ pa_d x := fun w2 => hne (by rw [w2, pa_full hx] at z; exact z)
          refine ⟨k, by omega, ?_⟩
          unfold pa_up
          rw [Nat.mod_mod_of_dvd]
          · exact z
          · exact Nat.pow_dvd_pow 2 (by omega)
theorem tt_goes (hV : tV T) (htt : tt S T) {t p e : Nat} (hp : te_at T t p) (hpo : pa_ok p = true) (hp0 : p ≠ 0) (he : e < 10) : tr_g S t (e + 1) = rm_g T p e := by
  obtain ⟨g1, g2⟩ := htt.2 e he
  unfold tr_g rm_g tr_u
  by_cases c : tP T e = 0
  · rw [decide_eq_false (fun q => q (g1.mp c)), decide_eq_false (fun q => q.1 c)]
    rfl
  · have hx := (hV.1 e he c).1
    rw [decide_eq_true (show tr_K S (e + 1) ≠ 0 from fun q => c (g1.mpr q)), Bool.true_and]
    have h1 := tt_lies hV htt hp hp0 7 (e + 1) (tP T e) (Or.inr ⟨e, he, rfl, c, rfl⟩) hx (by have := (pa_d_spec (tP T e)).1; omega)
    by_cases d : tP T e % 2 ^ (5 * pa_d p) = p
    · rw [decide_eq_true ⟨c, d⟩]
      apply h1.mpr
      by_cases hle : pa_d p ≤ pa_d (tP T e)
      · exact ⟨pa_d p, hle, d⟩
      · refine ⟨pa_d (tP T e), Nat.le_refl _, ?_⟩
        rw [pa_full hx]
        rw [Nat.mod_eq_of_lt] at d
        · exact d
        · exact Nat.lt_of_lt_of_le (pa_ok_lt hx) (Nat.pow_le_pow_right (by omega) (by omega))
    · rw [decide_eq_false (fun q => d q.2)]
      cases hl : tr_lies S t 7 (some (e + 1)) with
      | false => rfl
      | true =>
        obtain ⟨k, hk, z⟩ := h1.mp hl
        have hkd := (pa_pre (p := tP T e) (k := k) hk).1
        rw [z] at hkd
        rw [← hkd] at z
        exact absurd z d
theorem tr_away_all {t : Nat} (hok : tr_ok S) : ∀ n, n ≤ 10 → ∀ s, tr_K (tr_away S t n) s = (if 1 ≤ s ∧ s ≤ n ∧ tr_g S t s = true then 0 else tr_K S s) ∧ tr_N (tr_away S t n) s = tr_N S s ∧ tr_P (tr_away S t n) s = tr_P S s ∧ tr_B (tr_away S t n) s = tr_B S s := by
  intro n
  induction n with
  | zero => intro _ s; exact ⟨by rw [if_neg (by omega)]; rfl, rfl, rfl, rfl⟩
  | succ n ih =>
    intro hn s
    obtain ⟨i1, i2, i3, i4⟩ := ih (by omega) s
    have ho := (tr_away_ok (t := t) hok n (by omega)).1
    unfold tr_away
    by_cases c : tr_g S t (n + 1) = true
    · rw [if_pos c]
      refine ⟨?_, i2, i3, i4⟩
      rw [tr_setK_K ho (by omega), i1]
      by_cases e : s = n + 1
      · subst e
        rw [if_pos rfl, if_pos ⟨by omega, Nat.le_refl _, c⟩]
      · rw [if_neg e]
        by_cases d : 1 ≤ s ∧ s ≤ n ∧ tr_g S t s = true
        · rw [if_pos d, if_pos ⟨d.1, by omega, d.2.2⟩]
        · rw [if_neg d, if_neg (fun q => d ⟨q.1, by omega, q.2.2⟩)]
    · rw [if_neg c]
      refine ⟨?_, i2, i3, i4⟩
      rw [i1]
      by_cases d : 1 ≤ s ∧ s ≤ n ∧ tr_g S t s = true
      · rw [if_pos d, if_pos ⟨d.1, by omega, d.2.2⟩]
      · rw [if_neg d, if_neg (fun q => d ⟨q.1, by
          by_cases e : s = n + 1
          · subst e; exact absurd q.2.2 c
          · omega, q.2.2⟩)]
theorem rm_tP {p e : Nat} : tP (rm_T T p) e = if rm_g T p e = true then 0 else tP T e := by
  unfold tP rm_T
  split <;> rfl
theorem rm_tK {p e : Nat} (h : rm_g T p e = false) : tK (rm_T T p) e = tK T e := by
  unfold tK rm_T
  rw [if_neg (by rw [h]; decide)]
theorem rm_tB {p e : Nat} (h : rm_g T p e = false) : tB (rm_T T p) e = tB T e := by
  unfold tB rm_T
  rw [if_neg (by rw [h]; decide)]
theorem rm_up {p e : Nat} (hV : tV T) (he : e < 10) (h0 : tP T e ≠ 0) (hs : rm_g T p e = false) {e' : Nat} (he' : e' < 10) (hu : tP T e' = pa_up (tP T e)) (hu0 : tP T e' ≠ 0) (hpo : pa_ok p = true) : rm_g T p e' = false := by
  cases hg : rm_g T p e' with
  | false => rfl
  | true =>
    have hg := of_decide_eq_true hg
    have hx := (hV.1 e he h0).1
    obtain ⟨s1, s2, s3, -⟩ := pa_split hx h0
    have hd1 := pa_d_pos hx h0
    have hs : ¬ (tP T e ≠ 0 ∧ tP T e % 2 ^ (5 * pa_d p) = p) := of_decide_eq_false hs
    exfalso
    apply hs
    refine ⟨h0, ?_⟩
    have hm := hg.2
    rw [hu] at hm
    by_cases hle : pa_d p ≤ pa_d (tP T e) - 1
    · unfold pa_up at hm
      rw [Nat.mod_mod_of_dvd] at hm
      · exact hm
      · exact Nat.pow_dvd_pow 2 (by omega)
    · have e1 : pa_up (tP T e) % 2 ^ (5 * pa_d p) = pa_up (tP T e) := Nat.mod_eq_of_lt (Nat.lt_of_lt_of_le (pa_ok_lt s3) (Nat.pow_le_pow_right (by omega) (by omega)))
      rw [e1] at hm
      rw [hm] at s2
      omega
theorem tt_remove (hV : tV T) (hok : tr_ok S) (htt : tt S T) {t p : Nat} (hp : te_at T t p) (hpo : pa_ok p = true) (hp0 : p ≠ 0) : tt (tr_away S t 10) (rm_T T p) := by
  have hall := tr_away_all (t := t) hok 10 (Nat.le_refl _)
  refine ⟨?_, fun e he => ?_⟩
  · obtain ⟨a1, a2, a3, -⟩ := hall 0
    refine ⟨?_, a2.trans htt.1.2.1, a3.trans htt.1.2.2⟩
    rw [a1, if_neg (by omega)]
    exact htt.1.1
  · obtain ⟨a1, a2, a3, a4⟩ := hall (e + 1)
    obtain ⟨g1, g2⟩ := htt.2 e he
    have hg := tt_goes hV htt hp hpo hp0 he
    rw [a1, a2, a3, a4, rm_tP]
    by_cases c : rm_g T p e = true
    · rw [if_pos c, if_pos ⟨by omega, by omega, by rw [hg]; exact c⟩]
      exact ⟨⟨fun _ => rfl, fun _ => rfl⟩, fun q => absurd rfl q⟩
    · rw [if_neg c, if_neg (fun q => c (by rw [← hg]; exact q.2.2))]
      have c' : rm_g T p e = false := by
        cases hq : rm_g T p e with
        | false => rfl
        | true => exact absurd hq c
      refine ⟨g1, fun h0 => ?_⟩
      obtain ⟨b1, b2, b3, w, b4, b5⟩ := g2 h0
      refine ⟨b1.trans (rm_tK c').symm, b2, b3.trans (rm_tB c').symm, w, b4, ?_⟩
      rcases b5 with b5 | ⟨e', he', rfl, hu0, ep⟩
      · exact Or.inl b5
      · refine Or.inr ⟨e', he', rfl, hu0, ?_⟩
        rw [rm_tP, if_neg (by rw [rm_up hV he h0 c' he' ep (by rw [ep]; exact hu0) hpo]; decide)]
        exact ep
theorem tr_cnt_eq {u w : Nat → Bool} : ∀ n, (∀ s, 1 ≤ s → s ≤ n → u s = w s) → tr_cnt u n = tr_cnt w n := by
  intro n
  induction n with
  | zero => intro _; rfl
  | succ n ih =>
    intro hs
    show _ + _ = _ + _
    rw [ih (fun s h1 h2 => hs s h1 (by omega)), hs (n + 1) (by omega) (Nat.le_refl _)]
theorem ct_D_remove {p : Nat} (hb : dp_R h b z im st ca sd ws ta f S) (hV : tV T) (htt : tt S T) (hp : p < 2 ^ 32)
    (k1 : pa_ok p = true → p ≠ 0 → (∃ e, e < 10 ∧ tP T e = p) → ∀ (h' : pm_H) (S' : tr_S), dp_R h' b z im st ca sd ws ta f S' → tt S' (rm_T T p) → fr_ag b (b + 185) h h' → Q (some (.int (nI (tr_cnt (fun s => rm_g T p (s - 1)) 10)))) h')
    (k0 : ¬ (pa_ok p = true ∧ p ≠ 0 ∧ ∃ e, e < 10 ∧ tP T e = p) → Q (some (.int (-1))) h) : pm_X xs 4 mD_remove [.ref b, .int (nI p)] h Q := by
  have ht := dp_t_c b f
  obtain ⟨c1, c2, c3, c4, c5, c6, c7, c8, c9, c10, c11, c12, c13, c14⟩ := id hb
  have hok : tr_ok S := c13.2.2.2.2.2.2
  have no : ∀ v2 : Value, ¬ (pa_ok p = true ∧ p ≠ 0 ∧ ∃ e, e < 10 ∧ tP T e = p) → pm_W xs 4 mD_remove 18 [.ref b, .int (nI p), v2] [] h Q := by
    intro v2 q
    (repeat (first | refine pm_W.ts rfl rfl ?_ | refine pm_W.tl rfl rfl ?_))
    exact pm_W.iret rfl rfl (k0 q)
  unfold pm_X
  (repeat (first | refine pm_W.ts rfl rfl ?_ | refine pm_W.tl rfl rfl ?_ | refine pm_W.get rfl rfl c1 rfl ?_))
  refine pm_W.callV rfl rfl rfl rfl (fr_ble rfl) c13.1 (fr_ble rfl) (ct_T_find c13 hp (fun hn => ?_) (fun hpo o ho => ?_))
  · (repeat (first | refine pm_W.ts rfl rfl ?_ | refine pm_W.tl rfl rfl ?_))
    refine pm_W.icmp rfl (fun c => no _ (fun q => by rw [hn] at q; cases q.1)) (fun c => absurd rfl c)
  · obtain ⟨f1, f2⟩ := tt_find hV htt hpo ho
    cases o with
    | none =>
      (repeat (first | refine pm_W.ts rfl rfl ?_ | refine pm_W.tl rfl rfl ?_))
      refine pm_W.icmp rfl (fun c => no _ ?_) (fun c => absurd rfl c)
      rintro ⟨-, q2, e, he, ep⟩
      exact f2 rfl (e + 1) (Or.inr ⟨e, he, rfl, q2, ep⟩)
    | some t =>
      have hat := f1 t rfl
      have ht10 := te_at_le hat
      (repeat (first | refine pm_W.ts rfl rfl ?_ | refine pm_W.tl rfl rfl ?_))
      refine pm_W.icmp rfl (fun c => absurd c (fr_not1 (n := t) (by omega))) (fun c => ?_)
      (repeat (first | refine pm_W.ts rfl rfl ?_ | refine pm_W.tl rfl rfl ?_))
      refine pm_W.ifz rfl (fun c3 => ?_) (fun c3 => ?_)
      · have c3 : ¬ nI t = nI 0 := c3
        rw [nI_eq (by omega) (by omega)] at c3
        rcases hat with ⟨z1, -⟩ | ⟨e, he, et, hp0, ep⟩
        · exact absurd z1 c3
        · have hat : te_at T t p := Or.inr ⟨e, he, et, hp0, ep⟩
          (repeat (first | refine pm_W.ts rfl rfl ?_ | refine pm_W.tl rfl rfl ?_ | refine pm_W.get rfl rfl c1 rfl ?_))
          refine pm_W.callV rfl rfl rfl rfl (fr_ble rfl) c13.1 (fr_ble rfl) (ct_T_takeAway c13 (by omega) (fun g hg hag => ?_))
          rw [tr_cnt_eq (u := tr_g S t) (w := fun s => rm_g T p (s - 1)) 10 (fun s h1 h2 => by
            obtain ⟨e2, rfl⟩ : ∃ e2, s = e2 + 1 := ⟨s - 1, by omega⟩
            exact tt_goes hV htt hat hpo hp0 (by omega))]
          exact pm_W.iret rfl rfl (k1 hpo hp0 ⟨e, he, ep⟩ g _ (hb.utr hg hag) (tt_remove hV hok htt hat hpo hp0) (hag.wide (by omega) (by omega)))
      · have c3 : ¬ ¬ nI t = nI 0 := c3
        have c3 := Classical.not_not.mp c3
        rw [nI_eq (by omega) (by omega)] at c3
        refine no _ ?_
        rintro ⟨-, q2, -⟩
        rcases hat with ⟨-, z⟩ | ⟨e, he, et, -⟩
        · exact q2 z
        · omega
end TREEOPS2
end
section
def fr_new (lo n m : Nat) (h h' : pm_H) : Prop := h'.1.length = h.1.length + n ∧ h'.2 = h.2 + m ∧ ∀ k, k < lo → h'.1[k]? = h.1[k]?
theorem fr_new.tr {lo n m n' m' : Nat} {h h1 h2 : pm_H} (a : fr_new lo n m h h1) (b : fr_new lo n' m' h1 h2) : fr_new lo (n + n') (m + m') h h2 := ⟨by rw [b.1, a.1]; omega, by rw [b.2.1, a.2.1]; omega, fun k hk => (b.2.2 k hk).trans (a.2.2 k hk)⟩
theorem fr_new.low {lo lo' n m : Nat} {h h1 : pm_H} (a : fr_new lo n m h h1) (hl : lo' ≤ lo) : fr_new lo' n m h h1 := ⟨a.1, a.2.1, fun k hk => a.2.2 k (by omega)⟩
theorem fr_new_push {lo m : Nat} {h : pm_H} {c : pm_C} (hl : lo ≤ h.1.length) : fr_new lo 1 m h (h.1 ++ [c], h.2 + m) := ⟨by simp, rfl, fun k hk => List.getElem?_append_left (by omega)⟩
theorem fr_new_set {lo a : Nat} {h : pm_H} {c : pm_C} (hl : lo ≤ a) : fr_new lo 0 0 h (h.1.set a c, h.2) := ⟨by simp, rfl, fun k hk => List.getElem?_set_ne (by omega)⟩
theorem fr_push_at {h : List pm_C} {c : pm_C} : (h ++ [c])[h.length]? = some c := by simp
theorem fr_push_old {h : List pm_C} {c c0 : pm_C} {k : Nat} (e : h[k]? = some c0) : (h ++ [c])[k]? = some c0 := by
  rw [List.getElem?_append_left (List.getElem?_eq_some_iff.mp e).1]
  exact e
section CTORS
variable {xs : List Int32} {h : pm_H} {a : Nat} {Q : Option Value → pm_H → Prop}
theorem ct_B_init {room : Nat} (hr : h.1[a]? = some (.inr (.inr (kB, [.null, .int 0])))) (hl : h.1.length = a + 1) (hroom : room ≤ 1000) (k : ∀ h' : pm_H, bt_R h' a room [] → fr_new a 1 room h h' → Q none h') : pm_X xs 0 mB_init [.ref a, .int (nI room)] h Q := by
  unfold pm_X
  (repeat (first | refine pm_W.ts rfl rfl ?_ | refine pm_W.tl rfl rfl ?_))
  refine pm_W.obj rfl rfl rfl rfl ?_
  (repeat (first | refine pm_W.ts rfl rfl ?_ | refine pm_W.tl rfl rfl ?_))
  refine pm_W.newa rfl (nI_pos (by omega)) (by rw [nI_clamp (by omega)]; omega) ?_
  rw [nI_clamp (by omega), hl]
  have hr2 := fr_push_old (c := .inl (false, List.replicate room 0)) hr
  refine pm_W.put (v := .ref (a + 1)) rfl rfl hr2 (fr_ble rfl) rfl (Or.inr ⟨rfl, rfl⟩) ?_
  refine pm_W.ret rfl rfl (k _ ⟨List.replicate room 0, fr_set hr2, ?_, by simp, rfl, Nat.zero_le _, hroom⟩ ?_)
  · refine fr_ne ?_ (by omega)
    have := fr_push_at (h := h.1) (c := .inl (false, List.replicate room 0))
    rw [hl] at this
    exact this
  · have h1 := fr_new_push (lo := a) (m := room) (h := h) (c := .inl (false, List.replicate room 0)) (by omega)
    exact h1.tr (fr_new_set (Nat.le_refl _))
theorem ct_P_init (hr : h.1[a]? = some (.inr (.inr (kP, [.null, .null, .int 0])))) (hl : h.1.length = a + 1) (k : ∀ h' : pm_H, pl_R h' a [] → fr_new a 2 30 h h' → Q none h') : pm_X xs 0 mP_init [.ref a] h Q := by
  unfold pm_X
  (repeat (first | refine pm_W.ts rfl rfl ?_ | refine pm_W.tl rfl rfl ?_))
  refine pm_W.obj rfl rfl rfl rfl ?_
  (repeat (first | refine pm_W.ts rfl rfl ?_ | refine pm_W.tl rfl rfl ?_))
  refine pm_W.newa (n := nI 15) rfl (nI_pos (by omega)) (by rw [nI_clamp (by omega)]; omega) ?_
  rw [nI_clamp (by omega), hl]
  have hr2 := fr_push_old (c := .inl (false, List.replicate 15 0)) hr
  have ha1 := fr_push_at (h := h.1) (c := .inl (false, List.replicate 15 0))
  rw [hl] at ha1
  refine pm_W.put (v := .ref (a + 1)) rfl rfl hr2 (fr_ble rfl) rfl (Or.inr ⟨rfl, rfl⟩) ?_
  have f1 : fr_new a 1 15 h ((h.1 ++ ([.inl (false, List.replicate 15 0)] : List pm_C)).set a (.inr (.inr (kP, [.ref (a + 1), .null, .int 0]))), h.2 + 15) := (fr_new_push (by omega)).tr (fr_new_set (Nat.le_refl _))
  have hr3 := fr_set (c := .inr (.inr (kP, [Value.ref (a + 1), .null, .int 0]))) hr2
  have ha2 := fr_ne (c := .inr (.inr (kP, [Value.ref (a + 1), .null, .int 0]))) ha1 (show a ≠ a + 1 by omega)
  generalize hg : (((h.1 ++ ([.inl (false, List.replicate 15 0)] : List pm_C)).set a (.inr (.inr (kP, [Value.ref (a + 1), .null, .int 0]))), h.2 + 15) : pm_H) = g at f1
  have hr3 : g.1[a]? = some (.inr (.inr (kP, [Value.ref (a + 1), .null, .int 0]))) := by rw [← hg]; exact hr3
  have ha2 : g.1[a + 1]? = some (.inl (false, List.replicate 15 0)) := by rw [← hg]; exact ha2
  have hlg : g.1.length = a + 2 := by rw [f1.1, hl]
  show pm_W xs 0 mP_init 12 _ _ (((h.1 ++ ([.inl (false, List.replicate 15 0)] : List pm_C)).set a (.inr (.inr (kP, [Value.ref (a + 1), .null, .int 0]))), h.2 + 15) : pm_H) Q
  rw [hg]
  (repeat (first | refine pm_W.ts rfl rfl ?_ | refine pm_W.tl rfl rfl ?_))
  refine pm_W.newa (n := nI 15) rfl (nI_pos (by omega)) (by rw [nI_clamp (by omega)]; omega) ?_
  rw [nI_clamp (by omega), hlg]
  have hr4 := fr_push_old (c := .inl (false, List.replicate 15 0)) hr3
  have ha3 := fr_push_old (c := .inl (false, List.replicate 15 0)) ha2
  have ha4 := fr_push_at (h := g.1) (c := .inl (false, List.replicate 15 0))
  rw [hlg] at ha4
  refine pm_W.put (v := .ref (a + 2)) rfl rfl hr4 (fr_ble rfl) rfl (Or.inr ⟨rfl, rfl⟩) ?_
  refine pm_W.ret rfl rfl (k _ ⟨List.replicate 15 0, List.replicate 15 0, fr_set hr4, fr_ne ha3 (by omega), fr_ne ha4 (by omega), by simp, by simp, rfl, rfl, Nat.zero_le _⟩ ?_)
  exact f1.tr ((fr_new_push (by omega)).tr (fr_new_set (Nat.le_refl _)))
def kp_rw (a room i : Nat) : List (Option Nat) := (List.range room).map fun j => if j < i then some (a + 3 + 2 * j) else none
theorem kp_rw_at {a room i j : Nat} (hj : j < room) : (kp_rw a room i)[j]? = some (if j < i then some (a + 3 + 2 * j) else none) := by
  simp [kp_rw, hj]
theorem kp_rw_len {a room i : Nat} : (kp_rw a room i).length = room := by simp [kp_rw]
theorem kp_rw_0 {a room : Nat} : kp_rw a room 0 = List.replicate room none := by
  apply List.ext_getElem?
  intro j
  by_cases hj : j < room
  · rw [kp_rw_at hj, if_neg (by omega), List.getElem?_replicate, if_pos hj]
  · rw [List.getElem?_eq_none (by rw [kp_rw_len]; omega), List.getElem?_eq_none (by rw [List.length_replicate]; omega)]
theorem kp_rw_1 {a room i : Nat} (hi : i < room) : (kp_rw a room i).set i (some (a + 3 + 2 * i)) = kp_rw a room (i + 1) := by
  apply List.ext_getElem?
  intro j
  by_cases hj : j < room
  · by_cases e : i = j
    · subst e
      rw [List.getElem?_set_self (by rw [kp_rw_len]; exact hi), kp_rw_at hj, if_pos (by omega)]
    · rw [List.getElem?_set_ne e, kp_rw_at hj, kp_rw_at hj]
      by_cases c : j < i
      · rw [if_pos c, if_pos (by omega)]
      · rw [if_neg c, if_neg (by omega)]
  · rw [List.getElem?_eq_none (by rw [List.length_set, kp_rw_len]; omega), List.getElem?_eq_none (by rw [kp_rw_len]; omega)]
theorem ct_K_init {room : Nat} (hr : h.1[a]? = some (.inr (.inr (kK, [.null, .null, .int 0])))) (hl : h.1.length = a + 1) (hroom : room ≤ 40) (k : ∀ h' : pm_H, kp_R h' a room [] → fr_new a (2 + 2 * room) (36 * room) h h' → Q none h') : pm_X xs 1 mK_init [.ref a, .int (nI room)] h Q := by
  have loop : ∀ (r i : Nat) (g : pm_H), i + r = room → g.1[a]? = some (.inr (.inr (kK, [.ref (a + 1), .ref (a + 2), .int 0]))) → g.1[a + 1]? = some (.inl (false, List.replicate room 0)) → g.1[a + 2]? = some (.inr (.inl (kB, kp_rw a room i))) → (∀ j, j < i → bt_R g (a + 3 + 2 * j) 32 []) → fr_new a (2 + 2 * i) (2 * room + 34 * i) h g → pm_W xs 1 mK_init 21 [.ref a, .int (nI room), .int (nI i)] [] g Q := by
    intro r
    induction r with
    | zero =>
      intro i g hi g1 g2 g3 g4 hfr
      have e : i = room := by omega
      subst e
      (repeat (first | refine pm_W.ts rfl rfl ?_ | refine pm_W.tl rfl rfl ?_))
      refine pm_W.icmp rfl (fun c => ?_) (fun c => ?_)
      · refine pm_W.ret rfl rfl (k g ⟨List.replicate i 0, kp_rw a i i, g1, g2, g3, by simp, kp_rw_len, Nat.zero_le _, hroom, fun x y r hx hy => ?_, fun x hx => ?_, fun x q hq => by cases hq⟩ ?_)
        · have lx : x < i := by have := (List.getElem?_eq_some_iff.mp hx).1; rw [kp_rw_len] at this; exact this
          have ly : y < i := by have := (List.getElem?_eq_some_iff.mp hy).1; rw [kp_rw_len] at this; exact this
          rw [kp_rw_at lx, if_pos lx] at hx
          rw [kp_rw_at ly, if_pos ly] at hy
          have := Option.some.inj (Option.some.inj (hx.trans hy.symm))
          omega
        · exact ⟨a + 3 + 2 * x, by rw [kp_rw_at hx, if_pos hx], by omega, by omega, by omega, [], g4 x hx⟩
        · rw [show 36 * i = 2 * i + 34 * i by omega]
          exact hfr
      · have c : ¬ nI i ≤ nI i := c
        rw [nI_leI (by omega) (by omega)] at c
        omega
    | succ r ih =>
      intro i g hi g1 g2 g3 g4 hfr
      have hlg : g.1.length = a + 3 + 2 * i := by rw [hfr.1, hl]; omega
      (repeat (first | refine pm_W.ts rfl rfl ?_ | refine pm_W.tl rfl rfl ?_))
      refine pm_W.icmp rfl (fun c => ?_) (fun c => ?_)
      · have c : nI room ≤ nI i := c
        rw [nI_leI (by omega) (by omega)] at c
        omega
      · (repeat (first | refine pm_W.ts rfl rfl ?_ | refine pm_W.tl rfl rfl ?_ | refine pm_W.get rfl rfl g1 rfl ?_))
        refine pm_W.new rfl rfl ?_
        rw [hlg]
        have p1 := fr_push_at (h := g.1) (c := .inr (.inr (kB, [Value.null, .int 0])))
        rw [hlg] at p1
        have fp : fr_new (a + 3 + 2 * i) 1 2 g (g.1 ++ [.inr (.inr (kB, [Value.null, .int 0]))], g.2 + 2) := fr_new_push (by omega)
        (repeat (first | refine pm_W.ts rfl rfl ?_ | refine pm_W.tl rfl rfl ?_))
        refine pm_W.callI (d' := 0) (as := [.int (nI 32)]) rfl rfl rfl rfl (fr_ble rfl) p1 (fr_ble rfl) (ct_B_init p1 (by simp; omega) (by omega) (fun g2' hB hf2 => ?_))
        have fall := fp.tr hf2
        have q1 := (fall.2.2 a (by omega)).trans g1
        have q2 := (fall.2.2 (a + 1) (by omega)).trans g2
        have q3 := (fall.2.2 (a + 2) (by omega)).trans g3
        obtain ⟨ys, v1, -⟩ := id hB
        refine pm_W.aast rfl q3 v1 (pm_ix_ok (j := i) (by rw [kp_rw_len]; omega) (by rw [kp_rw_len]; omega)) (by decide) ?_
        rw [kp_rw_1 (by omega)]
        (repeat (first | refine pm_W.ts rfl rfl ?_ | refine pm_W.tl rfl rfl ?_))
        refine pm_W.goto rfl ?_
        rw [fr_inc]
        refine ih (i + 1) _ (by omega) (fr_ne q1 (by omega)) (fr_ne q2 (by omega)) (fr_set q3) (fun j hj => ?_) ?_
        · by_cases e : j = i
          · subst e
            exact hB.keep fun k _ _ => List.getElem?_set_ne (by omega)
          · refine (g4 j (by omega)).keep fun k _ _ => ?_
            show (g2'.1.set (a + 2) _)[k]? = _
            rw [List.getElem?_set_ne (by omega)]
            exact fall.2.2 k (by omega)
        · have := (hfr.tr (fall.low (lo' := a) (by omega))).tr (fr_new_set (a := a + 2) (c := .inr (.inl (kB, kp_rw a room (i + 1)))) (show a ≤ a + 2 by omega))
          rw [show 2 + 2 * (i + 1) = 2 + 2 * i + (1 + 1) + 0 by omega, show 2 * room + 34 * (i + 1) = 2 * room + 34 * i + (2 + 32) + 0 by omega]
          exact this
  unfold pm_X
  (repeat (first | refine pm_W.ts rfl rfl ?_ | refine pm_W.tl rfl rfl ?_))
  refine pm_W.obj rfl rfl rfl rfl ?_
  (repeat (first | refine pm_W.ts rfl rfl ?_ | refine pm_W.tl rfl rfl ?_))
  refine pm_W.newa rfl (nI_pos (by omega)) (by rw [nI_clamp (by omega)]; omega) ?_
  rw [nI_clamp (by omega), hl]
  have hr2 := fr_push_old (c := .inl (false, List.replicate room 0)) hr
  have ha1 := fr_push_at (h := h.1) (c := .inl (false, List.replicate room 0))
  rw [hl] at ha1
  refine pm_W.put (v := .ref (a + 1)) rfl rfl hr2 (fr_ble rfl) rfl (Or.inr ⟨rfl, rfl⟩) ?_
  have f1 : fr_new a 1 room h ((h.1 ++ ([.inl (false, List.replicate room 0)] : List pm_C)).set a (.inr (.inr (kK, [.ref (a + 1), .null, .int 0]))), h.2 + room) := (fr_new_push (by omega)).tr (fr_new_set (Nat.le_refl _))
  have hr3 := fr_set (c := .inr (.inr (kK, [Value.ref (a + 1), .null, .int 0]))) hr2
  have ha2 := fr_ne (c := .inr (.inr (kK, [Value.ref (a + 1), .null, .int 0]))) ha1 (show a ≠ a + 1 by omega)
  generalize hg : (((h.1 ++ ([.inl (false, List.replicate room 0)] : List pm_C)).set a (.inr (.inr (kK, [Value.ref (a + 1), .null, .int 0]))), h.2 + room) : pm_H) = g at f1
  have hr3 : g.1[a]? = some (.inr (.inr (kK, [Value.ref (a + 1), .null, .int 0]))) := by rw [← hg]; exact hr3
  have ha2 : g.1[a + 1]? = some (.inl (false, List.replicate room 0)) := by rw [← hg]; exact ha2
  have hlg : g.1.length = a + 2 := by rw [f1.1, hl]
  show pm_W xs 1 mK_init 11 _ _ (((h.1 ++ ([.inl (false, List.replicate room 0)] : List pm_C)).set a (.inr (.inr (kK, [Value.ref (a + 1), .null, .int 0]))), h.2 + room) : pm_H) Q
  rw [hg]
  (repeat (first | refine pm_W.ts rfl rfl ?_ | refine pm_W.tl rfl rfl ?_))
  refine pm_W.anew rfl rfl (nI_pos (by omega)) (by rw [nI_clamp (by omega)]; omega) ?_
  rw [nI_clamp (by omega), hlg]
  have hr4 := fr_push_old (c := .inr (.inl (kB, List.replicate room none))) hr3
  have ha3 := fr_push_old (c := .inr (.inl (kB, List.replicate room none))) ha2
  have ha4 := fr_push_at (h := g.1) (c := .inr (.inl (kB, List.replicate room none)))
  rw [hlg] at ha4
  refine pm_W.put (v := .ref (a + 2)) rfl rfl hr4 (fr_ble rfl) rfl (Or.inr ⟨rfl, rfl⟩) ?_
  (iterate 2 (first | refine pm_W.ts rfl rfl ?_ | refine pm_W.tl rfl rfl ?_))
  refine loop room 0 _ (by omega) (fr_set hr4) (fr_ne ha3 (by omega)) (by rw [kp_rw_0]; exact fr_ne ha4 (by omega)) (fun j hj => by omega) ?_
  have := f1.tr ((fr_new_push (lo := a) (m := room) (h := g) (c := .inr (.inl (kB, List.replicate room none))) (by omega)).tr (fr_new_set (a := a) (c := .inr (.inr (kK, [Value.ref (a + 1), .ref (a + 2), .int 0]))) (Nat.le_refl _)))
  rw [show 2 + 2 * 0 = 1 + (1 + 0) by omega, show 2 * room + 34 * 0 = room + (room + 0) by omega]
  exact this
end CTORS
end
section
def fr_mk (a p n m : Nat) (h g : pm_H) : Prop := g.1.length = h.1.length + n ∧ g.2 = h.2 + m ∧ ∀ k, k ≠ a → k < p → g.1[k]? = h.1[k]?
theorem fr_mk.N {a p n m : Nat} {h g : pm_H} (x : fr_new p n m h g) : fr_mk a p n m h g := ⟨x.1, x.2.1, fun k _ hk => x.2.2 k hk⟩
theorem fr_mk.A {a p : Nat} {h g : pm_H} (x : fr_ag a (a + 1) h g) : fr_mk a p 0 0 h g := ⟨x.2.1, x.1, fun k hk _ => x.2.2 k (by omega)⟩
theorem fr_mk.tr {a p p' n m n' m' : Nat} {h h1 h2 : pm_H} (x : fr_mk a p n m h h1) (y : fr_mk a p' n' m' h1 h2) (hp : p ≤ p') : fr_mk a p (n + n') (m + m') h h2 := ⟨by rw [y.1, x.1]; omega, by rw [y.2.1, x.2.1]; omega, fun k h1 h2 => (y.2.2 k h1 (by omega)).trans (x.2.2 k h1 h2)⟩
theorem fr_mk.low {a p p' n m : Nat} {h g : pm_H} (x : fr_mk a p n m h g) (hp : p' ≤ p) : fr_mk a p' n m h g := ⟨x.1, x.2.1, fun k h1 h2 => x.2.2 k h1 (by omega)⟩
theorem fr_mk.new {a p n m : Nat} {h g : pm_H} (x : fr_mk a p n m h g) (hp : a ≤ p) : fr_new a n m h g := ⟨x.1, x.2.1, fun k hk => x.2.2 k (by omega) (by omega)⟩
theorem fr_mk.at {a p n m k : Nat} {h g : pm_H} {c : pm_C} (x : fr_mk a p n m h g) (h1 : k ≠ a) (h2 : k < p) (e : h.1[k]? = some c) : g.1[k]? = some c := (x.2.2 k h1 h2).trans e
def fr_rw (f : Nat → Nat) (room i : Nat) : List (Option Nat) := (List.range room).map fun j => if j < i then some (f j) else none
theorem fr_rw_at {f : Nat → Nat} {room i j : Nat} (hj : j < room) : (fr_rw f room i)[j]? = some (if j < i then some (f j) else none) := by
  simp [fr_rw, hj]
theorem fr_rw_len {f : Nat → Nat} {room i : Nat} : (fr_rw f room i).length = room := by simp [fr_rw]
theorem fr_rw_0 {f : Nat → Nat} {room : Nat} : fr_rw f room 0 = List.replicate room none := by
  apply List.ext_getElem?
  intro j
  by_cases hj : j < room
  · rw [fr_rw_at hj, if_neg (by omega), List.getElem?_replicate, if_pos hj]
  · rw [List.getElem?_eq_none (by rw [fr_rw_len]; omega), List.getElem?_eq_none (by rw [List.length_replicate]; omega)]
theorem fr_rw_1 {f : Nat → Nat} {room i : Nat} (hi : i < room) : (fr_rw f room i).set i (some (f i)) = fr_rw f room (i + 1) := by
  apply List.ext_getElem?
  intro j
  by_cases hj : j < room
  · by_cases e : i = j
    · subst e
      rw [List.getElem?_set_self (by rw [fr_rw_len]; exact hi), fr_rw_at hj, if_pos (by omega)]
    · rw [List.getElem?_set_ne e, fr_rw_at hj, fr_rw_at hj]
      by_cases c : j < i
      · rw [if_pos c, if_pos (by omega)]
      · rw [if_neg c, if_neg (by omega)]
  · rw [List.getElem?_eq_none (by rw [List.length_set, fr_rw_len]; omega), List.getElem?_eq_none (by rw [fr_rw_len]; omega)]
section MKR
variable {xs : List Int32} {d m pc : Nat} {L st : List Value} {h : pm_H} {Q : Option Value → pm_H → Prop}
theorem pm_W.newaF {nx tg p n : Nat} (hi : pm_ins m pc = some (.newarray .int, nx, tg)) (hl : h.1.length = p) (hn : n ≤ 60000) (kk : ∀ g : pm_H, g.1[p]? = some (.inl (false, List.replicate n 0)) → fr_new p 1 n h g → pm_W xs d m nx L (.ref p :: st) g Q) : pm_W xs d m pc L (.int (nI n) :: st) h Q := by
  refine pm_W.newa hi (nI_pos (by omega)) (by rw [nI_clamp (by omega)]; omega) ?_
  rw [nI_clamp (by omega)]
  subst hl
  exact kk _ fr_push_at (fr_new_push (Nat.le_refl _))
theorem pm_W.newzF {nx tg p n : Nat} (hi : pm_ins m pc = some (.newarray .boolean, nx, tg)) (hl : h.1.length = p) (hn : n ≤ 60000) (kk : ∀ g : pm_H, g.1[p]? = some (.inl (true, List.replicate n 0)) → fr_new p 1 n h g → pm_W xs d m nx L (.ref p :: st) g Q) : pm_W xs d m pc L (.int (nI n) :: st) h Q := by
  refine pm_W.newz hi (nI_pos (by omega)) (by rw [nI_clamp (by omega)]; omega) ?_
  rw [nI_clamp (by omega)]
  subst hl
  exact kk _ fr_push_at (fr_new_push (Nat.le_refl _))
theorem pm_W.anewF {idx nx tg p n t : Nat} (hi : pm_ins m pc = some (.anewarray idx, nx, tg)) (hf : pm_anew (pm_own m) idx = some t) (hl : h.1.length = p) (hn : n ≤ 60000) (kk : ∀ g : pm_H, g.1[p]? = some (.inr (.inl (t, List.replicate n none))) → fr_new p 1 n h g → pm_W xs d m nx L (.ref p :: st) g Q) : pm_W xs d m pc L (.int (nI n) :: st) h Q := by
  refine pm_W.anew hi hf (nI_pos (by omega)) (by rw [nI_clamp (by omega)]; omega) ?_
  rw [nI_clamp (by omega)]
  subst hl
  exact kk _ fr_push_at (fr_new_push (Nat.le_refl _))
theorem pm_W.newF {idx nx tg p : Nat} {q : Nat × List Value} (hi : pm_ins m pc = some (.new idx, nx, tg)) (hf : pm_new (pm_own m) idx = some q) (hl : h.1.length = p) (kk : ∀ g : pm_H, g.1[p]? = some (.inr (.inr q)) → fr_new p 1 q.2.length h g → pm_W xs d m nx L (.ref p :: st) g Q) : pm_W xs d m pc L st h Q := by
  refine pm_W.new hi hf ?_
  subst hl
  exact kk _ fr_push_at (fr_new_push (Nat.le_refl _))
theorem pm_W.putF {idx nx tg a c k : Nat} {fs : List Value} {v : Value} (hi : pm_ins m pc = some (.putfield idx, nx, tg)) (hf : pm_fld (pm_own m) idx = some (c, k)) (ha : h.1[a]? = some (.inr (.inr (c, fs)))) (hl : k < fs.length) (hok : pm_ok (pm_fty c k) v = true) (hfin : pm_fin c k = false ∨ (pm_init m = true ∧ pm_own m = c))
    (kk : ∀ g : pm_H, g.1[a]? = some (.inr (.inr (c, fs.set k v))) → fr_ag a (a + 1) h g → pm_W xs d m nx L st g Q) : pm_W xs d m pc L (v :: .ref a :: st) h Q :=
  pm_W.put hi hf ha hl hok hfin (kk _ (fr_set ha) (fr_agset (Nat.le_refl _) (Nat.lt_succ_self _)))
end MKR
section CTORS2
variable {xs : List Int32} {h : pm_H} {a : Nat} {Q : Option Value → pm_H → Prop}
theorem ct_S_init (hr : h.1[a]? = some (.inr (.inr (kS, [.null, .null])))) (hl : h.1.length = a + 1) (k : ∀ h' : pm_H, sd_R h' a [] [] → fr_new a 5 152 h h' → Q none h') : pm_X xs 1 mS_init [.ref a] h Q := by
  unfold pm_X
  (repeat (first | refine pm_W.ts rfl rfl ?_ | refine pm_W.tl rfl rfl ?_))
  refine pm_W.obj rfl rfl rfl rfl ?_
  (repeat (first | refine pm_W.ts rfl rfl ?_ | refine pm_W.tl rfl rfl ?_))
  refine pm_W.newF rfl rfl hl (fun g1 p1 e1 => ?_)
  (repeat (first | refine pm_W.ts rfl rfl ?_ | refine pm_W.tl rfl rfl ?_))
  refine pm_W.callI (d' := 0) (as := [.int (nI 117)]) rfl rfl rfl rfl (fr_ble rfl) p1 (fr_ble rfl) (ct_B_init (room := 117) p1 (by rw [e1.1, hl]) (by omega) (fun g2 r2 e2 => ?_))
  have o2 := ((e1.tr e2).2.2 a (by omega)).trans hr
  refine pm_W.putF rfl rfl o2 (fr_ble rfl) rfl (Or.inr ⟨rfl, rfl⟩) (fun g3 o3 e3 => ?_)
  have s1 := (fr_mk.N (a := a) (e1.tr e2)).tr (fr_mk.A (p := a + 3) e3) (by omega)
  have l3 : g3.1.length = a + 3 := by have := s1.1; omega
  (repeat (first | refine pm_W.ts rfl rfl ?_ | refine pm_W.tl rfl rfl ?_))
  refine pm_W.newF rfl rfl l3 (fun g4 p4 e4 => ?_)
  (repeat (first | refine pm_W.ts rfl rfl ?_ | refine pm_W.tl rfl rfl ?_))
  refine pm_W.callI (d' := 0) (as := []) rfl rfl rfl rfl (fr_ble rfl) p4 (fr_ble rfl) (ct_P_init p4 (by rw [e4.1, l3]) (fun g5 r5 e5 => ?_))
  have o5 := ((e4.tr e5).2.2 a (by omega)).trans o3
  refine pm_W.putF rfl rfl o5 (fr_ble rfl) rfl (Or.inr ⟨rfl, rfl⟩) (fun g6 o6 e6 => ?_)
  have s2 := (fr_mk.N (a := a) (e4.tr e5)).tr (fr_mk.A (p := a + 6) e6) (by omega)
  exact pm_W.ret rfl rfl (k g6 ⟨o6, r2.keep (fun k _ _ => (s2.2.2 k (by omega) (by omega)).trans (e3.2.2 k (by omega))), r5.keep (fun k _ _ => e6.2.2 k (by omega))⟩ ((s1.tr s2 (by omega)).new (by omega)))
def tr_S0 : tr_S := (2 :: List.replicate 10 0, List.replicate 11 0, none :: List.replicate 10 (some 0), fun _ => [])
theorem tr_S0_ok : tr_ok tr_S0 := by
  refine ⟨rfl, rfl, rfl, fun s => ?_, fun s => ?_, fun s q => ?_⟩
  · unfold tr_K tr_S0
    rcases Nat.lt_or_ge s 11 with c | c
    · have : ∀ s, s < 11 → (2 :: List.replicate 10 0 : List Nat).getD s 0 ≤ 2 := by decide
      exact this s c
    · rw [List.getD_eq_getElem?_getD, List.getElem?_eq_none (by show 11 ≤ s; omega)]
      exact Nat.zero_le _
  · unfold tr_N tr_S0
    rcases Nat.lt_or_ge s 11 with c | c
    · have : ∀ s, s < 11 → (List.replicate 11 0 : List Nat).getD s 0 ≤ 31 := by decide
      exact this s c
    · rw [List.getD_eq_getElem?_getD, List.getElem?_eq_none (by show 11 ≤ s; omega)]
      exact Nat.zero_le _
  · unfold tr_P tr_S0
    rcases Nat.lt_or_ge s 11 with c | c
    · have : ∀ s, s < 11 → (none :: List.replicate 10 (some 0) : List (Option Nat)).getD s none = none ∨ (none :: List.replicate 10 (some 0) : List (Option Nat)).getD s none = some 0 := by decide
      intro e
      rcases this s c with z | z
      · rw [z] at e; cases e
      · rw [z] at e; cases e; omega
    · intro e
      rw [List.getD_eq_getElem?_getD, List.getElem?_eq_none (by show 11 ≤ s; omega)] at e
      cases e
theorem tr_S0_rt : tr_rt tr_S0 := ⟨rfl, rfl, rfl⟩
theorem ct_T_init (hr : h.1[a]? = some (.inr (.inr (kT, [.null, .null, .null, .null])))) (hl : h.1.length = a + 1) (k : ∀ h' : pm_H, tr_R h' a tr_S0 → fr_new a 26 242 h h' → Q none h') : pm_X xs 1 mT_init [.ref a] h Q := by
  have loop : ∀ (r i : Nat) (g : pm_H), i + r = 11 → g.1[a]? = some (.inr (.inr (kT, [.ref (a + 1), .ref (a + 2), .ref (a + 3), .ref (a + 4)]))) → g.1[a + 1]? = some (.inl (false, List.replicate 11 0)) → g.1[a + 2]? = some (.inl (false, List.replicate 11 0)) → g.1[a + 3]? = some (.inl (false, List.replicate 11 0)) → g.1[a + 4]? = some (.inr (.inl (kB, fr_rw (fun j => a + 5 + 2 * j) 11 i))) → (∀ j, j < i → bt_R g (a + 5 + 2 * j) 16 []) → fr_new a (4 + 2 * i) (44 + 18 * i) h g → pm_W xs 1 mT_init 39 [.ref a, .int (nI i)] [] g Q := by
    intro r
    induction r with
    | zero =>
      intro i g hi g1 g2 g3 g4 g5 g6 hfr
      have e : i = 11 := by omega
      subst e
      (repeat (first | refine pm_W.ts rfl rfl ?_ | refine pm_W.tl rfl rfl ?_))
      refine pm_W.icmp rfl (fun c => ?_) (fun c => ?_)
      · (repeat (first | refine pm_W.ts rfl rfl ?_ | refine pm_W.tl rfl rfl ?_ | refine pm_W.get rfl rfl g1 rfl ?_))
        refine pm_W.iast rfl g2 (pm_ix_ok (j := 0) (by rw [List.length_replicate]; omega) (by rw [List.length_replicate]; omega)) ?_
        (iterate 1 (first | refine pm_W.ts rfl rfl ?_ | refine pm_W.tl rfl rfl ?_))
        refine pm_W.get rfl rfl (fr_ne g1 (by omega)) rfl ?_
        (iterate 2 (first | refine pm_W.ts rfl rfl ?_ | refine pm_W.tl rfl rfl ?_))
        refine pm_W.iast rfl (fr_ne g4 (by omega)) (pm_ix_ok (j := 0) (by rw [List.length_replicate]; omega) (by rw [List.length_replicate]; omega)) ?_
        refine pm_W.ret rfl rfl (k _ ⟨fr_ne (fr_ne g1 (by omega)) (by omega), fr_ne (fr_set g2) (by omega), fr_ne (fr_ne g3 (by omega)) (by omega), fr_set (fr_ne g4 (by omega)), ?_, fun s hs => ?_, tr_S0_ok⟩ ?_)
        · refine (fr_ne (fr_ne g5 (by omega)) (by omega)).trans ?_
          have : fr_rw (fun j => a + 5 + 2 * j) 11 11 = tr_row a := by
            apply List.ext_getElem?
            intro j
            by_cases hj : j < 11
            · rw [fr_rw_at hj, if_pos hj]
              simp [tr_row, hj]
            · rw [List.getElem?_eq_none (by rw [fr_rw_len]; omega), List.getElem?_eq_none (by rw [tr_row_len]; omega)]
          rw [this]
        · refine (g6 s hs).keep fun j _ _ => ?_
          show ((g.1.set (a + 1) _).set (a + 3) _)[j]? = _
          rw [List.getElem?_set_ne (by omega), List.getElem?_set_ne (by omega)]
        · have := (hfr.tr (fr_new_set (h := g) (a := a + 1) (c := .inl (false, (List.replicate 11 (0 : Int32)).set 0 2)) (show a ≤ a + 1 by omega))).tr (fr_new_set (a := a + 3) (c := .inl (false, (List.replicate 11 (0 : Int32)).set 0 (-1))) (show a ≤ a + 3 by omega))
          exact this
      · have c : ¬ nI 11 ≤ nI 11 := c
        rw [nI_leI (by omega) (by omega)] at c
        omega
    | succ r ih =>
      intro i g hi g1 g2 g3 g4 g5 g6 hfr
      have hlg : g.1.length = a + 5 + 2 * i := by have := hfr.1; omega
      (repeat (first | refine pm_W.ts rfl rfl ?_ | refine pm_W.tl rfl rfl ?_))
      refine pm_W.icmp rfl (fun c => ?_) (fun c => ?_)
      · have c : nI 11 ≤ nI i := c
        rw [nI_leI (by omega) (by omega)] at c
        omega
      · (repeat (first | refine pm_W.ts rfl rfl ?_ | refine pm_W.tl rfl rfl ?_ | refine pm_W.get rfl rfl g1 rfl ?_))
        refine pm_W.newF rfl rfl hlg (fun u1 p1 e1 => ?_)
        (repeat (first | refine pm_W.ts rfl rfl ?_ | refine pm_W.tl rfl rfl ?_))
        refine pm_W.callI (d' := 0) (as := [.int (nI 16)]) rfl rfl rfl rfl (fr_ble rfl) p1 (fr_ble rfl) (ct_B_init (room := 16) p1 (by rw [e1.1, hlg]) (by omega) (fun u2 r2 e2 => ?_))
        have fall := e1.tr e2
        obtain ⟨ys, v1, -⟩ := id r2
        have q5 := (fall.2.2 (a + 4) (by omega)).trans g5
        refine pm_W.aast rfl q5 v1 (pm_ix_ok (j := i) (by rw [fr_rw_len]; omega) (by rw [fr_rw_len]; omega)) (by decide) ?_
        rw [fr_rw_1 (f := fun j => a + 5 + 2 * j) (by omega)]
        (repeat (first | refine pm_W.ts rfl rfl ?_ | refine pm_W.tl rfl rfl ?_))
        refine pm_W.goto rfl ?_
        rw [fr_inc]
        refine ih (i + 1) _ (by omega) (fr_ne ((fall.2.2 a (by omega)).trans g1) (by omega)) (fr_ne ((fall.2.2 (a + 1) (by omega)).trans g2) (by omega)) (fr_ne ((fall.2.2 (a + 2) (by omega)).trans g3) (by omega)) (fr_ne ((fall.2.2 (a + 3) (by omega)).trans g4) (by omega)) (fr_set q5) (fun j hj => ?_) ?_
        · by_cases e : j = i
          · subst e
            exact r2.keep fun k _ _ => List.getElem?_set_ne (by omega)
          · refine (g6 j (by omega)).keep fun k _ _ => ?_
            show (u2.1.set (a + 4) _)[k]? = _
            rw [List.getElem?_set_ne (by omega)]
            exact fall.2.2 k (by omega)
        · have := (hfr.tr (fall.low (lo' := a) (by omega))).tr (fr_new_set (a := a + 4) (c := .inr (.inl (kB, fr_rw (fun j => a + 5 + 2 * j) 11 (i + 1)))) (show a ≤ a + 4 by omega))
          rw [show 4 + 2 * (i + 1) = 4 + 2 * i + (1 + 1) + 0 by omega, show 44 + 18 * (i + 1) = 44 + 18 * i + (2 + 16) + 0 by omega]
          exact this
  unfold pm_X
  (repeat (first | refine pm_W.ts rfl rfl ?_ | refine pm_W.tl rfl rfl ?_))
  refine pm_W.obj rfl rfl rfl rfl ?_
  (repeat (first | refine pm_W.ts rfl rfl ?_ | refine pm_W.tl rfl rfl ?_))
  refine pm_W.newaF (n := 11) rfl hl (by omega) (fun g1 p1 e1 => ?_)
  have o1 := (e1.2.2 a (by omega)).trans hr
  refine pm_W.putF rfl rfl o1 (fr_ble rfl) rfl (Or.inr ⟨rfl, rfl⟩) (fun g2 o2 e2 => ?_)
  have s1 := (fr_mk.N (a := a) e1).tr (fr_mk.A (p := a + 2) e2) (by omega)
  have p1 := e2.at (by omega) p1
  have l2 : g2.1.length = a + 2 := by have := s1.1; omega
  (repeat (first | refine pm_W.ts rfl rfl ?_ | refine pm_W.tl rfl rfl ?_))
  refine pm_W.newaF (n := 11) rfl l2 (by omega) (fun g3 p3 e3 => ?_)
  have o3 := (e3.2.2 a (by omega)).trans o2
  refine pm_W.putF rfl rfl o3 (fr_ble rfl) rfl (Or.inr ⟨rfl, rfl⟩) (fun g4 o4 e4 => ?_)
  have s2 := (fr_mk.N (a := a) e3).tr (fr_mk.A (p := a + 3) e4) (by omega)
  have p3 := e4.at (by omega) p3
  have l4 : g4.1.length = a + 3 := by have := s2.1; omega
  (repeat (first | refine pm_W.ts rfl rfl ?_ | refine pm_W.tl rfl rfl ?_))
  refine pm_W.newaF (n := 11) rfl l4 (by omega) (fun g5 p5 e5 => ?_)
  have o5 := (e5.2.2 a (by omega)).trans o4
  refine pm_W.putF rfl rfl o5 (fr_ble rfl) rfl (Or.inr ⟨rfl, rfl⟩) (fun g6 o6 e6 => ?_)
  have s3 := (fr_mk.N (a := a) e5).tr (fr_mk.A (p := a + 4) e6) (by omega)
  have p5 := e6.at (by omega) p5
  have l6 : g6.1.length = a + 4 := by have := s3.1; omega
  (repeat (first | refine pm_W.ts rfl rfl ?_ | refine pm_W.tl rfl rfl ?_))
  refine pm_W.anewF (n := 11) rfl rfl l6 (by omega) (fun g7 p7 e7 => ?_)
  have o7 := (e7.2.2 a (by omega)).trans o6
  refine pm_W.putF rfl rfl o7 (fr_ble rfl) rfl (Or.inr ⟨rfl, rfl⟩) (fun g8 o8 e8 => ?_)
  have s4 := (fr_mk.N (a := a) e7).tr (fr_mk.A (p := a + 5) e8) (by omega)
  have p7 := e8.at (by omega) p7
  (iterate 2 (first | refine pm_W.ts rfl rfl ?_ | refine pm_W.tl rfl rfl ?_))
  refine loop 11 0 g8 (by omega) o8 ((s2.tr (s3.tr s4 (by omega)) (by omega)).at (by omega) (by omega) p1) ((s3.tr s4 (by omega)).at (by omega) (by omega) p3) (s4.at (by omega) (by omega) p5) (by rw [fr_rw_0]; exact p7) (fun j hj => by omega) ?_
  exact ((s1.tr (s2.tr (s3.tr s4 (by omega)) (by omega)) (by omega)).new (by omega))
def cz_mk (l m o : Int32) : cz_N := if 8 ≤ l ∧ l ≤ m ∧ m ≤ o ∧ o ≤ 32 then (l.toNatClampNeg, m.toNatClampNeg, o.toNatClampNeg) else (8, 12, 24)
theorem fr_clamp {x : Int32} (h : 0 ≤ x) : nI x.toNatClampNeg = x := by
  obtain ⟨j, hj, e⟩ := fr_nat h
  rw [e, nI_clamp hj]
theorem fr_32 (n : Nat) (hn : n < 2 ^ 31) : (nI n).toInt = (n : Int) := nI_toInt hn
theorem cz_mk_ok {l m o : Int32} : cz_ok (cz_mk l m o) := by
  unfold cz_mk
  split
  · rename_i c
    obtain ⟨c1, c2, c3, c4⟩ := c
    have d1 : nI 8 ≤ l := c1
    have d4 : o ≤ nI 32 := c4
    have z1 : 0 ≤ l := by rw [fr_le] at d1 ⊢; rw [fr_32 8 (by omega)] at d1; rw [fr_0]; omega
    have z2 : 0 ≤ m := by rw [fr_le] at z1 c2 ⊢; omega
    have z3 : 0 ≤ o := by rw [fr_le] at z2 c3 ⊢; omega
    obtain ⟨i, hi, rfl⟩ := fr_nat z1
    obtain ⟨j, hj, rfl⟩ := fr_nat z2
    obtain ⟨k, hk, rfl⟩ := fr_nat z3
    rw [nI_leI (by omega) (by omega)] at d1 c2 c3 d4
    show 8 ≤ (nI i).toNatClampNeg ∧ (nI i).toNatClampNeg ≤ (nI j).toNatClampNeg ∧ (nI j).toNatClampNeg ≤ (nI k).toNatClampNeg ∧ (nI k).toNatClampNeg ≤ 32
    rw [nI_clamp (by omega), nI_clamp (by omega), nI_clamp (by omega)]
    exact ⟨d1, c2, c3, d4⟩
  · exact ⟨by decide, by decide, by decide, by decide⟩
theorem ct_C_init {l m o : Int32} {f1 f2 f3 : Int32} (hr : h.1[a]? = some (.inr (.inr (kC, [.int f1, .int f2, .int f3])))) (k : ∀ h' : pm_H, cz_R h' a (cz_mk l m o) → fr_ag a (a + 1) h h' → Q none h') : pm_X xs 0 mC_init [.ref a, .int l, .int m, .int o] h Q := by
  have tail1 : (8 ≤ l ∧ l ≤ m ∧ m ≤ o ∧ o ≤ 32) → pm_W xs 0 mC_init 31 (pm_entry [.ref a, .int l, .int m, .int o] (pm_maxL mC_init)) [.int 1] h Q := by
    intro c
    have e : cz_mk l m o = (l.toNatClampNeg, m.toNatClampNeg, o.toNatClampNeg) := if_pos c
    obtain ⟨c1, c2, c3, c4⟩ := c
    have d1 : nI 8 ≤ l := c1
    have z1 : 0 ≤ l := by rw [fr_le] at d1 ⊢; rw [fr_32 8 (by omega)] at d1; rw [fr_0]; omega
    have z2 : 0 ≤ m := by rw [fr_le] at z1 c2 ⊢; omega
    have z3 : 0 ≤ o := by rw [fr_le] at z2 c3 ⊢; omega
    (repeat (first | refine pm_W.ts rfl rfl ?_ | refine pm_W.tl rfl rfl ?_))
    refine pm_W.ifz rfl (fun z => absurd (show (1 : Int32) = 0 from z) (by decide)) (fun _ => ?_)
    (repeat (first | refine pm_W.ts rfl rfl ?_ | refine pm_W.tl rfl rfl ?_))
    refine pm_W.goto rfl ?_
    refine pm_W.putF rfl rfl hr (fr_ble rfl) rfl (Or.inr ⟨rfl, rfl⟩) (fun g1 o1 e1 => ?_)
    (repeat (first | refine pm_W.ts rfl rfl ?_ | refine pm_W.tl rfl rfl ?_))
    refine pm_W.ifz rfl (fun z => absurd (show (1 : Int32) = 0 from z) (by decide)) (fun _ => ?_)
    (repeat (first | refine pm_W.ts rfl rfl ?_ | refine pm_W.tl rfl rfl ?_))
    refine pm_W.goto rfl ?_
    refine pm_W.putF rfl rfl o1 (fr_ble rfl) rfl (Or.inr ⟨rfl, rfl⟩) (fun g2 o2 e2 => ?_)
    (repeat (first | refine pm_W.ts rfl rfl ?_ | refine pm_W.tl rfl rfl ?_))
    refine pm_W.ifz rfl (fun z => absurd (show (1 : Int32) = 0 from z) (by decide)) (fun _ => ?_)
    (repeat (first | refine pm_W.ts rfl rfl ?_ | refine pm_W.tl rfl rfl ?_))
    refine pm_W.goto rfl ?_
    refine pm_W.putF rfl rfl o2 (fr_ble rfl) rfl (Or.inr ⟨rfl, rfl⟩) (fun g3 o3 e3 => ?_)
    refine pm_W.ret rfl rfl (k g3 ?_ ((e1.tr e2).tr e3))
    show g3.1[a]? = some (.inr (.inr (kC, [.int (nI (cz_mk l m o).1), .int (nI (cz_mk l m o).2.1), .int (nI (cz_mk l m o).2.2)])))
    rw [e]
    show g3.1[a]? = some (.inr (.inr (kC, [.int (nI l.toNatClampNeg), .int (nI m.toNatClampNeg), .int (nI o.toNatClampNeg)])))
    rw [fr_clamp z1, fr_clamp z2, fr_clamp z3]
    exact o3
  have tail0 : ¬ (8 ≤ l ∧ l ≤ m ∧ m ≤ o ∧ o ≤ 32) → pm_W xs 0 mC_init 30 (pm_entry [.ref a, .int l, .int m, .int o] (pm_maxL mC_init)) [] h Q := by
    intro c
    have e : cz_mk l m o = (8, 12, 24) := if_neg c
    (repeat (first | refine pm_W.ts rfl rfl ?_ | refine pm_W.tl rfl rfl ?_))
    refine pm_W.ifz rfl (fun _ => ?_) (fun z => absurd (show (0 : Int32) = 0 from rfl) z)
    (repeat (first | refine pm_W.ts rfl rfl ?_ | refine pm_W.tl rfl rfl ?_))
    refine pm_W.putF rfl rfl hr (fr_ble rfl) rfl (Or.inr ⟨rfl, rfl⟩) (fun g1 o1 e1 => ?_)
    (repeat (first | refine pm_W.ts rfl rfl ?_ | refine pm_W.tl rfl rfl ?_))
    refine pm_W.ifz rfl (fun _ => ?_) (fun z => absurd (show (0 : Int32) = 0 from rfl) z)
    (repeat (first | refine pm_W.ts rfl rfl ?_ | refine pm_W.tl rfl rfl ?_))
    refine pm_W.putF rfl rfl o1 (fr_ble rfl) rfl (Or.inr ⟨rfl, rfl⟩) (fun g2 o2 e2 => ?_)
    (repeat (first | refine pm_W.ts rfl rfl ?_ | refine pm_W.tl rfl rfl ?_))
    refine pm_W.ifz rfl (fun _ => ?_) (fun z => absurd (show (0 : Int32) = 0 from rfl) z)
    (repeat (first | refine pm_W.ts rfl rfl ?_ | refine pm_W.tl rfl rfl ?_))
    refine pm_W.putF rfl rfl o2 (fr_ble rfl) rfl (Or.inr ⟨rfl, rfl⟩) (fun g3 o3 e3 => ?_)
    refine pm_W.ret rfl rfl (k g3 ?_ ((e1.tr e2).tr e3))
    show g3.1[a]? = some (.inr (.inr (kC, [.int (nI (cz_mk l m o).1), .int (nI (cz_mk l m o).2.1), .int (nI (cz_mk l m o).2.2)])))
    rw [e]
    exact o3
  unfold pm_X
  (repeat (first | refine pm_W.ts rfl rfl ?_ | refine pm_W.tl rfl rfl ?_))
  refine pm_W.obj rfl rfl rfl rfl ?_
  (repeat (first | refine pm_W.ts rfl rfl ?_ | refine pm_W.tl rfl rfl ?_))
  refine pm_W.icmp rfl (fun c => tail0 (fun z => Int32.not_le.mpr c z.1)) (fun c1 => ?_)
  (repeat (first | refine pm_W.ts rfl rfl ?_ | refine pm_W.tl rfl rfl ?_))
  refine pm_W.icmp rfl (fun c => tail0 (fun z => Int32.not_le.mpr c z.2.1)) (fun c2 => ?_)
  (repeat (first | refine pm_W.ts rfl rfl ?_ | refine pm_W.tl rfl rfl ?_))
  refine pm_W.icmp rfl (fun c => tail0 (fun z => Int32.not_le.mpr c z.2.2.1)) (fun c3 => ?_)
  (repeat (first | refine pm_W.ts rfl rfl ?_ | refine pm_W.tl rfl rfl ?_))
  refine pm_W.icmp rfl (fun c => tail0 (fun z => Int32.not_le.mpr c z.2.2.2)) (fun c4 => ?_)
  (repeat (first | refine pm_W.ts rfl rfl ?_ | refine pm_W.tl rfl rfl ?_))
  refine pm_W.goto rfl ?_
  exact tail1 ⟨fr_nlt c1, fr_nlt c2, fr_nlt c3, fr_nlt c4⟩
end CTORS2
end
section
section CTORS3
variable {xs : List Int32} {h : pm_H} {b : Nat} {Q : Option Value → pm_H → Prop}
theorem ct_D_images {f1 f3 f4 f5 f6 f7 f8 f9 f10 : Value} {l m o : Int32} (hk : ∀ g : pm_H, g.1[b]? = some (.inr (.inr (kD, [f1, .ref (b + 2), f3, f4, f5, f6, f7, f8, f9, f10]))) → g.1[b + 2]? = some (.inr (.inl (kP, [some (b + 3), some (b + 6), some (b + 9), some (b + 12)]))) → (∀ i, i < 4 → pl_R g (b + 3 + 3 * i) []) → fr_mk b (b + 2) 12 132 h g → pm_W xs 2 mD_init 55 [.ref b, .int l, .int m, .int o, .int (nI 4)] [] g Q)
    (h1 : h.1[b]? = some (.inr (.inr (kD, [f1, .ref (b + 2), f3, f4, f5, f6, f7, f8, f9, f10])))) (h2 : h.1[b + 2]? = some (.inr (.inl (kP, List.replicate 4 none)))) (hl : h.1.length = b + 3) : pm_W xs 2 mD_init 29 [.ref b, .int l, .int m, .int o, .int (nI 0)] [] h Q := by
  have loop : ∀ (r i : Nat) (g : pm_H), i + r = 4 → g.1[b]? = some (.inr (.inr (kD, [f1, .ref (b + 2), f3, f4, f5, f6, f7, f8, f9, f10]))) → g.1[b + 2]? = some (.inr (.inl (kP, fr_rw (fun j => b + 3 + 3 * j) 4 i))) → (∀ j, j < i → pl_R g (b + 3 + 3 * j) []) → fr_mk b (b + 2) (3 * i) (33 * i) h g → pm_W xs 2 mD_init 29 [.ref b, .int l, .int m, .int o, .int (nI i)] [] g Q := by
    intro r
    induction r with
    | zero =>
      intro i g hi g1 g2 g3 hfr
      have e : i = 4 := by omega
      subst e
      (repeat (first | refine pm_W.ts rfl rfl ?_ | refine pm_W.tl rfl rfl ?_))
      refine pm_W.icmp rfl (fun c => hk g g1 g2 g3 hfr) (fun c => ?_)
      have c : ¬ nI 4 ≤ nI 4 := c
      rw [nI_leI (by omega) (by omega)] at c
      omega
    | succ r ih =>
      intro i g hi g1 g2 g3 hfr
      have hlg : g.1.length = b + 3 + 3 * i := by have := hfr.1; omega
      (repeat (first | refine pm_W.ts rfl rfl ?_ | refine pm_W.tl rfl rfl ?_))
      refine pm_W.icmp rfl (fun c => ?_) (fun c => ?_)
      · have c : nI 4 ≤ nI i := c
        rw [nI_leI (by omega) (by omega)] at c
        omega
      · (repeat (first | refine pm_W.ts rfl rfl ?_ | refine pm_W.tl rfl rfl ?_ | refine pm_W.get rfl rfl g1 rfl ?_))
        refine pm_W.newF rfl rfl hlg (fun u1 p1 e1 => ?_)
        (repeat (first | refine pm_W.ts rfl rfl ?_ | refine pm_W.tl rfl rfl ?_))
        refine pm_W.callI (d' := 0) (as := []) rfl rfl rfl rfl (fr_ble rfl) p1 (fr_ble rfl) (ct_P_init p1 (by rw [e1.1, hlg]) (fun u2 r2 e2 => ?_))
        have fall := e1.tr e2
        obtain ⟨es, is, v1, -⟩ := id r2
        have q2 := (fall.2.2 (b + 2) (by omega)).trans g2
        refine pm_W.aast rfl q2 v1 (pm_ix_ok (j := i) (by rw [fr_rw_len]; omega) (by rw [fr_rw_len]; omega)) (by decide) ?_
        rw [fr_rw_1 (f := fun j => b + 3 + 3 * j) (by omega)]
        (repeat (first | refine pm_W.ts rfl rfl ?_ | refine pm_W.tl rfl rfl ?_))
        refine pm_W.goto rfl ?_
        rw [fr_inc]
        refine ih (i + 1) _ (by omega) (fr_ne ((fall.2.2 b (by omega)).trans g1) (by omega)) (fr_set q2) (fun j hj => ?_) ?_
        · by_cases e : j = i
          · subst e
            exact r2.keep fun k _ _ => List.getElem?_set_ne (by omega)
          · refine (g3 j (by omega)).keep fun k _ _ => ?_
            show (u2.1.set (b + 2) _)[k]? = _
            rw [List.getElem?_set_ne (by omega)]
            exact fall.2.2 k (by omega)
        · have := (hfr.tr (fr_mk.N (a := b) fall) (by omega)).tr (fr_mk.N (a := b) (fr_new_set (a := b + 2) (c := .inr (.inl (kP, fr_rw (fun j => b + 3 + 3 * j) 4 (i + 1)))) (Nat.le_refl (b + 2)))) (Nat.le_refl _)
          rw [show 3 * (i + 1) = 3 * i + (1 + 2) + 0 by omega, show 33 * (i + 1) = 33 * i + (3 + 30) + 0 by omega]
          exact this
  exact loop 4 0 h (by omega) h1 (by rw [fr_rw_0]; exact h2) (fun j hj => by omega) ⟨rfl, rfl, fun _ _ _ => rfl⟩
theorem ct_D_seeds {f1 f2 f3 f4 f6 f7 f8 f9 f10 : Value} {l m o : Int32} (hk : ∀ g : pm_H, g.1[b]? = some (.inr (.inr (kD, [f1, f2, f3, f4, .ref (b + 113), f6, f7, f8, f9, f10]))) → g.1[b + 113]? = some (.inr (.inl (kS, [some (b + 114), some (b + 120)]))) → (∀ i, i < 2 → sd_R g (b + 114 + 6 * i) [] []) → fr_mk b (b + 113) 12 308 h g → pm_W xs 2 mD_init 118 [.ref b, .int l, .int m, .int o, .int (nI 2)] [] g Q)
    (h1 : h.1[b]? = some (.inr (.inr (kD, [f1, f2, f3, f4, .ref (b + 113), f6, f7, f8, f9, f10])))) (h2 : h.1[b + 113]? = some (.inr (.inl (kS, List.replicate 2 none)))) (hl : h.1.length = b + 114) : pm_W xs 2 mD_init 92 [.ref b, .int l, .int m, .int o, .int (nI 0)] [] h Q := by
  have loop : ∀ (r i : Nat) (g : pm_H), i + r = 2 → g.1[b]? = some (.inr (.inr (kD, [f1, f2, f3, f4, .ref (b + 113), f6, f7, f8, f9, f10]))) → g.1[b + 113]? = some (.inr (.inl (kS, fr_rw (fun j => b + 114 + 6 * j) 2 i))) → (∀ j, j < i → sd_R g (b + 114 + 6 * j) [] []) → fr_mk b (b + 113) (6 * i) (154 * i) h g → pm_W xs 2 mD_init 92 [.ref b, .int l, .int m, .int o, .int (nI i)] [] g Q := by
    intro r
    induction r with
    | zero =>
      intro i g hi g1 g2 g3 hfr
      have e : i = 2 := by omega
      subst e
      (repeat (first | refine pm_W.ts rfl rfl ?_ | refine pm_W.tl rfl rfl ?_))
      refine pm_W.icmp rfl (fun c => hk g g1 g2 g3 hfr) (fun c => ?_)
      have c : ¬ nI 2 ≤ nI 2 := c
      rw [nI_leI (by omega) (by omega)] at c
      omega
    | succ r ih =>
      intro i g hi g1 g2 g3 hfr
      have hlg : g.1.length = b + 114 + 6 * i := by have := hfr.1; omega
      (repeat (first | refine pm_W.ts rfl rfl ?_ | refine pm_W.tl rfl rfl ?_))
      refine pm_W.icmp rfl (fun c => ?_) (fun c => ?_)
      · have c : nI 2 ≤ nI i := c
        rw [nI_leI (by omega) (by omega)] at c
        omega
      · (repeat (first | refine pm_W.ts rfl rfl ?_ | refine pm_W.tl rfl rfl ?_ | refine pm_W.get rfl rfl g1 rfl ?_))
        refine pm_W.newF rfl rfl hlg (fun u1 p1 e1 => ?_)
        (repeat (first | refine pm_W.ts rfl rfl ?_ | refine pm_W.tl rfl rfl ?_))
        refine pm_W.callI (d' := 1) (as := []) rfl rfl rfl rfl (fr_ble rfl) p1 (fr_ble rfl) (ct_S_init p1 (by rw [e1.1, hlg]) (fun u2 r2 e2 => ?_))
        have fall := e1.tr e2
        have v1 := r2.1
        have q2 := (fall.2.2 (b + 113) (by omega)).trans g2
        refine pm_W.aast rfl q2 v1 (pm_ix_ok (j := i) (by rw [fr_rw_len]; omega) (by rw [fr_rw_len]; omega)) (by decide) ?_
        rw [fr_rw_1 (f := fun j => b + 114 + 6 * j) (by omega)]
        (repeat (first | refine pm_W.ts rfl rfl ?_ | refine pm_W.tl rfl rfl ?_))
        refine pm_W.goto rfl ?_
        rw [fr_inc]
        refine ih (i + 1) _ (by omega) (fr_ne ((fall.2.2 b (by omega)).trans g1) (by omega)) (fr_set q2) (fun j hj => ?_) ?_
        · by_cases e : j = i
          · subst e
            exact r2.ag (fr_agset (lo := b + 113) (hi := b + 114) (by omega) (by omega)) (by omega)
          · have z := g3 j (by omega)
            have kp : ∀ k, b + 114 + 6 * j ≤ k → k < b + 114 + 6 * j + 6 → (u2.1.set (b + 113) (.inr (.inl (kS, fr_rw (fun j => b + 114 + 6 * j) 2 (i + 1)))))[k]? = g.1[k]? := by
              intro k _ _
              rw [List.getElem?_set_ne (by omega)]
              exact fall.2.2 k (by omega)
            exact ⟨(kp _ (by omega) (by omega)).trans z.1, z.2.1.keep (fun k _ _ => kp k (by omega) (by omega)), z.2.2.keep (fun k _ _ => kp k (by omega) (by omega))⟩
        · have := (hfr.tr (fr_mk.N (a := b) fall) (by omega)).tr (fr_mk.N (a := b) (fr_new_set (a := b + 113) (c := .inr (.inl (kS, fr_rw (fun j => b + 114 + 6 * j) 2 (i + 1)))) (Nat.le_refl (b + 113)))) (Nat.le_refl _)
          rw [show 6 * (i + 1) = 6 * i + (1 + 5) + 0 by omega, show 154 * (i + 1) = 154 * i + (2 + 152) + 0 by omega]
          exact this
  exact loop 2 0 h (by omega) h1 (by rw [fr_rw_0]; exact h2) (fun j hj => by omega) ⟨rfl, rfl, fun _ _ _ => rfl⟩
theorem ct_D_init {l m o : Int32} (hr : h.1[b]? = some (.inr (.inr (kD, [.null, .null, .null, .null, .null, .null, .null, .null, .null, .null])))) (hl : h.1.length = b + 1)
    (k : ∀ h' : pm_H, dp_R h' b (cz_mk l m o) (fun _ => []) [] [] (fun _ => ([], [])) [] [0, 0, 0, 0] false tr_S0 → fr_new b 184 2848 h h' → Q none h') : pm_X xs 2 mD_init [.ref b, .int l, .int m, .int o] h Q := by
  unfold pm_X
  (repeat (first | refine pm_W.ts rfl rfl ?_ | refine pm_W.tl rfl rfl ?_))
  refine pm_W.obj rfl rfl rfl rfl ?_
  (repeat (first | refine pm_W.ts rfl rfl ?_ | refine pm_W.tl rfl rfl ?_))
  refine pm_W.newF rfl rfl hl (fun g1 p1 e1 => ?_)
  (repeat (first | refine pm_W.ts rfl rfl ?_ | refine pm_W.tl rfl rfl ?_))
  refine pm_W.callI (d' := 0) (as := [.int l, .int m, .int o]) rfl rfl rfl rfl (fr_ble rfl) p1 (fr_ble rfl) (ct_C_init p1 (fun g2 c2 e2 => ?_))
  have o2 := e2.at (by omega) ((e1.2.2 b (by omega)).trans hr)
  refine pm_W.putF rfl rfl o2 (fr_ble rfl) rfl (Or.inr ⟨rfl, rfl⟩) (fun g3 o3 e3 => ?_)
  have e2' : fr_mk b (b + 1) 0 0 g1 g2 := ⟨e2.2.1, e2.1, fun k _ _ => e2.2.2 k (by omega)⟩
  have s1 := ((fr_mk.N (a := b) e1).tr e2' (by omega)).tr (fr_mk.A (p := b + 2) e3) (by omega)
  have c2 : cz_R g3 (b + 1) (cz_mk l m o) := e3.at (by omega) c2
  have l3 : g3.1.length = b + 2 := by have := s1.1; omega
  (repeat (first | refine pm_W.ts rfl rfl ?_ | refine pm_W.tl rfl rfl ?_))
  refine pm_W.anewF (n := 4) rfl rfl l3 (by omega) (fun g4 p4 e4 => ?_)
  have o4 := (e4.2.2 b (by omega)).trans o3
  refine pm_W.putF rfl rfl o4 (fr_ble rfl) rfl (Or.inr ⟨rfl, rfl⟩) (fun g5 o5 e5 => ?_)
  have s2a := (fr_mk.N (a := b) e4).tr (fr_mk.A (p := b + 3) e5) (by omega)
  have p5 := e5.at (by omega) p4
  have l5 : g5.1.length = b + 3 := by have := s2a.1; omega
  (iterate 2 (first | refine pm_W.ts rfl rfl ?_ | refine pm_W.tl rfl rfl ?_))
  refine ct_D_images (fun g6 o6 i6 im6 s2b => ?_) o5 p5 l5
  have s2 := s2a.tr s2b (Nat.le_refl _)
  have l6 : g6.1.length = b + 15 := by have := s2b.1; omega
  (repeat (first | refine pm_W.ts rfl rfl ?_ | refine pm_W.tl rfl rfl ?_))
  refine pm_W.newF rfl rfl l6 (fun g7 p7 e7 => ?_)
  (repeat (first | refine pm_W.ts rfl rfl ?_ | refine pm_W.tl rfl rfl ?_))
  refine pm_W.callI (d' := 1) (as := [.int (nI 40)]) rfl rfl rfl rfl (fr_ble rfl) p7 (fr_ble rfl) (ct_K_init (room := 40) p7 (by rw [e7.1, l6]) (by omega) (fun g8 r8 e8 => ?_))
  have o8 := ((e7.tr e8).2.2 b (by omega)).trans o6
  refine pm_W.putF rfl rfl o8 (fr_ble rfl) rfl (Or.inr ⟨rfl, rfl⟩) (fun g9 o9 e9 => ?_)
  have s3 := (fr_mk.N (a := b) (e7.tr e8)).tr (fr_mk.A (p := b + 98) e9) (by omega)
  have r9 := r8.ag e9 (by omega)
  have l9 : g9.1.length = b + 98 := by have := s3.1; omega
  (repeat (first | refine pm_W.ts rfl rfl ?_ | refine pm_W.tl rfl rfl ?_))
  refine pm_W.newF rfl rfl l9 (fun g10 p10 e10 => ?_)
  (repeat (first | refine pm_W.ts rfl rfl ?_ | refine pm_W.tl rfl rfl ?_))
  refine pm_W.callI (d' := 1) (as := [.int (nI 6)]) rfl rfl rfl rfl (fr_ble rfl) p10 (fr_ble rfl) (ct_K_init (room := 6) p10 (by rw [e10.1, l9]) (by omega) (fun g11 r11 e11 => ?_))
  have o11 := ((e10.tr e11).2.2 b (by omega)).trans o9
  refine pm_W.putF rfl rfl o11 (fr_ble rfl) rfl (Or.inr ⟨rfl, rfl⟩) (fun g12 o12 e12 => ?_)
  have s4 := (fr_mk.N (a := b) (e10.tr e11)).tr (fr_mk.A (p := b + 113) e12) (by omega)
  have r12 := r11.ag e12 (by omega)
  have l12 : g12.1.length = b + 113 := by have := s4.1; omega
  (repeat (first | refine pm_W.ts rfl rfl ?_ | refine pm_W.tl rfl rfl ?_))
  refine pm_W.anewF (n := 2) rfl rfl l12 (by omega) (fun g13 p13 e13 => ?_)
  have o13 := (e13.2.2 b (by omega)).trans o12
  refine pm_W.putF rfl rfl o13 (fr_ble rfl) rfl (Or.inr ⟨rfl, rfl⟩) (fun g14 o14 e14 => ?_)
  have s5a := (fr_mk.N (a := b) e13).tr (fr_mk.A (p := b + 114) e14) (by omega)
  have p14 := e14.at (by omega) p13
  have l14 : g14.1.length = b + 114 := by have := s5a.1; omega
  (iterate 2 (first | refine pm_W.ts rfl rfl ?_ | refine pm_W.tl rfl rfl ?_))
  refine ct_D_seeds (fun g15 o15 i15 sd15 s5b => ?_) o14 p14 l14
  have s5 := s5a.tr s5b (Nat.le_refl _)
  have l15 : g15.1.length = b + 126 := by have := s5b.1; omega
  (repeat (first | refine pm_W.ts rfl rfl ?_ | refine pm_W.tl rfl rfl ?_))
  refine pm_W.newF rfl rfl l15 (fun g16 p16 e16 => ?_)
  (repeat (first | refine pm_W.ts rfl rfl ?_ | refine pm_W.tl rfl rfl ?_))
  refine pm_W.callI (d' := 0) (as := [.int (nI 117)]) rfl rfl rfl rfl (fr_ble rfl) p16 (fr_ble rfl) (ct_B_init (room := 117) p16 (by rw [e16.1, l15]) (by omega) (fun g17 r17 e17 => ?_))
  have o17 := ((e16.tr e17).2.2 b (by omega)).trans o15
  refine pm_W.putF rfl rfl o17 (fr_ble rfl) rfl (Or.inr ⟨rfl, rfl⟩) (fun g18 o18 e18 => ?_)
  have s6 := (fr_mk.N (a := b) (e16.tr e17)).tr (fr_mk.A (p := b + 128) e18) (by omega)
  have r18 := r17.ag e18 (by omega)
  have l18 : g18.1.length = b + 128 := by have := s6.1; omega
  (repeat (first | refine pm_W.ts rfl rfl ?_ | refine pm_W.tl rfl rfl ?_))
  refine pm_W.newF rfl rfl l18 (fun g19 p19 e19 => ?_)
  (repeat (first | refine pm_W.ts rfl rfl ?_ | refine pm_W.tl rfl rfl ?_))
  refine pm_W.callI (d' := 0) (as := [.int (nI 120)]) rfl rfl rfl rfl (fr_ble rfl) p19 (fr_ble rfl) (ct_B_init (room := 120) p19 (by rw [e19.1, l18]) (by omega) (fun g20 r20 e20 => ?_))
  have o20 := ((e19.tr e20).2.2 b (by omega)).trans o18
  refine pm_W.putF rfl rfl o20 (fr_ble rfl) rfl (Or.inr ⟨rfl, rfl⟩) (fun g21 o21 e21 => ?_)
  have s7 := (fr_mk.N (a := b) (e19.tr e20)).tr (fr_mk.A (p := b + 130) e21) (by omega)
  have r21 := r20.ag e21 (by omega)
  have l21 : g21.1.length = b + 130 := by have := s7.1; omega
  (repeat (first | refine pm_W.ts rfl rfl ?_ | refine pm_W.tl rfl rfl ?_))
  refine pm_W.newaF (n := 4) rfl l21 (by omega) (fun g22 p22 e22 => ?_)
  have o22 := (e22.2.2 b (by omega)).trans o21
  refine pm_W.putF rfl rfl o22 (fr_ble rfl) rfl (Or.inr ⟨rfl, rfl⟩) (fun g23 o23 e23 => ?_)
  have s8 := (fr_mk.N (a := b) e22).tr (fr_mk.A (p := b + 131) e23) (by omega)
  have p23 := e23.at (by omega) p22
  have l23 : g23.1.length = b + 131 := by have := s8.1; omega
  (repeat (first | refine pm_W.ts rfl rfl ?_ | refine pm_W.tl rfl rfl ?_))
  refine pm_W.newF rfl rfl l23 (fun g24 p24 e24 => ?_)
  (repeat (first | refine pm_W.ts rfl rfl ?_ | refine pm_W.tl rfl rfl ?_))
  refine pm_W.callI (d' := 1) (as := []) rfl rfl rfl rfl (fr_ble rfl) p24 (fr_ble rfl) (ct_T_init p24 (by rw [e24.1, l23]) (fun g25 r25 e25 => ?_))
  have o25 := ((e24.tr e25).2.2 b (by omega)).trans o23
  refine pm_W.putF rfl rfl o25 (fr_ble rfl) rfl (Or.inr ⟨rfl, rfl⟩) (fun g26 o26 e26 => ?_)
  have s9 := (fr_mk.N (a := b) (e24.tr e25)).tr (fr_mk.A (p := b + 158) e26) (by omega)
  have r26 := r25.ag e26 (by omega)
  have l26 : g26.1.length = b + 158 := by have := s9.1; omega
  (repeat (first | refine pm_W.ts rfl rfl ?_ | refine pm_W.tl rfl rfl ?_))
  refine pm_W.newF rfl rfl l26 (fun g27 p27 e27 => ?_)
  (repeat (first | refine pm_W.ts rfl rfl ?_ | refine pm_W.tl rfl rfl ?_))
  refine pm_W.callI (d' := 1) (as := []) rfl rfl rfl rfl (fr_ble rfl) p27 (fr_ble rfl) (ct_T_init p27 (by rw [e27.1, l26]) (fun g28 r28 e28 => ?_))
  have o28 := ((e27.tr e28).2.2 b (by omega)).trans o26
  refine pm_W.putF rfl rfl o28 (fr_ble rfl) rfl (Or.inr ⟨rfl, rfl⟩) (fun g29 o29 e29 => ?_)
  have t10 := (fr_mk.N (a := b) (e27.tr e28)).tr (fr_mk.A (p := b + 185) e29) (by omega)
  have r29 := r28.ag e29 (by omega)
  have t9 := s9.tr t10 (by omega)
  have t8 := s8.tr t9 (by omega)
  have t7 := s7.tr t8 (by omega)
  have t6 := s6.tr t7 (by omega)
  have t5 := s5.tr t6 (by omega)
  have t4 := s4.tr t5 (by omega)
  have t3 := s3.tr t4 (by omega)
  have t2 := s2.tr t3 (by omega)
  have t1 := s1.tr t2 (by omega)
  refine pm_W.ret rfl rfl (k g29 ⟨o29, t2.at (by omega) (by omega) c2, t3.at (by omega) (by omega) i6, fun i hi => (im6 i hi).keep fun k _ _ => t3.2.2 k (by omega) (by omega), r9.keep fun k _ _ => t4.2.2 k (by omega) (by omega), r12.keep fun k _ _ => t5.2.2 k (by omega) (by omega), t6.at (by omega) (by omega) i15, fun s hs => ?_, ⟨[], r18.keep fun k _ _ => t7.2.2 k (by omega) (by omega)⟩, r21.keep fun k _ _ => t8.2.2 k (by omega) (by omega), t9.at (by omega) (by omega) p23, rfl, r26.keep fun k _ _ => t10.2.2 k (by omega) (by omega), tr_S0, r29, tr_S0_rt⟩ (t1.new (by omega)))
  obtain ⟨z1, z2, z3⟩ := sd15 s hs
  exact ⟨t6.at (by omega) (by omega) z1, z2.keep fun k _ _ => t6.2.2 k (by omega) (by omega), z3.keep fun k _ _ => t6.2.2 k (by omega) (by omega)⟩
end CTORS3
end
section
def mr_n (i : Nat) : Nat := [0, 1952, 2, 20, 20, 20, 320, 7, 112, 112, 112, 4, 16, 46, 46].getD i 0
def mr_F (o : Nat) (I : Nat → Int32) : List Value := [.ref (o + 1), .int (I 0), .int (I 1), .ref (o + 2), .int (I 2), .int (I 3), .int (I 4), .ref (o + 3), .ref (o + 4), .ref (o + 5), .ref (o + 6), .ref (o + 7), .ref (o + 8), .ref (o + 9), .ref (o + 10), .ref (o + 11), .ref (o + 12), .int (I 5), .int (I 6), .ref (o + 13), .ref (o + 14), .int (I 7), .int (I 8), .int (I 9), .int (I 10)]
def mr_fi (j : Nat) : Nat := [1, 2, 4, 5, 6, 17, 18, 21, 22, 23, 24].getD j 0
def mr_R (h : pm_H) (o : Nat) (A : Nat → List Int32) (I : Nat → Int32) : Prop := h.1[o]? = some (.inr (.inr (kM, mr_F o I))) ∧ ∀ i, 1 ≤ i → i ≤ 14 → h.1[o + i]? = some (.inl (i == 11, A i)) ∧ (A i).length = mr_n i
theorem mr_F_up {o j : Nat} {I : Nat → Int32} {x : Int32} (hj : j ≤ 10) : (mr_F o I).set (mr_fi j) (.int x) = mr_F o (fr_up I j x) := by
  match j, hj with
  | 0, _ => rfl
  | 1, _ => rfl
  | 2, _ => rfl
  | 3, _ => rfl
  | 4, _ => rfl
  | 5, _ => rfl
  | 6, _ => rfl
  | 7, _ => rfl
  | 8, _ => rfl
  | 9, _ => rfl
  | 10, _ => rfl
  | n + 11, h => omega
section MREF
variable {xs : List Int32} {d m pc : Nat} {L st : List Value} {h h' : pm_H} {o : Nat} {A : Nat → List Int32} {I : Nat → Int32} {Q : Option Value → pm_H → Prop}
theorem mr_R.keep (hb : mr_R h o A I) (e : ∀ k, o ≤ k → k < o + 15 → h'.1[k]? = h.1[k]?) : mr_R h' o A I := ⟨(e o (by omega) (by omega)).trans hb.1, fun i h1 h2 => ⟨(e (o + i) (by omega) (by omega)).trans (hb.2 i h1 h2).1, (hb.2 i h1 h2).2⟩⟩
theorem mr_R.ag {lo hi : Nat} (hb : mr_R h o A I) (e : fr_ag lo hi h h') (hd : o + 15 ≤ lo ∨ hi ≤ o) : mr_R h' o A I := hb.keep fun k _ _ => e.2.2 k (by omega)
theorem mr_R.len (hb : mr_R h o A I) {i : Nat} (h1 : Nat.ble 1 i = true) (h2 : Nat.ble i 14 = true) : (A i).length = mr_n i := (hb.2 i (fr_ble h1) (fr_ble h2)).2
theorem mr_n_lt {i k : Nat} (h2 : i ≤ 14) (hk : k < mr_n i) : mr_n i < 2 ^ 31 := by
  have : ∀ i, i < 15 → mr_n i < 2 ^ 31 := by decide
  exact this i (by omega)
theorem mr_ld {i k nx tg : Nat} (hb : mr_R h o A I) (hi : pm_ins m pc = some (.iaload, nx, tg)) (h1 : Nat.ble 1 i = true) (h2 : Nat.ble i 14 = true) (h3 : (i == 11) = false) (hk : k < mr_n i) (kk : pm_W xs d m nx L (.int ((A i).getD k 0) :: st) h Q) : pm_W xs d m pc L (.int (nI k) :: .ref (o + i) :: st) h Q := by
  obtain ⟨e1, e2⟩ := hb.2 i (fr_ble h1) (fr_ble h2)
  rw [h3] at e1
  exact pm_W.iald hi e1 (pm_ix_ok (by rw [e2]; exact hk) (by rw [e2]; exact mr_n_lt (fr_ble h2) hk)) kk
theorem mr_ldz {k nx tg : Nat} (hb : mr_R h o A I) (hi : pm_ins m pc = some (.baload, nx, tg)) (hk : k < 4) (kk : pm_W xs d m nx L (.int ((A 11).getD k 0) :: st) h Q) : pm_W xs d m pc L (.int (nI k) :: .ref (o + 11) :: st) h Q := by
  obtain ⟨e1, e2⟩ := hb.2 11 (by omega) (by omega)
  have e2 : (A 11).length = 4 := e2
  exact pm_W.bald hi e1 (pm_ix_ok (by rw [e2]; exact hk) (by rw [e2]; omega)) kk
theorem mr_R.set {i k : Nat} {x : Int32} (hb : mr_R h o A I) (h1 : 1 ≤ i) (h2 : i ≤ 14) : mr_R (h.1.set (o + i) (.inl (i == 11, (A i).set k x)), h.2) o (fr_up A i ((A i).set k x)) I := by
  refine ⟨fr_ne hb.1 (by omega), fun j g1 g2 => ?_⟩
  by_cases e : j = i
  · subst e
    rw [fr_up_s]
    exact ⟨fr_set (hb.2 j g1 g2).1, by rw [List.length_set]; exact (hb.2 j g1 g2).2⟩
  · rw [fr_up_n e]
    exact ⟨fr_ne (hb.2 j g1 g2).1 (by omega), (hb.2 j g1 g2).2⟩
theorem mr_st {i k nx tg : Nat} {x : Int32} (hb : mr_R h o A I) (hi : pm_ins m pc = some (.iastore, nx, tg)) (h1 : Nat.ble 1 i = true) (h2 : Nat.ble i 14 = true) (h3 : (i == 11) = false) (hk : k < mr_n i) (kk : ∀ g : pm_H, mr_R g o (fr_up A i ((A i).set k x)) I → fr_ag o (o + 15) h g → pm_W xs d m nx L st g Q) : pm_W xs d m pc L (.int x :: .int (nI k) :: .ref (o + i) :: st) h Q := by
  have hs := hb.set (k := k) (x := x) (fr_ble h1) (fr_ble h2)
  obtain ⟨e1, e2⟩ := hb.2 i (fr_ble h1) (fr_ble h2)
  rw [h3] at e1 hs
  have b2 := fr_ble h2
  exact pm_W.iast hi e1 (pm_ix_ok (by rw [e2]; exact hk) (by rw [e2]; exact mr_n_lt b2 hk)) (kk _ hs (fr_agset (by omega) (by omega)))
theorem mr_stz {k nx tg : Nat} {x : Int32} (hb : mr_R h o A I) (hi : pm_ins m pc = some (.bastore, nx, tg)) (hk : k < 4) (hx : (x == 0 || x == 1) = true) (kk : ∀ g : pm_H, mr_R g o (fr_up A 11 ((A 11).set k x)) I → fr_ag o (o + 15) h g → pm_W xs d m nx L st g Q) : pm_W xs d m pc L (.int x :: .int (nI k) :: .ref (o + 11) :: st) h Q := by
  have hs := hb.set (i := 11) (k := k) (x := x) (by omega) (by omega)
  obtain ⟨e1, e2⟩ := hb.2 11 (by omega) (by omega)
  have e2 : (A 11).length = 4 := e2
  exact pm_W.bast hi e1 (pm_ix_ok (by rw [e2]; exact hk) (by rw [e2]; omega)) hx (kk _ hs (fr_agset (by omega) (by omega)))
theorem mr_pt {idx nx tg : Nat} {x : Int32} (j : Nat) (hb : mr_R h o A I) (hi : pm_ins m pc = some (.putfield idx, nx, tg)) (hf : pm_fld (pm_own m) idx = some (kM, mr_fi j)) (hj : Nat.ble j 10 = true) (hok : pm_ok (pm_fty kM (mr_fi j)) (.int x) = true) (hfin : pm_fin kM (mr_fi j) = false ∨ (pm_init m = true ∧ pm_own m = kM)) (kk : ∀ g : pm_H, mr_R g o A (fr_up I j x) → fr_ag o (o + 15) h g → pm_W xs d m nx L st g Q) : pm_W xs d m pc L (.int x :: .ref o :: st) h Q := by
  have hj' := fr_ble hj
  have hl : mr_fi j < 25 := by
    have : ∀ j, j < 11 → mr_fi j < 25 := by decide
    exact this j (by omega)
  refine pm_W.putF hi hf hb.1 hl hok hfin (fun g e1 e2 => kk g ⟨?_, fun i g1 g2 => ⟨e2.at (by omega) (hb.2 i g1 g2).1, (hb.2 i g1 g2).2⟩⟩ (e2.wide (Nat.le_refl _) (by omega)))
  rw [mr_F_up hj'] at e1
  exact e1
def mr_A0 : Nat → List Int32 := fun i => List.replicate (mr_n i) 0
def mr_I0 (z : cz_N) : Nat → Int32 := fr_up (fr_up (fr_up (fun _ => 0) 2 (nI z.1)) 3 (nI z.2.1)) 4 (nI z.2.2)
theorem ct_M_init {l m o' : Int32} (hr : h.1[o]? = some (.inr (.inr (kM, [.null, .int 0, .int 0, .null, .int 0, .int 0, .int 0, .null, .null, .null, .null, .null, .null, .null, .null, .null, .null, .int 0, .int 0, .null, .null, .int 0, .int 0, .int 0, .int 0])))) (hl : h.1.length = o + 1)
    (k : ∀ h' : pm_H, mr_R h' o mr_A0 (mr_I0 (cz_mk l m o')) → fr_new o 14 2789 h h' → Q none h') : pm_X xs 0 mM_init [.ref o, .int l, .int m, .int o'] h Q := by
  unfold pm_X
  (repeat (first | refine pm_W.ts rfl rfl ?_ | refine pm_W.tl rfl rfl ?_))
  refine pm_W.obj rfl rfl rfl rfl ?_
  (repeat (first | refine pm_W.ts rfl rfl ?_ | refine pm_W.tl rfl rfl ?_))
  refine pm_W.newaF (n := 1952) rfl hl (by omega) (fun u1 p1 e1 => ?_)
  have o1 := (e1.2.2 o (by omega)).trans hr
  refine pm_W.putF rfl rfl o1 (fr_ble rfl) rfl (Or.inr ⟨rfl, rfl⟩) (fun g1 q1 w1 => ?_)
  have s1 := (fr_mk.N (a := o) e1).tr (fr_mk.A (p := o + 2) w1) (by omega)
  replace p1 := w1.at (by omega) p1
  have l1 : g1.1.length = o + 2 := by have := s1.1; omega
  (repeat (first | refine pm_W.ts rfl rfl ?_ | refine pm_W.tl rfl rfl ?_))
  refine pm_W.newaF (n := 2) rfl l1 (by omega) (fun u2 p2 e2 => ?_)
  have o2 := (e2.2.2 o (by omega)).trans q1
  refine pm_W.putF rfl rfl o2 (fr_ble rfl) rfl (Or.inr ⟨rfl, rfl⟩) (fun g2 q2 w2 => ?_)
  have s2 := (fr_mk.N (a := o) e2).tr (fr_mk.A (p := o + 3) w2) (by omega)
  replace p2 := w2.at (by omega) p2
  have l2 : g2.1.length = o + 3 := by have := s2.1; omega
  (repeat (first | refine pm_W.ts rfl rfl ?_ | refine pm_W.tl rfl rfl ?_))
  refine pm_W.newaF (n := 20) rfl l2 (by omega) (fun u3 p3 e3 => ?_)
  have o3 := (e3.2.2 o (by omega)).trans q2
  refine pm_W.putF rfl rfl o3 (fr_ble rfl) rfl (Or.inr ⟨rfl, rfl⟩) (fun g3 q3 w3 => ?_)
  have s3 := (fr_mk.N (a := o) e3).tr (fr_mk.A (p := o + 4) w3) (by omega)
  replace p3 := w3.at (by omega) p3
  have l3 : g3.1.length = o + 4 := by have := s3.1; omega
  (repeat (first | refine pm_W.ts rfl rfl ?_ | refine pm_W.tl rfl rfl ?_))
  refine pm_W.newaF (n := 20) rfl l3 (by omega) (fun u4 p4 e4 => ?_)
  have o4 := (e4.2.2 o (by omega)).trans q3
  refine pm_W.putF rfl rfl o4 (fr_ble rfl) rfl (Or.inr ⟨rfl, rfl⟩) (fun g4 q4 w4 => ?_)
  have s4 := (fr_mk.N (a := o) e4).tr (fr_mk.A (p := o + 5) w4) (by omega)
  replace p4 := w4.at (by omega) p4
  have l4 : g4.1.length = o + 5 := by have := s4.1; omega
  (repeat (first | refine pm_W.ts rfl rfl ?_ | refine pm_W.tl rfl rfl ?_))
  refine pm_W.newaF (n := 20) rfl l4 (by omega) (fun u5 p5 e5 => ?_)
  have o5 := (e5.2.2 o (by omega)).trans q4
  refine pm_W.putF rfl rfl o5 (fr_ble rfl) rfl (Or.inr ⟨rfl, rfl⟩) (fun g5 q5 w5 => ?_)
  have s5 := (fr_mk.N (a := o) e5).tr (fr_mk.A (p := o + 6) w5) (by omega)
  replace p5 := w5.at (by omega) p5
  have l5 : g5.1.length = o + 6 := by have := s5.1; omega
  (repeat (first | refine pm_W.ts rfl rfl ?_ | refine pm_W.tl rfl rfl ?_))
  refine pm_W.newaF (n := 320) rfl l5 (by omega) (fun u6 p6 e6 => ?_)
  have o6 := (e6.2.2 o (by omega)).trans q5
  refine pm_W.putF rfl rfl o6 (fr_ble rfl) rfl (Or.inr ⟨rfl, rfl⟩) (fun g6 q6 w6 => ?_)
  have s6 := (fr_mk.N (a := o) e6).tr (fr_mk.A (p := o + 7) w6) (by omega)
  replace p6 := w6.at (by omega) p6
  have l6 : g6.1.length = o + 7 := by have := s6.1; omega
  (repeat (first | refine pm_W.ts rfl rfl ?_ | refine pm_W.tl rfl rfl ?_))
  refine pm_W.newaF (n := 7) rfl l6 (by omega) (fun u7 p7 e7 => ?_)
  have o7 := (e7.2.2 o (by omega)).trans q6
  refine pm_W.putF rfl rfl o7 (fr_ble rfl) rfl (Or.inr ⟨rfl, rfl⟩) (fun g7 q7 w7 => ?_)
  have s7 := (fr_mk.N (a := o) e7).tr (fr_mk.A (p := o + 8) w7) (by omega)
  replace p7 := w7.at (by omega) p7
  have l7 : g7.1.length = o + 8 := by have := s7.1; omega
  (repeat (first | refine pm_W.ts rfl rfl ?_ | refine pm_W.tl rfl rfl ?_))
  refine pm_W.newaF (n := 112) rfl l7 (by omega) (fun u8 p8 e8 => ?_)
  have o8 := (e8.2.2 o (by omega)).trans q7
  refine pm_W.putF rfl rfl o8 (fr_ble rfl) rfl (Or.inr ⟨rfl, rfl⟩) (fun g8 q8 w8 => ?_)
  have s8 := (fr_mk.N (a := o) e8).tr (fr_mk.A (p := o + 9) w8) (by omega)
  replace p8 := w8.at (by omega) p8
  have l8 : g8.1.length = o + 9 := by have := s8.1; omega
  (repeat (first | refine pm_W.ts rfl rfl ?_ | refine pm_W.tl rfl rfl ?_))
  refine pm_W.newaF (n := 112) rfl l8 (by omega) (fun u9 p9 e9 => ?_)
  have o9 := (e9.2.2 o (by omega)).trans q8
  refine pm_W.putF rfl rfl o9 (fr_ble rfl) rfl (Or.inr ⟨rfl, rfl⟩) (fun g9 q9 w9 => ?_)
  have s9 := (fr_mk.N (a := o) e9).tr (fr_mk.A (p := o + 10) w9) (by omega)
  replace p9 := w9.at (by omega) p9
  have l9 : g9.1.length = o + 10 := by have := s9.1; omega
  (repeat (first | refine pm_W.ts rfl rfl ?_ | refine pm_W.tl rfl rfl ?_))
  refine pm_W.newaF (n := 112) rfl l9 (by omega) (fun u10 p10 e10 => ?_)
  have o10 := (e10.2.2 o (by omega)).trans q9
  refine pm_W.putF rfl rfl o10 (fr_ble rfl) rfl (Or.inr ⟨rfl, rfl⟩) (fun g10 q10 w10 => ?_)
  have s10 := (fr_mk.N (a := o) e10).tr (fr_mk.A (p := o + 11) w10) (by omega)
  replace p10 := w10.at (by omega) p10
  have l10 : g10.1.length = o + 11 := by have := s10.1; omega
  (repeat (first | refine pm_W.ts rfl rfl ?_ | refine pm_W.tl rfl rfl ?_))
  refine pm_W.newzF (n := 4) rfl l10 (by omega) (fun u11 p11 e11 => ?_)
  have o11 := (e11.2.2 o (by omega)).trans q10
  refine pm_W.putF rfl rfl o11 (fr_ble rfl) rfl (Or.inr ⟨rfl, rfl⟩) (fun g11 q11 w11 => ?_)
  have s11 := (fr_mk.N (a := o) e11).tr (fr_mk.A (p := o + 12) w11) (by omega)
  replace p11 := w11.at (by omega) p11
  have l11 : g11.1.length = o + 12 := by have := s11.1; omega
  (repeat (first | refine pm_W.ts rfl rfl ?_ | refine pm_W.tl rfl rfl ?_))
  refine pm_W.newaF (n := 16) rfl l11 (by omega) (fun u12 p12 e12 => ?_)
  have o12 := (e12.2.2 o (by omega)).trans q11
  refine pm_W.putF rfl rfl o12 (fr_ble rfl) rfl (Or.inr ⟨rfl, rfl⟩) (fun g12 q12 w12 => ?_)
  have s12 := (fr_mk.N (a := o) e12).tr (fr_mk.A (p := o + 13) w12) (by omega)
  replace p12 := w12.at (by omega) p12
  have l12 : g12.1.length = o + 13 := by have := s12.1; omega
  (repeat (first | refine pm_W.ts rfl rfl ?_ | refine pm_W.tl rfl rfl ?_))
  refine pm_W.newaF (n := 46) rfl l12 (by omega) (fun u13 p13 e13 => ?_)
  have o13 := (e13.2.2 o (by omega)).trans q12
  refine pm_W.putF rfl rfl o13 (fr_ble rfl) rfl (Or.inr ⟨rfl, rfl⟩) (fun g13 q13 w13 => ?_)
  have s13 := (fr_mk.N (a := o) e13).tr (fr_mk.A (p := o + 14) w13) (by omega)
  replace p13 := w13.at (by omega) p13
  have l13 : g13.1.length = o + 14 := by have := s13.1; omega
  (repeat (first | refine pm_W.ts rfl rfl ?_ | refine pm_W.tl rfl rfl ?_))
  refine pm_W.newaF (n := 46) rfl l13 (by omega) (fun u14 p14 e14 => ?_)
  have o14 := (e14.2.2 o (by omega)).trans q13
  refine pm_W.putF rfl rfl o14 (fr_ble rfl) rfl (Or.inr ⟨rfl, rfl⟩) (fun g14 q14 w14 => ?_)
  have s14 := (fr_mk.N (a := o) e14).tr (fr_mk.A (p := o + 15) w14) (by omega)
  replace p14 := w14.at (by omega) p14
  have l14 : g14.1.length = o + 15 := by have := s14.1; omega
  have t14 := s14
  have t13 := s13.tr t14 (by omega)
  have t12 := s12.tr t13 (by omega)
  have t11 := s11.tr t12 (by omega)
  have t10 := s10.tr t11 (by omega)
  have t9 := s9.tr t10 (by omega)
  have t8 := s8.tr t9 (by omega)
  have t7 := s7.tr t8 (by omega)
  have t6 := s6.tr t7 (by omega)
  have t5 := s5.tr t6 (by omega)
  have t4 := s4.tr t5 (by omega)
  have t3 := s3.tr t4 (by omega)
  have t2 := s2.tr t3 (by omega)
  have t1 := s1.tr t2 (by omega)
  have hR : mr_R g14 o mr_A0 (fun _ => 0) := by
    refine ⟨q14, fun i h1 h2 => ⟨?_, List.length_replicate⟩⟩
    match i, h1, h2 with
    | 0, h1, _ => omega
    | 1, _, _ => exact t2.at (by omega) (by omega) p1
    | 2, _, _ => exact t3.at (by omega) (by omega) p2
    | 3, _, _ => exact t4.at (by omega) (by omega) p3
    | 4, _, _ => exact t5.at (by omega) (by omega) p4
    | 5, _, _ => exact t6.at (by omega) (by omega) p5
    | 6, _, _ => exact t7.at (by omega) (by omega) p6
    | 7, _, _ => exact t8.at (by omega) (by omega) p7
    | 8, _, _ => exact t9.at (by omega) (by omega) p8
    | 9, _, _ => exact t10.at (by omega) (by omega) p9
    | 10, _, _ => exact t11.at (by omega) (by omega) p10
    | 11, _, _ => exact t12.at (by omega) (by omega) p11
    | 12, _, _ => exact t13.at (by omega) (by omega) p12
    | 13, _, _ => exact t14.at (by omega) (by omega) p13
    | 14, _, _ => exact p14
    | n + 15, _, h => omega
  have hN := t1.new (by omega)
  have fin : ∀ (x1 x2 x3 : Int32) (g1 g2 : pm_H), cz_mk l m o' = (x1.toNatClampNeg, x2.toNatClampNeg, x3.toNatClampNeg) → 0 ≤ x1 → 0 ≤ x2 → 0 ≤ x3 → fr_ag o (o + 15) g14 g2 → mr_R g2 o mr_A0 (fr_up (fr_up (fr_up (fun _ => 0) 2 x1) 3 x2) 4 x3) → Q none g2 := by
    intro x1 x2 x3 g1 g2 e z1 z2 z3 hag hR2
    refine k g2 ?_ ?_
    · rw [e]
      show mr_R g2 o mr_A0 (fr_up (fr_up (fr_up (fun _ => 0) 2 (nI x1.toNatClampNeg)) 3 (nI x2.toNatClampNeg)) 4 (nI x3.toNatClampNeg))
      rw [fr_clamp z1, fr_clamp z2, fr_clamp z3]
      exact hR2
    · exact ⟨by rw [hag.2.1]; exact hN.1, by rw [hag.1]; exact hN.2.1, fun k hk => (hag.2.2 k (by omega)).trans (hN.2.2 k hk)⟩
  have tail1 : (8 ≤ l ∧ l ≤ m ∧ m ≤ o' ∧ o' ≤ 32) → pm_W xs 0 mM_init 143 (pm_entry [.ref o, .int l, .int m, .int o'] (pm_maxL mM_init)) [.int 1] g14 Q := by
    intro c
    have e : cz_mk l m o' = (l.toNatClampNeg, m.toNatClampNeg, o'.toNatClampNeg) := if_pos c
    obtain ⟨c1, c2, c3, c4⟩ := c
    have d1 : nI 8 ≤ l := c1
    have z1 : 0 ≤ l := by rw [fr_le] at d1 ⊢; rw [fr_32 8 (by omega)] at d1; rw [fr_0]; omega
    have z2 : 0 ≤ m := by rw [fr_le] at z1 c2 ⊢; omega
    have z3 : 0 ≤ o' := by rw [fr_le] at z2 c3 ⊢; omega
    (repeat (first | refine pm_W.ts rfl rfl ?_ | refine pm_W.tl rfl rfl ?_))
    refine pm_W.ifz rfl (fun z => absurd (show (1 : Int32) = 0 from z) (by decide)) (fun _ => ?_)
    (repeat (first | refine pm_W.ts rfl rfl ?_ | refine pm_W.tl rfl rfl ?_))
    refine pm_W.goto rfl ?_
    refine mr_pt 2 hR rfl rfl rfl rfl (Or.inr ⟨rfl, rfl⟩) (fun g1 r1 e1 => ?_)
    (repeat (first | refine pm_W.ts rfl rfl ?_ | refine pm_W.tl rfl rfl ?_))
    refine pm_W.ifz rfl (fun z => absurd (show (1 : Int32) = 0 from z) (by decide)) (fun _ => ?_)
    (repeat (first | refine pm_W.ts rfl rfl ?_ | refine pm_W.tl rfl rfl ?_))
    refine pm_W.goto rfl ?_
    refine mr_pt 3 r1 rfl rfl rfl rfl (Or.inr ⟨rfl, rfl⟩) (fun g2 r2 e2 => ?_)
    (repeat (first | refine pm_W.ts rfl rfl ?_ | refine pm_W.tl rfl rfl ?_))
    refine pm_W.ifz rfl (fun z => absurd (show (1 : Int32) = 0 from z) (by decide)) (fun _ => ?_)
    (repeat (first | refine pm_W.ts rfl rfl ?_ | refine pm_W.tl rfl rfl ?_))
    refine pm_W.goto rfl ?_
    refine mr_pt 4 r2 rfl rfl rfl rfl (Or.inr ⟨rfl, rfl⟩) (fun g3 r3 e3 => ?_)
    exact pm_W.ret rfl rfl (fin l m o' g3 g3 e z1 z2 z3 ((e1.tr e2).tr e3) r3)
  have tail0 : ¬ (8 ≤ l ∧ l ≤ m ∧ m ≤ o' ∧ o' ≤ 32) → pm_W xs 0 mM_init 142 (pm_entry [.ref o, .int l, .int m, .int o'] (pm_maxL mM_init)) [] g14 Q := by
    intro c
    have e : cz_mk l m o' = ((nI 8).toNatClampNeg, (nI 12).toNatClampNeg, (nI 24).toNatClampNeg) := if_neg c
    (repeat (first | refine pm_W.ts rfl rfl ?_ | refine pm_W.tl rfl rfl ?_))
    refine pm_W.ifz rfl (fun _ => ?_) (fun z => absurd (show (0 : Int32) = 0 from rfl) z)
    (repeat (first | refine pm_W.ts rfl rfl ?_ | refine pm_W.tl rfl rfl ?_))
    refine mr_pt 2 hR rfl rfl rfl rfl (Or.inr ⟨rfl, rfl⟩) (fun g1 r1 e1 => ?_)
    (repeat (first | refine pm_W.ts rfl rfl ?_ | refine pm_W.tl rfl rfl ?_))
    refine pm_W.ifz rfl (fun _ => ?_) (fun z => absurd (show (0 : Int32) = 0 from rfl) z)
    (repeat (first | refine pm_W.ts rfl rfl ?_ | refine pm_W.tl rfl rfl ?_))
    refine mr_pt 3 r1 rfl rfl rfl rfl (Or.inr ⟨rfl, rfl⟩) (fun g2 r2 e2 => ?_)
    (repeat (first | refine pm_W.ts rfl rfl ?_ | refine pm_W.tl rfl rfl ?_))
    refine pm_W.ifz rfl (fun _ => ?_) (fun z => absurd (show (0 : Int32) = 0 from rfl) z)
    (repeat (first | refine pm_W.ts rfl rfl ?_ | refine pm_W.tl rfl rfl ?_))
    refine mr_pt 4 r2 rfl rfl rfl rfl (Or.inr ⟨rfl, rfl⟩) (fun g3 r3 e3 => ?_)
    exact pm_W.ret rfl rfl (fin (nI 8) (nI 12) (nI 24) g3 g3 e (by decide) (by decide) (by decide) ((e1.tr e2).tr e3) r3)
  (repeat (first | refine pm_W.ts rfl rfl ?_ | refine pm_W.tl rfl rfl ?_))
  refine pm_W.icmp rfl (fun c => tail0 (fun z => Int32.not_le.mpr c z.1)) (fun c1 => ?_)
  (repeat (first | refine pm_W.ts rfl rfl ?_ | refine pm_W.tl rfl rfl ?_))
  refine pm_W.icmp rfl (fun c => tail0 (fun z => Int32.not_le.mpr c z.2.1)) (fun c2 => ?_)
  (repeat (first | refine pm_W.ts rfl rfl ?_ | refine pm_W.tl rfl rfl ?_))
  refine pm_W.icmp rfl (fun c => tail0 (fun z => Int32.not_le.mpr c z.2.2.1)) (fun c3 => ?_)
  (repeat (first | refine pm_W.ts rfl rfl ?_ | refine pm_W.tl rfl rfl ?_))
  refine pm_W.icmp rfl (fun c => tail0 (fun z => Int32.not_le.mpr c z.2.2.2)) (fun c4 => ?_)
  (repeat (first | refine pm_W.ts rfl rfl ?_ | refine pm_W.tl rfl rfl ?_))
  refine pm_W.goto rfl ?_
  exact tail1 ⟨fr_nlt c1, fr_nlt c2, fr_nlt c3, fr_nlt c4⟩
end MREF
end
section
theorem fr_smod {j : Nat} (hj : j < 32) : (BitVec.ofNat 32 j).smod 32 = BitVec.ofNat 32 j := by
  have : ∀ j, j < 32 → (BitVec.ofNat 32 j).smod 32 = BitVec.ofNat 32 j := by decide
  exact this j hj
theorem fr_shr {p j : Nat} (hp : p < 2 ^ 31) (hj : j < 32) : nI p >>> (nI j &&& 31) = nI (p / 2 ^ j) := by
  have e : nI j &&& 31 = nI j := by
    have := fr_mask (a := j) 5
    rw [show j % 2 ^ 5 = j by omega] at this
    exact this
  rw [e]
  apply Int32.toBitVec_inj.mp
  rw [Int32.toBitVec_shiftRight]
  show (BitVec.ofNat 32 p).sshiftRight' ((BitVec.ofNat 32 j).smod 32) = BitVec.ofNat 32 (p / 2 ^ j)
  rw [fr_smod hj]
  show (BitVec.ofNat 32 p).sshiftRight (BitVec.ofNat 32 j).toNat = _
  have hq : p / 2 ^ j ≤ p := Nat.div_le_self _ _
  have msb : (BitVec.ofNat 32 p).msb = false := by
    rw [BitVec.msb_eq_false_iff_two_mul_lt, BitVec.toNat_ofNat, Nat.mod_eq_of_lt (show p < 2 ^ 32 by omega)]
    omega
  rw [BitVec.sshiftRight_eq_of_msb_false msb]
  apply BitVec.eq_of_toNat_eq
  rw [BitVec.toNat_ushiftRight, BitVec.toNat_ofNat, BitVec.toNat_ofNat, BitVec.toNat_ofNat, Nat.shiftRight_eq_div_pow, Nat.mod_eq_of_lt (show p < 2 ^ 32 by omega), Nat.mod_eq_of_lt (show j < 2 ^ 32 by omega), Nat.mod_eq_of_lt (show p / 2 ^ j < 2 ^ 32 by omega)]
theorem fr_or {k r : Nat} (hr : r < 2 ^ 5) : nI (k * 2 ^ 5) ||| nI r = nI (k * 2 ^ 5 + r) := by
  have h1 : nI (k * 2 ^ 5) ||| nI r = nI (k * 2 ^ 5 ||| r) := by
    apply Int32.toBitVec_inj.mp
    show BitVec.ofNat 32 (k * 2 ^ 5) ||| BitVec.ofNat 32 r = BitVec.ofNat 32 (k * 2 ^ 5 ||| r)
    apply BitVec.eq_of_toNat_eq
    simp only [BitVec.toNat_or, BitVec.toNat_ofNat, Nat.or_mod_two_pow]
  rw [h1, Nat.mul_comm, ← Nat.two_pow_add_eq_or_of_lt hr]
theorem fr_low {p : Nat} (hp : p < 2 ^ 32) (h : 0 ≤ nI p) : p < 2 ^ 31 := by
  obtain ⟨j, hj, e⟩ := fr_nat h
  have e2 := congrArg (fun x : Int32 => x.toUInt32.toNat) e
  have e2 : (UInt32.ofNat p).toNat = (UInt32.ofNat j).toNat := e2
  rw [UInt32.toNat_ofNat', UInt32.toNat_ofNat'] at e2
  omega
def od (p : Nat) : Nat → Nat
  | 0 => 0
  | i + 1 => od p i * 2 ^ 5 + pa_n p i
section MPATH
variable {xs : List Int32} {h : pm_H} {o p : Nat} {A : Nat → List Int32} {I : Nat → Int32} {T : te_T} {Q : Option Value → pm_H → Prop}
theorem pa_n_lt {p i : Nat} : pa_n p i < 32 := Nat.mod_lt _ (by omega)
theorem mn_at {d : Nat} (hp : p < 2 ^ 31) (hd : d ≤ 5) : (nI p >>> ((nI 5 * nI d) &&& 31)) &&& nI (2 ^ 5 - 1) = nI (pa_n p d) := by
  rw [fr_mul, fr_shr hp (by omega), fr_mask]
  rfl
theorem ct_M_depth (hp : p < 2 ^ 31) (k : Q (some (.int (nI (pa_d p)))) h) : pm_X xs 0 mM_depth [.int (nI p)] h Q := by
  have loop : ∀ (r d : Nat), d + r = 6 → pa_dr p r d = pa_d p → pm_W xs 0 mM_depth 2 [.int (nI p), .int (nI d)] [] h Q := by
    intro r
    induction r with
    | zero =>
      intro d hd he
      (repeat (first | refine pm_W.ts rfl rfl ?_ | refine pm_W.tl rfl rfl ?_))
      refine pm_W.icmp rfl (fun c => ?_) (fun c => ?_)
      · (repeat (first | refine pm_W.ts rfl rfl ?_ | refine pm_W.tl rfl rfl ?_))
        refine pm_W.iret rfl rfl ?_
        rw [show d = pa_d p from he]
        exact k
      · have c : ¬ nI 6 ≤ nI d := c
        rw [nI_leI (by omega) (by omega)] at c
        omega
    | succ r ih =>
      intro d hd he
      (repeat (first | refine pm_W.ts rfl rfl ?_ | refine pm_W.tl rfl rfl ?_))
      refine pm_W.icmp rfl (fun c => ?_) (fun c => ?_)
      · have c : nI 6 ≤ nI d := c
        rw [nI_leI (by omega) (by omega)] at c
        omega
      · (repeat (first | refine pm_W.ts rfl rfl ?_ | refine pm_W.tl rfl rfl ?_))
        have hlt : pa_n p d < 2 ^ 31 := by unfold pa_n; omega
        have e := mn_at (p := p) (d := d) hp (by omega)
        refine pm_W.ifz rfl (fun c2 => ?_) (fun c2 => ?_)
        · have c2 : (nI p >>> ((nI 5 * nI d) &&& 31)) &&& nI (2 ^ 5 - 1) = nI 0 := c2
          rw [e, nI_eq hlt (by omega)] at c2
          (repeat (first | refine pm_W.ts rfl rfl ?_ | refine pm_W.tl rfl rfl ?_))
          refine pm_W.iret rfl rfl ?_
          unfold pa_dr at he
          rw [if_pos c2] at he
          rw [he]
          exact k
        · have c2 : ¬ (nI p >>> ((nI 5 * nI d) &&& 31)) &&& nI (2 ^ 5 - 1) = nI 0 := c2
          rw [e, nI_eq hlt (by omega)] at c2
          (repeat (first | refine pm_W.ts rfl rfl ?_ | refine pm_W.tl rfl rfl ?_))
          refine pm_W.goto rfl ?_
          unfold pa_dr at he
          rw [if_neg c2] at he
          have := ih (d + 1) (by omega) he
          rw [← fr_inc] at this
          exact this
  unfold pm_X
  (iterate 2 (first | refine pm_W.ts rfl rfl ?_ | refine pm_W.tl rfl rfl ?_))
  exact loop 6 0 (by omega) rfl
theorem ct_M_isPath (hp : p < 2 ^ 32) (k : Q (some (.int (fr_b (pa_ok p)))) h) : pm_X xs 1 mM_isPath [.int (nI p)] h Q := by
  have hd := (pa_d_spec p).1
  have no : ¬ pa_ok p = true → pm_W xs 1 mM_isPath 26 [.int (nI p)] [] h Q := by
    intro c
    have c : pa_ok p = false := Bool.eq_false_iff.mpr c
    (repeat (first | refine pm_W.ts rfl rfl ?_ | refine pm_W.tl rfl rfl ?_))
    refine pm_W.iret rfl rfl ?_
    rw [c] at k
    exact k
  unfold pm_X
  (repeat (first | refine pm_W.ts rfl rfl ?_ | refine pm_W.tl rfl rfl ?_))
  refine pm_W.ifz rfl (fun c => no (fun z => nI_pos (by have := pa_ok_30 z; omega) c)) (fun c => ?_)
  have hp31 := fr_low hp (fr_nlt c)
  (repeat (first | refine pm_W.ts rfl rfl ?_ | refine pm_W.tl rfl rfl ?_))
  refine pm_W.ifz rfl (fun c2 => no (fun z => ?_)) (fun c2 => ?_)
  · have c2 : ¬ nI p >>> (nI 30 &&& 31) = nI 0 := c2
    rw [fr_shr hp31 (by omega)] at c2
    have := pa_ok_30 z
    rw [Nat.div_eq_of_lt (by omega)] at c2
    exact c2 rfl
  · (iterate 3 (first | refine pm_W.ts rfl rfl ?_ | refine pm_W.tl rfl rfl ?_))
    refine pm_W.callS (d' := 0) rfl rfl rfl rfl (fr_ble rfl) (fr_ble rfl) (ct_M_depth hp31 ?_)
    (repeat (first | refine pm_W.ts rfl rfl ?_ | refine pm_W.tl rfl rfl ?_))
    have hq : p / 2 ^ (5 * pa_d p) ≤ p := Nat.div_le_self _ _
    have e : nI p >>> ((nI 5 * nI (pa_d p)) &&& 31) = nI (p / 2 ^ (5 * pa_d p)) := by rw [fr_mul, fr_shr hp31 (by omega)]
    refine pm_W.ifz rfl (fun c3 => no (fun z => ?_)) (fun c3 => ?_)
    · have c3 : ¬ nI p >>> ((nI 5 * nI (pa_d p)) &&& 31) = nI 0 := c3
      rw [e, of_decide_eq_true z] at c3
      exact c3 rfl
    · have c3 : ¬ ¬ nI p >>> ((nI 5 * nI (pa_d p)) &&& 31) = nI 0 := c3
      rw [e, nI_eq (by omega) (by omega)] at c3
      have z : pa_ok p = true := decide_eq_true (Decidable.not_not.mp c3)
      (repeat (first | refine pm_W.ts rfl rfl ?_ | refine pm_W.tl rfl rfl ?_))
      refine pm_W.goto rfl ?_
      refine pm_W.iret rfl rfl ?_
      rw [z] at k
      exact k
theorem ct_M_up (hp : p < 2 ^ 31) (hd1 : 1 ≤ pa_d p) (k : Q (some (.int (nI (pa_up p)))) h) : pm_X xs 1 mM_up [.int (nI p)] h Q := by
  have hd := (pa_d_spec p).1
  unfold pm_X
  (iterate 4 (first | refine pm_W.ts rfl rfl ?_ | refine pm_W.tl rfl rfl ?_))
  refine pm_W.callS (d' := 0) rfl rfl rfl rfl (fr_ble rfl) (fr_ble rfl) (ct_M_depth hp ?_)
  (repeat (first | refine pm_W.ts rfl rfl ?_ | refine pm_W.tl rfl rfl ?_))
  refine pm_W.iret rfl rfl ?_
  have e : nI p &&& ((nI 1 <<< ((nI 5 * (nI (pa_d p) - nI 1)) &&& 31)) - nI 1) = nI (pa_up p) := by
    rw [fr_sub (j := 1) hd1, fr_mul, fr_shl (by omega), fr_sub (j := 1) (by rw [Nat.one_mul]; exact Nat.two_pow_pos _), Nat.one_mul, fr_mask]
    rfl
  rw [← e] at k
  exact k
theorem ct_M_order (hp : p < 2 ^ 31) (k : Q (some (.int (nI (od p 6)))) h) : pm_X xs 0 mM_order [.int (nI p)] h Q := by
  have loop : ∀ (r i : Nat), i + r = 6 → pm_W xs 0 mM_order 4 [.int (nI p), .int (nI (od p i)), .int (nI i)] [] h Q := by
    intro r
    induction r with
    | zero =>
      intro i hi
      have e : i = 6 := by omega
      subst e
      (repeat (first | refine pm_W.ts rfl rfl ?_ | refine pm_W.tl rfl rfl ?_))
      refine pm_W.icmp rfl (fun c => ?_) (fun c => ?_)
      · (repeat (first | refine pm_W.ts rfl rfl ?_ | refine pm_W.tl rfl rfl ?_))
        exact pm_W.iret rfl rfl k
      · have c : ¬ nI 6 ≤ nI 6 := c
        rw [nI_leI (by omega) (by omega)] at c
        omega
    | succ r ih =>
      intro i hi
      (repeat (first | refine pm_W.ts rfl rfl ?_ | refine pm_W.tl rfl rfl ?_))
      refine pm_W.icmp rfl (fun c => ?_) (fun c => ?_)
      · have c : nI 6 ≤ nI i := c
        rw [nI_leI (by omega) (by omega)] at c
        omega
      · have e : (nI (od p i) <<< (nI 5 &&& 31)) ||| ((nI p >>> ((nI 5 * nI i) &&& 31)) &&& nI (2 ^ 5 - 1)) = nI (od p (i + 1)) := by
          rw [mn_at hp (by omega), fr_shl (by omega), fr_or pa_n_lt]
          rfl
        (repeat (first | refine pm_W.ts rfl rfl ?_ | refine pm_W.tl rfl rfl ?_))
        refine pm_W.goto rfl ?_
        have := ih (i + 1) (by omega)
        rw [← fr_inc, ← e] at this
        exact this
  unfold pm_X
  (iterate 4 (first | refine pm_W.ts rfl rfl ?_ | refine pm_W.tl rfl rfl ?_))
  exact loop 6 0 (by omega)
def mt (A : Nat → List Int32) (b : Nat) (T : te_T) : Prop := ∀ e, e < 10 → (A 3).getD (b + e) 0 = nI (tP T e) ∧ (tP T e ≠ 0 → (A 4).getD (b + e) 0 = nI (tK T e) ∧ (A 5).getD (b + e) 0 = nI (tB T e).length ∧ ∀ k, k < (tB T e).length → (A 6).getD (16 * (b + e) + k) 0 = (tB T e).getD k 0)
theorem tV_lt (hV : tV T) {e : Nat} (he : e < 10) : tP T e < 2 ^ 30 := by
  by_cases c : tP T e = 0
  · rw [c]; omega
  · exact pa_ok_30 (hV.1 e he c).1
theorem ct_M_slot (hb : mr_R h o A I) (hm : mt A 0 T) (hV : tV T) (hp : p < 2 ^ 30) (k1 : ∀ e, e < 10 → tP T e = p → (∀ j, j < e → tP T j ≠ p) → Q (some (.int (nI e))) h) (k0 : (∀ e, e < 10 → tP T e ≠ p) → Q (some (.int (-1))) h) : pm_X xs 0 mM_slot [.ref o, .int (nI 0), .int (nI p)] h Q := by
  have h1 := hb.1
  have loop : ∀ (r e : Nat), e + r = 10 → (∀ j, j < e → tP T j ≠ p) → pm_W xs 0 mM_slot 2 [.ref o, .int (nI 0), .int (nI p), .int (nI e)] [] h Q := by
    intro r
    induction r with
    | zero =>
      intro e he hj
      have e10 : e = 10 := by omega
      subst e10
      (repeat (first | refine pm_W.ts rfl rfl ?_ | refine pm_W.tl rfl rfl ?_))
      refine pm_W.icmp rfl (fun c => ?_) (fun c => ?_)
      · (repeat (first | refine pm_W.ts rfl rfl ?_ | refine pm_W.tl rfl rfl ?_))
        exact pm_W.iret rfl rfl (k0 hj)
      · have c : ¬ nI 0 + nI 10 ≤ nI 10 := c
        rw [nI_add, nI_leI (by omega) (by omega)] at c
        omega
    | succ r ih =>
      intro e he hj
      (repeat (first | refine pm_W.ts rfl rfl ?_ | refine pm_W.tl rfl rfl ?_))
      refine pm_W.icmp rfl (fun c => ?_) (fun c => ?_)
      · have c : nI 0 + nI 10 ≤ nI e := c
        rw [nI_add, nI_leI (by omega) (by omega)] at c
        omega
      · have ea := (hm e (by omega)).1
        rw [Nat.zero_add] at ea
        have lt := tV_lt hV (show e < 10 by omega)
        (repeat (first | refine pm_W.ts rfl rfl ?_ | refine pm_W.tl rfl rfl ?_ | refine pm_W.get rfl rfl h1 rfl ?_))
        refine mr_ld (i := 3) hb rfl rfl rfl rfl (show e < 20 by omega) ?_
        rw [ea]
        (repeat (first | refine pm_W.ts rfl rfl ?_ | refine pm_W.tl rfl rfl ?_))
        refine pm_W.icmp rfl (fun c2 => ?_) (fun c2 => ?_)
        · have c2 : ¬ nI (tP T e) = nI p := c2
          rw [nI_eq (by omega) (by omega)] at c2
          (repeat (first | refine pm_W.ts rfl rfl ?_ | refine pm_W.tl rfl rfl ?_))
          refine pm_W.goto rfl ?_
          have := ih (e + 1) (by omega) (fun j hj' => by
            by_cases z : j = e
            · rw [z]; exact c2
            · exact hj j (by omega))
          rw [← fr_inc] at this
          exact this
        · have c2 : ¬ ¬ nI (tP T e) = nI p := c2
          rw [nI_eq (by omega) (by omega)] at c2
          (repeat (first | refine pm_W.ts rfl rfl ?_ | refine pm_W.tl rfl rfl ?_))
          exact pm_W.iret rfl rfl (k1 e (by omega) (Decidable.not_not.mp c2) hj)
  unfold pm_X
  (iterate 2 (first | refine pm_W.ts rfl rfl ?_ | refine pm_W.tl rfl rfl ?_))
  exact loop 10 0 (by omega) (fun j hj => by omega)
theorem ct_M_entries (hb : mr_R h o A I) (hm : mt A 0 T) (hV : tV T) (k : Q (some (.int (nI (tr_cnt (fun s => decide (tP T (s - 1) ≠ 0)) 10)))) h) : pm_X xs 0 mM_entries [.ref o] h Q := by
  have h1 := hb.1
  have loop : ∀ (r e : Nat), e + r = 10 → pm_W xs 0 mM_entries 4 [.ref o, .int (nI (tr_cnt (fun s => decide (tP T (s - 1) ≠ 0)) e)), .int (nI e)] [] h Q := by
    intro r
    induction r with
    | zero =>
      intro e he
      have e10 : e = 10 := by omega
      subst e10
      (repeat (first | refine pm_W.ts rfl rfl ?_ | refine pm_W.tl rfl rfl ?_))
      refine pm_W.icmp rfl (fun c => ?_) (fun c => ?_)
      · (repeat (first | refine pm_W.ts rfl rfl ?_ | refine pm_W.tl rfl rfl ?_))
        exact pm_W.iret rfl rfl k
      · have c : ¬ nI 10 ≤ nI 10 := c
        rw [nI_leI (by omega) (by omega)] at c
        omega
    | succ r ih =>
      intro e he
      (repeat (first | refine pm_W.ts rfl rfl ?_ | refine pm_W.tl rfl rfl ?_))
      refine pm_W.icmp rfl (fun c => ?_) (fun c => ?_)
      · have c : nI 10 ≤ nI e := c
        rw [nI_leI (by omega) (by omega)] at c
        omega
      · have ea := (hm e (by omega)).1
        rw [Nat.zero_add] at ea
        have lt := tV_lt hV (show e < 10 by omega)
        have nx := ih (e + 1) (by omega)
        unfold tr_cnt at nx
        rw [show e + 1 - 1 = e by omega] at nx
        (repeat (first | refine pm_W.ts rfl rfl ?_ | refine pm_W.tl rfl rfl ?_ | refine pm_W.get rfl rfl h1 rfl ?_))
        refine mr_ld (i := 3) hb rfl rfl rfl rfl (show e < 20 by omega) ?_
        rw [ea]
        refine pm_W.ifz rfl (fun c2 => ?_) (fun c2 => ?_)
        · have c2 : nI (tP T e) = nI 0 := c2
          rw [nI_eq (by omega) (by omega)] at c2
          (repeat (first | refine pm_W.ts rfl rfl ?_ | refine pm_W.tl rfl rfl ?_))
          refine pm_W.goto rfl ?_
          rw [if_neg (show ¬ (decide (tP T e ≠ 0) = true) from fun z => (of_decide_eq_true z) c2), Nat.add_zero, ← fr_inc] at nx
          exact nx
        · have c2 : ¬ nI (tP T e) = nI 0 := c2
          rw [nI_eq (by omega) (by omega)] at c2
          (repeat (first | refine pm_W.ts rfl rfl ?_ | refine pm_W.tl rfl rfl ?_))
          refine pm_W.goto rfl ?_
          (repeat (first | refine pm_W.ts rfl rfl ?_ | refine pm_W.tl rfl rfl ?_))
          refine pm_W.goto rfl ?_
          rw [if_pos (decide_eq_true c2), ← fr_inc, ← fr_inc] at nx
          exact nx
  unfold pm_X
  (iterate 4 (first | refine pm_W.ts rfl rfl ?_ | refine pm_W.tl rfl rfl ?_))
  exact loop 10 0 (by omega)
theorem ct_M_fileBytes (hb : mr_R h o A I) (hm : mt A 0 T) (hV : tV T) (k : Q (some (.int (nI (te_fb T)))) h) : pm_X xs 0 mM_fileBytes [.ref o] h Q := by
  have h1 := hb.1
  have loop : ∀ (r e : Nat), e + r = 10 → pm_W xs 0 mM_fileBytes 4 [.ref o, .int (nI (tr_sm (fun s => decide (tP T (s - 1) ≠ 0 ∧ tK T (s - 1) = 1)) (fun s => (tB T (s - 1)).length) e)), .int (nI e)] [] h Q := by
    intro r
    induction r with
    | zero =>
      intro e he
      have e10 : e = 10 := by omega
      subst e10
      (repeat (first | refine pm_W.ts rfl rfl ?_ | refine pm_W.tl rfl rfl ?_))
      refine pm_W.icmp rfl (fun c => ?_) (fun c => ?_)
      · (repeat (first | refine pm_W.ts rfl rfl ?_ | refine pm_W.tl rfl rfl ?_))
        exact pm_W.iret rfl rfl k
      · have c : ¬ nI 10 ≤ nI 10 := c
        rw [nI_leI (by omega) (by omega)] at c
        omega
    | succ r ih =>
      intro e he
      (repeat (first | refine pm_W.ts rfl rfl ?_ | refine pm_W.tl rfl rfl ?_))
      refine pm_W.icmp rfl (fun c => ?_) (fun c => ?_)
      · have c : nI 10 ≤ nI e := c
        rw [nI_leI (by omega) (by omega)] at c
        omega
      · obtain ⟨ea, eb⟩ := hm e (by omega)
        rw [Nat.zero_add] at ea eb
        have lt := tV_lt hV (show e < 10 by omega)
        have nx := ih (e + 1) (by omega)
        unfold tr_sm at nx
        rw [show e + 1 - 1 = e by omega] at nx
        (repeat (first | refine pm_W.ts rfl rfl ?_ | refine pm_W.tl rfl rfl ?_ | refine pm_W.get rfl rfl h1 rfl ?_))
        refine mr_ld (i := 3) hb rfl rfl rfl rfl (show e < 20 by omega) ?_
        rw [ea]
        refine pm_W.ifz rfl (fun c2 => ?_) (fun c2 => ?_)
        · have c2 : nI (tP T e) = nI 0 := c2
          rw [nI_eq (by omega) (by omega)] at c2
          (repeat (first | refine pm_W.ts rfl rfl ?_ | refine pm_W.tl rfl rfl ?_))
          refine pm_W.goto rfl ?_
          rw [if_neg (fun z => (of_decide_eq_true z).1 c2), Nat.add_zero, ← fr_inc] at nx
          exact nx
        · have c2 : ¬ nI (tP T e) = nI 0 := c2
          rw [nI_eq (by omega) (by omega)] at c2
          obtain ⟨ek, el, -⟩ := eb c2
          have kk := (hV.1 e (by omega) c2).2.1
          (repeat (first | refine pm_W.ts rfl rfl ?_ | refine pm_W.tl rfl rfl ?_ | refine pm_W.get rfl rfl h1 rfl ?_))
          refine mr_ld (i := 4) hb rfl rfl rfl rfl (show e < 20 by omega) ?_
          rw [ek]
          (repeat (first | refine pm_W.ts rfl rfl ?_ | refine pm_W.tl rfl rfl ?_))
          refine pm_W.icmp rfl (fun c3 => ?_) (fun c3 => ?_)
          · have c3 : ¬ nI (tK T e) = nI 1 := c3
            rw [nI_eq (by omega) (by omega)] at c3
            (repeat (first | refine pm_W.ts rfl rfl ?_ | refine pm_W.tl rfl rfl ?_))
            refine pm_W.goto rfl ?_
            rw [if_neg (fun z => c3 (of_decide_eq_true z).2), Nat.add_zero, ← fr_inc] at nx
            exact nx
          · have c3 : ¬ ¬ nI (tK T e) = nI 1 := c3
            rw [nI_eq (by omega) (by omega)] at c3
            (repeat (first | refine pm_W.ts rfl rfl ?_ | refine pm_W.tl rfl rfl ?_ | refine pm_W.get rfl rfl h1 rfl ?_))
            refine mr_ld (i := 5) hb rfl rfl rfl rfl (show e < 20 by omega) ?_
            rw [el]
            (repeat (first | refine pm_W.ts rfl rfl ?_ | refine pm_W.tl rfl rfl ?_))
            refine pm_W.goto rfl ?_
            (repeat (first | refine pm_W.ts rfl rfl ?_ | refine pm_W.tl rfl rfl ?_))
            refine pm_W.goto rfl ?_
            rw [if_pos (decide_eq_true ⟨c2, Decidable.not_not.mp c3⟩), ← nI_add, ← fr_inc] at nx
            exact nx
  unfold pm_X
  (iterate 4 (first | refine pm_W.ts rfl rfl ?_ | refine pm_W.tl rfl rfl ?_))
  exact loop 10 0 (by omega)
theorem ct_M_file (hb : mr_R h o A I) (hm : mt A 0 T) (hV : tV T) (hp : p < 2 ^ 32) (k1 : ∀ e, fl_ok T p e → Q (some (.int (nI e))) h) (k0 : (∀ e, ¬ fl_ok T p e) → Q (some (.int (-1))) h) : pm_X xs 2 mM_file [.ref o, .int (nI p)] h Q := by
  have h1 := hb.1
  have no : ∀ v, (∀ e, ¬ fl_ok T p e) → pm_W xs 2 mM_file 40 [.ref o, .int (nI p), v] [] h Q := by
    intro v c
    (repeat (first | refine pm_W.ts rfl rfl ?_ | refine pm_W.tl rfl rfl ?_))
    exact pm_W.iret rfl rfl (k0 c)
  have no1 : ∀ v, (∀ e, ¬ fl_ok T p e) → pm_W xs 2 mM_file 21 [.ref o, .int (nI p), v] [.int (-1)] h Q := by
    intro v c
    (repeat (first | refine pm_W.ts rfl rfl ?_ | refine pm_W.tl rfl rfl ?_))
    refine pm_W.ifz rfl (fun _ => no _ c) (fun z => absurd (show (-1 : Int32) < 0 by decide) z)
  have no2 : ∀ v, (∀ e, ¬ fl_ok T p e) → pm_W xs 2 mM_file 20 [.ref o, .int (nI p), v] [] h Q := by
    intro v c
    (iterate 1 (first | refine pm_W.ts rfl rfl ?_ | refine pm_W.tl rfl rfl ?_))
    exact no1 v c
  unfold pm_X
  (repeat (first | refine pm_W.ts rfl rfl ?_ | refine pm_W.tl rfl rfl ?_))
  refine pm_W.callS (d' := 1) rfl rfl rfl rfl (fr_ble rfl) (fr_ble rfl) (ct_M_isPath hp ?_)
  refine pm_W.ifz rfl (fun c => no2 _ (fun e z => by have z1 := z.1; rw [fr_b0 c] at z1; cases z1)) (fun c => ?_)
  have hpo := fr_b1 c
  have hp30 := pa_ok_30 hpo
  (repeat (first | refine pm_W.ts rfl rfl ?_ | refine pm_W.tl rfl rfl ?_))
  refine pm_W.ifz rfl (fun c2 => no2 _ (fun e z => ?_)) (fun c2 => ?_)
  · have c2 : nI p = nI 0 := c2
    rw [nI_eq (by omega) (by omega)] at c2
    exact z.2.1 c2
  · have c2 : ¬ nI p = nI 0 := c2
    rw [nI_eq (by omega) (by omega)] at c2
    (repeat (first | refine pm_W.ts rfl rfl ?_ | refine pm_W.tl rfl rfl ?_))
    refine pm_W.callV (d' := 0) (as := [.int (nI 0), .int (nI p)]) rfl rfl rfl rfl (fr_ble rfl) h1 (fr_ble rfl) (ct_M_slot hb hm hV hp30 (fun e he ep hj => ?_) (fun hno => ?_))
    · refine pm_W.goto rfl ?_
      (repeat (first | refine pm_W.ts rfl rfl ?_ | refine pm_W.tl rfl rfl ?_))
      refine pm_W.ifz rfl (fun z => absurd z (nI_pos (by omega))) (fun _ => ?_)
      obtain ⟨ek, el, -⟩ := (hm e he).2 (by rw [ep]; exact c2)
      rw [Nat.zero_add] at ek el
      have kk := (hV.1 e he (by rw [ep]; exact c2)).2.1
      (repeat (first | refine pm_W.ts rfl rfl ?_ | refine pm_W.tl rfl rfl ?_ | refine pm_W.get rfl rfl h1 rfl ?_))
      refine mr_ld (i := 4) hb rfl rfl rfl rfl (show e < 20 by omega) ?_
      rw [ek]
      (repeat (first | refine pm_W.ts rfl rfl ?_ | refine pm_W.tl rfl rfl ?_))
      refine pm_W.icmp rfl (fun c3 => no _ (fun e' z => ?_)) (fun c3 => ?_)
      · have c3 : ¬ nI (tK T e) = nI 1 := c3
        rw [nI_eq (by omega) (by omega)] at c3
        obtain ⟨z1, z2, z3, z4, z5⟩ := z
        have : e = e' := hV.2.1 e e' he z3 (by rw [ep]; exact c2) (by rw [ep, z4])
        rw [this] at c3
        exact c3 z5
      · have c3 : ¬ ¬ nI (tK T e) = nI 1 := c3
        rw [nI_eq (by omega) (by omega)] at c3
        (repeat (first | refine pm_W.ts rfl rfl ?_ | refine pm_W.tl rfl rfl ?_))
        refine pm_W.goto rfl ?_
        exact pm_W.iret rfl rfl (k1 e ⟨hpo, c2, he, ep, Decidable.not_not.mp c3⟩)
    · refine pm_W.goto rfl ?_
      exact no1 _ (fun e z => hno e z.2.2.1 z.2.2.2.1)
end MPATH
end
section
theorem fr_gs {l : List Int32} {k : Nat} {x : Int32} (hk : k < l.length) : (l.set k x).getD k 0 = x := by
  rw [List.getD_eq_getElem?_getD, List.getElem?_set_self hk]
  rfl
theorem fr_gn {l : List Int32} {k j : Nat} {x : Int32} (h : k ≠ j) : (l.set k x).getD j 0 = l.getD j 0 := by
  rw [List.getD_eq_getElem?_getD, List.getElem?_set_ne h, List.getD_eq_getElem?_getD]
section MTREE
variable {xs : List Int32} {h : pm_H} {o p : Nat} {A : Nat → List Int32} {I : Nat → Int32} {T : te_T} {Q : Option Value → pm_H → Prop}
theorem mt_create {p v e : Nat} {A' : Nat → List Int32} (hm : mt A 0 T) (he : e < 10) (l3 : e < (A 3).length) (l4 : e < (A 4).length) (l5 : e < (A 5).length) (e3 : A' 3 = (A 3).set e (nI p)) (e4 : A' 4 = (A 4).set e (nI v)) (e5 : A' 5 = (A 5).set e 0) (e6 : A' 6 = A 6) : mt A' 0 (fr_up T e (p, v, [])) := by
  intro j hj
  rw [Nat.zero_add, tP_up, tK_up, tB_up, e3, e4, e5, e6]
  by_cases c : j = e
  · subst c
    rw [if_pos rfl, if_pos rfl, if_pos rfl, fr_gs l3, fr_gs l4, fr_gs l5]
    exact ⟨rfl, fun _ => ⟨rfl, rfl, fun k hk => absurd hk (Nat.not_lt_zero _)⟩⟩
  · rw [if_neg c, if_neg c, if_neg c, fr_gn (fun z => c z.symm), fr_gn (fun z => c z.symm), fr_gn (fun z => c z.symm)]
    have := hm j hj
    rw [Nat.zero_add] at this
    exact this
theorem ct_M_create {y : Int32} (hb : mr_R h o A I) (hm : mt A 0 T) (hV : tV T) (hp : p < 2 ^ 32)
    (k1 : ∀ v e, cr_ok T p y v e → ∀ (g : pm_H) (A' : Nat → List Int32), mr_R g o A' I → mt A' 0 (fr_up T e (p, v, [])) → (∀ i, i < 3 ∨ 6 < i → A' i = A i) → fr_ag o (o + 15) h g → Q (some (.int 1)) g)
    (k0 : (∀ v e, ¬ cr_ok T p y v e) → Q (some (.int 0)) h) : pm_X xs 2 mM_create [.ref o, .int (nI p), .int y] h Q := by
  have h1 := hb.1
  have no : ∀ (v3 v4 v5 : Value), (∀ v e, ¬ cr_ok T p y v e) → pm_W xs 2 mM_create 30 [.ref o, .int (nI p), .int y, v3, v4, v5] [] h Q := by
    intro v3 v4 v5 c
    (repeat (first | refine pm_W.ts rfl rfl ?_ | refine pm_W.tl rfl rfl ?_))
    exact pm_W.iret rfl rfl (k0 c)
  have no2 : ∀ (v3 v4 v5 : Value), (∀ v e, ¬ cr_ok T p y v e) → pm_W xs 2 mM_create 86 [.ref o, .int (nI p), .int y, v3, v4, v5] [] h Q := by
    intro v3 v4 v5 c
    (repeat (first | refine pm_W.ts rfl rfl ?_ | refine pm_W.tl rfl rfl ?_))
    exact pm_W.iret rfl rfl (k0 c)
  have main : ∀ v, (v = 1 ∨ v = 2) → y = nI v → pa_ok p = true → p ≠ 0 → pm_W xs 2 mM_create 21 [.ref o, .int (nI p), .int y, pm_none, pm_none, pm_none] [] h Q := by
    intro v hv hy hpo hp0
    have hp30 := pa_ok_30 hpo
    obtain ⟨-, u2, u3, -⟩ := pa_split hpo hp0
    have hu30 := pa_ok_30 u3
    have hd1 := pa_d_pos hpo hp0
    (repeat (first | refine pm_W.ts rfl rfl ?_ | refine pm_W.tl rfl rfl ?_))
    refine pm_W.callV (d' := 0) (as := [.int (nI 0), .int (nI p)]) rfl rfl rfl rfl (fr_ble rfl) h1 (fr_ble rfl) (ct_M_slot hb hm hV hp30 (fun e he ep hj => ?_) (fun hno => ?_))
    · refine pm_W.ifz rfl (fun z => absurd z (nI_pos (by omega))) (fun _ => no _ _ _ (fun v e' q => q.2.2.2.2.1 e he ep))
    · refine pm_W.ifz rfl (fun _ => ?_) (fun z => absurd (show (-1 : Int32) < 0 by decide) z)
      (repeat (first | refine pm_W.ts rfl rfl ?_ | refine pm_W.tl rfl rfl ?_))
      refine pm_W.callS (d' := 1) rfl rfl rfl rfl (fr_ble rfl) (fr_ble rfl) (ct_M_up (by omega) hd1 ?_)
      have st53 : ∀ x4 : Int32, (pa_up p = 0 ∨ (∃ e1, e1 < 10 ∧ tP T e1 = pa_up p ∧ x4 = nI e1) ∨ ((∀ e1, e1 < 10 → tP T e1 ≠ pa_up p) ∧ x4 = -1)) → pm_W xs 2 mM_create 53 [.ref o, .int (nI p), .int y, .int (nI (pa_up p)), .int x4, pm_none] [] h Q := by
        intro x4 h4
        have st88 : ∀ e, cr_ok T p y v e → pm_W xs 2 mM_create 88 [.ref o, .int (nI p), .int y, .int (nI (pa_up p)), .int x4, .int (nI e)] [] h Q := by
          intro e q
          have he : e < 10 := q.2.2.2.2.2.2.1
          have m3 : (A 3).length = 20 := hb.len (i := 3) rfl rfl
          have m4 : (A 4).length = 20 := hb.len (i := 4) rfl rfl
          have m5 : (A 5).length = 20 := hb.len (i := 5) rfl rfl
          (repeat (first | refine pm_W.ts rfl rfl ?_ | refine pm_W.tl rfl rfl ?_ | refine pm_W.get rfl rfl h1 rfl ?_))
          refine mr_st (i := 3) hb rfl rfl rfl rfl (show e < 20 by omega) (fun g1 r1 a1 => ?_)
          have h2 := r1.1
          (repeat (first | refine pm_W.ts rfl rfl ?_ | refine pm_W.tl rfl rfl ?_ | refine pm_W.get rfl rfl h2 rfl ?_))
          refine mr_st (i := 4) r1 rfl rfl rfl rfl (show e < 20 by omega) (fun g2 r2 a2 => ?_)
          have h3 := r2.1
          (repeat (first | refine pm_W.ts rfl rfl ?_ | refine pm_W.tl rfl rfl ?_ | refine pm_W.get rfl rfl h3 rfl ?_))
          refine mr_st (i := 5) r2 rfl rfl rfl rfl (show e < 20 by omega) (fun g3 r3 a3 => ?_)
          (repeat (first | refine pm_W.ts rfl rfl ?_ | refine pm_W.tl rfl rfl ?_))
          refine pm_W.iret rfl rfl (k1 v e q g3 _ r3 (mt_create hm he (by omega) (by omega) (by omega) rfl ?_ rfl rfl) (fun i hi => ?_) ((a1.tr a2).tr a3))
          · rw [hy]; rfl
          · rw [fr_up_n (by omega), fr_up_n (by omega), fr_up_n (by omega)]
        have st81 : ∀ x5 : Int32, te_dir T (pa_up p) → ((∃ e, e < 10 ∧ tP T e = 0 ∧ (∀ j, j < e → tP T j ≠ 0) ∧ x5 = nI e) ∨ ((∀ e, e < 10 → tP T e ≠ 0) ∧ x5 = -1)) → pm_W xs 2 mM_create 81 [.ref o, .int (nI p), .int y, .int (nI (pa_up p)), .int x4, .int x5] [] h Q := by
          intro x5 hdir h5
          rcases h5 with ⟨e, he, e0, ej, rfl⟩ | ⟨hno0, rfl⟩
          · (repeat (first | refine pm_W.ts rfl rfl ?_ | refine pm_W.tl rfl rfl ?_))
            refine pm_W.ifz rfl (fun _ => st88 e ⟨hpo, hp0, hv, hy, hno, hdir, he, e0, ej⟩) (fun z => absurd (nI_pos' (by omega)) z)
          · (repeat (first | refine pm_W.ts rfl rfl ?_ | refine pm_W.tl rfl rfl ?_))
            refine pm_W.ifz rfl (fun z => absurd (show (0 : Int32) ≤ -1 from z) (by decide)) (fun _ => no2 _ _ _ (fun v e q => hno0 e q.2.2.2.2.2.2.1 q.2.2.2.2.2.2.2.1))
        have st61 : ∀ x5 : Int32, ((∃ e, e < 10 ∧ tP T e = 0 ∧ (∀ j, j < e → tP T j ≠ 0) ∧ x5 = nI e) ∨ ((∀ e, e < 10 → tP T e ≠ 0) ∧ x5 = -1)) → pm_W xs 2 mM_create 61 [.ref o, .int (nI p), .int y, .int (nI (pa_up p)), .int x4, .int x5] [] h Q := by
          intro x5 h5
          (repeat (first | refine pm_W.ts rfl rfl ?_ | refine pm_W.tl rfl rfl ?_))
          refine pm_W.ifz rfl (fun c => ?_) (fun c => ?_)
          · have c : nI (pa_up p) = nI 0 := c
            rw [nI_eq (by omega) (by omega)] at c
            exact st81 x5 (Or.inl c) h5
          · have c : ¬ nI (pa_up p) = nI 0 := c
            rw [nI_eq (by omega) (by omega)] at c
            rcases h4 with z | ⟨e1, g1, g2, rfl⟩ | ⟨g1, rfl⟩
            · exact absurd z c
            · (repeat (first | refine pm_W.ts rfl rfl ?_ | refine pm_W.tl rfl rfl ?_))
              refine pm_W.ifz rfl (fun z => absurd z (nI_pos (by omega))) (fun _ => ?_)
              obtain ⟨ek, -⟩ := (hm e1 g1).2 (by rw [g2]; exact c)
              rw [Nat.zero_add] at ek
              have kk := (hV.1 e1 g1 (by rw [g2]; exact c)).2.1
              (repeat (first | refine pm_W.ts rfl rfl ?_ | refine pm_W.tl rfl rfl ?_ | refine pm_W.get rfl rfl h1 rfl ?_))
              refine mr_ld (i := 4) hb rfl rfl rfl rfl (show e1 < 20 by omega) ?_
              rw [ek]
              (repeat (first | refine pm_W.ts rfl rfl ?_ | refine pm_W.tl rfl rfl ?_))
              refine pm_W.icmp rfl (fun c3 => no2 _ _ _ (fun v' e q => ?_)) (fun c3 => ?_)
              · have c3 : ¬ nI (tK T e1) = nI 2 := c3
                rw [nI_eq (by omega) (by omega)] at c3
                rcases q.2.2.2.2.2.1 with z | ⟨e2, z1, z2, z3⟩
                · exact c z
                · have : e1 = e2 := hV.2.1 e1 e2 g1 z1 (by rw [g2]; exact c) (by rw [g2, z2])
                  rw [this] at c3
                  exact c3 z3
              · have c3 : ¬ ¬ nI (tK T e1) = nI 2 := c3
                rw [nI_eq (by omega) (by omega)] at c3
                exact st81 x5 (Or.inr ⟨e1, g1, g2, Decidable.not_not.mp c3⟩) h5
            · (repeat (first | refine pm_W.ts rfl rfl ?_ | refine pm_W.tl rfl rfl ?_))
              refine pm_W.ifz rfl (fun _ => no2 _ _ _ (fun v' e q => ?_)) (fun z => absurd (show (-1 : Int32) < 0 by decide) z)
              rcases q.2.2.2.2.2.1 with z | ⟨e2, z1, z2, z3⟩
              · exact c z
              · exact g1 e2 z1 z2
        (repeat (first | refine pm_W.ts rfl rfl ?_ | refine pm_W.tl rfl rfl ?_))
        refine pm_W.callV (d' := 0) (as := [.int (nI 0), .int (nI 0)]) rfl rfl rfl rfl (fr_ble rfl) h1 (fr_ble rfl) (ct_M_slot (p := 0) hb hm hV (by omega) (fun e he ep hj => ?_) (fun hno => ?_))
        · (iterate 1 (first | refine pm_W.ts rfl rfl ?_ | refine pm_W.tl rfl rfl ?_))
          exact st61 (nI e) (Or.inl ⟨e, he, ep, hj, rfl⟩)
        · (iterate 1 (first | refine pm_W.ts rfl rfl ?_ | refine pm_W.tl rfl rfl ?_))
          exact st61 (-1) (Or.inr ⟨hno, rfl⟩)
      (iterate 2 (first | refine pm_W.ts rfl rfl ?_ | refine pm_W.tl rfl rfl ?_))
      refine pm_W.ifz rfl (fun c => ?_) (fun c => ?_)
      · have c : ¬ nI (pa_up p) = nI 0 := c
        rw [nI_eq (by omega) (by omega)] at c
        (repeat (first | refine pm_W.ts rfl rfl ?_ | refine pm_W.tl rfl rfl ?_))
        refine pm_W.callV (d' := 0) (as := [.int (nI 0), .int (nI (pa_up p))]) rfl rfl rfl rfl (fr_ble rfl) h1 (fr_ble rfl) (ct_M_slot hb hm hV hu30 (fun e he ep hj => ?_) (fun hno => ?_))
        · (iterate 1 (first | refine pm_W.ts rfl rfl ?_ | refine pm_W.tl rfl rfl ?_))
          exact st53 (nI e) (Or.inr (Or.inl ⟨e, he, ep, rfl⟩))
        · (iterate 1 (first | refine pm_W.ts rfl rfl ?_ | refine pm_W.tl rfl rfl ?_))
          exact st53 (-1) (Or.inr (Or.inr ⟨hno, rfl⟩))
      · have c : ¬ ¬ nI (pa_up p) = nI 0 := c
        rw [nI_eq (by omega) (by omega)] at c
        (iterate 1 (first | refine pm_W.ts rfl rfl ?_ | refine pm_W.tl rfl rfl ?_))
        refine pm_W.goto rfl ?_
        (iterate 1 (first | refine pm_W.ts rfl rfl ?_ | refine pm_W.tl rfl rfl ?_))
        exact st53 (-1) (Or.inl (Decidable.not_not.mp c))
  unfold pm_X
  (repeat (first | refine pm_W.ts rfl rfl ?_ | refine pm_W.tl rfl rfl ?_))
  refine pm_W.callS (d' := 1) rfl rfl rfl rfl (fr_ble rfl) (fr_ble rfl) (ct_M_isPath hp ?_)
  refine pm_W.ifz rfl (fun c => no _ _ _ (fun v e q => by have q1 := q.1; rw [fr_b0 c] at q1; cases q1)) (fun c => ?_)
  have hpo := fr_b1 c
  have hp30 := pa_ok_30 hpo
  (repeat (first | refine pm_W.ts rfl rfl ?_ | refine pm_W.tl rfl rfl ?_))
  refine pm_W.ifz rfl (fun c2 => no _ _ _ (fun v e q => ?_)) (fun c2 => ?_)
  · have c2 : nI p = nI 0 := c2
    rw [nI_eq (by omega) (by omega)] at c2
    exact q.2.1 c2
  · have c2 : ¬ nI p = nI 0 := c2
    rw [nI_eq (by omega) (by omega)] at c2
    (repeat (first | refine pm_W.ts rfl rfl ?_ | refine pm_W.tl rfl rfl ?_))
    refine pm_W.icmp rfl (fun c3 => main 1 (Or.inl rfl) c3 hpo c2) (fun c3 => ?_)
    (repeat (first | refine pm_W.ts rfl rfl ?_ | refine pm_W.tl rfl rfl ?_))
    refine pm_W.icmp rfl (fun c4 => no _ _ _ (fun v e q => ?_)) (fun c4 => main 2 (Or.inr rfl) (Decidable.not_not.mp c4) hpo c2)
    rcases q.2.2.1 with z | z
    · rw [z] at q; exact c3 q.2.2.2.1
    · rw [z] at q; exact c4 q.2.2.2.1
theorem mt_setB {e : Nat} {bs : List Int32} {A' : Nat → List Int32} (hm : mt A 0 T) (hV : tV T) (he : e < 10) (hp0 : p ≠ 0) (ep : tP T e = p) (hk : tK T e = 1) (e3 : A' 3 = A 3) (e4 : A' 4 = A 4) (e5 : ∀ j, j < 10 → (A' 5).getD j 0 = if j = e then nI bs.length else (A 5).getD j 0) (e6 : ∀ j k, j < 10 → k < 16 → j ≠ e → (A' 6).getD (16 * j + k) 0 = (A 6).getD (16 * j + k) 0) (e6' : ∀ k, k < bs.length → (A' 6).getD (16 * e + k) 0 = bs.getD k 0) : mt A' 0 (fr_up T e (p, 1, bs)) := by
  intro j hj
  have hmj := hm j hj
  rw [Nat.zero_add] at hmj ⊢
  rw [tP_up, tK_up, tB_up, e3, e4, e5 j hj]
  by_cases c : j = e
  · subst c
    rw [if_pos rfl, if_pos rfl, if_pos rfl, if_pos rfl]
    rw [ep] at hmj
    refine ⟨hmj.1, fun _ => ⟨?_, rfl, e6'⟩⟩
    have := (hmj.2 hp0).1
    rw [hk] at this
    exact this
  · rw [if_neg c, if_neg c, if_neg c, if_neg c]
    refine ⟨hmj.1, fun z => ⟨(hmj.2 z).1, (hmj.2 z).2.1, fun k hk => ?_⟩⟩
    rw [e6 j k hj (by have := (hV.1 j hj z).2.2.1; omega) c]
    exact (hmj.2 z).2.2 k hk
theorem ct_M_edit {x v : Int32} (hb : mr_R h o A I) (hm : mt A 0 T) (hV : tV T) (hp : p < 2 ^ 32)
    (k1 : ∀ e i, fl_ok T p e → i < (tB T e).length → x = nI i → ∀ (g : pm_H) (A' : Nat → List Int32), mr_R g o A' I → mt A' 0 (fr_up T e (p, 1, (tB T e).set i (v &&& 255))) → (∀ i, i < 3 ∨ 6 < i → A' i = A i) → fr_ag o (o + 15) h g → Q (some (.int 1)) g)
    (k0 : (∀ e i, fl_ok T p e → i < (tB T e).length → x ≠ nI i) → Q (some (.int 0)) h) : pm_X xs 3 mM_edit [.ref o, .int (nI p), .int x, .int v] h Q := by
  have h1 := hb.1
  have no : ∀ (v4 : Value), (∀ e i, fl_ok T p e → i < (tB T e).length → x ≠ nI i) → pm_W xs 3 mM_edit 27 [.ref o, .int (nI p), .int x, .int v, v4] [] h Q := by
    intro v4 c
    (repeat (first | refine pm_W.ts rfl rfl ?_ | refine pm_W.tl rfl rfl ?_))
    exact pm_W.iret rfl rfl (k0 c)
  unfold pm_X
  (repeat (first | refine pm_W.ts rfl rfl ?_ | refine pm_W.tl rfl rfl ?_))
  refine pm_W.callV (d' := 2) (as := [.int (nI p)]) rfl rfl rfl rfl (fr_ble rfl) h1 (fr_ble rfl) (ct_M_file hb hm hV hp (fun e q => ?_) (fun hno => ?_))
  · obtain ⟨q1, q2, q3, q4, q5⟩ := id q
    have uniq : ∀ {e2 : Nat}, fl_ok T p e2 → e2 = e := fun h1 => hV.2.1 _ e h1.2.2.1 q3 (by rw [h1.2.2.2.1]; exact q2) (h1.2.2.2.1.trans q4.symm)
    have hl16 := (hV.1 e q3 (by rw [q4]; exact q2)).2.2.1
    obtain ⟨ek, el, ed⟩ := (hm e q3).2 (by rw [q4]; exact q2)
    rw [Nat.zero_add] at ek el ed
    (repeat (first | refine pm_W.ts rfl rfl ?_ | refine pm_W.tl rfl rfl ?_))
    refine pm_W.ifz rfl (fun z => absurd z (nI_pos (by omega))) (fun _ => ?_)
    (repeat (first | refine pm_W.ts rfl rfl ?_ | refine pm_W.tl rfl rfl ?_))
    refine pm_W.ifz rfl (fun z => no _ (fun e2 i r1 r2 r3 => ?_)) (fun c => ?_)
    · rw [r3] at z
      rw [uniq r1] at r2
      exact nI_pos (by omega) z
    · obtain ⟨i, hi, rfl⟩ := fr_nat (fr_nlt c)
      (repeat (first | refine pm_W.ts rfl rfl ?_ | refine pm_W.tl rfl rfl ?_ | refine pm_W.get rfl rfl h1 rfl ?_))
      refine mr_ld (i := 5) hb rfl rfl rfl rfl (show e < 20 by omega) ?_
      rw [el]
      refine pm_W.icmp rfl (fun c2 => ?_) (fun c2 => no _ (fun e2 i2 r1 r2 r3 => ?_))
      · have c2 : nI i < nI (tB T e).length := c2
        rw [nI_ltI hi (by omega)] at c2
        have m6 : (A 6).length = 320 := hb.len (i := 6) rfl rfl
        (repeat (first | refine pm_W.ts rfl rfl ?_ | refine pm_W.tl rfl rfl ?_ | refine pm_W.get rfl rfl h1 rfl ?_))
        have ei : nI 16 * nI e + nI i = nI (16 * e + i) := by rw [fr_mul, nI_add]
        show pm_W xs 3 mM_edit _ _ [.int (v &&& nI 255), .int (nI 16 * nI e + nI i), .ref (o + 6)] h Q
        rw [ei]
        refine mr_st (i := 6) hb rfl rfl rfl rfl (show 16 * e + i < 320 by omega) (fun g1 r1 a1 => ?_)
        (repeat (first | refine pm_W.ts rfl rfl ?_ | refine pm_W.tl rfl rfl ?_))
        refine pm_W.iret rfl rfl (k1 e i q c2 rfl g1 _ r1 (mt_setB hm hV q3 q2 q4 q5 rfl rfl (fun j hj => ?_) (fun j k hj hk hje => ?_) (fun k hk => ?_)) (fun i hi => fr_up_n (by omega)) a1)
        · rw [List.length_set]
          by_cases c : j = e
          · rw [if_pos c, c]; exact el
          · rw [if_neg c]; rfl
        · rw [fr_up_s, fr_gn (by omega)]
        · rw [List.length_set] at hk
          rw [fr_up_s]
          by_cases c : k = i
          · subst c
            rw [fr_gs (by omega), fr_gs hk]
            rfl
          · rw [fr_gn (by omega), fr_gn (fun z => c z.symm)]
            exact ed k hk
      · have c2 : ¬ nI i < nI (tB T e).length := c2
        rw [nI_ltI hi (by omega)] at c2
        rw [uniq r1] at r2
        rw [nI_eq hi (by omega)] at r3
        omega
  · (repeat (first | refine pm_W.ts rfl rfl ?_ | refine pm_W.tl rfl rfl ?_))
    refine pm_W.ifz rfl (fun _ => no _ (fun e i q => absurd q (hno e))) (fun z => absurd (show (-1 : Int32) < 0 by decide) z)
end MTREE
end
section
section MTREE2
variable {xs : List Int32} {h : pm_H} {o p : Nat} {A : Nat → List Int32} {I : Nat → Int32} {T : te_T} {Q : Option Value → pm_H → Prop}
theorem ap_bs_at {v : Int32} {n j : Nat} (hj : j < n) : (ap_bs v n).getD j 0 = (v + nI (37 * j)) &&& 255 := by
  rw [List.getD_eq_getElem?_getD]
  simp [ap_bs, hj]
theorem fr_gapp {a b : List Int32} {j : Nat} : (a ++ b).getD j 0 = if j < a.length then a.getD j 0 else b.getD (j - a.length) 0 := by
  rw [List.getD_eq_getElem?_getD]
  split
  · rename_i c
    rw [List.getElem?_append_left c, List.getD_eq_getElem?_getD]
  · rename_i c
    rw [List.getElem?_append_right (by omega), List.getD_eq_getElem?_getD]
theorem ct_M_append {v x : Int32} (hb : mr_R h o A I) (hm : mt A 0 T) (hV : tV T) (hp : p < 2 ^ 32)
    (k1 : ∀ e n, ap_ok T p n e → x = nI n → ∀ (g : pm_H) (A' : Nat → List Int32), mr_R g o A' I → mt A' 0 (fr_up T e (p, 1, tB T e ++ ap_bs v n)) → (∀ i, i < 3 ∨ 6 < i → A' i = A i) → fr_ag o (o + 15) h g → Q (some (.int (nI ((tB T e).length + n)))) g)
    (k0 : (∀ e n, ap_ok T p n e → x ≠ nI n) → Q (some (.int (-1))) h) : pm_X xs 3 mM_append [.ref o, .int (nI p), .int v, .int x] h Q := by
  have h1 := hb.1
  have no : ∀ (v4 v5 : Value), (∀ e n, ap_ok T p n e → x ≠ nI n) → pm_W xs 3 mM_append 48 [.ref o, .int (nI p), .int v, .int x, v4, v5] [] h Q := by
    intro v4 v5 c
    (repeat (first | refine pm_W.ts rfl rfl ?_ | refine pm_W.tl rfl rfl ?_))
    exact pm_W.iret rfl rfl (k0 c)
  unfold pm_X
  (repeat (first | refine pm_W.ts rfl rfl ?_ | refine pm_W.tl rfl rfl ?_))
  refine pm_W.callV (d' := 2) (as := [.int (nI p)]) rfl rfl rfl rfl (fr_ble rfl) h1 (fr_ble rfl) (ct_M_file hb hm hV hp (fun e q => ?_) (fun hno => ?_))
  · obtain ⟨q1, q2, q3, q4, q5⟩ := id q
    have uniq : ∀ {e2 n : Nat}, ap_ok T p n e2 → e2 = e := fun h1 => hV.2.1 _ e h1.1.2.2.1 q3 (by rw [h1.1.2.2.2.1]; exact q2) (h1.1.2.2.2.1.trans q4.symm)
    have hl16 := (hV.1 e q3 (by rw [q4]; exact q2)).2.2.1
    have hfb := hV.2.2
    obtain ⟨ek, el, ed⟩ := (hm e q3).2 (by rw [q4]; exact q2)
    rw [Nat.zero_add] at ek el ed
    (repeat (first | refine pm_W.ts rfl rfl ?_ | refine pm_W.tl rfl rfl ?_))
    refine pm_W.ifz rfl (fun z => absurd z (nI_pos (by omega))) (fun _ => ?_)
    (repeat (first | refine pm_W.ts rfl rfl ?_ | refine pm_W.tl rfl rfl ?_))
    refine pm_W.icmp rfl (fun c => no _ _ (fun e2 n h1 h2 => ?_)) (fun c => ?_)
    · have c : x < nI 1 := c
      have := h1.2.1
      have h3 := h1.2.2.1
      rw [h2, nI_ltI (by omega) (by omega)] at c
      omega
    · have c : ¬ x < nI 1 := c
      (repeat (first | refine pm_W.ts rfl rfl ?_ | refine pm_W.tl rfl rfl ?_))
      refine pm_W.icmp rfl (fun d => no _ _ (fun e2 n h1 h2 => ?_)) (fun d => ?_)
      · have d : nI 16 < x := d
        have h3 := h1.2.2.1
        rw [h2, nI_ltI (by omega) (by omega)] at d
        omega
      · have d : ¬ nI 16 < x := d
        obtain ⟨n, hn, rfl⟩ := fr_nat (x := x) (by
          rw [fr_lt, nI_toInt (by omega)] at c
          rw [fr_le]
          show 0 ≤ x.toInt
          omega)
        rw [nI_ltI hn (by omega)] at c
        rw [nI_ltI (by omega) hn] at d
        (repeat (first | refine pm_W.ts rfl rfl ?_ | refine pm_W.tl rfl rfl ?_ | refine pm_W.get rfl rfl h1 rfl ?_))
        refine mr_ld (i := 5) hb rfl rfl rfl rfl (show e < 20 by omega) ?_
        rw [el]
        (iterate 2 (first | refine pm_W.ts rfl rfl ?_ | refine pm_W.tl rfl rfl ?_))
        rw [nI_add]
        (iterate 1 (first | refine pm_W.ts rfl rfl ?_ | refine pm_W.tl rfl rfl ?_))
        refine pm_W.icmp rfl (fun g1 => no _ _ (fun e2 n2 r1 r2 => ?_)) (fun g1 => ?_)
        · have g1 : nI 16 < nI ((tB T e).length + n) := g1
          rw [nI_ltI (by omega) (by omega)] at g1
          have r3 := r1.2.2.1
          rw [uniq r1] at r3
          rw [nI_eq (by omega) (by omega)] at r2
          omega
        · have g1 : ¬ nI 16 < nI ((tB T e).length + n) := g1
          rw [nI_ltI (by omega) (by omega)] at g1
          (repeat (first | refine pm_W.ts rfl rfl ?_ | refine pm_W.tl rfl rfl ?_))
          refine pm_W.callV (d' := 0) (as := []) rfl rfl rfl rfl (fr_ble rfl) h1 (fr_ble rfl) (ct_M_fileBytes hb hm hV ?_)
          (iterate 1 (first | refine pm_W.ts rfl rfl ?_ | refine pm_W.tl rfl rfl ?_))
          show pm_W xs 3 mM_append _ _ [.int (nI n), .int (nI (te_fb T))] h Q
          (iterate 1 (first | refine pm_W.ts rfl rfl ?_ | refine pm_W.tl rfl rfl ?_))
          rw [nI_add]
          (iterate 1 (first | refine pm_W.ts rfl rfl ?_ | refine pm_W.tl rfl rfl ?_))
          refine pm_W.icmp rfl (fun g2 => ?_) (fun g2 => no _ _ (fun e2 n2 r1 r2 => ?_))
          · have g2 : nI (te_fb T + n) ≤ nI 80 := g2
            rw [nI_leI (by omega) (by omega)] at g2
            have hap : ap_ok T p n e := ⟨q, by omega, by omega, g2⟩
            have loop : ∀ (r k : Nat) (g : pm_H) (B : Nat → List Int32), k + r = n → mr_R g o B I → (∀ i, i ≠ 6 → B i = A i) → (∀ j, j < 16 * e + (tB T e).length ∨ 16 * e + 16 ≤ j → (B 6).getD j 0 = (A 6).getD j 0) → (∀ j, j < k → (B 6).getD (16 * e + (tB T e).length + j) 0 = (v + nI (37 * j)) &&& 255) → fr_ag o (o + 15) h g → pm_W xs 3 mM_append 53 [.ref o, .int (nI p), .int v, .int (nI n), .int (nI e), .int (nI k)] [] g Q := by
              intro r
              induction r with
              | zero =>
                intro k g B hk hB b1 b2 b3 hag
                have e1 : k = n := by omega
                subst e1
                have t1 := hB.1
                (repeat (first | refine pm_W.ts rfl rfl ?_ | refine pm_W.tl rfl rfl ?_))
                refine pm_W.icmp rfl (fun _ => ?_) (fun z => ?_)
                · (repeat (first | refine pm_W.ts rfl rfl ?_ | refine pm_W.tl rfl rfl ?_ | refine pm_W.get rfl rfl t1 rfl ?_))
                  refine mr_ld (i := 5) hB rfl rfl rfl rfl (show e < 20 by omega) ?_
                  rw [b1 5 (by omega), el]
                  (iterate 1 (first | refine pm_W.ts rfl rfl ?_ | refine pm_W.tl rfl rfl ?_))
                  show pm_W xs 3 mM_append _ _ [.int (nI k), .int (nI (tB T e).length), .int (nI e), .ref (o + 5)] g Q
                  (iterate 1 (first | refine pm_W.ts rfl rfl ?_ | refine pm_W.tl rfl rfl ?_))
                  rw [nI_add]
                  refine mr_st (i := 5) hB rfl rfl rfl rfl (show e < 20 by omega) (fun g2 r2 a2 => ?_)
                  have t2 := r2.1
                  have m5 : (B 5).length = 20 := hB.len (i := 5) rfl rfl
                  (repeat (first | refine pm_W.ts rfl rfl ?_ | refine pm_W.tl rfl rfl ?_ | refine pm_W.get rfl rfl t2 rfl ?_))
                  refine mr_ld (i := 5) r2 rfl rfl rfl rfl (show e < 20 by omega) ?_
                  rw [fr_up_s, fr_gs (by omega)]
                  refine pm_W.iret rfl rfl (k1 e k hap rfl g2 _ r2 (mt_setB hm hV q3 q2 q4 q5 ?_ ?_ (fun j hj => ?_) (fun j k hj hk hje => ?_) (fun i hi => ?_)) (fun i hi => ?_) (hag.tr a2))
                  · rw [fr_up_n (by omega)]; exact b1 3 (by omega)
                  · rw [fr_up_n (by omega)]; exact b1 4 (by omega)
                  · rw [fr_up_s, List.length_append, ap_bs_len]
                    by_cases c : j = e
                    · rw [if_pos c, c, fr_gs (by omega)]
                    · rw [if_neg c, fr_gn (fun z => c z.symm), b1 5 (by omega)]
                  · rw [fr_up_n (by omega)]
                    exact b2 (16 * j + k) (by omega)
                  · rw [List.length_append, ap_bs_len] at hi
                    rw [fr_up_n (by omega), fr_gapp]
                    split
                    · rename_i c
                      rw [b2 (16 * e + i) (by omega)]
                      exact ed i c
                    · rename_i c
                      rw [ap_bs_at (by omega), ← b3 (i - (tB T e).length) (by omega)]
                      congr 1
                      omega
                  · rw [fr_up_n (by omega)]
                    exact b1 i (by omega)
                · have z : ¬ nI k ≤ nI k := z
                  rw [nI_leI (by omega) (by omega)] at z
                  omega
              | succ r ih =>
                intro k g B hk hB b1 b2 b3 hag
                have t1 := hB.1
                have m6 : (B 6).length = 320 := hB.len (i := 6) rfl rfl
                (repeat (first | refine pm_W.ts rfl rfl ?_ | refine pm_W.tl rfl rfl ?_))
                refine pm_W.icmp rfl (fun z => ?_) (fun _ => ?_)
                · have z : nI n ≤ nI k := z
                  rw [nI_leI (by omega) (by omega)] at z
                  omega
                · (repeat (first | refine pm_W.ts rfl rfl ?_ | refine pm_W.tl rfl rfl ?_ | refine pm_W.get rfl rfl t1 rfl ?_))
                  refine mr_ld (i := 5) hB rfl rfl rfl rfl (show e < 20 by omega) ?_
                  rw [b1 5 (by omega), el]
                  (repeat (first | refine pm_W.ts rfl rfl ?_ | refine pm_W.tl rfl rfl ?_))
                  have ei : nI 16 * nI e + nI (tB T e).length + nI k = nI (16 * e + (tB T e).length + k) := by rw [fr_mul, nI_add, nI_add]
                  show pm_W xs 3 mM_append _ _ [.int ((v + nI 37 * nI k) &&& 255), .int (nI 16 * nI e + nI (tB T e).length + nI k), .ref (o + 6)] g Q
                  rw [ei, fr_mul]
                  refine mr_st (i := 6) hB rfl rfl rfl rfl (show 16 * e + (tB T e).length + k < 320 by omega) (fun g2 r2 a2 => ?_)
                  (repeat (first | refine pm_W.ts rfl rfl ?_ | refine pm_W.tl rfl rfl ?_))
                  refine pm_W.goto rfl ?_
                  rw [fr_inc]
                  refine ih (k + 1) g2 _ (by omega) r2 (fun i hi => ?_) (fun j hj => ?_) (fun j hj => ?_) (hag.tr a2)
                  · rw [fr_up_n hi]; exact b1 i hi
                  · rw [fr_up_s, fr_gn (by omega)]
                    exact b2 j hj
                  · rw [fr_up_s]
                    by_cases c : j = k
                    · subst c
                      rw [fr_gs (by omega)]
                    · rw [fr_gn (by omega)]
                      exact b3 j (by omega)
            (iterate 2 (first | refine pm_W.ts rfl rfl ?_ | refine pm_W.tl rfl rfl ?_))
            exact loop n 0 h A (by omega) hb (fun _ _ => rfl) (fun _ _ => rfl) (fun j hj => by omega) fr_ag.rf
          · have g2 : ¬ nI (te_fb T + n) ≤ nI 80 := g2
            rw [nI_leI (by omega) (by omega)] at g2
            rw [nI_eq (by omega) (by have := r1.2.2.1; omega)] at r2
            have := r1.2.2.2
            omega
  · (repeat (first | refine pm_W.ts rfl rfl ?_ | refine pm_W.tl rfl rfl ?_))
    refine pm_W.ifz rfl (fun _ => no _ _ (fun e n q => absurd q.1 (hno e))) (fun z => absurd (show (-1 : Int32) < 0 by decide) z)
theorem ct_M_remove (hb : mr_R h o A I) (hm : mt A 0 T) (hV : tV T) (hp : p < 2 ^ 32)
    (k1 : pa_ok p = true → p ≠ 0 → (∃ e, e < 10 ∧ tP T e = p) → ∀ (g : pm_H) (A' : Nat → List Int32), mr_R g o A' I → mt A' 0 (rm_T T p) → (∀ i, i < 3 ∨ 6 < i → A' i = A i) → fr_ag o (o + 15) h g → Q (some (.int (nI (tr_cnt (fun s => rm_g T p (s - 1)) 10)))) g)
    (k0 : ¬ (pa_ok p = true ∧ p ≠ 0 ∧ ∃ e, e < 10 ∧ tP T e = p) → Q (some (.int (-1))) h) : pm_X xs 2 mM_remove [.ref o, .int (nI p)] h Q := by
  have h1 := hb.1
  have hd6 := (pa_d_spec p).1
  have no : ∀ (v2 v3 v4 : Value), ¬ (pa_ok p = true ∧ p ≠ 0 ∧ ∃ e, e < 10 ∧ tP T e = p) → pm_W xs 2 mM_remove 20 [.ref o, .int (nI p), v2, v3, v4] [] h Q := by
    intro v2 v3 v4 c
    (repeat (first | refine pm_W.ts rfl rfl ?_ | refine pm_W.tl rfl rfl ?_))
    exact pm_W.iret rfl rfl (k0 c)
  unfold pm_X
  (repeat (first | refine pm_W.ts rfl rfl ?_ | refine pm_W.tl rfl rfl ?_))
  refine pm_W.callS (d' := 1) rfl rfl rfl rfl (fr_ble rfl) (fr_ble rfl) (ct_M_isPath hp ?_)
  refine pm_W.ifz rfl (fun c => no _ _ _ (fun q => by have q1 := q.1; rw [fr_b0 c] at q1; cases q1)) (fun c => ?_)
  have hpo := fr_b1 c
  have hp30 := pa_ok_30 hpo
  (repeat (first | refine pm_W.ts rfl rfl ?_ | refine pm_W.tl rfl rfl ?_))
  refine pm_W.ifz rfl (fun c2 => no _ _ _ (fun q => ?_)) (fun c2 => ?_)
  · have c2 : nI p = nI 0 := c2
    rw [nI_eq (by omega) (by omega)] at c2
    exact q.2.1 c2
  · have c2 : ¬ nI p = nI 0 := c2
    rw [nI_eq (by omega) (by omega)] at c2
    (repeat (first | refine pm_W.ts rfl rfl ?_ | refine pm_W.tl rfl rfl ?_))
    refine pm_W.callV (d' := 0) (as := [.int (nI 0), .int (nI p)]) rfl rfl rfl rfl (fr_ble rfl) h1 (fr_ble rfl) (ct_M_slot hb hm hV hp30 (fun e0 he0 ep0 hj0 => ?_) (fun hno => ?_))
    · refine pm_W.ifz rfl (fun _ => ?_) (fun z => absurd (nI_pos' (by omega)) z)
      have loop : ∀ (r e : Nat) (g : pm_H) (B : Nat → List Int32), e + r = 10 → mr_R g o B I → (∀ i, i ≠ 3 → B i = A i) → (∀ j, j < 10 → (B 3).getD j 0 = if j < e then nI (tP (rm_T T p) j) else nI (tP T j)) → fr_ag o (o + 15) h g → pm_W xs 2 mM_remove 38 [.ref o, .int (nI p), .int (nI (tr_cnt (fun s => rm_g T p (s - 1)) e)), .int (nI (2 ^ (5 * pa_d p) - 1)), .int (nI e)] [] g Q := by
        intro r
        induction r with
        | zero =>
          intro e g B he hB b1 b2 hag
          have e10 : e = 10 := by omega
          subst e10
          (repeat (first | refine pm_W.ts rfl rfl ?_ | refine pm_W.tl rfl rfl ?_))
          refine pm_W.icmp rfl (fun _ => ?_) (fun z => ?_)
          · (repeat (first | refine pm_W.ts rfl rfl ?_ | refine pm_W.tl rfl rfl ?_))
            refine pm_W.iret rfl rfl (k1 hpo c2 ⟨e0, he0, ep0⟩ g B hB (fun j hj => ?_) (fun i hi => b1 i (by omega)) hag)
            have hmj := hm j hj
            rw [Nat.zero_add] at hmj ⊢
            rw [b2 j hj, if_pos hj, b1 4 (by omega), b1 5 (by omega), b1 6 (by omega)]
            refine ⟨rfl, fun z => ?_⟩
            rw [rm_tP] at z
            by_cases cg : rm_g T p j = true
            · rw [if_pos cg] at z; exact absurd rfl z
            · have cg' : rm_g T p j = false := Bool.eq_false_iff.mpr cg
              rw [if_neg cg] at z
              rw [rm_tK cg', rm_tB cg']
              exact hmj.2 z
          · have z : ¬ nI 10 ≤ nI 10 := z
            rw [nI_leI (by omega) (by omega)] at z
            omega
        | succ r ih =>
          intro e g B he hB b1 b2 hag
          have t1 := hB.1
          have m3 : (B 3).length = 20 := hB.len (i := 3) rfl rfl
          have lt := tV_lt hV (show e < 10 by omega)
          have be := b2 e (by omega)
          rw [if_neg (by omega)] at be
          have nx := fun (g : pm_H) (B : Nat → List Int32) => ih (e + 1) g B (by omega)
          have stay : rm_g T p e = false → pm_W xs 2 mM_remove 79 [.ref o, .int (nI p), .int (nI (tr_cnt (fun s => rm_g T p (s - 1)) e)), .int (nI (2 ^ (5 * pa_d p) - 1)), .int (nI e)] [] g Q := by
            intro cg
            (repeat (first | refine pm_W.ts rfl rfl ?_ | refine pm_W.tl rfl rfl ?_))
            refine pm_W.goto rfl ?_
            rw [fr_inc]
            have := nx g B hB b1 (fun j hj => ?_) hag
            · unfold tr_cnt at this
              rw [show e + 1 - 1 = e by omega, cg] at this
              exact this
            · rw [b2 j hj]
              by_cases c : j < e
              · rw [if_pos c, if_pos (by omega)]
              · rw [if_neg c]
                by_cases c' : j = e
                · subst c'
                  rw [if_pos (by omega), rm_tP, cg]
                  rfl
                · rw [if_neg (by omega)]
          (repeat (first | refine pm_W.ts rfl rfl ?_ | refine pm_W.tl rfl rfl ?_))
          refine pm_W.icmp rfl (fun z => ?_) (fun _ => ?_)
          · have z : nI 10 ≤ nI e := z
            rw [nI_leI (by omega) (by omega)] at z
            omega
          · (repeat (first | refine pm_W.ts rfl rfl ?_ | refine pm_W.tl rfl rfl ?_ | refine pm_W.get rfl rfl t1 rfl ?_))
            refine mr_ld (i := 3) hB rfl rfl rfl rfl (show e < 20 by omega) ?_
            rw [be]
            refine pm_W.ifz rfl (fun d => stay ?_) (fun d => ?_)
            · have d : nI (tP T e) = nI 0 := d
              rw [nI_eq (by omega) (by omega)] at d
              exact decide_eq_false (fun z => z.1 d)
            · have d : ¬ nI (tP T e) = nI 0 := d
              rw [nI_eq (by omega) (by omega)] at d
              (repeat (first | refine pm_W.ts rfl rfl ?_ | refine pm_W.tl rfl rfl ?_ | refine pm_W.get rfl rfl t1 rfl ?_))
              refine mr_ld (i := 3) hB rfl rfl rfl rfl (show e < 20 by omega) ?_
              rw [be]
              (iterate 1 (first | refine pm_W.ts rfl rfl ?_ | refine pm_W.tl rfl rfl ?_))
              show pm_W xs 2 mM_remove _ _ [.int (nI (2 ^ (5 * pa_d p) - 1)), .int (nI (tP T e))] g Q
              (iterate 1 (first | refine pm_W.ts rfl rfl ?_ | refine pm_W.tl rfl rfl ?_))
              rw [fr_mask]
              have hmod : tP T e % 2 ^ (5 * pa_d p) ≤ tP T e := Nat.mod_le _ _
              (iterate 1 (first | refine pm_W.ts rfl rfl ?_ | refine pm_W.tl rfl rfl ?_))
              refine pm_W.icmp rfl (fun d2 => stay ?_) (fun d2 => ?_)
              · have d2 : ¬ nI (tP T e % 2 ^ (5 * pa_d p)) = nI p := d2
                rw [nI_eq (by omega) (by omega)] at d2
                exact decide_eq_false (fun z => d2 z.2)
              · have d2 : ¬ ¬ nI (tP T e % 2 ^ (5 * pa_d p)) = nI p := d2
                rw [nI_eq (by omega) (by omega)] at d2
                have cg : rm_g T p e = true := decide_eq_true ⟨d, Decidable.not_not.mp d2⟩
                (repeat (first | refine pm_W.ts rfl rfl ?_ | refine pm_W.tl rfl rfl ?_ | refine pm_W.get rfl rfl t1 rfl ?_))
                refine mr_st (i := 3) hB rfl rfl rfl rfl (show e < 20 by omega) (fun g2 r2 a2 => ?_)
                (repeat (first | refine pm_W.ts rfl rfl ?_ | refine pm_W.tl rfl rfl ?_))
                refine pm_W.goto rfl ?_
                rw [fr_inc, fr_inc]
                have := nx g2 _ r2 (fun i hi => ?_) (fun j hj => ?_) (hag.tr a2)
                · unfold tr_cnt at this
                  rw [show e + 1 - 1 = e by omega, cg] at this
                  exact this
                · rw [fr_up_n hi]; exact b1 i hi
                · rw [fr_up_s]
                  by_cases c : j = e
                  · subst c
                    rw [fr_gs (by omega), if_pos (by omega), rm_tP, cg]
                    rfl
                  · rw [fr_gn (fun z => c z.symm), b2 j hj]
                    by_cases c' : j < e
                    · rw [if_pos c', if_pos (by omega)]
                    · rw [if_neg c', if_neg (by omega)]
      (repeat (first | refine pm_W.ts rfl rfl ?_ | refine pm_W.tl rfl rfl ?_))
      refine pm_W.callS (d' := 1) rfl rfl rfl rfl (fr_ble rfl) (fr_ble rfl) (pm_X.deep (ct_M_depth (by omega) ?_) (Nat.zero_le _))
      (iterate 3 (first | refine pm_W.ts rfl rfl ?_ | refine pm_W.tl rfl rfl ?_))
      have e : (nI 1 <<< ((nI 5 * nI (pa_d p)) &&& 31)) - nI 1 = nI (2 ^ (5 * pa_d p) - 1) := by
        rw [fr_mul, fr_shl (by omega), Nat.one_mul, fr_sub (j := 1) (Nat.two_pow_pos _)]
      (iterate 4 (first | refine pm_W.ts rfl rfl ?_ | refine pm_W.tl rfl rfl ?_))
      have := loop 10 0 h A (by omega) hb (fun _ _ => rfl) (fun j hj => ?_) fr_ag.rf
      · rw [← e] at this
        exact this
      · have := (hm j hj).1
        rw [Nat.zero_add] at this
        rw [this, if_neg (by omega)]
    · refine pm_W.ifz rfl (fun z => absurd (show (0 : Int32) ≤ -1 from z) (by decide)) (fun _ => no _ _ _ (fun q => ?_))
      obtain ⟨-, -, e, he, ep⟩ := q
      exact hno e he ep
end MTREE2
end
section
def te_c (T : te_T) (e : Nat) : Nat := if tP T e ≠ 0 ∧ tK T e = 1 then (tB T e).length else 0
def te_s (T : te_T) : Nat → Nat
  | 0 => 0
  | n + 1 => te_s T n + te_c T n
section VALID
variable {T : te_T} {p : Nat}
theorem te_fb_s : te_fb T = te_s T 10 := by
  have : ∀ n, tr_sm (fun s => decide (tP T (s - 1) ≠ 0 ∧ tK T (s - 1) = 1)) (fun s => (tB T (s - 1)).length) n = te_s T n := by
    intro n
    induction n with
    | zero => rfl
    | succ n ih =>
      unfold tr_sm te_s
      rw [ih, show n + 1 - 1 = n by omega]
      congr 1
      unfold te_c
      by_cases c : tP T n ≠ 0 ∧ tK T n = 1
      · rw [if_pos c, if_pos (decide_eq_true c)]
      · rw [if_neg c, if_neg (fun z => c (of_decide_eq_true z))]
  exact this 10
theorem te_c_up {e j : Nat} {x : Nat × Nat × List Int32} (h : j ≠ e) : te_c (fr_up T e x) j = te_c T j := by
  unfold te_c
  rw [tP_up, tK_up, tB_up, if_neg h, if_neg h, if_neg h]
theorem te_s_lo {e : Nat} {x : Nat × Nat × List Int32} : ∀ n, n ≤ e → te_s (fr_up T e x) n = te_s T n := by
  intro n
  induction n with
  | zero => intro _; rfl
  | succ n ih =>
    intro hn
    unfold te_s
    rw [ih (by omega), te_c_up (by omega)]
theorem te_s_up {e : Nat} {x : Nat × Nat × List Int32} : ∀ n, e < n → te_s (fr_up T e x) n + te_c T e = te_s T n + te_c (fr_up T e x) e := by
  intro n
  induction n with
  | zero => intro h; omega
  | succ n ih =>
    intro hn
    unfold te_s
    by_cases c : e = n
    · subst c
      rw [te_s_lo e (Nat.le_refl _)]
      omega
    · have := ih (by omega)
      rw [te_c_up (j := n) (fun z => c z.symm)]
      omega
theorem te_s_le {T' : te_T} : ∀ n, (∀ e, e < n → te_c T' e ≤ te_c T e) → te_s T' n ≤ te_s T n := by
  intro n
  induction n with
  | zero => intro _; exact Nat.le_refl _
  | succ n ih =>
    intro h
    have h1 := ih (fun e he => h e (by omega))
    have h2 := h n (by omega)
    unfold te_s
    omega
theorem te_dir_up {e x : Nat} {q : Nat × Nat × List Int32} (h : te_dir T x) (h0 : tP T e = 0 ∨ (tP T e = q.1 ∧ (tK T e = 2 → q.2.1 = 2))) : te_dir (fr_up T e q) x := by
  rcases h with z | ⟨e1, z1, z2, z3⟩
  · exact Or.inl z
  · by_cases c : e1 = e
    · subst c
      rcases h0 with h0 | ⟨h0, h1⟩
      · exact Or.inl (by rw [← z2, h0])
      · exact Or.inr ⟨e1, z1, by rw [tP_up, if_pos rfl, ← h0]; exact z2, by rw [tK_up, if_pos rfl]; exact h1 z3⟩
    · exact Or.inr ⟨e1, z1, by rw [tP_up, if_neg c]; exact z2, by rw [tK_up, if_neg c]; exact z3⟩
theorem tV_create {y : Int32} {v e : Nat} (hV : tV T) (q : cr_ok T p y v e) : tV (fr_up T e (p, v, [])) := by
  obtain ⟨q1, q2, q3, q4, q5, q6, q7, q8, q9⟩ := q
  refine ⟨fun j hj h0 => ?_, fun i j hi hj h0 h1 => ?_, ?_⟩
  · rw [tP_up] at h0 ⊢
    rw [tK_up, tB_up]
    by_cases c : j = e
    · rw [if_pos c, if_pos c, if_pos c]
      exact ⟨q1, q3, Nat.zero_le _, (fun x hx => by cases hx), te_dir_up q6 (Or.inl q8)⟩
    · rw [if_neg c] at h0
      rw [if_neg c, if_neg c, if_neg c]
      obtain ⟨g1, g2, g3, g4, g5⟩ := hV.1 j hj h0
      exact ⟨g1, g2, g3, g4, te_dir_up g5 (Or.inl q8)⟩
  · rw [tP_up] at h0 h1
    rw [tP_up] at h1
    by_cases c : i = e
    · by_cases c' : j = e
      · rw [c, c']
      · rw [if_pos c, if_neg c'] at h1
        exact absurd h1.symm (q5 j hj)
    · by_cases c' : j = e
      · rw [if_neg c, if_pos c'] at h1
        exact absurd h1 (q5 i hi)
      · rw [if_neg c] at h0 h1
        rw [if_neg c'] at h1
        exact hV.2.1 i j hi hj h0 h1
  · have h1 := te_s_up (T := T) (x := (p, v, [])) 10 q7
    have h2 := hV.2.2
    rw [te_fb_s] at h2 ⊢
    have h3 : te_c (fr_up T e (p, v, [])) e = 0 := by
      unfold te_c
      rw [tB_up, if_pos rfl]
      split <;> rfl
    omega
theorem tV_file {e : Nat} {bs : List Int32} (hV : tV T) (q : fl_ok T p e) (h16 : bs.length ≤ 16) (hbs : bt_ok bs) (h80 : te_fb T + bs.length ≤ 80 + (tB T e).length) : tV (fr_up T e (p, 1, bs)) := by
  obtain ⟨q1, q2, q3, q4, q5⟩ := q
  have ne : tP T e ≠ 0 := by rw [q4]; exact q2
  have tp : ∀ j, tP (fr_up T e (p, 1, bs)) j = tP T j := by
    intro j
    rw [tP_up]
    split
    · rename_i c
      rw [c, q4]
    · rfl
  refine ⟨fun j hj h0 => ?_, fun i j hi hj h0 h1 => ?_, ?_⟩
  · rw [tp] at h0 ⊢
    obtain ⟨g1, g2, g3, g4, g5⟩ := hV.1 j hj h0
    have g6 : te_dir (fr_up T e (p, 1, bs)) (pa_up (tP T j)) := te_dir_up g5 (Or.inr ⟨q4, fun z => by omega⟩)
    rw [tK_up, tB_up]
    by_cases c : j = e
    · rw [if_pos c, if_pos c]
      exact ⟨g1, Or.inl rfl, h16, hbs, g6⟩
    · rw [if_neg c, if_neg c]
      exact ⟨g1, g2, g3, g4, g6⟩
  · rw [tp] at h0 h1
    rw [tp] at h1
    exact hV.2.1 i j hi hj h0 h1
  · have h1 := te_s_up (T := T) (x := (p, 1, bs)) 10 q3
    rw [te_fb_s] at h80 ⊢
    have h3 : te_c (fr_up T e (p, 1, bs)) e = bs.length := by
      unfold te_c
      rw [tP_up, tK_up, tB_up, if_pos rfl, if_pos rfl, if_pos rfl, if_pos ⟨q2, rfl⟩]
    have h4 : te_c T e = (tB T e).length := by
      unfold te_c
      rw [if_pos ⟨ne, q5⟩]
    omega
theorem bt_and {v : Int32} : (v &&& 255) &&& 255 = v &&& 255 := by
  rw [Int32.and_assoc, Int32.and_self]
theorem tV_append {v : Int32} {n e : Nat} (hV : tV T) (q : ap_ok T p n e) : tV (fr_up T e (p, 1, tB T e ++ ap_bs v n)) := by
  obtain ⟨q1, q2, q3, q4⟩ := q
  have ne : tP T e ≠ 0 := by rw [q1.2.2.2.1]; exact q1.2.1
  refine tV_file hV q1 (by rw [List.length_append, ap_bs_len]; exact q3) (fun x hx => ?_) (by rw [List.length_append, ap_bs_len]; omega)
  rcases List.mem_append.mp hx with z | z
  · exact (hV.1 e q1.2.2.1 ne).2.2.2.1 x z
  · unfold ap_bs at z
    obtain ⟨i, -, rfl⟩ := List.mem_map.mp z
    exact bt_and
theorem tV_edit {v : Int32} {i e : Nat} (hV : tV T) (q : fl_ok T p e) (hi : i < (tB T e).length) : tV (fr_up T e (p, 1, (tB T e).set i (v &&& 255))) := by
  have ne : tP T e ≠ 0 := by rw [q.2.2.2.1]; exact q.2.1
  obtain ⟨g1, g2, g3, g4, g5⟩ := hV.1 e q.2.2.1 ne
  refine tV_file hV q (by rw [List.length_set]; exact g3) (fun x hx => ?_) (by rw [List.length_set]; have := hV.2.2; omega)
  rcases List.mem_or_eq_of_mem_set hx with z | z
  · exact g4 x z
  · rw [z]; exact bt_and
theorem tV_remove (hV : tV T) (hpo : pa_ok p = true) : tV (rm_T T p) := by
  have keep : ∀ j, tP (rm_T T p) j ≠ 0 → rm_g T p j = false ∧ tP T j ≠ 0 := by
    intro j h0
    rw [rm_tP] at h0
    by_cases c : rm_g T p j = true
    · rw [if_pos c] at h0; exact absurd rfl h0
    · rw [if_neg c] at h0
      exact ⟨Bool.eq_false_iff.mpr c, h0⟩
  have same : ∀ j, rm_g T p j = false → tP (rm_T T p) j = tP T j := by
    intro j c
    rw [rm_tP, c]
    rfl
  refine ⟨fun j hj h0 => ?_, fun i j hi hj h0 h1 => ?_, ?_⟩
  · obtain ⟨c, h0'⟩ := keep j h0
    rw [same j c, rm_tK c, rm_tB c]
    obtain ⟨g1, g2, g3, g4, g5⟩ := hV.1 j hj h0'
    refine ⟨g1, g2, g3, g4, ?_⟩
    rcases g5 with z | ⟨e1, z1, z2, z3⟩
    · exact Or.inl z
    · by_cases u0 : pa_up (tP T j) = 0
      · exact Or.inl u0
      · have c1 := rm_up hV hj h0' c z1 z2 (by rw [z2]; exact u0) hpo
        exact Or.inr ⟨e1, z1, by rw [same e1 c1]; exact z2, by rw [rm_tK c1]; exact z3⟩
  · obtain ⟨c1, g1⟩ := keep i h0
    rw [h1] at h0
    obtain ⟨c2, g2⟩ := keep j h0
    rw [same i c1, same j c2] at h1
    exact hV.2.1 i j hi hj g1 h1
  · have h2 := hV.2.2
    rw [te_fb_s] at h2 ⊢
    refine Nat.le_trans (te_s_le 10 (fun e he => ?_)) h2
    by_cases c : rm_g T p e = true
    · unfold te_c
      rw [rm_tP, if_pos c, if_neg (fun z => z.1 rfl)]
      exact Nat.zero_le _
    · have c := Bool.eq_false_iff.mpr c
      unfold te_c
      rw [same e c, rm_tK c, rm_tB c]
      exact Nat.le_refl _
end VALID
end
section
def mb (A : Nat → List Int32) (f : Nat) (bs : List Int32) : Prop := ∀ k, k < bs.length → (A 1).getD (f + k) 0 = bs.getD k 0
def mlp (A : Nat → List Int32) (l : Nat) (ps : dp_P) : Prop := ps.length ≤ 15 ∧ ∀ k, k < ps.length → (A 8).getD (16 * l + k) 0 = nI (pl_s ps k) ∧ (A 9).getD (16 * l + k) 0 = nI (ex_n ps k) ∧ (A 10).getD (16 * l + k) 0 = pl_i ps k
def ml (A : Nat → List Int32) (l : Nat) (ps : dp_P) : Prop := (A 7).getD l 0 = nI ps.length ∧ mlp A l ps
theorem mp_e_app {ps qs : dp_P} {k : Nat} (hk : k < ps.length) : pl_e (ps ++ qs) k = pl_e ps k := by
  unfold pl_e
  rw [List.getD_eq_getElem?_getD, List.getElem?_append_left hk, List.getD_eq_getElem?_getD]
theorem mp_i_app {ps qs : dp_P} {k : Nat} (hk : k < ps.length) : pl_i (ps ++ qs) k = pl_i ps k := by
  unfold pl_i
  rw [List.getD_eq_getElem?_getD, List.getElem?_append_left hk, List.getD_eq_getElem?_getD]
theorem mp_s_app {ps qs : dp_P} {k : Nat} (hk : k ≤ ps.length) : pl_s (ps ++ qs) k = pl_s ps k := by
  cases k with
  | zero => rfl
  | succ k => exact mp_e_app (by omega)
theorem mp_e_end {ps : dp_P} {q : Nat × Int32} : pl_e (ps ++ [q]) ps.length = q.1 := by
  unfold pl_e
  rw [List.getD_eq_getElem?_getD, List.getElem?_append_right (Nat.le_refl _), Nat.sub_self]
  rfl
theorem mp_i_end {ps : dp_P} {q : Nat × Int32} : pl_i (ps ++ [q]) ps.length = q.2 := by
  unfold pl_i
  rw [List.getD_eq_getElem?_getD, List.getElem?_append_right (Nat.le_refl _), Nat.sub_self]
  rfl
theorem cz_s {z : cz_N} {bs : List Int32} : ∀ e, pl_s (cz_cut z bs e).1 (cz_cut z bs e).1.length = (cz_cut z bs e).2 := by
  intro e
  induction e with
  | zero => rfl
  | succ e ih =>
    unfold cz_cut
    split
    · show pl_s ((cz_cut z bs e).1 ++ [_]) ((cz_cut z bs e).1 ++ [_]).length = e + 1
      rw [List.length_append, List.length_singleton]
      exact mp_e_end
    · exact ih
section MCUT
variable {xs : List Int32} {h : pm_H} {o : Nat} {A : Nat → List Int32} {I : Nat → Int32} {z : cz_N} {bs : List Int32} {Q : Option Value → pm_H → Prop}
theorem ct_M_term {j : Nat} (hb : mr_R h o A I) (hj : j < 1952) (k : Q (some (.int (cz_T ((A 1).getD j 0)))) h) : pm_X xs 0 mM_term [.ref o, .int (nI j)] h Q := by
  have h1 := hb.1
  unfold pm_X
  (repeat (first | refine pm_W.ts rfl rfl ?_ | refine pm_W.tl rfl rfl ?_ | refine pm_W.get rfl rfl h1 rfl ?_))
  refine mr_ld (i := 1) hb rfl rfl rfl rfl (show j < 1952 from hj) ?_
  (repeat (first | refine pm_W.ts rfl rfl ?_ | refine pm_W.tl rfl rfl ?_))
  refine pm_W.ldc rfl rfl ?_
  (repeat (first | refine pm_W.ts rfl rfl ?_ | refine pm_W.tl rfl rfl ?_))
  exact pm_W.iret rfl rfl k
theorem ct_M_turned {y w : Int32} (k : Q (some (.int (cz_L y w))) h) : pm_X xs 0 mM_turned [.int y, .int w] h Q := by
  unfold pm_X
  (repeat (first | refine pm_W.ts rfl rfl ?_ | refine pm_W.tl rfl rfl ?_))
  exact pm_W.iret rfl rfl k
theorem ct_M_mark {j : Nat} (hb : mr_R h o A I) (h3 : 3 ≤ j) (hj : j < 1952) (k : Q (some (.int (cz_M ((A 1).getD (j - 3) 0) ((A 1).getD (j - 2) 0) ((A 1).getD (j - 1) 0) ((A 1).getD j 0)))) h) : pm_X xs 1 mM_mark [.ref o, .int (nI j)] h Q := by
  have h1 := hb.1
  have e1 : nI j - Int32.ofInt 3 = nI (j - 3) := fr_sub (j := 3) h3
  have e2 : nI j - Int32.ofInt 2 = nI (j - 2) := fr_sub (j := 2) (by omega)
  have e3 : nI j - Int32.ofInt 1 = nI (j - 1) := fr_sub (j := 1) (by omega)
  unfold pm_X
  (repeat (first | refine pm_W.ts rfl rfl ?_ | refine pm_W.tl rfl rfl ?_))
  rw [e1]
  refine pm_W.callV (d' := 0) (as := [.int (nI (j - 3))]) rfl rfl rfl rfl (fr_ble rfl) h1 (fr_ble rfl) (ct_M_term hb (by omega) ?_)
  (iterate 1 (first | refine pm_W.ts rfl rfl ?_ | refine pm_W.tl rfl rfl ?_))
  refine pm_W.callS (d' := 0) rfl rfl rfl rfl (fr_ble rfl) (fr_ble rfl) (ct_M_turned ?_)
  (repeat (first | refine pm_W.ts rfl rfl ?_ | refine pm_W.tl rfl rfl ?_))
  rw [e2]
  refine pm_W.callV (d' := 0) (as := [.int (nI (j - 2))]) rfl rfl rfl rfl (fr_ble rfl) h1 (fr_ble rfl) (ct_M_term hb (by omega) ?_)
  (iterate 1 (first | refine pm_W.ts rfl rfl ?_ | refine pm_W.tl rfl rfl ?_))
  refine pm_W.callS (d' := 0) rfl rfl rfl rfl (fr_ble rfl) (fr_ble rfl) (ct_M_turned ?_)
  (repeat (first | refine pm_W.ts rfl rfl ?_ | refine pm_W.tl rfl rfl ?_))
  rw [e3]
  refine pm_W.callV (d' := 0) (as := [.int (nI (j - 1))]) rfl rfl rfl rfl (fr_ble rfl) h1 (fr_ble rfl) (ct_M_term hb (by omega) ?_)
  (iterate 1 (first | refine pm_W.ts rfl rfl ?_ | refine pm_W.tl rfl rfl ?_))
  refine pm_W.callS (d' := 0) rfl rfl rfl rfl (fr_ble rfl) (fr_ble rfl) (ct_M_turned ?_)
  (repeat (first | refine pm_W.ts rfl rfl ?_ | refine pm_W.tl rfl rfl ?_))
  refine pm_W.callV (d' := 0) (as := [.int (nI j)]) rfl rfl rfl rfl (fr_ble rfl) h1 (fr_ble rfl) (ct_M_term hb (by omega) ?_)
  (repeat (first | refine pm_W.ts rfl rfl ?_ | refine pm_W.tl rfl rfl ?_))
  exact pm_W.iret rfl rfl k
theorem ct_M_digest {f s n : Nat} (hb : mr_R h o A I) (hm : mb A f bs) (hl : bs.length ≤ 1000) (hs : s + n ≤ bs.length) (hf : f + bs.length ≤ 1952) (k : Q (some (.int (bt_id bs (nI s) n))) h) : pm_X xs 0 mM_digest [.ref o, .int (nI (f + s)), .int (nI n)] h Q := by
  have h1 := hb.1
  have loop : ∀ (r i : Nat), i + r = n → pm_W xs 0 mM_digest 6 [.ref o, .int (nI (f + s)), .int (nI n), .int (bt_fold bs (nI s) i), .int (nI i)] [] h Q := by
    intro r
    induction r with
    | zero =>
      intro i hi
      have e : i = n := by omega
      subst e
      (repeat (first | refine pm_W.ts rfl rfl ?_ | refine pm_W.tl rfl rfl ?_))
      refine pm_W.icmp rfl (fun _ => ?_) (fun c => ?_)
      · (repeat (first | refine pm_W.ts rfl rfl ?_ | refine pm_W.tl rfl rfl ?_))
        exact pm_W.iret rfl rfl k
      · have c : ¬ nI i ≤ nI i := c
        rw [nI_leI (by omega) (by omega)] at c
        omega
    | succ r ih =>
      intro i hi
      (repeat (first | refine pm_W.ts rfl rfl ?_ | refine pm_W.tl rfl rfl ?_))
      refine pm_W.icmp rfl (fun c => ?_) (fun _ => ?_)
      · have c : nI n ≤ nI i := c
        rw [nI_leI (by omega) (by omega)] at c
        omega
      · (repeat (first | refine pm_W.ts rfl rfl ?_ | refine pm_W.tl rfl rfl ?_ | refine pm_W.get rfl rfl h1 rfl ?_))
        rw [nI_add]
        refine mr_ld (i := 1) hb rfl rfl rfl rfl (show f + s + i < 1952 by omega) ?_
        have e := hm (s + i) (by omega)
        rw [← Nat.add_assoc] at e
        rw [e, ← bt_at_D (bs := bs) (by omega) hl, ← nI_add s i]
        (repeat (first | refine pm_W.ts rfl rfl ?_ | refine pm_W.tl rfl rfl ?_))
        refine pm_W.ldc rfl rfl ?_
        (repeat (first | refine pm_W.ts rfl rfl ?_ | refine pm_W.tl rfl rfl ?_))
        refine pm_W.goto rfl ?_
        rw [fr_inc]
        exact ih (i + 1) (by omega)
  unfold pm_X
  (iterate 4 (first | refine pm_W.ts rfl rfl ?_ | refine pm_W.tl rfl rfl ?_))
  exact loop n 0 (by omega)
end MCUT
end
