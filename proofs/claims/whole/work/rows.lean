section
-- ===== PART A: goes FIRST, ahead of the names: the tables' words, and 'selects' of the private methods out of them =====
/-- a private method of a class that the tables say can be made, by its rows of tables_1 -/
def lw_okq (q : MethodName × Nat) : Prop := (q.1.cls ≠ "java/lang/invoke/MethodHandle" ∧ q.1.cls ≠ "java/lang/invoke/VarHandle") ∧ Cond.instantiable q.1.cls q.2 ∈ tables_1 ∧ Cond.privateMethod q.1 ∈ tables_1 ∧ Cond.instanceMethod q.1 ∈ tables_1
theorem lw_p0 : lw_okq (⟨"java/lang/Throwable", "fillInStackTrace", "(I)Ljava/lang/Throwable;"⟩, 6) := ⟨⟨by decide +kernel, by decide +kernel⟩, List.mem_of_getElem? (i := 436) (by decide +kernel), List.mem_of_getElem? (i := 434) (by decide +kernel), List.mem_of_getElem? (i := 435) (by decide +kernel)⟩
theorem lw_p1 : lw_okq (⟨"MapMerger$Inbox", "dropFirstArgument", "()V"⟩, 4) := ⟨⟨by decide +kernel, by decide +kernel⟩, List.mem_of_getElem? (i := 36) (by decide +kernel), List.mem_of_getElem? (i := 496) (by decide +kernel), List.mem_of_getElem? (i := 497) (by decide +kernel)⟩
theorem lw_p2 : lw_okq (⟨"MapMerger$Inbox", "removeFront", "(I)V"⟩, 4) := ⟨⟨by decide +kernel, by decide +kernel⟩, List.mem_of_getElem? (i := 36) (by decide +kernel), List.mem_of_getElem? (i := 500) (by decide +kernel), List.mem_of_getElem? (i := 501) (by decide +kernel)⟩
theorem lw_p3 : lw_okq (⟨"MapMerger", "putArguments", "(I)I"⟩, 5) := ⟨⟨by decide +kernel, by decide +kernel⟩, List.mem_of_getElem? (i := 28) (by decide +kernel), List.mem_of_getElem? (i := 514) (by decide +kernel), List.mem_of_getElem? (i := 515) (by decide +kernel)⟩
theorem lw_p4 : lw_okq (⟨"MapMerger", "firstArgumentIsPath", "()Z"⟩, 5) := ⟨⟨by decide +kernel, by decide +kernel⟩, List.mem_of_getElem? (i := 28) (by decide +kernel), List.mem_of_getElem? (i := 521) (by decide +kernel), List.mem_of_getElem? (i := 522) (by decide +kernel)⟩
theorem lw_p5 : lw_okq (⟨"MapMerger$PathMap", "placeFor", "([BII)I"⟩, 4) := ⟨⟨by decide +kernel, by decide +kernel⟩, List.mem_of_getElem? (i := 124) (by decide +kernel), List.mem_of_getElem? (i := 550) (by decide +kernel), List.mem_of_getElem? (i := 551) (by decide +kernel)⟩
theorem lw_p6 : lw_okq (⟨"MapMerger$PathMap", "compareAt", "(I[BII)I"⟩, 4) := ⟨⟨by decide +kernel, by decide +kernel⟩, List.mem_of_getElem? (i := 124) (by decide +kernel), List.mem_of_getElem? (i := 554) (by decide +kernel), List.mem_of_getElem? (i := 555) (by decide +kernel)⟩
theorem lw_p7 : lw_okq (⟨"MapMerger$PathMap", "isAt", "(I[BII)Z"⟩, 4) := ⟨⟨by decide +kernel, by decide +kernel⟩, List.mem_of_getElem? (i := 124) (by decide +kernel), List.mem_of_getElem? (i := 572) (by decide +kernel), List.mem_of_getElem? (i := 573) (by decide +kernel)⟩
theorem lw_p8 : lw_okq (⟨"MapMerger$PathMap", "hasRoomFor", "([BII)Z"⟩, 4) := ⟨⟨by decide +kernel, by decide +kernel⟩, List.mem_of_getElem? (i := 124) (by decide +kernel), List.mem_of_getElem? (i := 576) (by decide +kernel), List.mem_of_getElem? (i := 577) (by decide +kernel)⟩
theorem lw_p9 : lw_okq (⟨"MapMerger$PathMap", "isBeneathOrAbove", "(I[BII)Z"⟩, 4) := ⟨⟨by decide +kernel, by decide +kernel⟩, List.mem_of_getElem? (i := 124) (by decide +kernel), List.mem_of_getElem? (i := 580) (by decide +kernel), List.mem_of_getElem? (i := 581) (by decide +kernel)⟩
theorem lw_p10 : lw_okq (⟨"MapMerger$Blobs", "addText", "([BII)V"⟩, 8) := ⟨⟨by decide +kernel, by decide +kernel⟩, List.mem_of_getElem? (i := 57) (by decide +kernel), List.mem_of_getElem? (i := 599) (by decide +kernel), List.mem_of_getElem? (i := 600) (by decide +kernel)⟩
theorem lw_p11 : lw_okq (⟨"MapMerger$Blobs", "looksRough", "(II)Z"⟩, 8) := ⟨⟨by decide +kernel, by decide +kernel⟩, List.mem_of_getElem? (i := 57) (by decide +kernel), List.mem_of_getElem? (i := 604) (by decide +kernel), List.mem_of_getElem? (i := 605) (by decide +kernel)⟩
theorem lw_p12 : lw_okq (⟨"MapMerger$Blobs", "cutLines", "(II)V"⟩, 8) := ⟨⟨by decide +kernel, by decide +kernel⟩, List.mem_of_getElem? (i := 57) (by decide +kernel), List.mem_of_getElem? (i := 608) (by decide +kernel), List.mem_of_getElem? (i := 609) (by decide +kernel)⟩
theorem lw_p13 : lw_okq (⟨"MapMerger$LineTable", "bucketOf", "(II)I"⟩, 7) := ⟨⟨by decide +kernel, by decide +kernel⟩, List.mem_of_getElem? (i := 64) (by decide +kernel), List.mem_of_getElem? (i := 616) (by decide +kernel), List.mem_of_getElem? (i := 617) (by decide +kernel)⟩
theorem lw_p14 : lw_okq (⟨"MapMerger$LineTable", "findKind", "(III)I"⟩, 7) := ⟨⟨by decide +kernel, by decide +kernel⟩, List.mem_of_getElem? (i := 64) (by decide +kernel), List.mem_of_getElem? (i := 620) (by decide +kernel), List.mem_of_getElem? (i := 621) (by decide +kernel)⟩
theorem lw_p15 : lw_okq (⟨"MapMerger$PathMap", "insertAt", "(I[BII)V"⟩, 4) := ⟨⟨by decide +kernel, by decide +kernel⟩, List.mem_of_getElem? (i := 124) (by decide +kernel), List.mem_of_getElem? (i := 629) (by decide +kernel), List.mem_of_getElem? (i := 630) (by decide +kernel)⟩
def lw_privs_1 : List (MethodName × Nat) := [(⟨"java/lang/Throwable", "fillInStackTrace", "(I)Ljava/lang/Throwable;"⟩, 6), (⟨"MapMerger$Inbox", "dropFirstArgument", "()V"⟩, 4), (⟨"MapMerger$Inbox", "removeFront", "(I)V"⟩, 4), (⟨"MapMerger", "putArguments", "(I)I"⟩, 5), (⟨"MapMerger", "firstArgumentIsPath", "()Z"⟩, 5), (⟨"MapMerger$PathMap", "placeFor", "([BII)I"⟩, 4), (⟨"MapMerger$PathMap", "compareAt", "(I[BII)I"⟩, 4), (⟨"MapMerger$PathMap", "isAt", "(I[BII)Z"⟩, 4), (⟨"MapMerger$PathMap", "hasRoomFor", "([BII)Z"⟩, 4), (⟨"MapMerger$PathMap", "isBeneathOrAbove", "(I[BII)Z"⟩, 4), (⟨"MapMerger$Blobs", "addText", "([BII)V"⟩, 8), (⟨"MapMerger$Blobs", "looksRough", "(II)Z"⟩, 8), (⟨"MapMerger$Blobs", "cutLines", "(II)V"⟩, 8), (⟨"MapMerger$LineTable", "bucketOf", "(II)I"⟩, 7), (⟨"MapMerger$LineTable", "findKind", "(III)I"⟩, 7), (⟨"MapMerger$PathMap", "insertAt", "(I[BII)V"⟩, 4)]
theorem lw_r1 : ∀ q ∈ lw_privs_1, lw_okq q := List.forall_mem_cons.mpr ⟨lw_p0, List.forall_mem_cons.mpr ⟨lw_p1, List.forall_mem_cons.mpr ⟨lw_p2, List.forall_mem_cons.mpr ⟨lw_p3, List.forall_mem_cons.mpr ⟨lw_p4, List.forall_mem_cons.mpr ⟨lw_p5, List.forall_mem_cons.mpr ⟨lw_p6, List.forall_mem_cons.mpr ⟨lw_p7, List.forall_mem_cons.mpr ⟨lw_p8, List.forall_mem_cons.mpr ⟨lw_p9, List.forall_mem_cons.mpr ⟨lw_p10, List.forall_mem_cons.mpr ⟨lw_p11, List.forall_mem_cons.mpr ⟨lw_p12, List.forall_mem_cons.mpr ⟨lw_p13, List.forall_mem_cons.mpr ⟨lw_p14, List.forall_mem_cons.mpr ⟨lw_p15, fun _ h => absurd h List.not_mem_nil⟩⟩⟩⟩⟩⟩⟩⟩⟩⟩⟩⟩⟩⟩⟩⟩
theorem lw_p16 : lw_okq (⟨"MapMerger", "dropArgument", "(I)I"⟩, 5) := ⟨⟨by decide +kernel, by decide +kernel⟩, List.mem_of_getElem? (i := 28) (by decide +kernel), List.mem_of_getElem? (i := 664) (by decide +kernel), List.mem_of_getElem? (i := 665) (by decide +kernel)⟩
theorem lw_p17 : lw_okq (⟨"MapMerger$Renames", "listChanges", "(LMapMerger$PathMap;LMapMerger$PathMap;)V"⟩, 9) := ⟨⟨by decide +kernel, by decide +kernel⟩, List.mem_of_getElem? (i := 143) (by decide +kernel), List.mem_of_getElem? (i := 699) (by decide +kernel), List.mem_of_getElem? (i := 700) (by decide +kernel)⟩
theorem lw_p18 : lw_okq (⟨"MapMerger$Renames", "addGone", "(I)V"⟩, 9) := ⟨⟨by decide +kernel, by decide +kernel⟩, List.mem_of_getElem? (i := 143) (by decide +kernel), List.mem_of_getElem? (i := 711) (by decide +kernel), List.mem_of_getElem? (i := 712) (by decide +kernel)⟩
theorem lw_p19 : lw_okq (⟨"MapMerger$Renames", "addCome", "(I)V"⟩, 9) := ⟨⟨by decide +kernel, by decide +kernel⟩, List.mem_of_getElem? (i := 143) (by decide +kernel), List.mem_of_getElem? (i := 715) (by decide +kernel), List.mem_of_getElem? (i := 716) (by decide +kernel)⟩
theorem lw_p20 : lw_okq (⟨"MapMerger$Renames", "pairSameBlobs", "(LMapMerger$PathMap;LMapMerger$PathMap;)V"⟩, 9) := ⟨⟨by decide +kernel, by decide +kernel⟩, List.mem_of_getElem? (i := 143) (by decide +kernel), List.mem_of_getElem? (i := 719) (by decide +kernel), List.mem_of_getElem? (i := 720) (by decide +kernel)⟩
theorem lw_p21 : lw_okq (⟨"MapMerger$Renames", "join", "(III)V"⟩, 9) := ⟨⟨by decide +kernel, by decide +kernel⟩, List.mem_of_getElem? (i := 143) (by decide +kernel), List.mem_of_getElem? (i := 728) (by decide +kernel), List.mem_of_getElem? (i := 729) (by decide +kernel)⟩
theorem lw_p22 : lw_okq (⟨"MapMerger$Renames", "scoreAll", "(LMapMerger$PathMap;LMapMerger$PathMap;)V"⟩, 9) := ⟨⟨by decide +kernel, by decide +kernel⟩, List.mem_of_getElem? (i := 143) (by decide +kernel), List.mem_of_getElem? (i := 732) (by decide +kernel), List.mem_of_getElem? (i := 733) (by decide +kernel)⟩
theorem lw_p23 : lw_okq (⟨"MapMerger$Blobs", "commonLength", "(II)I"⟩, 8) := ⟨⟨by decide +kernel, by decide +kernel⟩, List.mem_of_getElem? (i := 57) (by decide +kernel), List.mem_of_getElem? (i := 743) (by decide +kernel), List.mem_of_getElem? (i := 744) (by decide +kernel)⟩
theorem lw_p24 : lw_okq (⟨"MapMerger$Renames", "pairByScore", "()V"⟩, 9) := ⟨⟨by decide +kernel, by decide +kernel⟩, List.mem_of_getElem? (i := 143) (by decide +kernel), List.mem_of_getElem? (i := 751) (by decide +kernel), List.mem_of_getElem? (i := 752) (by decide +kernel)⟩
theorem lw_p25 : lw_okq (⟨"MapMerger$Renames", "bestFreePair", "()I"⟩, 9) := ⟨⟨by decide +kernel, by decide +kernel⟩, List.mem_of_getElem? (i := 143) (by decide +kernel), List.mem_of_getElem? (i := 755) (by decide +kernel), List.mem_of_getElem? (i := 756) (by decide +kernel)⟩
theorem lw_p26 : lw_okq (⟨"MapMerger$Merging", "listGroups", "()V"⟩, 15) := ⟨⟨by decide +kernel, by decide +kernel⟩, List.mem_of_getElem? (i := 177) (by decide +kernel), List.mem_of_getElem? (i := 759) (by decide +kernel), List.mem_of_getElem? (i := 760) (by decide +kernel)⟩
theorem lw_p27 : lw_okq (⟨"MapMerger$Merging", "listGroup", "(III)V"⟩, 15) := ⟨⟨by decide +kernel, by decide +kernel⟩, List.mem_of_getElem? (i := 177) (by decide +kernel), List.mem_of_getElem? (i := 768) (by decide +kernel), List.mem_of_getElem? (i := 769) (by decide +kernel)⟩
theorem lw_p28 : lw_okq (⟨"MapMerger$Merging", "addGroup", "(III)Z"⟩, 15) := ⟨⟨by decide +kernel, by decide +kernel⟩, List.mem_of_getElem? (i := 177) (by decide +kernel), List.mem_of_getElem? (i := 784) (by decide +kernel), List.mem_of_getElem? (i := 785) (by decide +kernel)⟩
theorem lw_p29 : lw_okq (⟨"MapMerger$Merging", "isPathOfBase", "(ILMapMerger$PathMap;I)Z"⟩, 15) := ⟨⟨by decide +kernel, by decide +kernel⟩, List.mem_of_getElem? (i := 177) (by decide +kernel), List.mem_of_getElem? (i := 789) (by decide +kernel), List.mem_of_getElem? (i := 790) (by decide +kernel)⟩
theorem lw_p30 : lw_okq (⟨"MapMerger$Merging", "giveText", "(I)Z"⟩, 15) := ⟨⟨by decide +kernel, by decide +kernel⟩, List.mem_of_getElem? (i := 177) (by decide +kernel), List.mem_of_getElem? (i := 811) (by decide +kernel), List.mem_of_getElem? (i := 812) (by decide +kernel)⟩
theorem lw_p31 : lw_okq (⟨"MapMerger$TextMerger", "startText", "()V"⟩, 11) := ⟨⟨by decide +kernel, by decide +kernel⟩, List.mem_of_getElem? (i := 185) (by decide +kernel), List.mem_of_getElem? (i := 830) (by decide +kernel), List.mem_of_getElem? (i := 831) (by decide +kernel)⟩
def lw_privs_2 : List (MethodName × Nat) := [(⟨"MapMerger", "dropArgument", "(I)I"⟩, 5), (⟨"MapMerger$Renames", "listChanges", "(LMapMerger$PathMap;LMapMerger$PathMap;)V"⟩, 9), (⟨"MapMerger$Renames", "addGone", "(I)V"⟩, 9), (⟨"MapMerger$Renames", "addCome", "(I)V"⟩, 9), (⟨"MapMerger$Renames", "pairSameBlobs", "(LMapMerger$PathMap;LMapMerger$PathMap;)V"⟩, 9), (⟨"MapMerger$Renames", "join", "(III)V"⟩, 9), (⟨"MapMerger$Renames", "scoreAll", "(LMapMerger$PathMap;LMapMerger$PathMap;)V"⟩, 9), (⟨"MapMerger$Blobs", "commonLength", "(II)I"⟩, 8), (⟨"MapMerger$Renames", "pairByScore", "()V"⟩, 9), (⟨"MapMerger$Renames", "bestFreePair", "()I"⟩, 9), (⟨"MapMerger$Merging", "listGroups", "()V"⟩, 15), (⟨"MapMerger$Merging", "listGroup", "(III)V"⟩, 15), (⟨"MapMerger$Merging", "addGroup", "(III)Z"⟩, 15), (⟨"MapMerger$Merging", "isPathOfBase", "(ILMapMerger$PathMap;I)Z"⟩, 15), (⟨"MapMerger$Merging", "giveText", "(I)Z"⟩, 15), (⟨"MapMerger$TextMerger", "startText", "()V"⟩, 11)]
theorem lw_r2 : ∀ q ∈ lw_privs_2, lw_okq q := List.forall_mem_cons.mpr ⟨lw_p16, List.forall_mem_cons.mpr ⟨lw_p17, List.forall_mem_cons.mpr ⟨lw_p18, List.forall_mem_cons.mpr ⟨lw_p19, List.forall_mem_cons.mpr ⟨lw_p20, List.forall_mem_cons.mpr ⟨lw_p21, List.forall_mem_cons.mpr ⟨lw_p22, List.forall_mem_cons.mpr ⟨lw_p23, List.forall_mem_cons.mpr ⟨lw_p24, List.forall_mem_cons.mpr ⟨lw_p25, List.forall_mem_cons.mpr ⟨lw_p26, List.forall_mem_cons.mpr ⟨lw_p27, List.forall_mem_cons.mpr ⟨lw_p28, List.forall_mem_cons.mpr ⟨lw_p29, List.forall_mem_cons.mpr ⟨lw_p30, List.forall_mem_cons.mpr ⟨lw_p31, fun _ h => absurd h List.not_mem_nil⟩⟩⟩⟩⟩⟩⟩⟩⟩⟩⟩⟩⟩⟩⟩⟩
theorem lw_p32 : lw_okq (⟨"MapMerger$TextMerger", "pairLines", "(II[I)V"⟩, 11) := ⟨⟨by decide +kernel, by decide +kernel⟩, List.mem_of_getElem? (i := 185) (by decide +kernel), List.mem_of_getElem? (i := 842) (by decide +kernel), List.mem_of_getElem? (i := 843) (by decide +kernel)⟩
theorem lw_p33 : lw_okq (⟨"MapMerger$TextMerger", "fillLongest", "(II)V"⟩, 11) := ⟨⟨by decide +kernel, by decide +kernel⟩, List.mem_of_getElem? (i := 185) (by decide +kernel), List.mem_of_getElem? (i := 850) (by decide +kernel), List.mem_of_getElem? (i := 851) (by decide +kernel)⟩
theorem lw_p34 : lw_okq (⟨"MapMerger$TextMerger", "addStableLines", "(I)V"⟩, 11) := ⟨⟨by decide +kernel, by decide +kernel⟩, List.mem_of_getElem? (i := 185) (by decide +kernel), List.mem_of_getElem? (i := 856) (by decide +kernel), List.mem_of_getElem? (i := 857) (by decide +kernel)⟩
theorem lw_p35 : lw_okq (⟨"MapMerger$TextMerger", "addPart", "()V"⟩, 11) := ⟨⟨by decide +kernel, by decide +kernel⟩, List.mem_of_getElem? (i := 185) (by decide +kernel), List.mem_of_getElem? (i := 864) (by decide +kernel), List.mem_of_getElem? (i := 865) (by decide +kernel)⟩
theorem lw_p36 : lw_okq (⟨"MapMerger$TextMerger", "addBytes", "(II)V"⟩, 11) := ⟨⟨by decide +kernel, by decide +kernel⟩, List.mem_of_getElem? (i := 185) (by decide +kernel), List.mem_of_getElem? (i := 885) (by decide +kernel), List.mem_of_getElem? (i := 886) (by decide +kernel)⟩
theorem lw_p37 : lw_okq (⟨"MapMerger$TextMerger", "addMark", "(Ljava/lang/String;)V"⟩, 11) := ⟨⟨by decide +kernel, by decide +kernel⟩, List.mem_of_getElem? (i := 185) (by decide +kernel), List.mem_of_getElem? (i := 895) (by decide +kernel), List.mem_of_getElem? (i := 896) (by decide +kernel)⟩
theorem lw_p38 : lw_okq (⟨"MapMerger$TextMerger", "addByte", "(I)V"⟩, 11) := ⟨⟨by decide +kernel, by decide +kernel⟩, List.mem_of_getElem? (i := 185) (by decide +kernel), List.mem_of_getElem? (i := 947) (by decide +kernel), List.mem_of_getElem? (i := 948) (by decide +kernel)⟩
theorem lw_p39 : lw_okq (⟨"MapMerger$TextMerger", "endLine", "()V"⟩, 11) := ⟨⟨by decide +kernel, by decide +kernel⟩, List.mem_of_getElem? (i := 185) (by decide +kernel), List.mem_of_getElem? (i := 951) (by decide +kernel), List.mem_of_getElem? (i := 952) (by decide +kernel)⟩
theorem lw_p40 : lw_okq (⟨"MapMerger$TextMerger", "addLastPart", "()V"⟩, 11) := ⟨⟨by decide +kernel, by decide +kernel⟩, List.mem_of_getElem? (i := 185) (by decide +kernel), List.mem_of_getElem? (i := 965) (by decide +kernel), List.mem_of_getElem? (i := 966) (by decide +kernel)⟩
theorem lw_p41 : lw_okq (⟨"MapMerger$Merging", "giveMergedText", "(I)Z"⟩, 15) := ⟨⟨by decide +kernel, by decide +kernel⟩, List.mem_of_getElem? (i := 177) (by decide +kernel), List.mem_of_getElem? (i := 983) (by decide +kernel), List.mem_of_getElem? (i := 984) (by decide +kernel)⟩
theorem lw_p42 : lw_okq (⟨"MapMergerModel", "bad", "()I"⟩, 42) := ⟨⟨by decide +kernel, by decide +kernel⟩, List.mem_of_getElem? (i := 1095) (by decide +kernel), List.mem_of_getElem? (i := 1292) (by decide +kernel), List.mem_of_getElem? (i := 1293) (by decide +kernel)⟩
theorem lw_p43 : lw_okq (⟨"MapMergerModel", "takeAll", "()I"⟩, 42) := ⟨⟨by decide +kernel, by decide +kernel⟩, List.mem_of_getElem? (i := 1095) (by decide +kernel), List.mem_of_getElem? (i := 1326) (by decide +kernel), List.mem_of_getElem? (i := 1327) (by decide +kernel)⟩
theorem lw_p44 : lw_okq (⟨"MapMergerModel", "blobOf", "(LMapMergerModel$Row;)I"⟩, 42) := ⟨⟨by decide +kernel, by decide +kernel⟩, List.mem_of_getElem? (i := 1095) (by decide +kernel), List.mem_of_getElem? (i := 1343) (by decide +kernel), List.mem_of_getElem? (i := 1344) (by decide +kernel)⟩
theorem lw_p45 : lw_okq (⟨"MapMergerModel", "rebuild", "(LMapMergerModel$Paths;LMapMergerModel$Row;I)V"⟩, 42) := ⟨⟨by decide +kernel, by decide +kernel⟩, List.mem_of_getElem? (i := 1095) (by decide +kernel), List.mem_of_getElem? (i := 1350) (by decide +kernel), List.mem_of_getElem? (i := 1351) (by decide +kernel)⟩
theorem lw_p46 : lw_okq (⟨"MapMergerModel", "refused", "()I"⟩, 42) := ⟨⟨by decide +kernel, by decide +kernel⟩, List.mem_of_getElem? (i := 1095) (by decide +kernel), List.mem_of_getElem? (i := 1382) (by decide +kernel), List.mem_of_getElem? (i := 1383) (by decide +kernel)⟩
theorem lw_p47 : lw_okq (⟨"MapMergerModel", "mergeMaps", "()V"⟩, 42) := ⟨⟨by decide +kernel, by decide +kernel⟩, List.mem_of_getElem? (i := 1095) (by decide +kernel), List.mem_of_getElem? (i := 1411) (by decide +kernel), List.mem_of_getElem? (i := 1412) (by decide +kernel)⟩
def lw_privs_3 : List (MethodName × Nat) := [(⟨"MapMerger$TextMerger", "pairLines", "(II[I)V"⟩, 11), (⟨"MapMerger$TextMerger", "fillLongest", "(II)V"⟩, 11), (⟨"MapMerger$TextMerger", "addStableLines", "(I)V"⟩, 11), (⟨"MapMerger$TextMerger", "addPart", "()V"⟩, 11), (⟨"MapMerger$TextMerger", "addBytes", "(II)V"⟩, 11), (⟨"MapMerger$TextMerger", "addMark", "(Ljava/lang/String;)V"⟩, 11), (⟨"MapMerger$TextMerger", "addByte", "(I)V"⟩, 11), (⟨"MapMerger$TextMerger", "endLine", "()V"⟩, 11), (⟨"MapMerger$TextMerger", "addLastPart", "()V"⟩, 11), (⟨"MapMerger$Merging", "giveMergedText", "(I)Z"⟩, 15), (⟨"MapMergerModel", "bad", "()I"⟩, 42), (⟨"MapMergerModel", "takeAll", "()I"⟩, 42), (⟨"MapMergerModel", "blobOf", "(LMapMergerModel$Row;)I"⟩, 42), (⟨"MapMergerModel", "rebuild", "(LMapMergerModel$Paths;LMapMergerModel$Row;I)V"⟩, 42), (⟨"MapMergerModel", "refused", "()I"⟩, 42), (⟨"MapMergerModel", "mergeMaps", "()V"⟩, 42)]
theorem lw_r3 : ∀ q ∈ lw_privs_3, lw_okq q := List.forall_mem_cons.mpr ⟨lw_p32, List.forall_mem_cons.mpr ⟨lw_p33, List.forall_mem_cons.mpr ⟨lw_p34, List.forall_mem_cons.mpr ⟨lw_p35, List.forall_mem_cons.mpr ⟨lw_p36, List.forall_mem_cons.mpr ⟨lw_p37, List.forall_mem_cons.mpr ⟨lw_p38, List.forall_mem_cons.mpr ⟨lw_p39, List.forall_mem_cons.mpr ⟨lw_p40, List.forall_mem_cons.mpr ⟨lw_p41, List.forall_mem_cons.mpr ⟨lw_p42, List.forall_mem_cons.mpr ⟨lw_p43, List.forall_mem_cons.mpr ⟨lw_p44, List.forall_mem_cons.mpr ⟨lw_p45, List.forall_mem_cons.mpr ⟨lw_p46, List.forall_mem_cons.mpr ⟨lw_p47, fun _ h => absurd h List.not_mem_nil⟩⟩⟩⟩⟩⟩⟩⟩⟩⟩⟩⟩⟩⟩⟩⟩
theorem lw_p48 : lw_okq (⟨"MapMergerModel", "renames", "(LMapMergerModel$Paths;LMapMergerModel$Paths;[I[I)V"⟩, 42) := ⟨⟨by decide +kernel, by decide +kernel⟩, List.mem_of_getElem? (i := 1095) (by decide +kernel), List.mem_of_getElem? (i := 1415) (by decide +kernel), List.mem_of_getElem? (i := 1416) (by decide +kernel)⟩
theorem lw_p49 : lw_okq (⟨"MapMergerModel", "score", "(II)I"⟩, 42) := ⟨⟨by decide +kernel, by decide +kernel⟩, List.mem_of_getElem? (i := 1095) (by decide +kernel), List.mem_of_getElem? (i := 1427) (by decide +kernel), List.mem_of_getElem? (i := 1428) (by decide +kernel)⟩
theorem lw_p50 : lw_okq (⟨"MapMergerModel", "blobText", "(ILMapMergerModel$Row;)V"⟩, 42) := ⟨⟨by decide +kernel, by decide +kernel⟩, List.mem_of_getElem? (i := 1095) (by decide +kernel), List.mem_of_getElem? (i := 1431) (by decide +kernel), List.mem_of_getElem? (i := 1432) (by decide +kernel)⟩
theorem lw_p51 : lw_okq (⟨"MapMergerModel", "cut", "(I)V"⟩, 42) := ⟨⟨by decide +kernel, by decide +kernel⟩, List.mem_of_getElem? (i := 1095) (by decide +kernel), List.mem_of_getElem? (i := 1436) (by decide +kernel), List.mem_of_getElem? (i := 1437) (by decide +kernel)⟩
theorem lw_p52 : lw_okq (⟨"MapMergerModel", "sort", "(I)V"⟩, 42) := ⟨⟨by decide +kernel, by decide +kernel⟩, List.mem_of_getElem? (i := 1095) (by decide +kernel), List.mem_of_getElem? (i := 1440) (by decide +kernel), List.mem_of_getElem? (i := 1441) (by decide +kernel)⟩
theorem lw_p53 : lw_okq (⟨"MapMergerModel", "sameLine", "(IIII)Z"⟩, 42) := ⟨⟨by decide +kernel, by decide +kernel⟩, List.mem_of_getElem? (i := 1095) (by decide +kernel), List.mem_of_getElem? (i := 1444) (by decide +kernel), List.mem_of_getElem? (i := 1445) (by decide +kernel)⟩
theorem lw_p54 : lw_okq (⟨"MapMergerModel", "start", "(II)I"⟩, 42) := ⟨⟨by decide +kernel, by decide +kernel⟩, List.mem_of_getElem? (i := 1095) (by decide +kernel), List.mem_of_getElem? (i := 1448) (by decide +kernel), List.mem_of_getElem? (i := 1449) (by decide +kernel)⟩
theorem lw_p55 : lw_okq (⟨"MapMergerModel", "many", "(II)I"⟩, 42) := ⟨⟨by decide +kernel, by decide +kernel⟩, List.mem_of_getElem? (i := 1095) (by decide +kernel), List.mem_of_getElem? (i := 1455) (by decide +kernel), List.mem_of_getElem? (i := 1456) (by decide +kernel)⟩
theorem lw_p56 : lw_okq (⟨"MapMergerModel", "decide", "(III)V"⟩, 42) := ⟨⟨by decide +kernel, by decide +kernel⟩, List.mem_of_getElem? (i := 1095) (by decide +kernel), List.mem_of_getElem? (i := 1459) (by decide +kernel), List.mem_of_getElem? (i := 1460) (by decide +kernel)⟩
theorem lw_p57 : lw_okq (⟨"MapMergerModel", "outcome", "(LMapMergerModel$Paths;IIZIII)V"⟩, 42) := ⟨⟨by decide +kernel, by decide +kernel⟩, List.mem_of_getElem? (i := 1095) (by decide +kernel), List.mem_of_getElem? (i := 1464) (by decide +kernel), List.mem_of_getElem? (i := 1465) (by decide +kernel)⟩
theorem lw_p58 : lw_okq (⟨"MapMergerModel", "merged", "(LMapMergerModel$Row;)Z"⟩, 42) := ⟨⟨by decide +kernel, by decide +kernel⟩, List.mem_of_getElem? (i := 1095) (by decide +kernel), List.mem_of_getElem? (i := 1473) (by decide +kernel), List.mem_of_getElem? (i := 1474) (by decide +kernel)⟩
theorem lw_p59 : lw_okq (⟨"MapMergerModel", "pair", "(I)V"⟩, 42) := ⟨⟨by decide +kernel, by decide +kernel⟩, List.mem_of_getElem? (i := 1095) (by decide +kernel), List.mem_of_getElem? (i := 1477) (by decide +kernel), List.mem_of_getElem? (i := 1478) (by decide +kernel)⟩
theorem lw_p60 : lw_okq (⟨"MapMergerModel", "common", "(IIII)I"⟩, 42) := ⟨⟨by decide +kernel, by decide +kernel⟩, List.mem_of_getElem? (i := 1095) (by decide +kernel), List.mem_of_getElem? (i := 1481) (by decide +kernel), List.mem_of_getElem? (i := 1482) (by decide +kernel)⟩
theorem lw_p61 : lw_okq (⟨"MapMergerModel", "part", "(IIIIIILMapMergerModel$Row;)Z"⟩, 42) := ⟨⟨by decide +kernel, by decide +kernel⟩, List.mem_of_getElem? (i := 1095) (by decide +kernel), List.mem_of_getElem? (i := 1485) (by decide +kernel), List.mem_of_getElem? (i := 1486) (by decide +kernel)⟩
theorem lw_p62 : lw_okq (⟨"MapMergerModel", "ended", "(IIILMapMergerModel$Row;)V"⟩, 42) := ⟨⟨by decide +kernel, by decide +kernel⟩, List.mem_of_getElem? (i := 1095) (by decide +kernel), List.mem_of_getElem? (i := 1496) (by decide +kernel), List.mem_of_getElem? (i := 1497) (by decide +kernel)⟩
theorem lw_p63 : lw_okq (⟨"MapMergerModel", "freshBlob", "(LMapMergerModel$Row;Z)I"⟩, 42) := ⟨⟨by decide +kernel, by decide +kernel⟩, List.mem_of_getElem? (i := 1095) (by decide +kernel), List.mem_of_getElem? (i := 1504) (by decide +kernel), List.mem_of_getElem? (i := 1505) (by decide +kernel)⟩
def lw_privs_4 : List (MethodName × Nat) := [(⟨"MapMergerModel", "renames", "(LMapMergerModel$Paths;LMapMergerModel$Paths;[I[I)V"⟩, 42), (⟨"MapMergerModel", "score", "(II)I"⟩, 42), (⟨"MapMergerModel", "blobText", "(ILMapMergerModel$Row;)V"⟩, 42), (⟨"MapMergerModel", "cut", "(I)V"⟩, 42), (⟨"MapMergerModel", "sort", "(I)V"⟩, 42), (⟨"MapMergerModel", "sameLine", "(IIII)Z"⟩, 42), (⟨"MapMergerModel", "start", "(II)I"⟩, 42), (⟨"MapMergerModel", "many", "(II)I"⟩, 42), (⟨"MapMergerModel", "decide", "(III)V"⟩, 42), (⟨"MapMergerModel", "outcome", "(LMapMergerModel$Paths;IIZIII)V"⟩, 42), (⟨"MapMergerModel", "merged", "(LMapMergerModel$Row;)Z"⟩, 42), (⟨"MapMergerModel", "pair", "(I)V"⟩, 42), (⟨"MapMergerModel", "common", "(IIII)I"⟩, 42), (⟨"MapMergerModel", "part", "(IIIIIILMapMergerModel$Row;)Z"⟩, 42), (⟨"MapMergerModel", "ended", "(IIILMapMergerModel$Row;)V"⟩, 42), (⟨"MapMergerModel", "freshBlob", "(LMapMergerModel$Row;Z)I"⟩, 42)]
theorem lw_r4 : ∀ q ∈ lw_privs_4, lw_okq q := List.forall_mem_cons.mpr ⟨lw_p48, List.forall_mem_cons.mpr ⟨lw_p49, List.forall_mem_cons.mpr ⟨lw_p50, List.forall_mem_cons.mpr ⟨lw_p51, List.forall_mem_cons.mpr ⟨lw_p52, List.forall_mem_cons.mpr ⟨lw_p53, List.forall_mem_cons.mpr ⟨lw_p54, List.forall_mem_cons.mpr ⟨lw_p55, List.forall_mem_cons.mpr ⟨lw_p56, List.forall_mem_cons.mpr ⟨lw_p57, List.forall_mem_cons.mpr ⟨lw_p58, List.forall_mem_cons.mpr ⟨lw_p59, List.forall_mem_cons.mpr ⟨lw_p60, List.forall_mem_cons.mpr ⟨lw_p61, List.forall_mem_cons.mpr ⟨lw_p62, List.forall_mem_cons.mpr ⟨lw_p63, fun _ h => absurd h List.not_mem_nil⟩⟩⟩⟩⟩⟩⟩⟩⟩⟩⟩⟩⟩⟩⟩⟩
theorem lw_p64 : lw_okq (⟨"MapMergerModel", "seenLength", "(I)I"⟩, 42) := ⟨⟨by decide +kernel, by decide +kernel⟩, List.mem_of_getElem? (i := 1095) (by decide +kernel), List.mem_of_getElem? (i := 1517) (by decide +kernel), List.mem_of_getElem? (i := 1518) (by decide +kernel)⟩
def lw_privs_5 : List (MethodName × Nat) := [(⟨"MapMergerModel", "seenLength", "(I)I"⟩, 42)]
theorem lw_r5 : ∀ q ∈ lw_privs_5, lw_okq q := List.forall_mem_cons.mpr ⟨lw_p64, fun _ h => absurd h List.not_mem_nil⟩
def lw_privs : List (MethodName × Nat) := lw_privs_1 ++ (lw_privs_2 ++ (lw_privs_3 ++ (lw_privs_4 ++ (lw_privs_5))))
def lw_tbl : List Cond := k2_sels lw_privs ++ tables_1
theorem lw_privs_ok : ∀ q ∈ lw_privs, lw_okq q := by
  show ∀ q ∈ lw_privs_1 ++ (lw_privs_2 ++ (lw_privs_3 ++ (lw_privs_4 ++ (lw_privs_5)))), lw_okq q
  exact List.forall_mem_append.mpr ⟨lw_r1, List.forall_mem_append.mpr ⟨lw_r2, List.forall_mem_append.mpr ⟨lw_r3, List.forall_mem_append.mpr ⟨lw_r4, lw_r5⟩⟩⟩⟩
end
section
/-! ===== the classes by number: names, how many fields, the fields ===== -/
def am_cn : Nat → String
  | 0 => "MapMerger"
  | 1 => "MapMerger$Inbox"
  | 2 => "MapMerger$Blobs"
  | 3 => "MapMerger$LineTable"
  | 4 => "MapMerger$PathMap"
  | 5 => "MapMerger$Renames"
  | 6 => "MapMerger$Merging"
  | 7 => "MapMerger$TextMerger"
  | 8 => "MapMerger$Part"
  | 9 => "MapMerger$Outcomes"
  | 10 => "MapMergerModel"
  | 11 => "MapMergerModel$Paths"
  | 12 => "MapMergerModel$Row"
  | 13 => "java/lang/IllegalArgumentException"
  | 14 => "java/lang/IllegalStateException"
  | 15 => "java/util/NoSuchElementException"
  | 16 => "MapMergerModel$No"
  | _ => ""
def am_N : Nat → Nat
  | 0 => 5
  | 1 => 4
  | 2 => 8
  | 3 => 7
  | 4 => 4
  | 5 => 9
  | 6 => 15
  | 7 => 11
  | 8 => 4
  | 9 => 10
  | 10 => 42
  | 11 => 5
  | 12 => 2
  | _ => 0
/-- name, descriptor, final, type -/
def am_fl : Nat → List (String × String × Bool × FieldType)
  | 0 => [("inbox", "LMapMerger$Inbox;", true, .object "MapMerger$Inbox"), ("blobs", "LMapMerger$Blobs;", true, .object "MapMerger$Blobs"), ("maps", "[LMapMerger$PathMap;", true, .array (.object "MapMerger$PathMap")), ("renames", "LMapMerger$Renames;", true, .object "MapMerger$Renames"), ("merging", "LMapMerger$Merging;", true, .object "MapMerger$Merging")]
  | 1 => [("bytes", "[B", true, .array .byte), ("ends", "[I", true, .array .int), ("arguments", "I", false, .int), ("length", "I", false, .int)]
  | 2 => [("bytes", "[B", true, .array .byte), ("starts", "[I", true, .array .int), ("rough", "[Z", true, .array .boolean), ("firstLines", "[I", true, .array .int), ("lineCounts", "[I", true, .array .int), ("lines", "LMapMerger$LineTable;", true, .object "MapMerger$LineTable"), ("waiting", "[I", true, .array .int), ("size", "I", false, .int)]
  | 3 => [("bytes", "[B", true, .array .byte), ("starts", "[I", true, .array .int), ("lengths", "[I", true, .array .int), ("kinds", "[I", true, .array .int), ("heads", "[I", true, .array .int), ("chain", "[I", true, .array .int), ("size", "I", false, .int)]
  | 4 => [("letters", "[B", true, .array .byte), ("starts", "[I", true, .array .int), ("values", "[I", true, .array .int), ("size", "I", false, .int)]
  | 5 => [("blobs", "LMapMerger$Blobs;", true, .object "MapMerger$Blobs"), ("gone", "[I", true, .array .int), ("come", "[I", true, .array .int), ("comeTaken", "[Z", true, .array .boolean), ("scores", "[I", true, .array .int), ("partners", "[I", true, .array .int), ("partnerScores", "[I", true, .array .int), ("goneCount", "I", false, .int), ("comeCount", "I", false, .int)]
  | 6 => [("base", "LMapMerger$PathMap;", true, .object "MapMerger$PathMap"), ("ours", "LMapMerger$PathMap;", true, .object "MapMerger$PathMap"), ("theirs", "LMapMerger$PathMap;", true, .object "MapMerger$PathMap"), ("blobs", "LMapMerger$Blobs;", true, .object "MapMerger$Blobs"), ("toOurs", "LMapMerger$Renames;", true, .object "MapMerger$Renames"), ("toTheirs", "LMapMerger$Renames;", true, .object "MapMerger$Renames"), ("oursUsed", "[Z", true, .array .boolean), ("theirsUsed", "[Z", true, .array .boolean), ("groupsP", "[I", true, .array .int), ("groupsA", "[I", true, .array .int), ("groupsB", "[I", true, .array .int), ("merger", "LMapMerger$TextMerger;", true, .object "MapMerger$TextMerger"), ("groupCount", "I", false, .int), ("latest", "LMapMerger$Outcomes;", false, .object "MapMerger$Outcomes"), ("spare", "LMapMerger$Outcomes;", false, .object "MapMerger$Outcomes")]
  | 7 => [("blobs", "LMapMerger$Blobs;", true, .object "MapMerger$Blobs"), ("base", "LMapMerger$Part;", true, .object "MapMerger$Part"), ("ours", "LMapMerger$Part;", true, .object "MapMerger$Part"), ("theirs", "LMapMerger$Part;", true, .object "MapMerger$Part"), ("longest", "[I", true, .array .int), ("oursPairs", "[I", true, .array .int), ("theirsPairs", "[I", true, .array .int), ("text", "[B", true, .array .byte), ("length", "I", false, .int), ("conflict", "Z", false, .boolean), ("tooLong", "Z", false, .boolean)]
  | 8 => [("blobs", "LMapMerger$Blobs;", true, .object "MapMerger$Blobs"), ("number", "I", false, .int), ("from", "I", false, .int), ("to", "I", false, .int)]
  | 9 => [("blobs", "LMapMerger$Blobs;", true, .object "MapMerger$Blobs"), ("places", "LMapMerger$PathMap;", true, .object "MapMerger$PathMap"), ("unmerged", "[Z", true, .array .boolean), ("sources", "[I", true, .array .int), ("textBlobs", "[I", true, .array .int), ("textStarts", "[I", true, .array .int), ("textLengths", "[I", true, .array .int), ("mergedBytes", "[B", true, .array .byte), ("mergedLength", "I", false, .int), ("unmergedCount", "I", false, .int)]
  | 10 => [("thrown", "I", false, .int), ("maps", "[LMapMergerModel$Paths;", true, .array (.object "MapMergerModel$Paths")), ("blobs", "LMapMergerModel$Row;", true, .object "MapMergerModel$Row"), ("blobFrom", "[I", true, .array .int), ("blobMany", "I", false, .int), ("input", "LMapMergerModel$Row;", true, .object "MapMergerModel$Row"), ("arguments", "[LMapMergerModel$Row;", true, .array (.object "MapMergerModel$Row")), ("given", "I", false, .int), ("texts", "[LMapMergerModel$Row;", true, .array (.object "MapMergerModel$Row")), ("starts", "[I", true, .array .int), ("kinds", "[I", true, .array .int), ("count", "[I", true, .array .int), ("partner", "[I", true, .array .int), ("above", "[I", true, .array .int), ("below", "[I", true, .array .int), ("gone", "[I", true, .array .int), ("come", "[I", true, .array .int), ("scores", "[S", true, .array .short), ("goneMany", "I", false, .int), ("comeMany", "I", false, .int), ("base", "LMapMergerModel$Paths;", true, .object "MapMergerModel$Paths"), ("mine", "LMapMergerModel$Paths;", true, .object "MapMergerModel$Paths"), ("theirs", "LMapMergerModel$Paths;", true, .object "MapMergerModel$Paths"), ("outcome", "LMapMergerModel$Paths;", true, .object "MapMergerModel$Paths"), ("result", "LMapMergerModel$Paths;", true, .object "MapMergerModel$Paths"), ("toOurs", "[I", true, .array .int), ("toTheirs", "[I", true, .array .int), ("anyScore", "[I", true, .array .int), ("oursDone", "[Z", true, .array .boolean), ("theirsDone", "[Z", true, .array .boolean), ("fresh", "LMapMergerModel$Row;", true, .object "MapMergerModel$Row"), ("merge", "LMapMergerModel$Row;", true, .object "MapMergerModel$Row"), ("freshFrom", "[I", true, .array .int), ("freshMany", "I", false, .int), ("baseAt", "[I", true, .array .int), ("oursAt", "[I", true, .array .int), ("theirsAt", "[I", true, .array .int), ("next", "LMapMergerModel$Paths;", true, .object "MapMergerModel$Paths"), ("seen", "LMapMergerModel$Paths;", true, .object "MapMergerModel$Paths"), ("seenTexts", "LMapMergerModel$Row;", true, .object "MapMergerModel$Row"), ("seenFrom", "[I", true, .array .int), ("seenBlob", "[I", true, .array .int)]
  | 11 => [("names", "LMapMergerModel$Row;", true, .object "MapMergerModel$Row"), ("from", "[I", true, .array .int), ("blobs", "[I", true, .array .int), ("unmerged", "[Z", true, .array .boolean), ("n", "I", false, .int)]
  | 12 => [("at", "[B", false, .array .byte), ("n", "I", false, .int)]
  | _ => []
def am_fd (c k : Nat) : String × String × Bool × FieldType := (am_fl c).getD k ("", "", false, .int)
def am_NC : Nat := 16
/-! ===== THE ABSTRACT MACHINE: addresses by number (8 and on: made since the law began, in their order; below 8: what was there before), a heap of plain cells ===== -/
/-- the law's first state; what was there before, by number; the classes' numbers in the tables; the slots of their fields -/
abbrev am_G : Type := State × (Nat → Nat) × (Nat → ClassId) × (Nat → Nat → Nat)
abbrev am_C : Type := (FieldType × Nat × (Nat → Value)) ⊕ (Nat × List Value)
/-- next address, slots used so far, heap -/
abbrev am_S : Type := Nat × Nat × (Nat → Option am_C)
/-- name, bytes, locals, what it returns, handlers, frames and locals that its calls need -/
abbrev am_M : Type := MethodName × ByteArray × Nat × Option FieldType × List (Nat × Nat × Nat × Nat) × Nat × Nat
def am_r (g : am_G) (k : Nat) : Nat := if k < 8 then g.2.1 k else g.1.heap.size + (k - 8)
def am_up (g : am_G) : Value → Value
  | .ref k => .ref (am_r g k)
  | v => v
/-- an array of references: the class of its components -/
def am_ok (U : State) (cA : ClassId) : FieldType → Prop
  | .object C => ∃ (kA : Class) (comp : ClassId), U.vm.classes[cA]? = some kA ∧ kA.kind = .array comp (.object C) ∧ U.vm.findClass C = some comp
  | _ => True
def am_at (g : am_G) (a : Nat) (x : am_C) (H : Heap) : Prop := match x with
  | .inl y => ∃ cell : Cell, H[a]? = some cell ∧ g.1.isArrayOf cell y.1 ∧ am_ok g.1 cell.cls y.1 ∧ cell.vm ≠ .unknown ∧ (y.2.1 ≤ cell.slots.size ∧ cell.slots.size.toInt32 = Int32.ofNat y.2.1) ∧ ∀ j, j < y.2.1 → cell.slots[j]? = some (am_up g (y.2.2 j)) ∧ fits y.1 (am_up g (y.2.2 j)) = true
  | .inr y => t_OB a (g.2.2.1 y.1) (am_N y.1) (g.2.2.2 y.1) H (vp_V (y.2.map (am_up g)))
def am_R (g : am_G) (σ : am_S) (H : Heap) : Prop :=
  (∀ (k : Nat) (x : am_C), σ.2.2 k = some x → am_at g (am_r g k) x H) ∧ H.size = g.1.heap.size + (σ.1 - 8) ∧ 8 ≤ σ.1 ∧ ∀ a, a < g.1.heap.size → H[a]? = g.1.heap[a]?
/-- words that speak of static fields' cells -/
def am_hw : List Cond := [.laysStatic "java/lang/Throwable" "UNASSIGNED_STACK" "[Ljava/lang/StackTraceElement;", .laysStatic "java/lang/Throwable" "SUPPRESSED_SENTINEL" "Ljava/util/List;", .isRef (.static "java/lang/Throwable" "UNASSIGNED_STACK" "[Ljava/lang/StackTraceElement;"), .isRef (.static "java/lang/Throwable" "SUPPRESSED_SENTINEL" "Ljava/util/List;")]
/-- the three marks (2, 3, 4), their bytes' arrays (5, 6, 7), String's own static -/
def am_str (g : am_G) : Prop :=
  (∀ i, 2 ≤ i → i < 5 → va_O "java/lang/String" (g.2.1 i) (fun q => g.1.heap.size ≤ q) g.1 g.1.heap ∧ va_OF "java/lang/String" "coder" "B" (.int 0) (g.2.1 i) (fun q => g.1.heap.size ≤ q) g.1 g.1.heap ∧ va_OF "java/lang/String" "value" "[B" (.ref (g.2.1 (i + 3))) (g.2.1 i) (fun q => g.1.heap.size ≤ q) g.1 g.1.heap) ∧
  va_Z "java/lang/String" "COMPACT_STRINGS" "Z" (.int 1) (fun q => g.1.heap.size ≤ q) g.1 g.1.heap ∧
  (vk_R "MapMerger$TextMerger" 132 "<<<<<<< ours\n" (g.2.1 2) g.1 ∧ vk_R "MapMerger$TextMerger" 141 "=======\n" (g.2.1 3) g.1 ∧ vk_R "MapMerger$TextMerger" 143 ">>>>>>> theirs\n" (g.2.1 4) g.1) ∧
  (vk_R "MapMergerModel" 80 "<<<<<<< ours\n" (g.2.1 2) g.1 ∧ vk_R "MapMergerModel" 89 "=======\n" (g.2.1 3) g.1 ∧ vk_R "MapMergerModel" 91 ">>>>>>> theirs\n" (g.2.1 4) g.1) ∧
  (∃ v : Value, v.category = 1 ∧ va_Z "jdk/internal/util/Preconditions" "SIOOBE_FORMATTER" "Ljava/util/function/BiFunction;" v (fun q => g.1.heap.size ≤ q) g.1 g.1.heap) ∧
  va_O "MapMergerModel$No" (g.2.1 1) (fun q => g.1.heap.size ≤ q) g.1 g.1.heap
/-- what is known of the start -/
def am_K (g : am_G) : Prop :=
  (∀ w ∈ lw_tbl, (goodWord w = true ∨ w.onTables = true ∨ ∃ C, w = .arrayOver (.object C)) → w.before #[] g.1 = true) ∧
  (∀ c, c < am_NC → ClassAt g.1 (am_cn c) (g.2.2.1 c) ∧ ∀ k, k < am_N c → SlotIs g.1 (am_cn c) (am_fd c k).1 (am_fd c k).2.1 (g.2.2.2 c k)) ∧
  (∀ k, k < 8 → g.2.1 k < g.1.heap.size) ∧
  (g.1.vm.assignable (g.2.2.1 14) (g.2.2.1 13) = false ∧ g.1.vm.assignable (g.2.2.1 15) (g.2.2.1 13) = false) ∧
  ((∀ w ∈ am_hw, w.before #[] g.1 = true) ∧ va_Z "MapMergerModel" "REFUSED" "LMapMergerModel$No;" (.ref (g.2.1 1)) (fun q => g.1.heap.size ≤ q) g.1 g.1.heap ∧ am_str g)
abbrev am_name (M : am_M) : MethodName := M.1
abbrev am_code (M : am_M) : ByteArray := M.2.1
abbrev am_maxL (M : am_M) : Nat := M.2.2.1
abbrev am_ret (M : am_M) : Option FieldType := M.2.2.2.1
abbrev am_hand (M : am_M) : List (Nat × Nat × Nat × Nat) := M.2.2.2.2.1
abbrev am_fr (M : am_M) : Nat := M.2.2.2.2.2.1
abbrev am_lc (M : am_M) : Nat := M.2.2.2.2.2.2
/-- a method's own facts, at its entry -/
def am_Cx (g : am_G) (M : am_M) (p : Program) (l : Launch) (e : Env) (R : Room) (s : State) (m : MethodId) (meth : Method) (c : Code) : Prop :=
  p.tables.exec = Jvm.exec ∧ c.code = am_code M ∧ c.maxLocals = am_maxL M ∧ s.vm.findClass (am_name M).cls = some m.cls ∧ meth.sig.returnType = am_ret M ∧ meth.locks = false ∧ meth.name = (am_name M).name ∧
  c.exceptionTable.toList.map (fun x => (x.startPc, x.endPc, x.handlerPc, x.catchType)) = am_hand M ∧ am_fr M ≤ R.frames ∧ am_lc M ≤ R.locals ∧ (l.flags = flags0 ∧ ∀ a, a < g.1.heap.size → s.heap[a]? = g.1.heap[a]?) ∧ g.1.WarmedH s.vm ∧ am_K g
def am_L (g : am_G) (nL : Nat) (lv : List (Option Value)) (ls : Array Slot) : Prop :=
  ls.size = nL ∧ lv_wf ls ∧ ∀ (i : Nat) (v : Value), lv[i]? = some (some v) → v.category = 1 ∧ ls[i]? = some (.val (am_up g v))
def am_upO (g : am_G) : Outcome → Outcome
  | .returned v => .returned (v.map (am_up g))
  | .threw a => .threw (am_r g a)
/-- how a method ends -/
def am_End (g : am_G) (below : List Frame) (s : State) (σ0 σ' : am_S) (res : Outcome) : State → Prop := fun t =>
  t.status = .running ∧ Ended t below (am_upO g res) ∧ am_R g σ' t.heap ∧ s.WarmedH t.vm ∧ ∃ L : List Loc, s.sameButNew ({ t with vm := s.vm } : State) L (σ'.1 - σ0.1) (σ'.2.1 - σ0.2.1) ∧ ∀ q ∈ L, g.1.heap.size ≤ q.base
/-- the machine, at pc with these locals, this stack and this heap, comes to that end -/
def am_J (g : am_G) (M : am_M) (σ0 σ' : am_S) (res : Outcome) (pc : Nat) (lv : List (Option Value)) (st : List Value) (σ : am_S) : Prop :=
  ∀ (p : Program) (l : Launch) (e : Env) (R : Room) (s : State) (m : MethodId) (args : Array Value) (below : List Frame) (meth : Method) (c : Code) (H : Heap) (locs : List Loc) (ls : Array Slot),
    am_Cx g M p l e R s m meth c → σ'.1 - σ0.1 ≤ R.cells → σ'.2.1 - σ0.2.1 ≤ R.slots → σ0.1 ≤ σ.1 → σ0.2.1 ≤ σ.2.1 → am_R g σ H → am_L g (am_maxL M) lv ls → (∀ q ∈ locs, g.1.heap.size ≤ q.base) →
    W p l e R s m args below meth c H locs (σ.1 - σ0.1) (σ.2.1 - σ0.2.1) (am_End g below s σ0 σ' res) (F0 m pc ls (st.map (am_up g)))
/-- the machine does what the expression says, where it says something -/
def am_W (g : am_G) (M : am_M) (σ0 : am_S) (pc : Nat) (lv : List (Option Value)) (st : List Value) (σ : am_S) {β : Type} (E : Option β) (k : β → Option (Outcome × am_S)) : Prop :=
  ∀ (res : Outcome) (σ' : am_S), E.bind k = some (res, σ') → σ.1 ≤ σ'.1 ∧ σ.2.1 ≤ σ'.2.1 ∧ am_J g M σ0 σ' res pc lv st σ
/-! ===== small facts ===== -/
theorem am_word {g : am_G} {s : State} {args : Array Value} (hK : am_K g) (hW : g.1.WarmedH s.vm) {w : Cond} (hw : w ∈ lw_tbl) (hg : goodWord w = true) : w.before args s = true := by
  refine word_at hW ?_ (hK.1 w hw (Or.inl hg))
  exact good_of_word hg
theorem am_wordF {g : am_G} {s : State} {args : Array Value} (hK : am_K g) (hW : g.1.WarmedH s.vm) {a : String} {i : Nat} {b n d h : String} (hw : Cond.fieldLinkNest a i b n d h ∈ lw_tbl) : (Cond.fieldLinkNest a i b n d h).before args s = true :=
  va_Nw.use rfl (va_Nw.warmF hW (hK.1 _ hw (Or.inr (Or.inl rfl))))
theorem am_wordM {g : am_G} {s : State} {args : Array Value} (hK : am_K g) (hW : g.1.WarmedH s.vm) {a : String} {i : Nat} {x : MethodName} {h : String} (hw : Cond.methodLinkNest a i x h ∈ lw_tbl) : (Cond.methodLinkNest a i x h).before args s = true :=
  va_Nw.use rfl (va_Nw.warmM hW (hK.1 _ hw (Or.inr (Or.inl rfl))))
theorem am_wordC {g : am_G} {s : State} {args : Array Value} (hK : am_K g) (hW : g.1.WarmedH s.vm) {a b : String} (hw : Cond.castable a b ∈ lw_tbl) : (Cond.castable a b).before args s = true :=
  va_Nw.use rfl (va_Nw.warmC hW (hK.1 _ hw (Or.inr (Or.inl rfl))))
theorem am_wordD {g : am_G} {s : State} {args : Array Value} (hK : am_K g) (hW : g.1.WarmedH s.vm) {x : MethodName} (hw : Cond.declares x ∈ lw_tbl) : (Cond.declares x).before args s = true :=
  va_Nw.use rfl (va_Nw.warmD hW (hK.1 _ hw (Or.inr (Or.inl rfl))))
theorem am_wordO {g : am_G} {s : State} {args : Array Value} (hK : am_K g) (hW : g.1.WarmedH s.vm) {C : String} (hw : Cond.arrayOver (.object C) ∈ lw_tbl) : (Cond.arrayOver (.object C)).before args s = true :=
  va_AO.use (va_AO.moved hW.alike (hK.1 _ hw (Or.inr (Or.inr ⟨C, rfl⟩))))
theorem am_alike {g : am_G} {s : State} (hW : g.1.WarmedH s.vm) : g.1.vm.Alike s.vm := hW.alike
theorem am_L.get {g : am_G} {nL : Nat} {lv : List (Option Value)} {ls : Array Slot} (h : am_L g nL lv ls) {i : Nat} {v : Value} (hi : lv[i]? = some (some v)) : ls[i]? = some (.val (am_up g v)) := (h.2.2 i v hi).2
theorem am_cat (g : am_G) (v : Value) : (am_up g v).category = v.category := by cases v <;> rfl
def am_pairs (g : am_G) (lv : List (Option Value)) : List (Nat × Value) := (List.range lv.length).filterMap fun i => match lv[i]? with
  | some (some v) => some (i, am_up g v)
  | _ => none
theorem am_pairs_mem {g : am_G} {lv : List (Option Value)} {q : Nat × Value} (h : q ∈ am_pairs g lv) : ∃ v, lv[q.1]? = some (some v) ∧ q.2 = am_up g v := by
  obtain ⟨i, -, hi⟩ := List.mem_filterMap.mp h
  split at hi
  · rename_i v hv
    cases hi
    exact ⟨v, hv, rfl⟩
  · cases hi
theorem am_pairs_in {g : am_G} {lv : List (Option Value)} {i : Nat} {v : Value} (h : lv[i]? = some (some v)) : (i, am_up g v) ∈ am_pairs g lv := by
  refine List.mem_filterMap.mpr ⟨i, List.mem_range.mpr (List.getElem?_eq_some_iff.mp h).1, ?_⟩
  simp [h]
theorem am_L.has {g : am_G} {nL : Nat} {lv : List (Option Value)} {ls : Array Slot} (h : am_L g nL lv ls) : lv_has ls nL (am_pairs g lv) := by
  refine ⟨h.1, h.2.1, fun q hq => ?_⟩
  obtain ⟨v, h1, h2⟩ := am_pairs_mem hq
  rw [h2]
  exact (h.2.2 _ _ h1).2
theorem am_L.store {g : am_G} {nL : Nat} {lv : List (Option Value)} {ls ls' : Array Slot} (h : am_L g nL lv ls) {i : Nat} {v : Value} (hc : v.category = 1)
    (h' : lv_has ls' nL ((i, am_up g v) :: (am_pairs g lv).filter (fun q => !(q.1 == i) && !(q.1 + 1 == i && q.2.category == 2)))) : am_L g nL (lv.set i (some v)) ls' := by
  refine ⟨h'.1, h'.2.1, fun j w hj => ?_⟩
  by_cases hji : j = i
  · subst hji
    have hl : j < lv.length := by
      have := (List.getElem?_eq_some_iff.mp hj).1
      simpa using this
    rw [List.getElem?_set_self hl] at hj
    cases hj
    exact ⟨hc, h'.2.2 (j, am_up g v) List.mem_cons_self⟩
  · rw [List.getElem?_set_ne (Ne.symm hji)] at hj
    have h1 := (h.2.2 j w hj).1
    refine ⟨h1, h'.2.2 (j, am_up g w) (List.mem_cons_of_mem _ (List.mem_filter.mpr ⟨am_pairs_in hj, ?_⟩))⟩
    simp [hji, am_cat, h1]
end
section
section AW
variable {g : am_G} {M : am_M} {σ0 σ : am_S} {pc : Nat} {lv : List (Option Value)} {st : List Value} {β : Type} {E E1 E2 : Option β} {k : β → Option (Outcome × am_S)}
theorem am_W.pure {pc' : Nat} {st' : List Value} (h : ∀ {p : Program} {l : Launch} {e : Env} {R : Room} {s : State} {m : MethodId} {args : Array Value} {below : List Frame} {meth : Method} {c : Code} {H : Heap} {locs : List Loc} {cells slots : Nat} {Q : State → Prop} {ls : Array Slot},
      am_Cx g M p l e R s m meth c → am_L g (am_maxL M) lv ls → W p l e R s m args below meth c H locs cells slots Q (F0 m pc' ls (st'.map (am_up g))) → W p l e R s m args below meth c H locs cells slots Q (F0 m pc ls (st.map (am_up g))))
    (kk : am_W g M σ0 pc' lv st' σ E k) : am_W g M σ0 pc lv st σ E k := by
  intro res σ' hE
  obtain ⟨a, b, j⟩ := kk res σ' hE
  exact ⟨a, b, fun p l e R s m args below meth c H locs ls C hc hs h1 h2 hR hL hl => h C hL (j p l e R s m args below meth c H locs ls C hc hs h1 h2 hR hL hl)⟩
theorem am_W.stored {pc' i : Nat} {v : Value} (hv : v.category = 1) (h : ∀ {p : Program} {l : Launch} {e : Env} {R : Room} {s : State} {m : MethodId} {args : Array Value} {below : List Frame} {meth : Method} {c : Code} {H : Heap} {locs : List Loc} {cells slots : Nat} {Q : State → Prop} {ls : Array Slot},
      am_Cx g M p l e R s m meth c → am_L g (am_maxL M) lv ls → (∀ ls' : Array Slot, lv_has ls' (am_maxL M) ((i, am_up g v) :: (am_pairs g lv).filter (fun q => !(q.1 == i) && !(q.1 + 1 == i && q.2.category == 2))) → W p l e R s m args below meth c H locs cells slots Q (F0 m pc' ls' (st.map (am_up g)))) → W p l e R s m args below meth c H locs cells slots Q (F0 m pc ls ((v :: st).map (am_up g))))
    (kk : am_W g M σ0 pc' (lv.set i (some v)) st σ E k) : am_W g M σ0 pc lv (v :: st) σ E k := by
  intro res σ' hE
  obtain ⟨a, b, j⟩ := kk res σ' hE
  exact ⟨a, b, fun p l e R s m args below meth c H locs ls C hc hs h1 h2 hR hL hl => h C hL fun ls' h' => j p l e R s m args below meth c H locs ls' C hc hs h1 h2 hR (hL.store hv h') hl⟩
theorem am_W.none {k : β → Option (Outcome × am_S)} : am_W g M σ0 pc lv st σ (none : Option β) k := by
  intro res σ' hE
  cases hE
theorem am_W.done {x : β} (kk : am_W g M σ0 pc lv st σ (k x) some) : am_W g M σ0 pc lv st σ (some x) k := by
  intro res σ' hE
  exact kk res σ' ((show (k x).bind some = k x by cases k x <;> rfl).trans hE)
theorem am_W.cont {γ : Type} {f : γ → Option β} {X : Option γ} (kk : am_W g M σ0 pc lv st σ X (fun x => (f x).bind k)) : am_W g M σ0 pc lv st σ (X.bind f) k := by
  intro res σ' hE
  exact kk res σ' (by rw [← hE]; cases X <;> rfl)
theorem am_W.ite {c : Prop} {d : Decidable c} (h1 : c → am_W g M σ0 pc lv st σ E1 k) (h2 : ¬ c → am_W g M σ0 pc lv st σ E2 k) : am_W g M σ0 pc lv st σ (@ite _ c d E1 E2) k := by
  by_cases hc : c
  · rw [if_pos hc]; exact h1 hc
  · rw [if_neg hc]; exact h2 hc
theorem aw_iconst (n : Int) {v : Int32} (hd : decode (am_code M) pc = .ok (.iconst n, 1) := by decide +kernel) (hv : Int32.ofInt n = v := by rfl) (kk : am_W g M σ0 (pc + 1) lv (.int v :: st) σ E k) : am_W g M σ0 pc lv (st) σ E k :=
  kk.pure fun C hL w => lv_iconst C.1 C.2.1 hd hv w
theorem aw_bipush (n : Int) {v : Int32} (hd : decode (am_code M) pc = .ok (.bipush n, 2) := by decide +kernel) (hv : (Int8.ofInt n).toInt32 = v := by rfl) (kk : am_W g M σ0 (pc + 2) lv (.int v :: st) σ E k) : am_W g M σ0 pc lv (st) σ E k :=
  kk.pure fun C hL w => lv_bipush C.1 C.2.1 hd hv w
theorem aw_sipush (n : Int) {v : Int32} (hd : decode (am_code M) pc = .ok (.sipush n, 3) := by decide +kernel) (hv : (Int16.ofInt n).toInt32 = v := by rfl) (kk : am_W g M σ0 (pc + 3) lv (.int v :: st) σ E k) : am_W g M σ0 pc lv (st) σ E k :=
  kk.pure fun C hL w => lv_sipush C.1 C.2.1 hd hv w
theorem aw_iload_n (i : Fin 4) {x : Int32} (hd : decode (am_code M) pc = .ok (.iload_n i, 1) := by decide +kernel) (hl : lv[(i : Nat)]? = some (some (.int x)) := by rfl) (kk : am_W g M σ0 (pc + 1) lv (.int x :: st) σ E k) : am_W g M σ0 pc lv (st) σ E k :=
  kk.pure fun C hL w => lv_iload_n C.1 C.2.1 hd rfl (hL.get hl) w
theorem aw_iload (i : Nat) {x : Int32} (hd : decode (am_code M) pc = .ok (.iload i, 2) := by decide +kernel) (hl : lv[i]? = some (some (.int x)) := by rfl) (kk : am_W g M σ0 (pc + 2) lv (.int x :: st) σ E k) : am_W g M σ0 pc lv (st) σ E k :=
  kk.pure fun C hL w => lv_iload C.1 C.2.1 hd (hL.get hl) w
theorem aw_aload_n (i : Fin 4) {x : Nat} (hd : decode (am_code M) pc = .ok (.aload_n i, 1) := by decide +kernel) (hl : lv[(i : Nat)]? = some (some (.ref x)) := by rfl) (kk : am_W g M σ0 (pc + 1) lv (.ref x :: st) σ E k) : am_W g M σ0 pc lv (st) σ E k :=
  kk.pure fun C hL w => lv_aload_n C.1 C.2.1 hd rfl (hL.get hl) w
theorem aw_aload (i : Nat) {x : Nat} (hd : decode (am_code M) pc = .ok (.aload i, 2) := by decide +kernel) (hl : lv[i]? = some (some (.ref x)) := by rfl) (kk : am_W g M σ0 (pc + 2) lv (.ref x :: st) σ E k) : am_W g M σ0 pc lv (st) σ E k :=
  kk.pure fun C hL w => lv_aload C.1 C.2.1 hd (hL.get hl) w
theorem aw_iadd {x y : Int32} (hd : decode (am_code M) pc = .ok (.iadd, 1) := by decide +kernel) (kk : am_W g M σ0 (pc + 1) lv (.int (x + y) :: st) σ E k) : am_W g M σ0 pc lv (.int y :: .int x :: st) σ E k :=
  kk.pure fun C hL w => lv_iadd C.1 C.2.1 hd w
theorem aw_isub {x y : Int32} (hd : decode (am_code M) pc = .ok (.isub, 1) := by decide +kernel) (kk : am_W g M σ0 (pc + 1) lv (.int (x - y) :: st) σ E k) : am_W g M σ0 pc lv (.int y :: .int x :: st) σ E k :=
  kk.pure fun C hL w => lv_isub C.1 C.2.1 hd w
theorem aw_imul {x y : Int32} (hd : decode (am_code M) pc = .ok (.imul, 1) := by decide +kernel) (kk : am_W g M σ0 (pc + 1) lv (.int (x * y) :: st) σ E k) : am_W g M σ0 pc lv (.int y :: .int x :: st) σ E k :=
  kk.pure fun C hL w => lv_imul C.1 C.2.1 hd w
theorem aw_iand {x y : Int32} (hd : decode (am_code M) pc = .ok (.iand, 1) := by decide +kernel) (kk : am_W g M σ0 (pc + 1) lv (.int (x &&& y) :: st) σ E k) : am_W g M σ0 pc lv (.int y :: .int x :: st) σ E k :=
  kk.pure fun C hL w => lv_iand C.1 C.2.1 hd w
theorem aw_ior {x y : Int32} (hd : decode (am_code M) pc = .ok (.ior, 1) := by decide +kernel) (kk : am_W g M σ0 (pc + 1) lv (.int (x ||| y) :: st) σ E k) : am_W g M σ0 pc lv (.int y :: .int x :: st) σ E k :=
  kk.pure fun C hL w => lv_ior C.1 C.2.1 hd w
theorem aw_ixor {x y : Int32} (hd : decode (am_code M) pc = .ok (.ixor, 1) := by decide +kernel) (kk : am_W g M σ0 (pc + 1) lv (.int (x ^^^ y) :: st) σ E k) : am_W g M σ0 pc lv (.int y :: .int x :: st) σ E k :=
  kk.pure fun C hL w => lv_ixor C.1 C.2.1 hd w
theorem aw_ishr {x y : Int32} (hd : decode (am_code M) pc = .ok (.ishr, 1) := by decide +kernel) (kk : am_W g M σ0 (pc + 1) lv (.int (x >>> (y &&& 31)) :: st) σ E k) : am_W g M σ0 pc lv (.int y :: .int x :: st) σ E k :=
  kk.pure fun C hL w => lv_ishr C.1 C.2.1 hd w
def am_ushr (x y : Int32) : Int32 := (x.toUInt32 >>> (y.toUInt32 &&& Int32.toUInt32 31)).toInt32
def am_rem (x y : Int32) : Int32 := x - x / y * y
def am_i2b (x : Int32) : Int32 := x.toInt8.toInt32
def am_i2s (x : Int32) : Int32 := x.toInt16.toInt32
theorem aw_iushr {x y : Int32} (hd : decode (am_code M) pc = .ok (.iushr, 1) := by decide +kernel) (kk : am_W g M σ0 (pc + 1) lv (.int (am_ushr x y) :: st) σ E k) : am_W g M σ0 pc lv (.int y :: .int x :: st) σ E k :=
  kk.pure fun C hL w => lv_iushr C.1 C.2.1 hd rfl w
theorem aw_i2b {x : Int32} (hd : decode (am_code M) pc = .ok (.i2b, 1) := by decide +kernel) (kk : am_W g M σ0 (pc + 1) lv (.int (am_i2b x) :: st) σ E k) : am_W g M σ0 pc lv (.int x :: st) σ E k :=
  kk.pure fun C hL w => lv_i2b C.1 C.2.1 hd rfl w
theorem aw_i2s {x : Int32} (hd : decode (am_code M) pc = .ok (.i2s, 1) := by decide +kernel) (kk : am_W g M σ0 (pc + 1) lv (.int (am_i2s x) :: st) σ E k) : am_W g M σ0 pc lv (.int x :: st) σ E k :=
  kk.pure fun C hL w => lv_i2s C.1 C.2.1 hd rfl w
theorem aw_i2l {x : Int32} (hd : decode (am_code M) pc = .ok (.i2l, 1) := by decide +kernel) (kk : am_W g M σ0 (pc + 1) lv (.long x.toInt64 :: st) σ E k) : am_W g M σ0 pc lv (.int x :: st) σ E k :=
  kk.pure fun C hL w => lv_i2l C.1 C.2.1 hd rfl w
theorem aw_lcmp {x y : Int64} (hd : decode (am_code M) pc = .ok (.lcmp, 1) := by decide +kernel) (kk : am_W g M σ0 (pc + 1) lv (.int (lg_cmp x y) :: st) σ E k) : am_W g M σ0 pc lv (.long y :: .long x :: st) σ E k :=
  kk.pure fun C hL w => W.lcmp C.1 C.2.1 hd w
theorem aw_dup {v : Value} (hd : decode (am_code M) pc = .ok (.dup, 1) := by decide +kernel) (hv : v.category = 1 := by rfl) (kk : am_W g M σ0 (pc + 1) lv (v :: v :: st) σ E k) : am_W g M σ0 pc lv (v :: st) σ E k :=
  kk.pure fun C hL w => lv_dup C.1 C.2.1 hd ((am_cat g v).trans hv) w
theorem aw_pop {v : Value} (hd : decode (am_code M) pc = .ok (.pop, 1) := by decide +kernel) (hv : v.category = 1 := by rfl) (kk : am_W g M σ0 (pc + 1) lv (st) σ E k) : am_W g M σ0 pc lv (v :: st) σ E k :=
  kk.pure fun C hL w => lv_pop C.1 C.2.1 hd ((am_cat g v).trans hv) w
theorem aw_dup2 {u v : Value} (hd : decode (am_code M) pc = .ok (.dup2, 1) := by decide +kernel) (hu : u.category = 1 := by rfl) (hv : v.category = 1 := by rfl) (kk : am_W g M σ0 (pc + 1) lv (u :: v :: u :: v :: st) σ E k) : am_W g M σ0 pc lv (u :: v :: st) σ E k :=
  kk.pure fun C hL w => lv_dup2_11 C.1 C.2.1 hd ((am_cat g u).trans hu) ((am_cat g v).trans hv) w
theorem aw_ldc (i : Nat) {v : Int32} (hd : decode (am_code M) pc = .ok (.ldc i, 2) := by decide +kernel) (hw : Cond.constant (am_name M).cls i v ∈ lw_tbl) (kk : am_W g M σ0 (pc + 2) lv (.int v :: st) σ E k) : am_W g M σ0 pc lv st σ E k :=
  kk.pure fun C hL w => lv_ldc C.1 C.2.1 C.2.2.2.1 (am_word C.2.2.2.2.2.2.2.2.2.2.2.2 C.2.2.2.2.2.2.2.2.2.2.2.1 hw rfl) hd w
theorem aw_idiv {x y : Int32} (hd : decode (am_code M) pc = .ok (.idiv, 1) := by decide +kernel) (hy : ¬ y = 0) (kk : am_W g M σ0 (pc + 1) lv (.int (x / y) :: st) σ E k) : am_W g M σ0 pc lv (.int y :: .int x :: st) σ E k :=
  kk.pure fun C hL w => lv_idiv C.1 C.2.1 hd hy w
theorem aw_idivZ {x y : Int32} (hd : decode (am_code M) pc = .ok (.idiv, 1) := by decide +kernel) (kk : ¬ y = 0 → am_W g M σ0 (pc + 1) lv (.int (x / y) :: st) σ E k) : am_W g M σ0 pc lv (.int y :: .int x :: st) σ (if y = 0 then none else E) k :=
  am_W.ite (fun _ => am_W.none) fun hy => aw_idiv (hd := hd) hy (kk hy)
theorem aw_irem {x y : Int32} (hd : decode (am_code M) pc = .ok (.irem, 1) := by decide +kernel) (hy : ¬ y = 0) (kk : am_W g M σ0 (pc + 1) lv (.int (am_rem x y) :: st) σ E k) : am_W g M σ0 pc lv (.int y :: .int x :: st) σ E k :=
  kk.pure fun C hL w => lv_irem C.1 C.2.1 hd hy w
theorem aw_iremZ {x y : Int32} (hd : decode (am_code M) pc = .ok (.irem, 1) := by decide +kernel) (kk : ¬ y = 0 → am_W g M σ0 (pc + 1) lv (.int (am_rem x y) :: st) σ E k) : am_W g M σ0 pc lv (.int y :: .int x :: st) σ (if y = 0 then none else E) k :=
  am_W.ite (fun _ => am_W.none) fun hy => aw_irem (hd := hd) hy (kk hy)
theorem aw_istore (i : Nat) {x : Int32} (hd : decode (am_code M) pc = .ok (.istore i, 2) := by decide +kernel) (hn : (i : Nat) < am_maxL M := by decide) (kk : am_W g M σ0 (pc + 2) (lv.set (i : Nat) (some (.int x))) st σ E k) : am_W g M σ0 pc lv (.int x :: st) σ E k :=
  am_W.stored rfl (fun C hL w => lv_istore C.1 C.2.1 hd hL.has hn rfl w) kk
theorem aw_istore_n (i : Fin 4) {x : Int32} (hd : decode (am_code M) pc = .ok (.istore_n i, 1) := by decide +kernel) (hn : (i : Nat) < am_maxL M := by decide) (kk : am_W g M σ0 (pc + 1) (lv.set (i : Nat) (some (.int x))) st σ E k) : am_W g M σ0 pc lv (.int x :: st) σ E k :=
  am_W.stored rfl (fun C hL w => lv_istore_n C.1 C.2.1 hd rfl hL.has hn rfl w) kk
theorem aw_astore (i : Nat) {x : Nat} (hd : decode (am_code M) pc = .ok (.astore i, 2) := by decide +kernel) (hn : (i : Nat) < am_maxL M := by decide) (kk : am_W g M σ0 (pc + 2) (lv.set (i : Nat) (some (.ref x))) st σ E k) : am_W g M σ0 pc lv (.ref x :: st) σ E k :=
  am_W.stored rfl (fun C hL w => lv_astore C.1 C.2.1 hd hL.has hn rfl w) kk
theorem aw_astore_n (i : Fin 4) {x : Nat} (hd : decode (am_code M) pc = .ok (.astore_n i, 1) := by decide +kernel) (hn : (i : Nat) < am_maxL M := by decide) (kk : am_W g M σ0 (pc + 1) (lv.set (i : Nat) (some (.ref x))) st σ E k) : am_W g M σ0 pc lv (.ref x :: st) σ E k :=
  am_W.stored rfl (fun C hL w => lv_astore_n C.1 C.2.1 hd rfl hL.has hn rfl w) kk
theorem aw_iinc (i : Nat) (n : Int) {x v : Int32} (hd : decode (am_code M) pc = .ok (.iinc i n, 3) := by decide +kernel) (hl : lv[i]? = some (some (.int x)) := by rfl) (hv : Int32.ofInt n = v := by rfl) (hn : i < am_maxL M := by decide) (kk : am_W g M σ0 (pc + 3) (lv.set i (some (.int (x + v)))) st σ E k) : am_W g M σ0 pc lv st σ E k := by
  subst hv
  intro res σ' hE
  obtain ⟨a, b, j⟩ := kk res σ' hE
  refine ⟨a, b, fun p l e R s m args below meth c H locs ls C hc hs h1 h2 hR hL hl' => ?_⟩
  obtain ⟨q, hq⟩ := List.getElem?_of_mem (am_pairs_in (g := g) hl)
  exact lv_iinc C.1 C.2.1 hd hL.has hq rfl hn rfl fun ls' h' => j p l e R s m args below meth c H locs ls' C hc hs h1 h2 hR (hL.store (v := .int (x + Int32.ofInt n)) rfl h') hl'
theorem aw_if_eq (off : Int) (tgt : Nat) {x : Int32} (hd : decode (am_code M) pc = .ok (.ifCond .eq off, 3) := by decide +kernel) (ht : (pc : Int) + off = (tgt : Int) := by decide) (kt : x = 0 → am_W g M σ0 tgt lv st σ E1 k) (kf : ¬ x = 0 → am_W g M σ0 (pc + 3) lv st σ E2 k) : am_W g M σ0 pc lv (.int x :: st) σ (if x = 0 then E1 else E2) k := by
  by_cases hc : x = 0
  · rw [if_pos hc]
    exact (kt hc).pure fun C hL w => lv_if_eq C.1 C.2.1 hd ht (fun _ => w) fun h => absurd hc h
  · rw [if_neg hc]
    exact (kf hc).pure fun C hL w => lv_if_eq C.1 C.2.1 hd ht (fun h => absurd h hc) fun _ => w
theorem aw_icmp_eq (off : Int) (tgt : Nat) {x y : Int32} (hd : decode (am_code M) pc = .ok (.if_icmp .eq off, 3) := by decide +kernel) (ht : (pc : Int) + off = (tgt : Int) := by decide) (kt : x = y → am_W g M σ0 tgt lv st σ E1 k) (kf : ¬ x = y → am_W g M σ0 (pc + 3) lv st σ E2 k) : am_W g M σ0 pc lv (.int y :: .int x :: st) σ (if x = y then E1 else E2) k := by
  by_cases hc : x = y
  · rw [if_pos hc]
    exact (kt hc).pure fun C hL w => lv_icmp_eq C.1 C.2.1 hd ht (fun _ => w) fun h => absurd hc h
  · rw [if_neg hc]
    exact (kf hc).pure fun C hL w => lv_icmp_eq C.1 C.2.1 hd ht (fun h => absurd h hc) fun _ => w
theorem aw_if_ne (off : Int) (tgt : Nat) {x : Int32} (hd : decode (am_code M) pc = .ok (.ifCond .ne off, 3) := by decide +kernel) (ht : (pc : Int) + off = (tgt : Int) := by decide) (kt : ¬ x = 0 → am_W g M σ0 tgt lv st σ E2 k) (kf : x = 0 → am_W g M σ0 (pc + 3) lv st σ E1 k) : am_W g M σ0 pc lv (.int x :: st) σ (if x = 0 then E1 else E2) k := by
  by_cases hc : x = 0
  · rw [if_pos hc]
    exact (kf hc).pure fun C hL w => lv_if_ne C.1 C.2.1 hd ht (fun h => absurd hc h) fun _ => w
  · rw [if_neg hc]
    exact (kt hc).pure fun C hL w => lv_if_ne C.1 C.2.1 hd ht (fun _ => w) fun h => absurd h hc
theorem aw_icmp_ne (off : Int) (tgt : Nat) {x y : Int32} (hd : decode (am_code M) pc = .ok (.if_icmp .ne off, 3) := by decide +kernel) (ht : (pc : Int) + off = (tgt : Int) := by decide) (kt : ¬ x = y → am_W g M σ0 tgt lv st σ E2 k) (kf : x = y → am_W g M σ0 (pc + 3) lv st σ E1 k) : am_W g M σ0 pc lv (.int y :: .int x :: st) σ (if x = y then E1 else E2) k := by
  by_cases hc : x = y
  · rw [if_pos hc]
    exact (kf hc).pure fun C hL w => lv_icmp_ne C.1 C.2.1 hd ht (fun h => absurd hc h) fun _ => w
  · rw [if_neg hc]
    exact (kt hc).pure fun C hL w => lv_icmp_ne C.1 C.2.1 hd ht (fun _ => w) fun h => absurd h hc
theorem aw_if_lt (off : Int) (tgt : Nat) {x : Int32} (hd : decode (am_code M) pc = .ok (.ifCond .lt off, 3) := by decide +kernel) (ht : (pc : Int) + off = (tgt : Int) := by decide) (kt : x < 0 → am_W g M σ0 tgt lv st σ E1 k) (kf : ¬ x < 0 → am_W g M σ0 (pc + 3) lv st σ E2 k) : am_W g M σ0 pc lv (.int x :: st) σ (if x < 0 then E1 else E2) k := by
  by_cases hc : x < 0
  · rw [if_pos hc]
    exact (kt hc).pure fun C hL w => lv_if_lt C.1 C.2.1 hd ht (fun _ => w) fun h => absurd hc h
  · rw [if_neg hc]
    exact (kf hc).pure fun C hL w => lv_if_lt C.1 C.2.1 hd ht (fun h => absurd h hc) fun _ => w
theorem aw_icmp_lt (off : Int) (tgt : Nat) {x y : Int32} (hd : decode (am_code M) pc = .ok (.if_icmp .lt off, 3) := by decide +kernel) (ht : (pc : Int) + off = (tgt : Int) := by decide) (kt : x < y → am_W g M σ0 tgt lv st σ E1 k) (kf : ¬ x < y → am_W g M σ0 (pc + 3) lv st σ E2 k) : am_W g M σ0 pc lv (.int y :: .int x :: st) σ (if x < y then E1 else E2) k := by
  by_cases hc : x < y
  · rw [if_pos hc]
    exact (kt hc).pure fun C hL w => lv_icmp_lt C.1 C.2.1 hd ht (fun _ => w) fun h => absurd hc h
  · rw [if_neg hc]
    exact (kf hc).pure fun C hL w => lv_icmp_lt C.1 C.2.1 hd ht (fun h => absurd h hc) fun _ => w
theorem aw_if_ge (off : Int) (tgt : Nat) {x : Int32} (hd : decode (am_code M) pc = .ok (.ifCond .ge off, 3) := by decide +kernel) (ht : (pc : Int) + off = (tgt : Int) := by decide) (kt : 0 ≤ x → am_W g M σ0 tgt lv st σ E1 k) (kf : ¬ 0 ≤ x → am_W g M σ0 (pc + 3) lv st σ E2 k) : am_W g M σ0 pc lv (.int x :: st) σ (if 0 ≤ x then E1 else E2) k := by
  by_cases hc : 0 ≤ x
  · rw [if_pos hc]
    exact (kt hc).pure fun C hL w => lv_if_ge C.1 C.2.1 hd ht (fun _ => w) fun h => absurd hc h
  · rw [if_neg hc]
    exact (kf hc).pure fun C hL w => lv_if_ge C.1 C.2.1 hd ht (fun h => absurd h hc) fun _ => w
theorem aw_icmp_ge (off : Int) (tgt : Nat) {x y : Int32} (hd : decode (am_code M) pc = .ok (.if_icmp .ge off, 3) := by decide +kernel) (ht : (pc : Int) + off = (tgt : Int) := by decide) (kt : y ≤ x → am_W g M σ0 tgt lv st σ E1 k) (kf : ¬ y ≤ x → am_W g M σ0 (pc + 3) lv st σ E2 k) : am_W g M σ0 pc lv (.int y :: .int x :: st) σ (if y ≤ x then E1 else E2) k := by
  by_cases hc : y ≤ x
  · rw [if_pos hc]
    exact (kt hc).pure fun C hL w => lv_icmp_ge C.1 C.2.1 hd ht (fun _ => w) fun h => absurd hc h
  · rw [if_neg hc]
    exact (kf hc).pure fun C hL w => lv_icmp_ge C.1 C.2.1 hd ht (fun h => absurd h hc) fun _ => w
theorem aw_if_gt (off : Int) (tgt : Nat) {x : Int32} (hd : decode (am_code M) pc = .ok (.ifCond .gt off, 3) := by decide +kernel) (ht : (pc : Int) + off = (tgt : Int) := by decide) (kt : 0 < x → am_W g M σ0 tgt lv st σ E1 k) (kf : ¬ 0 < x → am_W g M σ0 (pc + 3) lv st σ E2 k) : am_W g M σ0 pc lv (.int x :: st) σ (if 0 < x then E1 else E2) k := by
  by_cases hc : 0 < x
  · rw [if_pos hc]
    exact (kt hc).pure fun C hL w => lv_if_gt C.1 C.2.1 hd ht (fun _ => w) fun h => absurd hc h
  · rw [if_neg hc]
    exact (kf hc).pure fun C hL w => lv_if_gt C.1 C.2.1 hd ht (fun h => absurd h hc) fun _ => w
theorem aw_icmp_gt (off : Int) (tgt : Nat) {x y : Int32} (hd : decode (am_code M) pc = .ok (.if_icmp .gt off, 3) := by decide +kernel) (ht : (pc : Int) + off = (tgt : Int) := by decide) (kt : y < x → am_W g M σ0 tgt lv st σ E1 k) (kf : ¬ y < x → am_W g M σ0 (pc + 3) lv st σ E2 k) : am_W g M σ0 pc lv (.int y :: .int x :: st) σ (if y < x then E1 else E2) k := by
  by_cases hc : y < x
  · rw [if_pos hc]
    exact (kt hc).pure fun C hL w => lv_icmp_gt C.1 C.2.1 hd ht (fun _ => w) fun h => absurd hc h
  · rw [if_neg hc]
    exact (kf hc).pure fun C hL w => lv_icmp_gt C.1 C.2.1 hd ht (fun h => absurd h hc) fun _ => w
theorem aw_if_le (off : Int) (tgt : Nat) {x : Int32} (hd : decode (am_code M) pc = .ok (.ifCond .le off, 3) := by decide +kernel) (ht : (pc : Int) + off = (tgt : Int) := by decide) (kt : x ≤ 0 → am_W g M σ0 tgt lv st σ E1 k) (kf : ¬ x ≤ 0 → am_W g M σ0 (pc + 3) lv st σ E2 k) : am_W g M σ0 pc lv (.int x :: st) σ (if x ≤ 0 then E1 else E2) k := by
  by_cases hc : x ≤ 0
  · rw [if_pos hc]
    exact (kt hc).pure fun C hL w => lv_if_le C.1 C.2.1 hd ht (fun _ => w) fun h => absurd hc h
  · rw [if_neg hc]
    exact (kf hc).pure fun C hL w => lv_if_le C.1 C.2.1 hd ht (fun h => absurd h hc) fun _ => w
theorem aw_icmp_le (off : Int) (tgt : Nat) {x y : Int32} (hd : decode (am_code M) pc = .ok (.if_icmp .le off, 3) := by decide +kernel) (ht : (pc : Int) + off = (tgt : Int) := by decide) (kt : x ≤ y → am_W g M σ0 tgt lv st σ E1 k) (kf : ¬ x ≤ y → am_W g M σ0 (pc + 3) lv st σ E2 k) : am_W g M σ0 pc lv (.int y :: .int x :: st) σ (if x ≤ y then E1 else E2) k := by
  by_cases hc : x ≤ y
  · rw [if_pos hc]
    exact (kt hc).pure fun C hL w => lv_icmp_le C.1 C.2.1 hd ht (fun _ => w) fun h => absurd hc h
  · rw [if_neg hc]
    exact (kf hc).pure fun C hL w => lv_icmp_le C.1 C.2.1 hd ht (fun h => absurd h hc) fun _ => w
theorem aw_goto (off : Int) (tgt : Nat) (hd : decode (am_code M) pc = .ok (.goto off, 3) := by decide +kernel) (ht : (pc : Int) + off = (tgt : Int) := by decide) (kk : am_W g M σ0 tgt lv st σ E k) : am_W g M σ0 pc lv st σ E k :=
  kk.pure fun C hL w => lv_goto C.1 C.2.1 hd ht w
theorem aw_tsOut (dflt lo hi : Int) (offs : Array Int) (len tgt : Nat) {x : Int32} (hd : decode (am_code M) pc = .ok (.tableswitch dflt lo hi offs, len) := by decide +kernel) (ht : (pc : Int) + dflt = (tgt : Int) := by decide) (h : x.toInt < lo ∨ hi < x.toInt) (kk : am_W g M σ0 tgt lv st σ E k) : am_W g M σ0 pc lv (.int x :: st) σ E k :=
  kk.pure fun C hL w => lv_tableOut C.1 C.2.1 hd h ht w
theorem aw_tsIn (dflt lo hi : Int) (offs : Array Int) (len tgt : Nat) (off : Int) {x : Int32} (hd : decode (am_code M) pc = .ok (.tableswitch dflt lo hi offs, len) := by decide +kernel) (ht : (pc : Int) + off = (tgt : Int) := by decide) (h1 : ¬ x.toInt < lo) (h2 : ¬ hi < x.toInt) (ho : offs[(x.toInt - lo).toNat]? = some off) (kk : am_W g M σ0 tgt lv st σ E k) : am_W g M σ0 pc lv (.int x :: st) σ E k :=
  kk.pure fun C hL w => lv_tableIn C.1 C.2.1 hd h1 h2 ho ht w
end AW
end
section
/-! ===== the heap: facts on am_R, then a row an instruction ===== -/
theorem am_ok_moved {u U : State} (hvm : u.vm.Alike U.vm) {cA : ClassId} {ty : FieldType} (h : am_ok u cA ty) : am_ok U cA ty := by
  cases ty with
  | object C =>
    obtain ⟨kA, comp, h1, h2, h3⟩ := h
    obtain ⟨k', hk', he⟩ := hvm.2.2 _ _ h1
    exact ⟨k', comp, hk', by rw [he]; exact h2, by rw [hvm.findClass]; exact h3⟩
  | _ => trivial
theorem am_r_ge {g : am_G} {k : Nat} (h : 8 ≤ k) : am_r g k = g.1.heap.size + (k - 8) := by
  unfold am_r; rw [if_neg (by omega)]
theorem am_r_ne {g : am_G} (hK : am_K g) {j a : Nat} (ha : 8 ≤ a) (h : j ≠ a) : am_r g j ≠ am_r g a := by
  rw [am_r_ge ha]
  unfold am_r
  split
  · rename_i hj
    have := hK.2.2.1 j hj
    omega
  · omega
theorem am_at.kept {g : am_G} {a : Nat} {x : am_C} {H H1 : Heap} (h : am_at g a x H) (hq : H1[a]? = H[a]?) : am_at g a x H1 := by
  cases x with
  | inl y =>
    obtain ⟨cell, h1, h2⟩ := h
    exact ⟨cell, hq.trans h1, h2⟩
  | inr y => exact t_OB.kept h hq
theorem am_at.lt {g : am_G} {a : Nat} {x : am_C} {H : Heap} (h : am_at g a x H) : a < H.size := by
  cases x with
  | inl y =>
    obtain ⟨cell, h1, h2⟩ := h
    exact (Array.getElem?_eq_some_iff.mp h1).1
  | inr y =>
    obtain ⟨cell, h1, h2⟩ := h
    exact (Array.getElem?_eq_some_iff.mp h1).1
def am_upd (h : Nat → Option am_C) (a : Nat) (x : am_C) : Nat → Option am_C := fun j => if j = a then some x else h j
def am_put (σ : am_S) (a : Nat) (x : am_C) : am_S := (σ.1, σ.2.1, am_upd σ.2.2 a x)
def am_new (σ : am_S) (n : Nat) (x : am_C) : am_S := (σ.1 + 1, σ.2.1 + n, am_upd σ.2.2 σ.1 x)
theorem am_R.put {g : am_G} (hK : am_K g) {σ : am_S} {H H1 : Heap} (h : am_R g σ H) {a : Nat} {x : am_C} (ha : 8 ≤ a) (hx : am_at g (am_r g a) x H1) (hz : H1.size = H.size) (ho : ∀ q, q ≠ am_r g a → H1[q]? = H[q]?) : am_R g (am_put σ a x) H1 := by
  refine ⟨fun j y hj => ?_, by rw [hz]; exact h.2.1, h.2.2.1, fun q hq => ?_⟩
  · by_cases hja : j = a
    · subst hja
      simp [am_put, am_upd] at hj
      subst hj
      exact hx
    · simp [am_put, am_upd, hja] at hj
      exact (h.1 j y hj).kept (ho _ (am_r_ne hK ha hja))
  · rw [ho q (by rw [am_r_ge ha]; omega)]
    exact h.2.2.2 q hq
theorem am_R.top {g : am_G} {σ : am_S} {H : Heap} (h : am_R g σ H) : am_r g σ.1 = H.size := by
  rw [am_r_ge h.2.2.1, h.2.1]
theorem am_R.new {g : am_G} {σ : am_S} {H H1 : Heap} (h : am_R g σ H) {n : Nat} {x : am_C} (hx : am_at g H.size x H1) (hz : H1.size = H.size + 1) (ho : ∀ q, q < H.size → H1[q]? = H[q]?) : am_R g (am_new σ n x) H1 := by
  have ht := h.top
  have h8 := h.2.2.1
  refine ⟨fun j y hj => ?_, ?_, ?_, fun q hq => ?_⟩
  · by_cases hja : j = σ.1
    · subst hja
      simp [am_new, am_upd] at hj
      subst hj
      rw [ht]
      exact hx
    · simp [am_new, am_upd, hja] at hj
      exact (h.1 j y hj).kept (ho _ (h.1 j y hj).lt)
  · show H1.size = _ + (σ.1 + 1 - 8)
    rw [hz, h.2.1]
    omega
  · show 8 ≤ σ.1 + 1
    omega
  · rw [ho q (by rw [h.2.1]; omega)]
    exact h.2.2.2 q hq
/-! the fields' words -/
def am_lay (c k : Nat) : Cond := if (am_fd c k).2.2.1 = true then .laysFinal (am_cn c) (am_cn c) (am_fd c k).1 (am_fd c k).2.1 else .lays (am_cn c) (am_cn c) (am_fd c k).1 (am_fd c k).2.1
theorem am_N_eq : ∀ c, c < am_NC → am_N c = (am_fl c).length := by decide +kernel
theorem am_ty_ok : ∀ c, c < am_NC → ∀ k, k < am_N c → parseFieldDescriptor (am_fd c k).2.1 = some (am_fd c k).2.2.2 := by decide +kernel
theorem am_nm_ok : ∀ c, c < am_NC → ∀ a, a < am_N c → ∀ b, b < am_N c → a ≠ b → (am_fd c a).1 ≠ (am_fd c b).1 := by decide +kernel
theorem am_lay_ok : ∀ c, c < am_NC → ∀ k, k < am_N c → am_lay c k ∈ lw_tbl := by decide +kernel
theorem am_lay_good (c k : Nat) : goodWord (am_lay c k) = true := by
  unfold am_lay
  split <;> rfl
end
section
section AH
variable {g : am_G} {s : State}
theorem am_lays (hK : am_K g) (hW : g.1.WarmedH s.vm) {c k : Nat} (hc : c < am_NC) (hk : k < am_N c) (args : Array Value) :
    (Cond.lays (am_cn c) (am_cn c) (am_fd c k).1 (am_fd c k).2.1).before args s = true ∨ (Cond.laysFinal (am_cn c) (am_cn c) (am_fd c k).1 (am_fd c k).2.1).before args s = true := by
  have h := am_word (args := args) hK hW (am_lay_ok c hc k hk) (am_lay_good c k)
  unfold am_lay at h
  split at h
  · exact Or.inr h
  · exact Or.inl h
theorem am_class (hK : am_K g) (hW : g.1.WarmedH s.vm) {c : Nat} (hc : c < am_NC) : ClassAt s (am_cn c) (g.2.2.1 c) := classAt_moved hW.alike (hK.2.1 c hc).1
theorem am_slot (hK : am_K g) (hW : g.1.WarmedH s.vm) {c k : Nat} (hc : c < am_NC) (hk : k < am_N c) : SlotIs s (am_cn c) (am_fd c k).1 (am_fd c k).2.1 (g.2.2.2 c k) := slotIs_moved hW.alike ((hK.2.1 c hc).2 k hk)
theorem am_apart (hK : am_K g) (hW : g.1.WarmedH s.vm) {c : Nat} (hc : c < am_NC) : ∀ x y, x < am_N c → y < am_N c → x ≠ y → g.2.2.2 c x ≠ g.2.2.2 c y := by
  intro x y hx hy hne
  obtain ⟨_, _, _, fa, hia, ea⟩ := am_slot hK hW hc hx
  obtain ⟨_, _, _, fb, hib, eb⟩ := am_slot hK hW hc hy
  rw [← ea, ← eb]
  refine u_apart (am_lays hK hW hc hx #[]) (am_lays hK hW hc hy #[]) hia hib ?_
  rw [(State.fieldFound?_type hia (am_ty_ok c hc x hx)).1, (State.fieldFound?_type hib (am_ty_ok c hc y hy)).1]
  exact am_nm_ok c hc x hx y hy hne
end AH
def am_gf (σ : am_S) (c k a : Nat) : Option Value := match σ.2.2 a with
  | some (.inr y) => if y.1 = c then y.2[k]? else none
  | _ => none
def am_gI (σ : am_S) (c k a : Nat) : Option Int32 := match am_gf σ c k a with
  | some (.int v) => some v
  | _ => none
def am_gA (σ : am_S) (c k a : Nat) : Option Nat := match am_gf σ c k a with
  | some (.ref v) => some v
  | _ => none
def am_pf (σ : am_S) (c k a : Nat) (v : Value) : Option am_S := match σ.2.2 a with
  | some (.inr y) => if y.1 = c ∧ 8 ≤ a ∧ k < y.2.length then some (am_put σ a (.inr (c, y.2.set k v))) else none
  | _ => none
def am_pI (σ : am_S) (c k a : Nat) (v : Int32) : Option am_S := am_pf σ c k a (.int v)
def am_pZ (σ : am_S) (c k a : Nat) (v : Int32) : Option am_S := if v = 0 ∨ v = 1 then am_pf σ c k a (.int v) else none
def am_pA (σ : am_S) (c k a : Nat) (v : Nat) : Option am_S := am_pf σ c k a (.ref v)
theorem am_gf_some {σ : am_S} {c k a : Nat} {v : Value} (h : am_gf σ c k a = some v) : ∃ fs : List Value, σ.2.2 a = some (.inr (c, fs)) ∧ fs[k]? = some v := by
  unfold am_gf at h
  split at h
  · rename_i y hy
    split at h
    · rename_i hc
      obtain ⟨c', fs⟩ := y
      subst hc
      exact ⟨fs, hy, h⟩
    · cases h
  · cases h
theorem am_gI_some {σ : am_S} {c k a : Nat} {v : Int32} (h : am_gI σ c k a = some v) : am_gf σ c k a = some (.int v) := by
  unfold am_gI at h
  split at h
  · rename_i x hx; cases h; exact hx
  · cases h
theorem am_gA_some {σ : am_S} {c k a : Nat} {v : Nat} (h : am_gA σ c k a = some v) : am_gf σ c k a = some (.ref v) := by
  unfold am_gA at h
  split at h
  · rename_i x hx; cases h; exact hx
  · cases h
theorem am_pf_some {σ σ1 : am_S} {c k a : Nat} {v : Value} (h : am_pf σ c k a v = some σ1) : ∃ fs : List Value, σ.2.2 a = some (.inr (c, fs)) ∧ 8 ≤ a ∧ k < fs.length ∧ σ1 = am_put σ a (.inr (c, fs.set k v)) := by
  unfold am_pf at h
  split at h
  · rename_i y hy
    split at h
    · rename_i hc
      obtain ⟨c', fs⟩ := y
      obtain ⟨hc, h8, hl⟩ := hc
      subst hc
      cases h
      exact ⟨fs, hy, h8, hl, rfl⟩
    · cases h
  · cases h
section AWH
variable {g : am_G} {M : am_M} {σ0 σ : am_S} {pc : Nat} {lv : List (Option Value)} {st : List Value} {β : Type} {E : Option β} {k : β → Option (Outcome × am_S)}
/-- what a bind says -/
theorem am_W.bindI {γ : Type} {X : Option γ} {F : γ → Option β} (h : ∀ x, X = some x → am_W g M σ0 pc lv st σ (F x) k) : am_W g M σ0 pc lv st σ (X.bind F) k := by
  cases X with
  | none => exact am_W.none
  | some x => exact h x rfl
theorem am_W.same {pc' : Nat} {st' : List Value} (h : ∀ {p : Program} {l : Launch} {e : Env} {R : Room} {s : State} {m : MethodId} {args : Array Value} {below : List Frame} {meth : Method} {c : Code} {H : Heap} {locs : List Loc} {cells slots : Nat} {Q : State → Prop} {ls : Array Slot},
      am_Cx g M p l e R s m meth c → am_L g (am_maxL M) lv ls → am_R g σ H → W p l e R s m args below meth c H locs cells slots Q (F0 m pc' ls (st'.map (am_up g))) → W p l e R s m args below meth c H locs cells slots Q (F0 m pc ls (st.map (am_up g))))
    (kk : am_W g M σ0 pc' lv st' σ E k) : am_W g M σ0 pc lv st σ E k := by
  intro res σ' hE
  obtain ⟨a, b, j⟩ := kk res σ' hE
  exact ⟨a, b, fun p l e R s m args below meth c H locs ls C hc hs h1 h2 hR hL hl => h C hL hR (j p l e R s m args below meth c H locs ls C hc hs h1 h2 hR hL hl)⟩
/-- a write to one cell -/
theorem am_W.write {pc' a : Nat} {st' : List Value} {x : am_C} (h : ∀ {p : Program} {l : Launch} {e : Env} {R : Room} {s : State} {m : MethodId} {args : Array Value} {below : List Frame} {meth : Method} {c : Code} {H : Heap} {locs : List Loc} {cells slots : Nat} {Q : State → Prop} {ls : Array Slot},
      am_Cx g M p l e R s m meth c → am_L g (am_maxL M) lv ls → am_R g σ H →
      (∀ (H1 : Heap) (i : Nat), am_R g (am_put σ a x) H1 → W p l e R s m args below meth c H1 (locs ++ [⟨am_r g a, i⟩]) cells slots Q (F0 m pc' ls (st'.map (am_up g)))) → W p l e R s m args below meth c H locs cells slots Q (F0 m pc ls (st.map (am_up g))))
    (ha : 8 ≤ a) (kk : am_W g M σ0 pc' lv st' (am_put σ a x) E k) : am_W g M σ0 pc lv st σ E k := by
  intro res σ' hE
  obtain ⟨a1, b1, j⟩ := kk res σ' hE
  refine ⟨a1, b1, fun p l e R s m args below meth c H locs ls C hc hs h1 h2 hR hL hl => h C hL hR fun H1 i hR1 => ?_⟩
  refine j p l e R s m args below meth c H1 _ ls C hc hs h1 h2 hR1 hL fun q hq => ?_
  rcases List.mem_append.mp hq with h3 | h3
  · exact hl q h3
  · rw [List.mem_singleton.mp h3]
    show _ ≤ am_r g a
    rw [am_r_ge ha]
    omega
theorem aw_gf (c kf idx : Nat) {a : Nat} {v : Value} (hd : decode (am_code M) pc = .ok (.getfield idx, 3) := by decide +kernel) (hw : Cond.fieldLink (am_name M).cls idx (am_cn c) (am_fd c kf).1 (am_fd c kf).2.1 ∈ lw_tbl) (hc : c < am_NC := by decide) (hk : kf < am_N c := by decide)
    (hv : am_gf σ c kf a = some v) (kk : am_W g M σ0 (pc + 3) lv (v :: st) σ E k) : am_W g M σ0 pc lv (.ref a :: st) σ E k := by
  refine kk.same fun {p l e R s m args below meth c0 H locs cells slots Q ls} C hL hR w => ?_
  obtain ⟨c1, c2, c3, c4, c5, c6, c7, c8, c9, c10, c11, hW, hK⟩ := C
  obtain ⟨fs, h1, h2⟩ := am_gf_some hv
  obtain ⟨cell, q1, q2, q3, q4⟩ := hR.1 a _ h1
  obtain ⟨hfc, kC, hkC, hkind⟩ := am_class hK hW hc
  obtain ⟨cf, kf', fi, f, hi, hsl⟩ := am_slot hK hW hc hk
  refine W.getf c1 c2 c4 (am_word hK hW hw rfl) hi (u_facts hfc hkC (am_lays hK hW hc hk args) hi).1 q1 (by rw [q3]; exact fun h => by cases h) (v := am_up g v) ?_ rfl rfl hd w
  rw [hsl, q4 kf hk]
  simp [vp_V, h2]
theorem aw_gfN (c kf idx : Nat) (host : String) {a : Nat} {v : Value} (hd : decode (am_code M) pc = .ok (.getfield idx, 3) := by decide +kernel) (hw : Cond.fieldLinkNest (am_name M).cls idx (am_cn c) (am_fd c kf).1 (am_fd c kf).2.1 host ∈ lw_tbl) (hc : c < am_NC := by decide) (hk : kf < am_N c := by decide)
    (hv : am_gf σ c kf a = some v) (kk : am_W g M σ0 (pc + 3) lv (v :: st) σ E k) : am_W g M σ0 pc lv (.ref a :: st) σ E k := by
  refine kk.same fun {p l e R s m args below meth c0 H locs cells slots Q ls} C hL hR w => ?_
  obtain ⟨c1, c2, c3, c4, c5, c6, c7, c8, c9, c10, c11, hW, hK⟩ := C
  obtain ⟨fs, h1, h2⟩ := am_gf_some hv
  obtain ⟨cell, q1, q2, q3, q4⟩ := hR.1 a _ h1
  obtain ⟨hfc, kC, hkC, hkind⟩ := am_class hK hW hc
  obtain ⟨cf, kf', fi, f, hi, hsl⟩ := am_slot hK hW hc hk
  refine va_Wgetf c1 c2 c4 (am_wordF hK hW hw) hi (u_facts hfc hkC (am_lays hK hW hc hk args) hi).1 q1 (by rw [q3]; exact fun h => by cases h) (v := am_up g v) ?_ rfl rfl hd w
  rw [hsl, q4 kf hk]
  simp [vp_V, h2]
theorem aw_gI (c kf idx : Nat) {a : Nat} {F : Int32 → Option β} (hd : decode (am_code M) pc = .ok (.getfield idx, 3) := by decide +kernel) (hc : c < am_NC := by decide) (hk : kf < am_N c := by decide) (hw : Cond.fieldLink (am_name M).cls idx (am_cn c) (am_fd c kf).1 (am_fd c kf).2.1 ∈ lw_tbl)
    (kk : ∀ v, am_W g M σ0 (pc + 3) lv (.int v :: st) σ (F v) k) : am_W g M σ0 pc lv (.ref a :: st) σ ((am_gI σ c kf a).bind F) k :=
  am_W.bindI fun v h => aw_gf c kf idx hd hw hc hk (am_gI_some h) (kk v)
theorem aw_gA (c kf idx : Nat) {a : Nat} {F : Nat → Option β} (hd : decode (am_code M) pc = .ok (.getfield idx, 3) := by decide +kernel) (hc : c < am_NC := by decide) (hk : kf < am_N c := by decide) (hw : Cond.fieldLink (am_name M).cls idx (am_cn c) (am_fd c kf).1 (am_fd c kf).2.1 ∈ lw_tbl)
    (kk : ∀ v, am_W g M σ0 (pc + 3) lv (.ref v :: st) σ (F v) k) : am_W g M σ0 pc lv (.ref a :: st) σ ((am_gA σ c kf a).bind F) k :=
  am_W.bindI fun v h => aw_gf c kf idx hd hw hc hk (am_gA_some h) (kk v)
theorem aw_gIN (c kf idx : Nat) (host : String) {a : Nat} {F : Int32 → Option β} (hd : decode (am_code M) pc = .ok (.getfield idx, 3) := by decide +kernel) (hc : c < am_NC := by decide) (hk : kf < am_N c := by decide) (hw : Cond.fieldLinkNest (am_name M).cls idx (am_cn c) (am_fd c kf).1 (am_fd c kf).2.1 host ∈ lw_tbl)
    (kk : ∀ v, am_W g M σ0 (pc + 3) lv (.int v :: st) σ (F v) k) : am_W g M σ0 pc lv (.ref a :: st) σ ((am_gI σ c kf a).bind F) k :=
  am_W.bindI fun v h => aw_gfN c kf idx host hd hw hc hk (am_gI_some h) (kk v)
theorem aw_gAN (c kf idx : Nat) (host : String) {a : Nat} {F : Nat → Option β} (hd : decode (am_code M) pc = .ok (.getfield idx, 3) := by decide +kernel) (hc : c < am_NC := by decide) (hk : kf < am_N c := by decide) (hw : Cond.fieldLinkNest (am_name M).cls idx (am_cn c) (am_fd c kf).1 (am_fd c kf).2.1 host ∈ lw_tbl)
    (kk : ∀ v, am_W g M σ0 (pc + 3) lv (.ref v :: st) σ (F v) k) : am_W g M σ0 pc lv (.ref a :: st) σ ((am_gA σ c kf a).bind F) k :=
  am_W.bindI fun v h => aw_gfN c kf idx host hd hw hc hk (am_gA_some h) (kk v)
theorem am_at_set {c kf a : Nat} {fs : List Value} {v : Value} {cell : Cell} {H1 : Heap} {s : State} (hK : am_K g) (hW : g.1.WarmedH s.vm) (hc : c < am_NC) (hk : kf < am_N c) (hl : kf < fs.length) (q2 : cell.cls = g.2.2.1 c) (q3 : cell.vm = .none) (q4 : ∀ k, k < am_N c → cell.slots[g.2.2.2 c k]? = some (vp_V (fs.map (am_up g)) k))
    (e1 : H1[a]? = some (cell.setSlot (g.2.2.2 c kf) (am_up g v))) : am_at g a (.inr (c, fs.set kf v)) H1 := by
  refine t_OB.to (V := updV (vp_V (fs.map (am_up g))) kf (am_up g v)) ⟨_, e1, q2, q3, t_set q4 (am_apart hK hW hc) hk _⟩ fun j _ => ?_
  rw [vp_updV_set (by simpa using hl), List.map_set]
/-- a field that is not final -/
theorem aw_pf (c kf idx : Nat) {a : Nat} {v : Value} {fs : List Value} (hd : decode (am_code M) pc = .ok (.putfield idx, 3)) (hw : Cond.fieldLink (am_name M).cls idx (am_cn c) (am_fd c kf).1 (am_fd c kf).2.1 ∈ lw_tbl) (hc : c < am_NC) (hk : kf < am_N c) (hfin : (am_fd c kf).2.2.1 = false)
    (hn : narrow (am_fd c kf).2.2.2 (am_up g v) = am_up g v) (hf : fits (am_fd c kf).2.2.2 (am_up g v) = true) (h1 : σ.2.2 a = some (.inr (c, fs))) (h8 : 8 ≤ a) (hl : kf < fs.length)
    (kk : am_W g M σ0 (pc + 3) lv st (am_put σ a (.inr (c, fs.set kf v))) E k) : am_W g M σ0 pc lv (v :: .ref a :: st) σ E k := by
  refine am_W.write (fun {p l e R s m args below meth c0 H locs cells slots Q ls} C hL hR w => ?_) h8 kk
  obtain ⟨c1, c2, c3, c4, c5, c6, c7, c8, c9, c10, c11, hW, hK⟩ := C
  obtain ⟨cell, q1, q2, q3, q4⟩ := hR.1 a _ h1
  obtain ⟨hfc, kC, hkC, hkind⟩ := am_class hK hW hc
  obtain ⟨cf, kf', fi, f, hi, hsl⟩ := am_slot hK hW hc hk
  have hlay := am_word (args := args) hK hW (am_lay_ok c hc kf hk) (am_lay_good c kf)
  unfold am_lay at hlay
  rw [if_neg (by rw [hfin]; decide)] at hlay
  have hst := (u_facts hfc hkC (am_lays hK hW hc hk args) hi).1
  have h6 := u_store hfc hkC hkind hlay hi (am_ty_ok c hc kf hk) hn hf
  refine W.putK c1 c2 (f := f) ⟨c4, am_word hK hW hw rfl, ⟨_, _, _, hi⟩, hst⟩ (by rw [q2]; exact h6) q1 q3 (by rw [hsl]; exact k2_hasslot (q4 kf hk)) rfl rfl hd fun H' e1 e2 e3 => ?_
  rw [hsl] at e1 ⊢
  exact w H' _ (hR.put hK h8 (am_at_set hK hW hc hk hl q2 q3 q4 e1) e2 e3)
/-- a final field, in its own constructor -/
theorem aw_pfF (c kf idx : Nat) {a : Nat} {v : Value} {fs : List Value} (hd : decode (am_code M) pc = .ok (.putfield idx, 3)) (hw : Cond.fieldLink (am_name M).cls idx (am_cn c) (am_fd c kf).1 (am_fd c kf).2.1 ∈ lw_tbl) (hc : c < am_NC) (hk : kf < am_N c) (hfin : (am_fd c kf).2.2.1 = true) (hin : (am_name M).name = "<init>") (hcl : am_cn c = (am_name M).cls)
    (hn : narrow (am_fd c kf).2.2.2 (am_up g v) = am_up g v) (hf : fits (am_fd c kf).2.2.2 (am_up g v) = true) (h1 : σ.2.2 a = some (.inr (c, fs))) (h8 : 8 ≤ a) (hl : kf < fs.length)
    (kk : am_W g M σ0 (pc + 3) lv st (am_put σ a (.inr (c, fs.set kf v))) E k) : am_W g M σ0 pc lv (v :: .ref a :: st) σ E k := by
  refine am_W.write (fun {p l e R s m args below meth c0 H locs cells slots Q ls} C hL hR w => ?_) h8 kk
  obtain ⟨c1, c2, c3, c4, c5, c6, c7, c8, c9, c10, c11, hW, hK⟩ := C
  obtain ⟨cell, q1, q2, q3, q4⟩ := hR.1 a _ h1
  obtain ⟨hfc, kC, hkC, hkind⟩ := am_class hK hW hc
  obtain ⟨cf, kf', fi, f, hi, hsl⟩ := am_slot hK hW hc hk
  have hlay := am_word (args := args) hK hW (am_lay_ok c hc kf hk) (am_lay_good c kf)
  unfold am_lay at hlay
  rw [if_pos hfin] at hlay
  have hst := (u_facts hfc hkC (am_lays hK hW hc hk args) hi).1
  have hcf : m.cls = cf := by
    obtain ⟨_, _, c', _, _, _, -, -, hf', -, -, -, hown2, -⟩ := Cond.laysFinal_spec hlay
    have e1 : c' = cf := by have := hi.symm.trans hf'; simp at this; exact this.1.symm
    rw [hcl] at hown2
    rw [← e1]; exact Option.some.inj (c4.symm.trans hown2)
  have h6 := u_fits hfc hkC hkind (Or.inr hlay) hi (am_ty_ok c hc kf hk) hn hf
  refine W.putFinK c1 c2 c4 (am_word hK hW hw rfl) hi hst hcf (by rw [c7]; exact hin) (by rw [q2]; exact h6) q1 q3 (by rw [hsl]; exact k2_hasslot (q4 kf hk)) rfl rfl hd fun H' e1 e2 e3 => ?_
  rw [hsl] at e1 ⊢
  exact w H' _ (hR.put hK h8 (am_at_set hK hW hc hk hl q2 q3 q4 e1) e2 e3)
/-- a type of references -/
def am_isR : FieldType → Bool
  | .object _ => true
  | .array _ => true
  | _ => false
theorem am_narR {t : FieldType} (h : am_isR t = true) (r : Nat) : narrow t (.ref r) = .ref r ∧ fits t (.ref r) = true := by
  cases t <;> first | (cases h; done) | exact ⟨rfl, rfl⟩
theorem aw_pI (c kf idx : Nat) {a : Nat} {v : Int32} {F : am_S → Option β} (hd : decode (am_code M) pc = .ok (.putfield idx, 3) := by decide +kernel) (hc : c < am_NC := by decide) (hk : kf < am_N c := by decide) (hfin : (am_fd c kf).2.2.1 = false := by rfl) (hty : (am_fd c kf).2.2.2 = .int := by rfl) (hw : Cond.fieldLink (am_name M).cls idx (am_cn c) (am_fd c kf).1 (am_fd c kf).2.1 ∈ lw_tbl)
    (kk : ∀ σ1, am_W g M σ0 (pc + 3) lv st σ1 (F σ1) k) : am_W g M σ0 pc lv (.int v :: .ref a :: st) σ ((am_pI σ c kf a v).bind F) k :=
  am_W.bindI fun σ1 h => by
    obtain ⟨fs, h1, h2, h3, rfl⟩ := am_pf_some h
    exact aw_pf c kf idx hd hw hc hk hfin (by rw [hty]; rfl) (by rw [hty]; rfl) h1 h2 h3 (kk _)
theorem aw_pZ (c kf idx : Nat) {a : Nat} {v : Int32} {F : am_S → Option β} (hd : decode (am_code M) pc = .ok (.putfield idx, 3) := by decide +kernel) (hc : c < am_NC := by decide) (hk : kf < am_N c := by decide) (hfin : (am_fd c kf).2.2.1 = false := by rfl) (hty : (am_fd c kf).2.2.2 = .boolean := by rfl) (hw : Cond.fieldLink (am_name M).cls idx (am_cn c) (am_fd c kf).1 (am_fd c kf).2.1 ∈ lw_tbl)
    (kk : ∀ σ1, am_W g M σ0 (pc + 3) lv st σ1 (F σ1) k) : am_W g M σ0 pc lv (.int v :: .ref a :: st) σ ((am_pZ σ c kf a v).bind F) k :=
  am_W.bindI fun σ1 h => by
    unfold am_pZ at h
    split at h
    · rename_i hv
      obtain ⟨fs, h1, h2, h3, rfl⟩ := am_pf_some h
      refine aw_pf c kf idx hd hw hc hk hfin ?_ ?_ h1 h2 h3 (kk _)
      · rw [hty]; rcases hv with rfl | rfl <;> rfl
      · rw [hty]; rcases hv with rfl | rfl <;> rfl
    · cases h
theorem aw_pA (c kf idx : Nat) {a v : Nat} {F : am_S → Option β} (hd : decode (am_code M) pc = .ok (.putfield idx, 3) := by decide +kernel) (hc : c < am_NC := by decide) (hk : kf < am_N c := by decide) (hfin : (am_fd c kf).2.2.1 = false := by rfl) (hty : am_isR (am_fd c kf).2.2.2 = true := by rfl) (hw : Cond.fieldLink (am_name M).cls idx (am_cn c) (am_fd c kf).1 (am_fd c kf).2.1 ∈ lw_tbl)
    (kk : ∀ σ1, am_W g M σ0 (pc + 3) lv st σ1 (F σ1) k) : am_W g M σ0 pc lv (.ref v :: .ref a :: st) σ ((am_pA σ c kf a v).bind F) k :=
  am_W.bindI fun σ1 h => by
    obtain ⟨fs, h1, h2, h3, rfl⟩ := am_pf_some h
    exact aw_pf c kf idx hd hw hc hk hfin (am_narR hty _).1 (am_narR hty _).2 h1 h2 h3 (kk _)
theorem aw_pAF (c kf idx : Nat) {a v : Nat} {F : am_S → Option β} (hd : decode (am_code M) pc = .ok (.putfield idx, 3) := by decide +kernel) (hc : c < am_NC := by decide) (hk : kf < am_N c := by decide) (hfin : (am_fd c kf).2.2.1 = true := by rfl) (hty : am_isR (am_fd c kf).2.2.2 = true := by rfl) (hin : (am_name M).name = "<init>" := by rfl) (hcl : am_cn c = (am_name M).cls := by rfl) (hw : Cond.fieldLink (am_name M).cls idx (am_cn c) (am_fd c kf).1 (am_fd c kf).2.1 ∈ lw_tbl)
    (kk : ∀ σ1, am_W g M σ0 (pc + 3) lv st σ1 (F σ1) k) : am_W g M σ0 pc lv (.ref v :: .ref a :: st) σ ((am_pA σ c kf a v).bind F) k :=
  am_W.bindI fun σ1 h => by
    obtain ⟨fs, h1, h2, h3, rfl⟩ := am_pf_some h
    exact aw_pfF c kf idx hd hw hc hk hfin hin hcl (am_narR hty _).1 (am_narR hty _).2 h1 h2 h3 (kk _)
end AWH
end
section
def am_ld (σ : am_S) (ty : FieldType) (a : Nat) (i : Int32) : Option Value := match σ.2.2 a with
  | some (.inl y) => if y.1 = ty ∧ ¬ i < 0 ∧ i.toNatClampNeg < y.2.1 then some (y.2.2 i.toNatClampNeg) else none
  | _ => none
def am_lI (σ : am_S) (ty : FieldType) (a : Nat) (i : Int32) : Option Int32 := match am_ld σ ty a i with
  | some (.int v) => some v
  | _ => none
def am_lL (σ : am_S) (a : Nat) (i : Int32) : Option Int64 := match am_ld σ .long a i with
  | some (.long v) => some v
  | _ => none
def am_lA (σ : am_S) (c : Nat) (a : Nat) (i : Int32) : Option Nat := match am_ld σ (.object (am_cn c)) a i with
  | some (.ref v) => some v
  | _ => none
def am_len (σ : am_S) (a : Nat) : Option Int32 := match σ.2.2 a with
  | some (.inl y) => some (Int32.ofNat y.2.1)
  | _ => none
def am_st (σ : am_S) (ty : FieldType) (a : Nat) (i : Int32) (v : Value) : Option am_S := match σ.2.2 a with
  | some (.inl y) => if y.1 = ty ∧ 8 ≤ a ∧ ¬ i < 0 ∧ i.toNatClampNeg < y.2.1 then some (am_put σ a (.inl (ty, y.2.1, updV y.2.2 i.toNatClampNeg v))) else none
  | _ => none
def am_sI (σ : am_S) (a : Nat) (i v : Int32) : Option am_S := am_st σ .int a i (.int v)
def am_sB (σ : am_S) (a : Nat) (i v : Int32) : Option am_S := am_st σ .byte a i (.int (am_i2b v))
def am_sZ (σ : am_S) (a : Nat) (i v : Int32) : Option am_S := am_st σ .boolean a i (.int (v &&& 1))
def am_sS (σ : am_S) (a : Nat) (i v : Int32) : Option am_S := am_st σ .short a i (.int (am_i2s v))
def am_sL (σ : am_S) (a : Nat) (i : Int32) (v : Int64) : Option am_S := am_st σ .long a i (.long v)
/-- a reference to an object of class c into an array of such -/
def am_sA (σ : am_S) (c : Nat) (a : Nat) (i : Int32) (v : Nat) : Option am_S := match σ.2.2 v with
  | some (.inr y) => if y.1 = c then am_st σ (.object (am_cn c)) a i (.ref v) else none
  | _ => none
theorem am_ld_some {σ : am_S} {ty : FieldType} {a : Nat} {i : Int32} {v : Value} (h : am_ld σ ty a i = some v) : ∃ (n : Nat) (f : Nat → Value), σ.2.2 a = some (.inl (ty, n, f)) ∧ ¬ i < 0 ∧ i.toNatClampNeg < n ∧ f i.toNatClampNeg = v := by
  unfold am_ld at h
  split at h
  · rename_i y hy
    split at h
    · rename_i hc
      obtain ⟨t, n, f⟩ := y
      obtain ⟨h1, h2, h3⟩ := hc
      subst h1
      cases h
      exact ⟨n, f, hy, h2, h3, rfl⟩
    · cases h
  · cases h
theorem am_st_some {σ σ1 : am_S} {ty : FieldType} {a : Nat} {i : Int32} {v : Value} (h : am_st σ ty a i v = some σ1) : ∃ (n : Nat) (f : Nat → Value), σ.2.2 a = some (.inl (ty, n, f)) ∧ 8 ≤ a ∧ ¬ i < 0 ∧ i.toNatClampNeg < n ∧ σ1 = am_put σ a (.inl (ty, n, updV f i.toNatClampNeg v)) := by
  unfold am_st at h
  split at h
  · rename_i y hy
    split at h
    · rename_i hc
      obtain ⟨t, n, f⟩ := y
      obtain ⟨h1, h0, h2, h3⟩ := hc
      subst h1
      cases h
      exact ⟨n, f, hy, h0, h2, h3, rfl⟩
    · cases h
  · cases h
theorem am_lI_some {σ : am_S} {ty : FieldType} {a : Nat} {i v : Int32} (h : am_lI σ ty a i = some v) : am_ld σ ty a i = some (.int v) := by
  unfold am_lI at h
  split at h
  · rename_i x hx; cases h; exact hx
  · cases h
theorem am_lL_some {σ : am_S} {a : Nat} {i : Int32} {v : Int64} (h : am_lL σ a i = some v) : am_ld σ .long a i = some (.long v) := by
  unfold am_lL at h
  split at h
  · rename_i x hx; cases h; exact hx
  · cases h
theorem am_lA_some {σ : am_S} {c a : Nat} {i : Int32} {v : Nat} (h : am_lA σ c a i = some v) : am_ld σ (.object (am_cn c)) a i = some (.ref v) := by
  unfold am_lA at h
  split at h
  · rename_i x hx; cases h; exact hx
  · cases h
theorem am_len_some {σ : am_S} {a : Nat} {v : Int32} (h : am_len σ a = some v) : ∃ (ty : FieldType) (n : Nat) (f : Nat → Value), σ.2.2 a = some (.inl (ty, n, f)) ∧ v = Int32.ofNat n := by
  unfold am_len at h
  split at h
  · rename_i y hy
    cases h
    exact ⟨y.1, y.2.1, y.2.2, hy, rfl⟩
  · cases h
/-- an array's cell behind a store -/
theorem am_at_st {g : am_G} {ty : FieldType} {n i a : Nat} {f : Nat → Value} {v : Value} {cell : Cell} {H1 : Heap} (q2 : g.1.isArrayOf cell ty) (q3 : am_ok g.1 cell.cls ty) (q4 : cell.vm ≠ .unknown) (q5 : n ≤ cell.slots.size ∧ cell.slots.size.toInt32 = Int32.ofNat n)
    (q6 : ∀ j, j < n → cell.slots[j]? = some (am_up g (f j)) ∧ fits ty (am_up g (f j)) = true) (hv : fits ty (am_up g v) = true) (e1 : H1[a]? = some (cell.setSlot i (am_up g v))) : am_at g a (.inl (ty, n, updV f i v)) H1 := by
  refine ⟨_, e1, q2, q3, q4, by simpa [Cell.setSlot] using q5, fun j hj => ?_⟩
  by_cases hji : j = i
  · subst hji
    rw [Cell.slots_setSlot_self _ (Nat.lt_of_lt_of_le hj q5.1)]
    simp [updV, hv]
  · rw [slot_ne _ _ (Ne.symm hji)]
    simpa [updV, hji] using q6 j hj
theorem am_fits_b (x : Int32) : fits .byte (.int (am_i2b x)) = true := by
  have h := lg_i2b_range x
  have h1 : (-128 : Int32) ≤ am_i2b x := by rw [Int32.le_iff_toInt_le]; exact h.1
  have h2 : am_i2b x ≤ (127 : Int32) := by rw [Int32.le_iff_toInt_le]; have := h.2; show (am_i2b x).toInt ≤ 127; unfold am_i2b; omega
  simp [fits, h1, h2]
theorem am_fits_s (x : Int32) : fits .short (.int (am_i2s x)) = true := by
  have h := lg_i2s_range x
  have h1 : (-32768 : Int32) ≤ am_i2s x := by rw [Int32.le_iff_toInt_le]; exact h.1
  have h2 : am_i2s x ≤ (32767 : Int32) := by rw [Int32.le_iff_toInt_le]; have := h.2; show (am_i2s x).toInt ≤ 32767; unfold am_i2s; omega
  simp [fits, h1, h2]
theorem am_and1 (x : Int32) : x &&& 1 = 0 ∨ x &&& 1 = 1 := by
  have h : (x.toBitVec &&& 1#32) = 0#32 ∨ (x.toBitVec &&& 1#32) = 1#32 := by
    have h1 : (x.toBitVec &&& 1#32).toNat = x.toBitVec.toNat % 2 := by
      rw [BitVec.toNat_and]
      exact Nat.and_one_is_mod _
    rcases Nat.mod_two_eq_zero_or_one x.toBitVec.toNat with h2 | h2
    · left; apply BitVec.eq_of_toNat_eq; rw [h1, h2]; rfl
    · right; apply BitVec.eq_of_toNat_eq; rw [h1, h2]; rfl
  rcases h with h | h
  · left; exact Int32.toBitVec_inj.mp h
  · right; exact Int32.toBitVec_inj.mp h
theorem am_fits_z (x : Int32) : fits .boolean (.int (x &&& 1)) = true := by
  rcases am_and1 x with h | h <;> rw [h] <;> rfl
end
section
section AWA
variable {g : am_G} {M : am_M} {σ0 σ : am_S} {pc : Nat} {lv : List (Option Value)} {st : List Value} {β : Type} {E : Option β} {k : β → Option (Outcome × am_S)}
theorem aw_len {a : Nat} {F : Int32 → Option β} (hd : decode (am_code M) pc = .ok (.arraylength, 1) := by decide +kernel) (kk : ∀ v, am_W g M σ0 (pc + 1) lv (.int v :: st) σ (F v) k) : am_W g M σ0 pc lv (.ref a :: st) σ ((am_len σ a).bind F) k :=
  am_W.bindI fun v h => by
    refine (kk v).same fun {p l e R s m args below meth c0 H locs cells slots Q ls} C hL hR w => ?_
    obtain ⟨ty, n, f, h1, rfl⟩ := am_len_some h
    obtain ⟨cell, q1, q2, q3, q4, q5, q6⟩ := hR.1 a _ h1
    exact W.alen C.1 C.2.1 q1 (State.isArrayOf_alike C.2.2.2.2.2.2.2.2.2.2.2.1.alike q2) q5.2 rfl rfl hd w
theorem aw_lI {a : Nat} {i : Int32} {F : Int32 → Option β} (hd : decode (am_code M) pc = .ok (.iaload, 1) := by decide +kernel) (kk : ∀ v, am_W g M σ0 (pc + 1) lv (.int v :: st) σ (F v) k) : am_W g M σ0 pc lv (.int i :: .ref a :: st) σ ((am_lI σ .int a i).bind F) k :=
  am_W.bindI fun v h => by
    refine (kk v).same fun {p l e R s m args below meth c0 H locs cells slots Q ls} C hL hR w => ?_
    obtain ⟨n, f, h1, h2, h3, h4⟩ := am_ld_some (am_lI_some h)
    obtain ⟨cell, q1, q2, q3, q4, q5, q6⟩ := hR.1 a _ h1
    refine W.iald (v := am_up g (.int v)) C.1 C.2.1 q1 (State.isArrayOf_alike C.2.2.2.2.2.2.2.2.2.2.2.1.alike q2) q4 (fun z => z.elim h2 fun z2 => Nat.not_le.mpr h3 (Nat.le_trans q5.1 z2)) ?_ rfl rfl hd w
    rw [← h4]; exact (q6 _ h3).1
theorem aw_lB {a : Nat} {i : Int32} {F : Int32 → Option β} (hd : decode (am_code M) pc = .ok (.baload, 1) := by decide +kernel) (kk : ∀ v, am_W g M σ0 (pc + 1) lv (.int v :: st) σ (F v) k) : am_W g M σ0 pc lv (.int i :: .ref a :: st) σ ((am_lI σ .byte a i).bind F) k :=
  am_W.bindI fun v h => by
    refine (kk v).same fun {p l e R s m args below meth c0 H locs cells slots Q ls} C hL hR w => ?_
    obtain ⟨n, f, h1, h2, h3, h4⟩ := am_ld_some (am_lI_some h)
    obtain ⟨cell, q1, q2, q3, q4, q5, q6⟩ := hR.1 a _ h1
    refine W.bald (v := am_up g (.int v)) C.1 C.2.1 q1 (State.isArrayOf_alike C.2.2.2.2.2.2.2.2.2.2.2.1.alike q2) q4 (fun z => z.elim h2 fun z2 => Nat.not_le.mpr h3 (Nat.le_trans q5.1 z2)) ?_ rfl rfl hd w
    rw [← h4]; exact (q6 _ h3).1
theorem aw_lZ {a : Nat} {i : Int32} {F : Int32 → Option β} (hd : decode (am_code M) pc = .ok (.baload, 1) := by decide +kernel) (kk : ∀ v, am_W g M σ0 (pc + 1) lv (.int v :: st) σ (F v) k) : am_W g M σ0 pc lv (.int i :: .ref a :: st) σ ((am_lI σ .boolean a i).bind F) k :=
  am_W.bindI fun v h => by
    refine (kk v).same fun {p l e R s m args below meth c0 H locs cells slots Q ls} C hL hR w => ?_
    obtain ⟨n, f, h1, h2, h3, h4⟩ := am_ld_some (am_lI_some h)
    obtain ⟨cell, q1, q2, q3, q4, q5, q6⟩ := hR.1 a _ h1
    refine W.zald (v := am_up g (.int v)) C.1 C.2.1 q1 (State.isArrayOf_alike C.2.2.2.2.2.2.2.2.2.2.2.1.alike q2) q4 (fun z => z.elim h2 fun z2 => Nat.not_le.mpr h3 (Nat.le_trans q5.1 z2)) ?_ rfl rfl hd w
    rw [← h4]; exact (q6 _ h3).1
theorem aw_lS {a : Nat} {i : Int32} {F : Int32 → Option β} (hd : decode (am_code M) pc = .ok (.saload, 1) := by decide +kernel) (kk : ∀ v, am_W g M σ0 (pc + 1) lv (.int v :: st) σ (F v) k) : am_W g M σ0 pc lv (.int i :: .ref a :: st) σ ((am_lI σ .short a i).bind F) k :=
  am_W.bindI fun v h => by
    refine (kk v).same fun {p l e R s m args below meth c0 H locs cells slots Q ls} C hL hR w => ?_
    obtain ⟨n, f, h1, h2, h3, h4⟩ := am_ld_some (am_lI_some h)
    obtain ⟨cell, q1, q2, q3, q4, q5, q6⟩ := hR.1 a _ h1
    refine W.sald (v := am_up g (.int v)) C.1 C.2.1 q1 (State.isArrayOf_alike C.2.2.2.2.2.2.2.2.2.2.2.1.alike q2) q4 (fun z => z.elim h2 fun z2 => Nat.not_le.mpr h3 (Nat.le_trans q5.1 z2)) ?_ rfl rfl hd w
    rw [← h4]; exact (q6 _ h3).1
theorem aw_lL {a : Nat} {i : Int32} {F : Int64 → Option β} (hd : decode (am_code M) pc = .ok (.laload, 1) := by decide +kernel) (kk : ∀ v, am_W g M σ0 (pc + 1) lv (.long v :: st) σ (F v) k) : am_W g M σ0 pc lv (.int i :: .ref a :: st) σ ((am_lL σ a i).bind F) k :=
  am_W.bindI fun v h => by
    refine (kk v).same fun {p l e R s m args below meth c0 H locs cells slots Q ls} C hL hR w => ?_
    obtain ⟨n, f, h1, h2, h3, h4⟩ := am_ld_some (am_lL_some h)
    obtain ⟨cell, q1, q2, q3, q4, q5, q6⟩ := hR.1 a _ h1
    refine W.lald (v := am_up g (.long v)) C.1 C.2.1 q1 (State.isArrayOf_alike C.2.2.2.2.2.2.2.2.2.2.2.1.alike q2) q4 (fun z => z.elim h2 fun z2 => Nat.not_le.mpr h3 (Nat.le_trans q5.1 z2)) ?_ rfl rfl hd w
    rw [← h4]; exact (q6 _ h3).1
theorem aw_lA (c : Nat) {a : Nat} {i : Int32} {F : Nat → Option β} (hd : decode (am_code M) pc = .ok (.aaload, 1) := by decide +kernel) (kk : ∀ v, am_W g M σ0 (pc + 1) lv (.ref v :: st) σ (F v) k) : am_W g M σ0 pc lv (.int i :: .ref a :: st) σ ((am_lA σ c a i).bind F) k :=
  am_W.bindI fun v h => by
    refine (kk v).same fun {p l e R s m args below meth c0 H locs cells slots Q ls} C hL hR w => ?_
    obtain ⟨n, f, h1, h2, h3, h4⟩ := am_ld_some (am_lA_some h)
    obtain ⟨cell, q1, q2, q3, q4, q5, q6⟩ := hR.1 a _ h1
    refine W.aald (v := am_up g (.ref v)) C.1 C.2.1 q1 (State.isArrayOf_alike C.2.2.2.2.2.2.2.2.2.2.2.1.alike q2) rfl q4 (fun z => z.elim h2 fun z2 => Nat.not_le.mpr h3 (Nat.le_trans q5.1 z2)) ?_ rfl rfl hd w
    rw [← h4]; exact (q6 _ h3).1
theorem aw_sI {a : Nat} {i : Int32} {v : Int32} {F : am_S → Option β} (hd : decode (am_code M) pc = .ok (.iastore, 1) := by decide +kernel) (kk : ∀ σ1, am_W g M σ0 (pc + 1) lv st σ1 (F σ1) k) : am_W g M σ0 pc lv (.int v :: .int i :: .ref a :: st) σ ((am_sI σ a i v).bind F) k :=
  am_W.bindI fun σ1 h => by
    obtain ⟨n, f, h1, h8, h2, h3, rfl⟩ := am_st_some h
    refine am_W.write (fun {p l e R s m args below meth c0 H locs cells slots Q ls} C hL hR w => ?_) h8 (kk _)
    obtain ⟨cell, q1, q2, q3, q4, q5, q6⟩ := hR.1 a _ h1
    refine W.iast C.1 C.2.1 q1 (State.isArrayOf_alike C.2.2.2.2.2.2.2.2.2.2.2.1.alike q2) q4 (fun z => z.elim h2 fun z2 => Nat.not_le.mpr h3 (Nat.le_trans q5.1 z2)) rfl rfl hd fun H' e1 e2 e3 => ?_
    exact w H' _ (hR.put C.2.2.2.2.2.2.2.2.2.2.2.2 h8 (am_at_st q2 q3 q4 q5 q6 rfl e1) e2 e3)
theorem aw_sB {a : Nat} {i : Int32} {v : Int32} {F : am_S → Option β} (hd : decode (am_code M) pc = .ok (.bastore, 1) := by decide +kernel) (kk : ∀ σ1, am_W g M σ0 (pc + 1) lv st σ1 (F σ1) k) : am_W g M σ0 pc lv (.int v :: .int i :: .ref a :: st) σ ((am_sB σ a i v).bind F) k :=
  am_W.bindI fun σ1 h => by
    obtain ⟨n, f, h1, h8, h2, h3, rfl⟩ := am_st_some h
    refine am_W.write (fun {p l e R s m args below meth c0 H locs cells slots Q ls} C hL hR w => ?_) h8 (kk _)
    obtain ⟨cell, q1, q2, q3, q4, q5, q6⟩ := hR.1 a _ h1
    refine W.bast C.1 C.2.1 q1 (State.isArrayOf_alike C.2.2.2.2.2.2.2.2.2.2.2.1.alike q2) q4 (fun z => z.elim h2 fun z2 => Nat.not_le.mpr h3 (Nat.le_trans q5.1 z2)) rfl rfl hd fun H' e1 e2 e3 => ?_
    exact w H' _ (hR.put C.2.2.2.2.2.2.2.2.2.2.2.2 h8 (am_at_st q2 q3 q4 q5 q6 (am_fits_b v) e1) e2 e3)
theorem aw_sZ {a : Nat} {i : Int32} {v : Int32} {F : am_S → Option β} (hd : decode (am_code M) pc = .ok (.bastore, 1) := by decide +kernel) (kk : ∀ σ1, am_W g M σ0 (pc + 1) lv st σ1 (F σ1) k) : am_W g M σ0 pc lv (.int v :: .int i :: .ref a :: st) σ ((am_sZ σ a i v).bind F) k :=
  am_W.bindI fun σ1 h => by
    obtain ⟨n, f, h1, h8, h2, h3, rfl⟩ := am_st_some h
    refine am_W.write (fun {p l e R s m args below meth c0 H locs cells slots Q ls} C hL hR w => ?_) h8 (kk _)
    obtain ⟨cell, q1, q2, q3, q4, q5, q6⟩ := hR.1 a _ h1
    refine W.zast C.1 C.2.1 q1 (State.isArrayOf_alike C.2.2.2.2.2.2.2.2.2.2.2.1.alike q2) q4 (fun z => z.elim h2 fun z2 => Nat.not_le.mpr h3 (Nat.le_trans q5.1 z2)) rfl rfl hd fun H' e1 e2 e3 => ?_
    exact w H' _ (hR.put C.2.2.2.2.2.2.2.2.2.2.2.2 h8 (am_at_st q2 q3 q4 q5 q6 (am_fits_z v) e1) e2 e3)
theorem aw_sS {a : Nat} {i : Int32} {v : Int32} {F : am_S → Option β} (hd : decode (am_code M) pc = .ok (.sastore, 1) := by decide +kernel) (kk : ∀ σ1, am_W g M σ0 (pc + 1) lv st σ1 (F σ1) k) : am_W g M σ0 pc lv (.int v :: .int i :: .ref a :: st) σ ((am_sS σ a i v).bind F) k :=
  am_W.bindI fun σ1 h => by
    obtain ⟨n, f, h1, h8, h2, h3, rfl⟩ := am_st_some h
    refine am_W.write (fun {p l e R s m args below meth c0 H locs cells slots Q ls} C hL hR w => ?_) h8 (kk _)
    obtain ⟨cell, q1, q2, q3, q4, q5, q6⟩ := hR.1 a _ h1
    refine W.sast C.1 C.2.1 q1 (State.isArrayOf_alike C.2.2.2.2.2.2.2.2.2.2.2.1.alike q2) q4 (fun z => z.elim h2 fun z2 => Nat.not_le.mpr h3 (Nat.le_trans q5.1 z2)) rfl rfl hd fun H' e1 e2 e3 => ?_
    exact w H' _ (hR.put C.2.2.2.2.2.2.2.2.2.2.2.2 h8 (am_at_st q2 q3 q4 q5 q6 (am_fits_s v) e1) e2 e3)
theorem aw_sL {a : Nat} {i : Int32} {v : Int64} {F : am_S → Option β} (hd : decode (am_code M) pc = .ok (.lastore, 1) := by decide +kernel) (kk : ∀ σ1, am_W g M σ0 (pc + 1) lv st σ1 (F σ1) k) : am_W g M σ0 pc lv (.long v :: .int i :: .ref a :: st) σ ((am_sL σ a i v).bind F) k :=
  am_W.bindI fun σ1 h => by
    obtain ⟨n, f, h1, h8, h2, h3, rfl⟩ := am_st_some h
    refine am_W.write (fun {p l e R s m args below meth c0 H locs cells slots Q ls} C hL hR w => ?_) h8 (kk _)
    obtain ⟨cell, q1, q2, q3, q4, q5, q6⟩ := hR.1 a _ h1
    refine W.last C.1 C.2.1 q1 (State.isArrayOf_alike C.2.2.2.2.2.2.2.2.2.2.2.1.alike q2) q4 (fun z => z.elim h2 fun z2 => Nat.not_le.mpr h3 (Nat.le_trans q5.1 z2)) rfl rfl hd fun H' e1 e2 e3 => ?_
    exact w H' _ (hR.put C.2.2.2.2.2.2.2.2.2.2.2.2 h8 (am_at_st q2 q3 q4 q5 q6 rfl e1) e2 e3)
theorem aw_sA (c : Nat) {a v : Nat} {i : Int32} {F : am_S → Option β} (hd : decode (am_code M) pc = .ok (.aastore, 1) := by decide +kernel) (hc : c < am_NC := by decide) (kk : ∀ σ1, am_W g M σ0 (pc + 1) lv st σ1 (F σ1) k) : am_W g M σ0 pc lv (.ref v :: .int i :: .ref a :: st) σ ((am_sA σ c a i v).bind F) k :=
  am_W.bindI fun σ1 h => by
    unfold am_sA at h
    split at h
    · rename_i y hy
      split at h
      · rename_i hyc
        obtain ⟨c', fs⟩ := y
        subst hyc
        obtain ⟨n, f, h1, h8, h2, h3, rfl⟩ := am_st_some h
        refine am_W.write (fun {p l e R s m args below meth c0 H locs cells slots Q ls} C hL hR w => ?_) h8 (kk _)
        obtain ⟨c1, c2, c3, c4, c5, c6, c7, c8, c9, c10, c11, hW, hK⟩ := C
        obtain ⟨cell, q1, q2, q3, q4, q5, q6⟩ := hR.1 a _ h1
        obtain ⟨cv, r1, r2, r3, r4⟩ := hR.1 v _ hy
        have hcl := am_class hK hW hc
        obtain ⟨kA, comp, k1, k2, k3⟩ := am_ok_moved hW.alike q3
        have hcomp : comp = g.2.2.1 c' := Option.some.inj (k3.symm.trans hcl.1)
        subst hcomp
        obtain ⟨kC, hkC, hkind⟩ := hcl.2
        refine W.aast c1 c2 q1 q2.1 q4 k1 k2 rfl hkC ⟨h2, Nat.lt_of_lt_of_le h3 q5.1⟩ r1 (fun q z => by rw [r3] at z; cases z) (by rw [r2]; exact hkC) (by rw [r2]; exact va_assign hcl) rfl rfl hd fun H' e1 e2 e3 => ?_
        exact w H' _ (hR.put hK h8 (am_at_st q2 q3 q4 q5 q6 rfl e1) e2 e3)
      · cases h
    · cases h
/-- a cell is made -/
theorem am_W.make {pc' N : Nat} {st' : List Value} {x : am_C} (h : ∀ {p : Program} {l : Launch} {e : Env} {R : Room} {s : State} {m : MethodId} {args : Array Value} {below : List Frame} {meth : Method} {c : Code} {H : Heap} {locs : List Loc} {cells slots : Nat} {Q : State → Prop} {ls : Array Slot},
      am_Cx g M p l e R s m meth c → am_L g (am_maxL M) lv ls → am_R g σ H → cells + 1 ≤ R.cells → slots + N ≤ R.slots →
      (∀ H1 : Heap, am_R g (am_new σ N x) H1 → W p l e R s m args below meth c H1 locs (cells + 1) (slots + N) Q (F0 m pc' ls (st'.map (am_up g)))) → W p l e R s m args below meth c H locs cells slots Q (F0 m pc ls (st.map (am_up g))))
    (kk : am_W g M σ0 pc' lv st' (am_new σ N x) E k) : am_W g M σ0 pc lv st σ E k := by
  intro res σ' hE
  obtain ⟨a1, b1, j⟩ := kk res σ' hE
  have a2 : σ.1 + 1 ≤ σ'.1 := a1
  have b2 : σ.2.1 + N ≤ σ'.2.1 := b1
  refine ⟨by omega, by omega, fun p l e R s m args below meth c H locs ls C hc hs h1 h2 hR hL hl => h C hL hR (by omega) (by omega) fun H1 hR1 => ?_⟩
  have w := j p l e R s m args below meth c H1 locs ls C hc hs (show σ0.1 ≤ σ.1 + 1 by omega) (show σ0.2.1 ≤ σ.2.1 + N by omega) hR1 hL hl
  refine W.cs ?_ ?_ w
  · show _ = σ.1 + 1 - σ0.1
    omega
  · show _ = σ.2.1 + N - σ0.2.1
    omega
def am_na (σ : am_S) (ty : FieldType) (n : Int32) : Option (Nat × am_S) := if n < 0 ∨ 67108864 < n.toNatClampNeg then none else some (σ.1, am_new σ n.toNatClampNeg (.inl (ty, n.toNatClampNeg, fun _ => defaultValue ty)))
theorem am_upd_def (g : am_G) (ty : FieldType) : am_up g (defaultValue ty) = defaultValue ty := by cases ty <;> rfl
theorem am_fit_def (ty : FieldType) : fits ty (defaultValue ty) = true := by cases ty <;> rfl
theorem am_cb (ty : FieldType) : componentBytes ty ≤ 8 := by cases ty <;> simp [componentBytes]
theorem am_ok_prim {U : State} {cA : ClassId} (t : ArrayType) : am_ok U cA (newarray.typeOf t) := by cases t <;> trivial
theorem aw_na (t : ArrayType) {ty : FieldType} {n : Int32} {F : Nat × am_S → Option β} (hd : decode (am_code M) pc = .ok (.newarray t, 2) := by decide +kernel) (hty : newarray.typeOf t = ty := by rfl) (hw : Cond.arrayClass ty ∈ lw_tbl)
    (kk : ∀ a σ1, am_W g M σ0 (pc + 2) lv (.ref a :: st) σ1 (F (a, σ1)) k) : am_W g M σ0 pc lv (.int n :: st) σ ((am_na σ ty n).bind F) k :=
  am_W.bindI fun x h => by
    subst hty
    unfold am_na at h
    split at h
    · cases h
    · rename_i hn
      cases h
      refine am_W.make (fun {p l e R s m args below meth c0 H locs cells slots Q ls} C hL hR r1 r2 w => ?_) (kk _ _)
      obtain ⟨c1, c2, c3, c4, c5, c6, c7, c8, c9, c10, c11, hW, hK⟩ := C
      refine va_newaK c1 c2 (am_word hK hW hw rfl) rfl hd rfl (fun z => hn (Or.inl z)) rfl ?_ r1 r2 rfl fun H' cA e1 e2 e3 hA hN => ?_
      · have h1 : n.toNatClampNeg ≤ 67108864 := Nat.not_lt.mp fun z => hn (Or.inr z)
        have h2 := am_cb (newarray.typeOf t)
        calc n.toNatClampNeg * componentBytes (newarray.typeOf t) ≤ 67108864 * 8 := Nat.mul_le_mul h1 h2
          _ ≤ 536870912 := by decide
      · have ht := hR.top
        have w1 := w H' (hR.new (n := n.toNatClampNeg) ⟨_, e1, State.isArrayOf_alike hW.alike.symm (hA _ _), am_ok_prim t, (fun z => by cases z), ⟨Nat.le_of_eq (arrV_size _ _ _).symm, congrArg Nat.toInt32 (arrV_size _ _ _)⟩, fun j hj => ⟨by rw [arrV_read _ _ hj, am_upd_def], by rw [am_upd_def]; exact am_fit_def _⟩⟩ e2 e3)
        simp only [List.map_cons, am_up, ht] at w1
        exact w1
/-- an array of references to objects of class c -/
def am_nA (σ : am_S) (c : Nat) (n : Int32) : Option (Nat × am_S) := if n < 0 ∨ 67108864 < n.toNatClampNeg then none else some (σ.1, am_new σ n.toNatClampNeg (.inl (.object (am_cn c), n.toNatClampNeg, fun _ => .null)))
theorem aw_nA (c idx : Nat) {n : Int32} {F : Nat × am_S → Option β} (hd : decode (am_code M) pc = .ok (.anewarray idx, 3) := by decide +kernel) (hw : Cond.classLink (am_name M).cls idx (am_cn c) ∈ lw_tbl) (hw2 : Cond.arrayOver (.object (am_cn c)) ∈ lw_tbl)
    (kk : ∀ a σ1, am_W g M σ0 (pc + 3) lv (.ref a :: st) σ1 (F (a, σ1)) k) : am_W g M σ0 pc lv (.int n :: st) σ ((am_nA σ c n).bind F) k :=
  am_W.bindI fun x h => by
    unfold am_nA at h
    split at h
    · cases h
    · rename_i hn
      cases h
      refine am_W.make (fun {p l e R s m args below meth c0 H locs cells slots Q ls} C hL hR r1 r2 w => ?_) (kk _ _)
      obtain ⟨c1, c2, c3, c4, c5, c6, c7, c8, c9, c10, c11, hW, hK⟩ := C
      refine W.anew c1 c2 c4 (am_word hK hW hw rfl) (am_wordO hK hW hw2) rfl hd rfl (fun z => hn (Or.inl z)) ?_ r1 r2 fun cA kA comp e1 e2 e3 e4 => ?_
      · have h1 : n.toNatClampNeg ≤ 67108864 := Nat.not_lt.mp fun z => hn (Or.inr z)
        omega
      · have ht := hR.top
        have w1 := w (H.push { cls := cA, slots := Array.replicate n.toNatClampNeg .null, vm := .none }) (hR.new (n := n.toNatClampNeg) ⟨{ cls := cA, slots := Array.replicate n.toNatClampNeg .null, vm := .none }, by simp, State.isArrayOf_alike hW.alike.symm ⟨(fun _ z => by cases z), kA, e2, comp, e3⟩, am_ok_moved hW.alike.symm ⟨kA, comp, e2, e3, e4⟩, (fun z => by cases z), ⟨by simp, by simp⟩, fun j hj => ⟨by simp [Array.getElem?_replicate, hj, am_up], rfl⟩⟩ (by simp) (fun q hq => by rw [Array.getElem?_push, if_neg (Nat.ne_of_lt hq)]))
        simp only [List.map_cons, am_up, ht] at w1
        exact w1
def am_df (c : Nat) : List Value := (am_fl c).map fun f => defaultValue f.2.2.2
def am_no (σ : am_S) (c : Nat) : am_S := am_new σ (am_N c) (.inr (c, am_df c))
theorem am_born {s : State} {c a : Nat} {kC : Class} {H1 : Heap} (hK : am_K g) (hW : g.1.WarmedH s.vm) (hc : c < am_NC) (hkC : s.vm.classes[g.2.2.1 c]? = some kC) (e1 : H1[a]? = some (blank (g.2.2.1 c) kC)) : am_at g a (.inr (c, am_df c)) H1 := by
  obtain ⟨hfc, -⟩ := am_class hK hW hc
  refine ⟨_, e1, rfl, rfl, fun j hj => ?_⟩
  obtain ⟨cf, kf, fi, fd, hi, he⟩ := am_slot hK hW hc hj
  have h3 := (u_facts hfc hkC (am_lays hK hW hc hj #[]) hi).2.2
  rw [(State.fieldFound?_type hi (am_ty_ok c hc j hj)).2] at h3
  rw [← he, k2_blank h3]
  have hl : j < (am_fl c).length := by rw [← am_N_eq c hc]; exact hj
  simp [vp_V, am_df, am_fd, hl, am_upd_def]
theorem aw_new (c idx : Nat) (hd : decode (am_code M) pc = .ok (.new idx, 3) := by decide +kernel) (hc : c < am_NC := by decide) (hw : Cond.classLink (am_name M).cls idx (am_cn c) ∈ lw_tbl) (hw2 : Cond.instantiable (am_cn c) (am_N c) ∈ lw_tbl) (hw3 : Cond.initialized (am_cn c) ∈ lw_tbl)
    (kk : am_W g M σ0 (pc + 3) lv (.ref σ.1 :: st) (am_no σ c) E k) : am_W g M σ0 pc lv st σ E k := by
  refine am_W.make (fun {p l e R s m args below meth c0 H locs cells slots Q ls} C hL hR r1 r2 w => ?_) kk
  obtain ⟨c1, c2, c3, c4, c5, c6, c7, c8, c9, c10, c11, hW, hK⟩ := C
  refine W.newcK c1 c2 c4 (am_word hK hW hw rfl) (am_word hK hW hw2 rfl) (am_word hK hW hw3 rfl) rfl hd r1 r2 (am_class hK hW hc).1 rfl fun H' kC e0 e1 e2 e3 => ?_
  have ht := hR.top
  have w1 := w H' (hR.new (n := am_N c) (am_born hK hW hc e0 e1) e2 e3)
  simp only [List.map_cons, am_up, ht] at w1
  exact w1
theorem am_L.size {nL : Nat} {lv : List (Option Value)} {ls : Array Slot} (h : am_L g nL lv ls) : ls.size = nL := h.1
/-- Object.<init> -/
theorem aw_obj (idx : Nat) {a : Nat} (hd : decode (am_code M) pc = .ok (.invokespecial idx, 3) := by decide +kernel) (hw : Cond.methodLink (am_name M).cls idx Lib.objectInit ∈ lw_tbl) (hw2 : Cond.instanceMethod Lib.objectInit ∈ lw_tbl) (hw3 : Cond.code Lib.objectInit ⟨#[0xb1]⟩ 1 none ∈ lw_tbl)
    (hr : ((st.map (am_up g)).map fun v => v.category).sum ≤ 8) (hf : 1 ≤ am_fr M := by decide) (hl : 20 ≤ am_lc M := by decide)
    (kk : am_W g M σ0 (pc + 3) lv st σ E k) : am_W g M σ0 pc lv (.ref a :: st) σ E k := by
  refine kk.same fun {p l e R s m args below meth c0 H locs cells slots Q ls} C hL hR w => ?_
  obtain ⟨c1, c2, c3, c4, c5, c6, c7, c8, c9, c10, c11, hW, hK⟩ := C
  refine W.objInit c1 c2 c4 (am_word hK hW hw rfl) (am_word hK hW hw2 rfl) (am_word hK hW hw3 rfl) (a := am_r g a) (rest := st.map (am_up g)) rfl (by rw [c3]; exact hL.size) rfl hd (by omega) ?_ w
  show 2 * 0 + _ + 12 ≤ _
  omega
/-! System.arraycopy between arrays of one primitive type -/
theorem am_pairsS (at_ : Nat) : ∀ (xs : List Value) (i : Nat) (c : Cell), (c.storePairs at_ (xs.zipIdx i)).cls = c.cls ∧ (c.storePairs at_ (xs.zipIdx i)).vm = c.vm ∧ (c.storePairs at_ (xs.zipIdx i)).slots.size = c.slots.size ∧
    ∀ q, q < c.slots.size → (c.storePairs at_ (xs.zipIdx i)).slots[q]? = if at_ + i ≤ q ∧ q < at_ + i + xs.length then xs[q - (at_ + i)]? else c.slots[q]?
  | [], i, c => by
    refine ⟨rfl, rfl, rfl, fun q _ => ?_⟩
    rw [if_neg (by simp only [List.length_nil]; omega)]
    rfl
  | x :: xs, i, c => by
    rw [List.zipIdx_cons]
    have ih := am_pairsS at_ xs (i + 1) (c.setSlot (at_ + i) x)
    show ((c.setSlot (at_ + i) x).storePairs at_ (xs.zipIdx (i + 1))).cls = _ ∧ ((c.setSlot (at_ + i) x).storePairs at_ (xs.zipIdx (i + 1))).vm = _ ∧ ((c.setSlot (at_ + i) x).storePairs at_ (xs.zipIdx (i + 1))).slots.size = _ ∧ ∀ q, q < c.slots.size → ((c.setSlot (at_ + i) x).storePairs at_ (xs.zipIdx (i + 1))).slots[q]? = _
    have hz : (c.setSlot (at_ + i) x).slots.size = c.slots.size := by simp [Cell.setSlot]
    refine ⟨ih.1, ih.2.1, ih.2.2.1.trans hz, fun q hq => ?_⟩
    rw [ih.2.2.2 q (by rw [hz]; exact hq)]
    by_cases h1 : q = at_ + i
    · subst h1
      rw [if_neg (by omega), if_pos (by simp only [List.length_cons]; omega), Cell.slots_setSlot_self _ hq]
      simp
    · rw [slot_ne _ _ (Ne.symm h1)]
      by_cases h2 : at_ + (i + 1) ≤ q ∧ q < at_ + (i + 1) + xs.length
      · rw [if_pos h2, if_pos (by simp only [List.length_cons]; omega)]
        rw [show q - (at_ + i) = (q - (at_ + (i + 1))) + 1 by omega, List.getElem?_cons_succ]
      · rw [if_neg h2, if_neg (by simp only [List.length_cons]; omega)]
def am_cp (σ : am_S) (ty : FieldType) (a0 : Nat) (sp : Int32) (a : Nat) (dp n : Int32) : Option am_S := match σ.2.2 a0, σ.2.2 a with
  | some (.inl x), some (.inl y) => if x.1 = ty ∧ y.1 = ty ∧ 8 ≤ a ∧ ¬ sp < 0 ∧ ¬ dp < 0 ∧ ¬ n < 0 ∧ sp.toNatClampNeg + n.toNatClampNeg ≤ x.2.1 ∧ dp.toNatClampNeg + n.toNatClampNeg ≤ y.2.1 then some (am_put σ a (.inl (ty, y.2.1, va_cpy x.2.2 y.2.2 sp.toNatClampNeg dp.toNatClampNeg n.toNatClampNeg))) else none
  | _, _ => none
theorem am_cp_some {σ σ1 : am_S} {ty : FieldType} {a0 a : Nat} {sp dp n : Int32} (h : am_cp σ ty a0 sp a dp n = some σ1) : ∃ (n0 n1 : Nat) (f0 f1 : Nat → Value), σ.2.2 a0 = some (.inl (ty, n0, f0)) ∧ σ.2.2 a = some (.inl (ty, n1, f1)) ∧ 8 ≤ a ∧ ¬ sp < 0 ∧ ¬ dp < 0 ∧ ¬ n < 0 ∧ sp.toNatClampNeg + n.toNatClampNeg ≤ n0 ∧ dp.toNatClampNeg + n.toNatClampNeg ≤ n1 ∧ σ1 = am_put σ a (.inl (ty, n1, va_cpy f0 f1 sp.toNatClampNeg dp.toNatClampNeg n.toNatClampNeg)) := by
  unfold am_cp at h
  split at h
  · rename_i x y hx hy
    split at h
    · rename_i hc
      obtain ⟨t0, n0, f0⟩ := x
      obtain ⟨t1, n1, f1⟩ := y
      obtain ⟨h1, h2, h3, h4, h5, h6, h7, h8⟩ := hc
      dsimp only at h1 h2 h7 h8
      subst h1
      subst h2
      cases h
      exact ⟨n0, n1, f0, f1, hx, hy, h3, h4, h5, h6, h7, h8, rfl⟩
    · cases h
  · cases h
theorem am_nn {z : Int32} (hz : ¬ z < 0) : z.toInt = (z.toNatClampNeg : Int) := by
  have hz0 : (0 : Int) ≤ z.toInt := by
    have := Int32.not_lt.mp hz
    simpa using Int32.le_iff_toInt_le.mp this
  show z.toInt = ((z.toInt.toNat : Nat) : Int)
  omega
theorem aw_cp (idx : Nat) (ty : FieldType) {a0 a : Nat} {sp dp n : Int32} {F : am_S → Option β} (hd : decode (am_code M) pc = .ok (.invokestatic idx, 3) := by decide +kernel) (hw : Cond.methodLink (am_name M).cls idx arraycopyName ∈ lw_tbl) (hw2 : Cond.native arraycopyName ∈ lw_tbl) (hw3 : Cond.static arraycopyName ∈ lw_tbl) (hw4 : Cond.initialized "java/lang/System" ∈ lw_tbl) (hprim : refKind ty = false := by rfl)
    (hr : ((st.map (am_up g)).map fun v => v.category).sum ≤ 8) (hf : 1 ≤ am_fr M := by decide) (hl : 8 + (nativeFrameWords "java/lang/System" "arraycopy" 5 + 11) ≤ am_lc M := by decide +kernel)
    (kk : ∀ σ1, am_W g M σ0 (pc + 3) lv st σ1 (F σ1) k) : am_W g M σ0 pc lv (.int n :: .int dp :: .ref a :: .int sp :: .ref a0 :: st) σ ((am_cp σ ty a0 sp a dp n).bind F) k :=
  am_W.bindI fun σ1 h => by
    obtain ⟨n0, n1, f0, f1, h0, h1, h8, g1, g2, g3, g4, g5, rfl⟩ := am_cp_some h
    intro res σ' hE
    obtain ⟨a2, b2, j⟩ := kk _ res σ' hE
    refine ⟨a2, b2, fun p l e R s m args below meth c H locs ls C hc hs r1 r2 hR hL hll => ?_⟩
    have C' := C
    obtain ⟨c1, c2, c3, c4, c5, c6, c7, c8, c9, c10, c11, hW, hK⟩ := C
    obtain ⟨ce0, q1, q2, q3, q4, q5, q6⟩ := hR.1 a0 _ h0
    obtain ⟨ce1, p1, p2, p3, p4, p5, p6⟩ := hR.1 a _ h1
    obtain ⟨v0, k0, hk0, cm0, hkk0⟩ := State.isArrayOf_alike hW.alike q2
    obtain ⟨v1, k1, hk1, cm1, hkk1⟩ := State.isArrayOf_alike hW.alike p2
    intro T hT X
    have hget : ∀ i, i < n.toNatClampNeg → ce0.slots.getD (sp.toNatClampNeg + i) .null = am_up g (f0 (sp.toNatClampNeg + i)) := fun i hi => by
      rw [Array.getD_eq_getD_getElem?, (q6 _ (by dsimp only; omega)).1]
      rfl
    obtain ⟨vm', X', step⟩ := X.arraycopy c1 c4 (am_word hK hW hw rfl) (am_word hK hW hw2 rfl) (am_word hK hW hw3 rfl) (am_word hK hW hw4 rfl) (src := am_r g a0) (dst := am_r g a) (cs := ce0) (cd := ce1) (srcPos := sp) (destPos := dp) (n := n) (by rw [hT]; exact q1) (by rw [hT]; exact p1)
      v0 v1 q4 p4 hk0 hk1 hkk0 hkk1 (by simp [hprim]) g1 g2 g3
      (by have hq5 := q5.1; rw [am_nn g1, am_nn g3]; dsimp only at hq5 ⊢; omega)
      (by have hp5 := p5.1; rw [am_nn g2, am_nn g3]; dsimp only at hp5 ⊢; omega)
      (fun vm₁ _ i hi => by
        rw [hget i hi]
        refine ⟨(q6 _ (by dsimp only; omega)).2, ?_⟩
        have hf := (q6 (sp.toNatClampNeg + i) (by dsimp only; omega)).2
        dsimp only at hf
        revert hf
        generalize am_up g (f0 (sp.toNatClampNeg + i)) = z
        intro hf
        cases z <;> first | exact trivial | (exfalso; revert hf hprim; cases ty <;> simp [fits, refKind]))
      (g := F0 m pc ls (.int n :: .int dp :: .ref (am_r g a) :: .int sp :: .ref (am_r g a0) :: st.map (am_up g))) rfl (by rw [c3]; exact hL.size) (rest := st.map (am_up g)) rfl (by rw [c2]; exact hd) (by omega) (by show 2 * 0 + _ + _ ≤ _; omega)
    have hlt : am_r g a < H.size := (Array.getElem?_eq_some_iff.mp p1).1
    have hheap : ((T.setVm vm').setCell (am_r g a) (copied ce0 ce1 sp dp n)).heap = H.setIfInBounds (am_r g a) (copied ce0 ce1 sp dp n) := by rw [← hT]; rfl
    obtain ⟨s1, s2, s3, s4⟩ := am_pairsS dp.toNatClampNeg (ce0.stretch sp.toNatClampNeg n.toNatClampNeg) 0 ce1
    have hlen : (ce0.stretch sp.toNatClampNeg n.toNatClampNeg).length = n.toNatClampNeg := by simp [Cell.stretch]
    have hR1 : am_R g (am_put σ a (.inl (ty, n1, va_cpy f0 f1 sp.toNatClampNeg dp.toNatClampNeg n.toNatClampNeg))) (H.setIfInBounds (am_r g a) (copied ce0 ce1 sp dp n)) := by
      refine hR.put hK h8 ⟨copied ce0 ce1 sp dp n, by simp [Array.getElem?_setIfInBounds, hlt], ?_, ?_, ?_, ?_, fun q hq => ?_⟩ (by simp) (fun q hq => by simp [Array.getElem?_setIfInBounds, Ne.symm hq])
      · obtain ⟨u1, kk1, u2, u3⟩ := p2
        exact ⟨fun z hz => u1 z (by rw [← s2]; exact hz), kk1, by rw [show (copied ce0 ce1 sp dp n).cls = ce1.cls from s1]; exact u2, u3⟩
      · rw [show (copied ce0 ce1 sp dp n).cls = ce1.cls from s1]; exact p3
      · rw [show (copied ce0 ce1 sp dp n).vm = ce1.vm from s2]; exact p4
      · rw [show (copied ce0 ce1 sp dp n).slots.size = ce1.slots.size from s3]; exact p5
      · dsimp only at hq ⊢
        have e := s4 q (Nat.lt_of_lt_of_le hq p5.1)
        rw [hlen, Nat.add_zero] at e
        rw [show (copied ce0 ce1 sp dp n).slots[q]? = _ from e]
        unfold va_cpy
        by_cases hz : dp.toNatClampNeg ≤ q ∧ q < dp.toNatClampNeg + n.toNatClampNeg
        · rw [if_pos hz, if_pos hz]
          refine ⟨?_, (q6 _ (by dsimp only; omega)).2⟩
          unfold Cell.stretch
          rw [List.getElem?_map, List.getElem?_range (by omega)]
          exact congrArg some (hget _ (by omega))
        · rw [if_neg hz, if_neg hz]
          exact p6 q hq
    obtain ⟨t, t1, t2⟩ := j p l e R s m args below meth c _ (locs ++ (ce0.stretch sp.toNatClampNeg n.toNatClampNeg).zipIdx.map fun q => ⟨am_r g a, dp.toNatClampNeg + q.2⟩) ls C' hc hs r1 r2 hR1 hL (fun q hq => by
      rcases List.mem_append.mp hq with hz | hz
      · exact hll q hz
      · obtain ⟨z, -, hz⟩ := List.mem_map.mp hz
        rw [← hz]
        show _ ≤ am_r g a
        rw [am_r_ge h8]
        omega) _ hheap X'
    exact ⟨t, step t t1, t2⟩
end AWA
end
section
/-! ===== a method's contract, returns, calls ===== -/
def am_cw (M : am_M) : Cond := match am_hand M with
  | [] => .code (am_name M) (am_code M) (am_maxL M) (am_ret M)
  | q :: r => .codeWith (am_name M) (am_code M) (am_maxL M) (am_ret M) (q :: r)
theorem am_cw_good (M : am_M) : goodWord (am_cw M) = true := by
  unfold am_cw
  split <;> rfl
theorem am_cw_spec {M : am_M} {s : State} {m : MethodId} {args : Array Value} (hn : s.methodNamed? (am_name M) = some m) (h : (am_cw M).before args s = true) :
    ∃ meth c, s.vm.method? m = some meth ∧ meth.code = some c ∧ c.code = am_code M ∧ c.maxLocals = am_maxL M ∧ meth.sig.returnType = am_ret M ∧ meth.locks = false ∧ c.exceptionTable.toList.map (fun x => (x.startPc, x.endPc, x.handlerPc, x.catchType)) = am_hand M ∧ parseMethodDescriptor (am_name M).desc = some meth.sig := by
  unfold am_cw at h
  split at h
  · rename_i hh
    obtain ⟨meth, c, h1, h2, h3, h4, h5, h6, h7, h8⟩ := Cond.code_spec hn h
    refine ⟨meth, c, h1, h2, h3, h4, h5, h6, ?_, h8⟩
    rw [hh]
    have : c.exceptionTable = #[] := by simpa using h7
    rw [this]
    rfl
  · rename_i q r hh
    obtain ⟨m', meth, c, h0, h1, h2, h3, h4, h5, h6, h7, h8⟩ := Cond.codeWith_spec h
    cases hn.symm.trans h0
    exact ⟨meth, c, h1, h2, h3, h4, h6, h7, by rw [hh]; exact h5, h8⟩
def am_rm (M : am_M) (σ σ' : am_S) : Room := { frames := am_fr M, cells := σ'.1 - σ.1, slots := σ'.2.1 - σ.2.1, locals := am_lc M }
/-- from these arguments and this heap the method comes to this end, with this heap -/
def am_Mt (g : am_G) (M : am_M) (as : List Value) (σ : am_S) (res : Outcome) (σ' : am_S) : Prop :=
  ∀ l : Launch, l.flags = flags0 → am_K g → MetFree l (am_name M) (headSpec [am_cw M] (am_rm M σ σ')) (fun a U => a = (as.map (am_up g)).toArray ∧ g.1.WarmedH U.vm ∧ am_R g σ U.heap) (fun _ _ _ _ _ => True)
    (fun _ s o t => o = am_upO g res ∧ am_R g σ' t.heap ∧ s.WarmedH t.vm ∧ ∃ L : List Loc, s.sameButNew ({ t with vm := s.vm } : State) L (σ'.1 - σ.1) (σ'.2.1 - σ.2.1) ∧ ∀ q ∈ L, g.1.heap.size ≤ q.base)
def am_Met (g : am_G) (M : am_M) (as : List Value) (σ : am_S) (X : Option (Outcome × am_S)) : Prop :=
  ∀ (res : Outcome) (σ' : am_S), X = some (res, σ') → σ.1 ≤ σ'.1 ∧ σ.2.1 ≤ σ'.2.1 ∧ am_Mt g M as σ res σ'
theorem am_L_entry {g : am_G} {nL : Nat} {as : List Value} (h : ∀ v ∈ as, v.category = 1) (hn : as.length ≤ nL) :
    am_L g nL (as.map some ++ List.replicate (nL - as.length) none) (((as.map (am_up g)).map Slot.val ++ List.replicate (nL - (as.map (am_up g)).length) Slot.unset).toArray) := by
  have key : ∀ (i : Nat) (z : Slot), (((as.map (am_up g)).map Slot.val ++ List.replicate (nL - (as.map (am_up g)).length) Slot.unset).toArray)[i]? = some z → z = .unset ∨ ∃ v, v ∈ as ∧ z = .val (am_up g v) := by
    intro i z hz
    have hz' : ((as.map (am_up g)).map Slot.val ++ List.replicate (nL - (as.map (am_up g)).length) Slot.unset)[i]? = some z := by simpa using hz
    have hm := List.mem_of_getElem? hz'
    rcases List.mem_append.mp hm with h1 | h1
    · obtain ⟨w, hw, rfl⟩ := List.mem_map.mp h1
      obtain ⟨v, hv, rfl⟩ := List.mem_map.mp hw
      exact Or.inr ⟨v, hv, rfl⟩
    · exact Or.inl (List.eq_of_mem_replicate h1)
  refine ⟨by simp; omega, ⟨fun i v hv hc => ?_, fun i hi => ?_⟩, fun i v hv => ?_⟩
  · rcases key i _ hv with h1 | ⟨w, hw, h1⟩
    · cases h1
    · cases h1
      rw [am_cat, h w hw] at hc
      cases hc
  · rcases key i _ hi with h1 | ⟨w, hw, h1⟩ <;> cases h1
  · have hl : i < as.length := by
      by_cases hl : i < as.length
      · exact hl
      · rw [List.getElem?_append_right (by simpa using hl)] at hv
        rw [List.getElem?_replicate] at hv
        split at hv <;> cases hv
    rw [List.getElem?_append_left (by simpa using hl), List.getElem?_map] at hv
    obtain ⟨w, hw, he⟩ := Option.map_eq_some_iff.mp hv
    cases he
    refine ⟨h v (List.mem_of_getElem? hw), ?_⟩
    have hv2 := (List.getElem?_eq_some_iff.mp hw).2
    simp [List.getElem?_append_left, hl, hv2]
theorem am_Met.of {g : am_G} {M : am_M} {σ : am_S} {β : Type} {E : Option β} {k : β → Option (Outcome × am_S)} {as : List Value} {lv : List (Option Value)} (hcat : ∀ v ∈ as, v.category = 1) (hlen : as.length ≤ am_maxL M) (hlv : as.map some ++ List.replicate (am_maxL M - as.length) none = lv) (hy : plainName (am_name M).cls = true)
    (h : am_W g M σ 0 lv [] σ E k) : am_Met g M as σ (E.bind k) := by
  intro res σ' hE
  obtain ⟨h1, h2, hj⟩ := h res σ' hE
  refine ⟨h1, h2, fun l hfl hK => ?_⟩
  refine MetFree.of_bodyS (code := am_code M) (maxLocals := am_maxL M) (ret := am_ret M) hy ?_ ?_
  · intro args s m hp hn
    obtain ⟨meth, c, q1, q2, q3, q4, q5, q6, -, -⟩ := am_cw_spec hn (atoms_spec (ws := [am_cw M]) hp _ List.mem_cons_self)
    exact ⟨meth, c, q1, q2, q3, q4, q5, q6⟩
  · intro p e s m args below meth c s₁ B hml hP _
    obtain ⟨hargs, hW, hR⟩ := hP
    have hh0 : s₁.heap = s.heap := by rw [B.state]; rfl
    obtain ⟨meth', c', q1, q2, q3, q4, q5, q6, q7, q8⟩ := am_cw_spec B.named (atoms_spec (ws := [am_cw M]) B.pre _ List.mem_cons_self)
    cases B.method.symm.trans q1
    cases (Stand.of_body B).code.symm.trans q2
    have C : am_Cx g M p l e (am_rm M σ σ') s m meth c := ⟨B.exec, B.bytes, hml, findClass_of_methodNamed B.named, B.returns, B.notSynchronized, (name_of_methodNamed B.named B.method).1, q7, Nat.le_refl _, Nat.le_refl _, ⟨hfl, hR.2.2.2⟩, hW, hK⟩
    have hL := am_L_entry (g := g) (nL := am_maxL M) hcat hlen
    rw [hlv] at hL
    have w := hj p l e (am_rm M σ σ') s m args below meth c s.heap [] _ C (Nat.le_refl _) (Nat.le_refl _) (Nat.le_refl _) (Nat.le_refl _) hR hL (fun q hq => by cases hq)
    rw [Nat.sub_self, Nat.sub_self] at w
    obtain ⟨t, a1, b1, b2, b3, b4, b5⟩ := w s₁ hh0 (Stand.of_body B)
    refine ⟨t, _, ?_, b1, b2, rfl, b3, b4, b5⟩
    rw [hargs, entry_eq m (as.map (am_up g)) (fun v hv => ?_) (am_maxL M)]
    · exact a1
    · obtain ⟨w', hw', rfl⟩ := List.mem_map.mp hv
      rw [am_cat]
      exact hcat w' hw'
section RT
variable {g : am_G} {M : am_M} {σ0 σ : am_S} {pc : Nat} {lv : List (Option Value)}
abbrev am_kI (x : Int32 × am_S) : Option (Outcome × am_S) := some (.returned (some (.int x.1)), x.2)
abbrev am_kA (x : Nat × am_S) : Option (Outcome × am_S) := some (.returned (some (.ref x.1)), x.2)
abbrev am_kV (σ : am_S) : Option (Outcome × am_S) := some (.returned none, σ)
theorem am_weak {p : Program} {l : Launch} {e : Env} {R : Room} {s : State} {m : MethodId} {args : Array Value} {below : List Frame} {meth : Method} {c : Code} {H : Heap} {locs : List Loc} {cells slots : Nat} {Q Q' : State → Prop} {gf : JFrame}
    (h : W p l e R s m args below meth c H locs cells slots Q gf) (hq : ∀ t, Q t → Q' t) : W p l e R s m args below meth c H locs cells slots Q' gf := by
  intro T hT X
  obtain ⟨t, a, b⟩ := h T hT X
  exact ⟨t, a, hq t b⟩
def am_QR (g : am_G) (σ : am_S) (res : Outcome) : Array Value → State → Outcome → State → Prop := fun _ _ o t => o = am_upO g res ∧ am_R g σ t.heap
theorem am_endR {below : List Frame} {args : Array Value} {s t : State} {res : Outcome} (h : MQ below (am_QR g σ res) args s (σ.1 - σ0.1) (σ.2.1 - σ0.2.1) (fun q => g.1.heap.size ≤ q) t) : am_End g below s σ0 σ res t := by
  obtain ⟨o, h1, h2, ⟨rfl, h3⟩, L, ⟨h4, h5, h6⟩, h7⟩ := h
  exact ⟨h1, h2, h3, h5, L, h6, h7⟩
theorem aw_iret {v : Int32} (hd : decode (am_code M) pc = .ok (.ireturn, 1) := by decide +kernel) (hr : am_ret M = some .int := by rfl) : am_W g M σ0 pc lv [.int v] σ (some (v, σ)) am_kI := by
  intro res σ' hE
  cases hE
  refine ⟨Nat.le_refl _, Nat.le_refl _, fun p l e R s m args below meth c H locs ls C hc hs h1 h2 hR hL hl => ?_⟩
  refine am_weak (W.iret (Qc := am_QR g σ (.returned (some (.int v)))) (free := fun q => g.1.heap.size ≤ q) C.1 C.2.1 (by rw [C.2.2.2.2.1]; exact hr) (fun t ht _ => ⟨rfl, by rw [ht]; exact hR⟩) hl hd C.2.2.2.2.2.1) fun t h => am_endR h
def am_z (v : Int32) (σ : am_S) : Option (Int32 × am_S) := if v = 0 ∨ v = 1 then some (v, σ) else none
theorem aw_zret {v : Int32} (hd : decode (am_code M) pc = .ok (.ireturn, 1) := by decide +kernel) (hr : am_ret M = some .boolean := by rfl) : am_W g M σ0 pc lv [.int v] σ (am_z v σ) am_kI := by
  intro res σ' hE
  unfold am_z at hE
  split at hE
  · rename_i hv
    cases hE
    refine ⟨Nat.le_refl _, Nat.le_refl _, fun p l e R s m args below meth c H locs ls C hc hs h1 h2 hR hL hl => ?_⟩
    refine am_weak (W.zret (ty := .boolean) (Qc := am_QR g σ (.returned (some (.int v)))) (free := fun q => g.1.heap.size ≤ q) C.1 C.2.1 (by rw [C.2.2.2.2.1]; exact hr) (by rcases hv with rfl | rfl <;> rfl) (fun t ht _ => ⟨rfl, by rw [ht]; exact hR⟩) hl hd C.2.2.2.2.2.1) fun t h => am_endR h
  · cases hE
theorem aw_vret (hd : decode (am_code M) pc = .ok (.return_, 1) := by decide +kernel) (hr : am_ret M = none := by rfl) : am_W g M σ0 pc lv [] σ (some σ) am_kV := by
  intro res σ' hE
  cases hE
  refine ⟨Nat.le_refl _, Nat.le_refl _, fun p l e R s m args below meth c H locs ls C hc hs h1 h2 hR hL hl => ?_⟩
  refine am_weak (W.vret (Qc := am_QR g σ (.returned none)) (free := fun q => g.1.heap.size ≤ q) C.1 C.2.1 (by rw [C.2.2.2.2.1]; exact hr) (fun t ht _ => ⟨rfl, by rw [ht]; exact hR⟩) hl hd C.2.2.2.2.2.1) fun t h => am_endR h
theorem aw_aret {v : Nat} {t : FieldType} (hd : decode (am_code M) pc = .ok (.areturn, 1) := by decide +kernel) (hr : am_ret M = some t := by rfl) (ht : am_isR t = true := by rfl) : am_W g M σ0 pc lv [.ref v] σ (some (v, σ)) am_kA := by
  intro res σ' hE
  cases hE
  refine ⟨Nat.le_refl _, Nat.le_refl _, fun p l e R s m args below meth c H locs ls C hc hs h1 h2 hR hL hl => ?_⟩
  refine am_weak (W.aret (v := .ref (am_r g v)) (rt := t) (Qc := am_QR g σ (.returned (some (.ref v)))) (free := fun q => g.1.heap.size ≤ q) C.1 C.2.1 (by rw [C.2.2.2.2.1]; exact hr) ?_ (Or.inr ⟨_, rfl⟩) (fun t ht _ => ⟨rfl, by rw [ht]; exact hR⟩) hl hd C.2.2.2.2.2.1) fun t h => am_endR h
  cases t <;> first | (cases ht; done) | exact Or.inl ⟨_, rfl⟩ | exact Or.inr ⟨_, rfl⟩
end RT
end
section
section BK
variable {g : am_G} {p : Program} {l : Launch} {e : Env} {R : Room} {s : State} {m : MethodId} {args : Array Value} {below : List Frame} {meth : Method} {c : Code} {T : State} {locs : List Loc} {cells slots : Nat}
/-- a call, from behind its resolution to its return or to the exception's note over the caller's frame -/
def am_bk (p : Program) (e : Env) (below : List Frame) (T T' : State) (gf : JFrame) (mk : MethodId) (a : Array Value) (len : Nat) : Outcome → Prop
  | .returned v => Steps p.tables e below (doInvoke e (T.setTop gf) [] mk a).1 (T'.setTop { gf with pc := gf.pc + len, stack := v.toList ++ gf.stack })
  | .threw x => Steps p.tables e below (doInvoke e (T.setTop gf) [] mk a).1 ((T'.setTop gf).pushFrame (.throwing x))
theorem am_back (X : Stand p l e R s m args below meth c T locs cells slots) (hfl : l.flags = flags0) (hK : am_K g) (hW : g.1.WarmedH T.vm) {M : am_M} {as : List Value} {σ σ' : am_S} {res : Outcome} (hm : am_Mt g M as σ res σ') (hR : am_R g σ T.heap)
    (hcw : ∀ a', (am_cw M).before a' T = true) (hini : ∀ a', (Cond.initialized (am_name M).cls).before a' T = true) {mk : MethodId} (hn : T.methodNamed? (am_name M) = some mk) {gf : JFrame} (hg : gf.method = m) (hsize : gf.locals.size = c.maxLocals) {ig : Instr} {len : Nat} (hdg : decode c.code gf.pc = .ok (ig, len))
    (hWt : 2 * gf.monitorRoom + (gf.stack.map fun v => v.category).sum ≤ 8) (hfr : am_fr M + 1 ≤ R.frames) (hlo : 8 + (am_maxL M + 11) + am_lc M ≤ R.locals) (hce : cells + (σ'.1 - σ.1) ≤ R.cells) (hsl : slots + (σ'.2.1 - σ.2.1) ≤ R.slots) :
    ∃ (T' : State) (L : List Loc), Stand p l e R s m args below meth c T' (locs ++ L) (cells + (σ'.1 - σ.1)) (slots + (σ'.2.1 - σ.2.1)) ∧ am_R g σ' T'.heap ∧ (∀ q ∈ L, g.1.heap.size ≤ q.base) ∧ am_bk p e below T T' gf mk (as.map (am_up g)).toArray len (am_upO g res) := by
  obtain ⟨methY, cY, hmY, hcY, -, hlY, -, -, -, -⟩ := am_cw_spec hn (hcw #[])
  obtain ⟨kY, hkY, -⟩ := className_of_methodNamed hn
  have hinitY : kY.init = .initialized := Cond.initialized_spec (findClass_of_methodNamed hn) hkY (hini #[])
  have h : At T gf.method c below := by rw [hg]; exact X.here
  have happ : (headSpec [am_cw M] (am_rm M σ σ')).appliesLoose (am_name M) e.platform (T.calling gf mk (as.map (am_up g)).toArray) = true :=
    Spec.appliesLoose_calling (g := gf) h hdg hn hkY hinitY (X.room_calling (g := gf) (R' := am_rm M σ σ') hsize hmY hcY hfr (by rw [hlY]; show _ ≤ _; have : (am_rm M σ σ').locals = am_lc M := rfl; omega) hce hsl)
      (atoms_intro fun w hw => by rw [List.mem_singleton.mp hw]; exact hcw _)
  obtain ⟨mid, hmid⟩ := h.above
  have hfr' : (T.setTop gf).frames = (.java gf :: mid) ++ below := by rw [State.frames_setTop' gf h.top, hmid]; rfl
  obtain ⟨o, s₂, hsteps, -, hend, hq⟩ := Steps.callFree (hm l hfl hK) p X.admits X.cas X.clock (acts := []) hfr' happ ⟨rfl, hW, hR⟩ trivial
  obtain ⟨ho, hR', hW₂, L, hsame₂, hL⟩ := hq
  rw [State.frames_setTop' gf h.top] at hend
  obtain ⟨e2, q2, q3, q4, q5, q6⟩ := hsame₂
  have e3 : s₂ = ({ (T.calling gf mk (as.map (am_up g)).toArray).setFrames s₂.frames with heap := s₂.heap, slotsUsed := s₂.slotsUsed } : State).setVm s₂.vm := by
    have : s₂ = ({ s₂ with vm := (T.calling gf mk (as.map (am_up g)).toArray).vm } : State).setVm s₂.vm := rfl
    have e2' : ({ s₂ with vm := (T.calling gf mk (as.map (am_up g)).toArray).vm } : State) = { (T.calling gf mk (as.map (am_up g)).toArray).setFrames s₂.frames with heap := s₂.heap, slotsUsed := s₂.slotsUsed } := e2
    rw [e2'] at this
    exact this
  have hW' : T.WarmedH s₂.vm := hW₂
  obtain ⟨g₀, hg0⟩ := Option.isSome_iff_exists.mp h.top
  obtain ⟨r, hr⟩ := State.topJava?_eq_some.mp hg0
  have hr' : (({ T with heap := s₂.heap, slotsUsed := s₂.slotsUsed } : State).setVm s₂.vm).frames = .java g₀ :: r := hr
  have hsame : T.sameButNew ({ T with heap := s₂.heap, slotsUsed := s₂.slotsUsed } : State) L (σ'.1 - σ.1) (σ'.2.1 - σ.2.1) := by
    refine ⟨?_, q2, q3, q4, q5, q6⟩
    obtain ⟨t, ht, -⟩ := State.frames_cons hr
    show ({ T with heap := s₂.heap, slotsUsed := s₂.slotsUsed } : State) = { T.setFrames T.frames with heap := s₂.heap, slotsUsed := s₂.slotsUsed }
    rw [State.setFrames_self ht]
  subst hg
  refine ⟨(({ T with heap := s₂.heap, slotsUsed := s₂.slotsUsed } : State).setVm s₂.vm), L,
    ⟨X.admits, X.cas, X.clock, X.frames, X.room, X.hears, X.method, X.code, (X.here.setHeapUsed s₂.heap s₂.slotsUsed).setVm hW'.alike, X.tail, State.WarmedH.trans X.warmed hW', X.limits, X.bytes, X.same.trans (hsame.setVm s.vm)⟩, hR', hL, ?_⟩
  rw [← ho]
  cases o with
  | returned v =>
    obtain ⟨c₂, i₂, len₂, hc₂, hd₂, hf₂⟩ := hend
    have hcc : c₂ = c := by
      have h1 : s₂.code? gf.method = T.code? gf.method := by
        rw [State.code?_eq, State.code?_eq, hW'.alike.method?]
      exact Option.some.inj (hc₂.symm.trans (h1.trans h.code))
    subst hcc
    have hlen : len₂ = len := by rw [hdg] at hd₂; cases hd₂; rfl
    subst hlen
    have hs₂ : s₂ = (({ T with heap := s₂.heap, slotsUsed := s₂.slotsUsed } : State).setVm s₂.vm).setTop { gf with pc := gf.pc + len₂, stack := v.toList ++ gf.stack } := by
      refine e3.trans ?_
      rw [hf₂, State.calling_eq h.top, State.setFrames_setFrames, State.setTop_of_frames _ hr', hr]
      rfl
    show Steps p.tables e below _ ((({ T with heap := s₂.heap, slotsUsed := s₂.slotsUsed } : State).setVm s₂.vm).setTop { gf with pc := gf.pc + len₂, stack := v.toList ++ gf.stack })
    rw [← hs₂]
    exact hsteps
  | threw x =>
    have hf₂ : s₂.frames = .throwing x :: .java gf :: T.frames.tail := hend
    have hs₂ : s₂ = ((({ T with heap := s₂.heap, slotsUsed := s₂.slotsUsed } : State).setVm s₂.vm).setTop gf).pushFrame (.throwing x) := by
      refine e3.trans ?_
      rw [hf₂, State.calling_eq h.top, State.setFrames_setFrames, State.pushFrame, State.frames_setTop _ hr', State.setTop_of_frames _ hr', State.setFrames_setFrames, hr]
      rfl
    show Steps p.tables e below _ (((({ T with heap := s₂.heap, slotsUsed := s₂.slotsUsed } : State).setVm s₂.vm).setTop gf).pushFrame (.throwing x))
    rw [← hs₂]
    exact hsteps
end BK
end
section
/-! ===== the invoking instructions, up to the invocation itself ===== -/
def am_go (g : am_G) (M M' : am_M) (σ : am_S) (pc : Nat) (as st : List Value) : Prop :=
  ∀ {p : Program} {l : Launch} {e : Env} {R : Room} {s : State} {m : MethodId} {args : Array Value} {below : List Frame} {meth : Method} {c : Code} {T : State} {locs : List Loc} {cells slots : Nat} {ls : Array Slot},
    am_Cx g M p l e R s m meth c → Stand p l e R s m args below meth c T locs cells slots → am_R g σ T.heap →
    ∃ (vm₁ : Vm) (mk : MethodId) (ig : Instr), s.WarmedH vm₁ ∧ Stand p l e R s m args below meth c (T.setVm vm₁) locs cells slots ∧ (T.setVm vm₁).methodNamed? (am_name M') = some mk ∧ decode c.code pc = .ok (ig, 3) ∧
      ∀ target, Steps p.tables e below (doInvoke e ((T.setVm vm₁).setTop (F0 m pc ls (st.map (am_up g)))) [] mk (as.map (am_up g)).toArray).1 target → Steps p.tables e below (T.setTop (F0 m pc ls ((as.reverse ++ st).map (am_up g)))) target
/-- the words on the callee that every call needs -/
def am_cal (M' : am_M) (n : Nat) : Prop := am_cw M' ∈ lw_tbl ∧ Cond.initialized (am_name M').cls ∈ lw_tbl ∧ ((am_name M').cls ≠ "java/lang/invoke/MethodHandle" ∧ (am_name M').cls ≠ "java/lang/invoke/VarHandle") ∧ (parseMethodDescriptor (am_name M').desc).map (fun d => d.parameters.length) = some n
theorem am_cal.len {M' : am_M} {n : Nat} (h : am_cal M' n) : ∀ sig, parseMethodDescriptor (am_name M').desc = some sig → n = sig.parameters.length := fun sig hs => by
  have h2 := h.2.2.2
  rw [hs] at h2
  exact (Option.some.inj h2).symm
section GO
variable {g : am_G} {M M' : am_M} {σ : am_S} {pc : Nat} {As st : List Value}
theorem am_goV (idx c0 : Nat) {a : Nat} {fs : List Value} (hd : decode (am_code M) pc = .ok (.invokevirtual idx, 3)) (hw : Cond.methodLink (am_name M).cls idx (am_name M') ∈ lw_tbl) (hc : am_cal M' As.length) (hi : Cond.instanceMethod (am_name M') ∈ lw_tbl) (hs : Cond.selects (am_cn c0) (am_name M') (am_name M') ∈ lw_tbl) (hc0 : c0 < am_NC)
    (ha : σ.2.2 a = some (.inr (c0, fs))) : am_go g M M' σ pc (.ref a :: As) st := by
  intro p l e R s m args below meth c T locs cells slots ls C X hR
  obtain ⟨c1, c2, c3, c4, c5, c6, c7, c8, c9, c10, c11, hW, hK⟩ := C
  obtain ⟨cell, q1, q2, q3, q4⟩ := hR.1 a _ ha
  have hcl := (am_class hK hW hc0).1
  obtain ⟨mk, methM, hnamed, hmethM, hstM, habM⟩ := Cond.instanceMethod_spec (am_word (args := args) hK hW hi rfl)
  obtain ⟨methM', cM, hmethM', -, -, -, -, -, -, hsigM⟩ := am_cw_spec hnamed (am_word (args := args) hK hW hc.1 (am_cw_good M'))
  cases hmethM.symm.trans hmethM'
  obtain ⟨c2', r2, m2, p1, p2, p3, p4, kP, hkP, hkPi⟩ := Cond.selects_spec (am_word (args := args) hK hW hs rfl)
  have hcls : s.vm.findClass (am_cn c0) = some cell.cls := by rw [q2]; exact hcl
  cases hcls.symm.trans p1
  cases (State.methodFound?_of_named hnamed hc.2.2.1).symm.trans p2
  cases hnamed.symm.trans p3
  have hselP : selectMethod e.platform s.vm cell.cls mk = .method mk := by rw [Launch.admits_selectMethod X.admits]; exact p4
  have hlen : (As.map (am_up g)).length = methM.sig.parameters.length := by rw [List.length_map]; exact hc.len _ hsigM
  obtain ⟨vm₁, X₁, hstep₁⟩ := X.invokevirtual c1 c4 (am_word hK hW hw rfl) hnamed hmethM hstM hkP hkPi hc.2.2.1 (a := am_r g a) (cell := cell) q1
    (fun z h => by rw [q3] at h; cases h) hselP hmethM habM hkP hkPi (g := F0 m pc ls (((Value.ref a :: As).reverse ++ st).map (am_up g))) rfl (argsL := As.map (am_up g)) (rest := st.map (am_up g)) hlen (by simp [am_up]) (by rw [c2]; exact hd)
  refine ⟨vm₁, mk, _, X₁.warmed, X₁, X₁.named hnamed, by rw [c2]; exact hd, fun target h => hstep₁ _ fun acts => ?_⟩
  rw [doInvoke_state]
  exact h
theorem am_goS (idx : Nat) (hd : decode (am_code M) pc = .ok (.invokestatic idx, 3)) (hw : Cond.methodLink (am_name M).cls idx (am_name M') ∈ lw_tbl) (hc : am_cal M' As.length) (hst : Cond.static (am_name M') ∈ lw_tbl) : am_go g M M' σ pc As st := by
  intro p l e R s m args below meth c T locs cells slots ls C X hR
  obtain ⟨c1, c2, c3, c4, c5, c6, c7, c8, c9, c10, c11, hW, hK⟩ := C
  have hcw := am_word (args := args) hK hW hc.1 (am_cw_good M')
  obtain ⟨mk, hnamed⟩ : ∃ mk, s.methodNamed? (am_name M') = some mk := by
    unfold am_cw at hcw
    split at hcw
    · exact Cond.code_named hcw
    · obtain ⟨mk, _, _, h0, -⟩ := Cond.codeWith_spec hcw
      exact ⟨mk, h0⟩
  obtain ⟨methM, cM, hmethM, -, -, -, -, -, -, hsigM⟩ := am_cw_spec hnamed hcw
  have hstatic : methM.isStatic = true := Cond.static_spec hnamed hmethM (am_word (args := args) hK hW hst rfl)
  obtain ⟨kP, hkP, -⟩ := className_of_methodNamed hnamed
  have hinitP : kP.init = .initialized := Cond.initialized_spec (findClass_of_methodNamed hnamed) hkP (am_word (args := args) hK hW hc.2.1 rfl)
  have hlen : (As.map (am_up g)).length = methM.sig.parameters.length := by rw [List.length_map]; exact hc.len _ hsigM
  obtain ⟨vm₁, X₁, hstep₁⟩ := X.invokestatic c1 c4 (am_word hK hW hw rfl) hnamed hmethM hstatic hkP hinitP hc.2.2.1 (g := F0 m pc ls ((As.reverse ++ st).map (am_up g))) rfl (argsL := As.map (am_up g)) (rest := st.map (am_up g)) hlen (by simp) (by rw [c2]; exact hd)
  refine ⟨vm₁, mk, _, X₁.warmed, X₁, X₁.named hnamed, by rw [c2]; exact hd, fun target h => hstep₁ _ fun acts => ?_⟩
  rw [doInvoke_state]
  exact h
theorem am_goI (idx : Nat) {a : Nat} (hd : decode (am_code M) pc = .ok (.invokespecial idx, 3)) (hw : Cond.methodLink (am_name M).cls idx (am_name M') ∈ lw_tbl) (hc : am_cal M' As.length) (hi : Cond.instanceMethod (am_name M') ∈ lw_tbl) (hy1 : (am_name M').name = "<init>") (hh : am_hand M' = []) (hret : am_ret M' = none) : am_go g M M' σ pc (.ref a :: As) st := by
  intro p l e R s m args below meth c T locs cells slots ls C X hR
  obtain ⟨c1, c2, c3, c4, c5, c6, c7, c8, c9, c10, c11, hW, hK⟩ := C
  have hpl : e.platform.magicAccessors = ({} : Platform).magicAccessors := by rw [X.admits.platform]
  have hcw := am_word (args := args) hK hW hc.1 (am_cw_good M')
  have hcw' : (Cond.code (am_name M') (am_code M') (am_maxL M') none).before args s = true := by
    unfold am_cw at hcw
    rw [hh] at hcw
    rw [← hret]
    exact hcw
  obtain ⟨mk, methM, cM, kP, vm₁, hnamed, hmethM, hcodeM, -, hlocalsM, -, hkP, -, hW₁, hstep₁⟩ := Steps.initColdArgs (e := e) X.here c1 X.warmed hpl c4 hy1 hc.2.2.1 (am_word hK hW hw rfl) (am_word hK hW hi rfl) hcw' (f := F0 m pc ls (((Value.ref a :: As).reverse ++ st).map (am_up g))) rfl
    (argsL := As.map (am_up g)) (rest := st.map (am_up g)) (a := am_r g a) (fun sig h => by rw [List.length_map]; exact hc.len sig h) (by simp [am_up]) (by rw [c2]; exact hd)
  have X₁ := X.noted hW₁
  refine ⟨vm₁, mk, _, X₁.warmed, X₁, X₁.named hnamed, by rw [c2]; exact hd, fun target h => hstep₁ _ fun acts => ?_⟩
  rw [doInvoke_state]
  exact h
theorem am_goIN (idx : Nat) (host : String) {a : Nat} (hd : decode (am_code M) pc = .ok (.invokespecial idx, 3)) (hw : Cond.methodLinkNest (am_name M).cls idx (am_name M') host ∈ lw_tbl) (hc : am_cal M' As.length) (hi : Cond.instanceMethod (am_name M') ∈ lw_tbl) (hy1 : (am_name M').name = "<init>") (hh : am_hand M' = []) (hret : am_ret M' = none) : am_go g M M' σ pc (.ref a :: As) st := by
  intro p l e R s m args below meth c T locs cells slots ls C X hR
  obtain ⟨c1, c2, c3, c4, c5, c6, c7, c8, c9, c10, c11, hW, hK⟩ := C
  have hpl : e.platform.magicAccessors = ({} : Platform).magicAccessors := by rw [X.admits.platform]
  have hcw := am_word (args := args) hK hW hc.1 (am_cw_good M')
  have hcw' : (Cond.code (am_name M') (am_code M') (am_maxL M') none).before args s = true := by
    unfold am_cw at hcw
    rw [hh] at hcw
    rw [← hret]
    exact hcw
  obtain ⟨mk, methM, cM, kP, vm₁, hnamed, hmethM, hcodeM, -, hlocalsM, -, hkP, -, hW₁, hstep₁⟩ := Steps.initColdArgsNest (e := e) X.here c1 X.warmed hpl c4 hy1 hc.2.2.1 (am_wordM hK hW hw) (am_word hK hW hi rfl) hcw' (f := F0 m pc ls (((Value.ref a :: As).reverse ++ st).map (am_up g))) rfl
    (argsL := As.map (am_up g)) (rest := st.map (am_up g)) (a := am_r g a) (fun sig h => by rw [List.length_map]; exact hc.len sig h) (by simp [am_up]) (by rw [c2]; exact hd)
  have X₁ := X.noted hW₁
  refine ⟨vm₁, mk, _, X₁.warmed, X₁, X₁.named hnamed, by rw [c2]; exact hd, fun target h => hstep₁ _ fun acts => ?_⟩
  rw [doInvoke_state]
  exact h
end GO
end
section
/-! ===== calls that return, calls that throw ===== -/
/-- the exception at a is on its way, over the frame at pc -/
def am_JT (g : am_G) (M : am_M) (σ0 σ' : am_S) (res : Outcome) (pc : Nat) (lv : List (Option Value)) (st : List Value) (σ : am_S) (a : Nat) : Prop :=
  ∀ (p : Program) (l : Launch) (e : Env) (R : Room) (s : State) (m : MethodId) (args : Array Value) (below : List Frame) (meth : Method) (c : Code) (H : Heap) (locs : List Loc) (ls : Array Slot),
    am_Cx g M p l e R s m meth c → σ'.1 - σ0.1 ≤ R.cells → σ'.2.1 - σ0.2.1 ≤ R.slots → σ0.1 ≤ σ.1 → σ0.2.1 ≤ σ.2.1 → am_R g σ H → am_L g (am_maxL M) lv ls → (∀ q ∈ locs, g.1.heap.size ≤ q.base) →
    ∀ T : State, T.heap = H → Stand p l e R s m args below meth c T locs (σ.1 - σ0.1) (σ.2.1 - σ0.2.1) → ∃ t, Steps p.tables e below ((T.setTop (F0 m pc ls (st.map (am_up g)))).pushFrame (.throwing (am_r g a))) t ∧ am_End g below s σ0 σ' res t
def am_T (g : am_G) (M : am_M) (σ0 : am_S) (pc : Nat) (lv : List (Option Value)) (st : List Value) (σ : am_S) (a : Nat) {β : Type} (E : Option β) (k : β → Option (Outcome × am_S)) : Prop :=
  ∀ (res : Outcome) (σ' : am_S), E.bind k = some (res, σ') → σ.1 ≤ σ'.1 ∧ σ.2.1 ≤ σ'.2.1 ∧ am_JT g M σ0 σ' res pc lv st σ a
section CL
variable {g : am_G} {M M' : am_M} {σ0 σ σ1 : am_S} {pc : Nat} {lv : List (Option Value)} {as st : List Value} {β : Type} {E : Option β} {k : β → Option (Outcome × am_S)}
/-- room for the callee's frames -/
def am_fit (M M' : am_M) : Prop := am_fr M' + 1 ≤ am_fr M ∧ 8 + (am_maxL M' + 11) + am_lc M' ≤ am_lc M
theorem am_W.ret1 {n : Nat} {v : Option Value} (hgo : am_go g M M' σ pc as st) (hcal : am_cal M' n) (hfit : am_fit M M') (hr : ((st.map (am_up g)).map fun v => v.category).sum ≤ 8) (hm1 : σ.1 ≤ σ1.1) (hm2 : σ.2.1 ≤ σ1.2.1) (hmt : am_Mt g M' as σ (.returned v) σ1)
    (kk : am_W g M σ0 (pc + 3) lv (v.toList ++ st) σ1 E k) : am_W g M σ0 pc lv (as.reverse ++ st) σ E k := by
  intro res σ' hE
  obtain ⟨a1, b1, j⟩ := kk res σ' hE
  refine ⟨by omega, by omega, fun p l e R s m args below meth c H locs ls C hc hs h1 h2 hR hL hl => ?_⟩
  intro T hT X
  have hR' : am_R g σ T.heap := by rw [hT]; exact hR
  obtain ⟨vm₁, mk, ig, hW₁, X₁, hn, hdg, hstep⟩ := hgo (ls := ls) C X hR'
  have C' := C
  obtain ⟨c1, c2, c3, c4, c5, c6, c7, c8, c9, c10, c11, hW, hK⟩ := C
  have hWT : g.1.WarmedH (T.setVm vm₁).vm := State.WarmedH.trans hW hW₁
  obtain ⟨f1, f2⟩ := hfit
  obtain ⟨T', L, X', hR1, hL1, hbk⟩ := am_back X₁ c11.1 hK hWT hmt hR' (fun a' => am_word hK hWT hcal.1 (am_cw_good M')) (fun a' => am_word hK hWT hcal.2.1 rfl) hn (gf := F0 m pc ls (st.map (am_up g))) rfl (by rw [c3]; exact hL.size) hdg
    (by show 2 * 0 + ((st.map (am_up g)).map fun v => v.category).sum ≤ 8; omega) (by omega) (by omega) (by omega) (by omega)
  have w := j p l e R s m args below meth c T'.heap (locs ++ L) ls C' hc hs (by omega) (by omega) hR1 hL (fun q hq => (List.mem_append.mp hq).elim (hl q) (hL1 q))
  obtain ⟨t, t1, t2⟩ := W.cs (cells := σ.1 - σ0.1 + (σ1.1 - σ.1)) (slots := σ.2.1 - σ0.2.1 + (σ1.2.1 - σ.2.1)) (by omega) (by omega) w T' rfl X'
  refine ⟨t, hstep t (Steps.trans hbk ?_), t2⟩
  cases v <;> exact t1
theorem am_W.thr1 {n x : Nat} (hgo : am_go g M M' σ pc as st) (hcal : am_cal M' n) (hfit : am_fit M M') (hr : ((st.map (am_up g)).map fun v => v.category).sum ≤ 8) (hm1 : σ.1 ≤ σ1.1) (hm2 : σ.2.1 ≤ σ1.2.1) (hmt : am_Mt g M' as σ (.threw x) σ1)
    (kk : am_T g M σ0 pc lv st σ1 x E k) : am_W g M σ0 pc lv (as.reverse ++ st) σ E k := by
  intro res σ' hE
  obtain ⟨a1, b1, j⟩ := kk res σ' hE
  refine ⟨by omega, by omega, fun p l e R s m args below meth c H locs ls C hc hs h1 h2 hR hL hl => ?_⟩
  intro T hT X
  have hR' : am_R g σ T.heap := by rw [hT]; exact hR
  obtain ⟨vm₁, mk, ig, hW₁, X₁, hn, hdg, hstep⟩ := hgo (ls := ls) C X hR'
  have C' := C
  obtain ⟨c1, c2, c3, c4, c5, c6, c7, c8, c9, c10, c11, hW, hK⟩ := C
  have hWT : g.1.WarmedH (T.setVm vm₁).vm := State.WarmedH.trans hW hW₁
  obtain ⟨f1, f2⟩ := hfit
  obtain ⟨T', L, X', hR1, hL1, hbk⟩ := am_back X₁ c11.1 hK hWT hmt hR' (fun a' => am_word hK hWT hcal.1 (am_cw_good M')) (fun a' => am_word hK hWT hcal.2.1 rfl) hn (gf := F0 m pc ls (st.map (am_up g))) rfl (by rw [c3]; exact hL.size) hdg
    (by show 2 * 0 + ((st.map (am_up g)).map fun v => v.category).sum ≤ 8; omega) (by omega) (by omega) (by omega) (by omega)
  have X2 : Stand p l e R s m args below meth c T' (locs ++ L) (σ1.1 - σ0.1) (σ1.2.1 - σ0.2.1) := by
    have e1 : σ.1 - σ0.1 + (σ1.1 - σ.1) = σ1.1 - σ0.1 := by omega
    have e2 : σ.2.1 - σ0.2.1 + (σ1.2.1 - σ.2.1) = σ1.2.1 - σ0.2.1 := by omega
    rw [e1, e2] at X'
    exact X'
  obtain ⟨t, t1, t2⟩ := j p l e R s m args below meth c T'.heap (locs ++ L) ls C' hc hs (by omega) (by omega) hR1 hL (fun q hq => (List.mem_append.mp hq).elim (hl q) (hL1 q)) T' rfl X2
  exact ⟨t, hstep t (Steps.trans hbk t1), t2⟩
/-! rows: what is called answers an int, a reference, nothing; or it may throw -/
theorem aw_callI {n : Nat} {X : Option (Int32 × am_S)} {F : Int32 × am_S → Option β} (hgo : am_go g M M' σ pc as st) (hcal : am_cal M' n) (hfit : am_fit M M') (hr : ((st.map (am_up g)).map fun v => v.category).sum ≤ 8) (hM : am_Met g M' as σ (X.bind am_kI))
    (kk : ∀ v σ1, am_W g M σ0 (pc + 3) lv (.int v :: st) σ1 (F (v, σ1)) k) : am_W g M σ0 pc lv (as.reverse ++ st) σ (X.bind F) k :=
  am_W.bindI fun x h => by
    obtain ⟨v, σ1⟩ := x
    obtain ⟨m1, m2, mt⟩ := hM (.returned (some (.int v))) σ1 (by rw [h]; rfl)
    exact am_W.ret1 hgo hcal hfit hr m1 m2 mt (kk v σ1)
theorem aw_callA {n : Nat} {X : Option (Nat × am_S)} {F : Nat × am_S → Option β} (hgo : am_go g M M' σ pc as st) (hcal : am_cal M' n) (hfit : am_fit M M') (hr : ((st.map (am_up g)).map fun v => v.category).sum ≤ 8) (hM : am_Met g M' as σ (X.bind am_kA))
    (kk : ∀ v σ1, am_W g M σ0 (pc + 3) lv (.ref v :: st) σ1 (F (v, σ1)) k) : am_W g M σ0 pc lv (as.reverse ++ st) σ (X.bind F) k :=
  am_W.bindI fun x h => by
    obtain ⟨v, σ1⟩ := x
    obtain ⟨m1, m2, mt⟩ := hM (.returned (some (.ref v))) σ1 (by rw [h]; rfl)
    exact am_W.ret1 hgo hcal hfit hr m1 m2 mt (kk v σ1)
theorem aw_callV {n : Nat} {X : Option am_S} {F : am_S → Option β} (hgo : am_go g M M' σ pc as st) (hcal : am_cal M' n) (hfit : am_fit M M') (hr : ((st.map (am_up g)).map fun v => v.category).sum ≤ 8) (hM : am_Met g M' as σ (X.bind am_kV))
    (kk : ∀ σ1, am_W g M σ0 (pc + 3) lv st σ1 (F σ1) k) : am_W g M σ0 pc lv (as.reverse ++ st) σ (X.bind F) k :=
  am_W.bindI fun σ1 h => by
    obtain ⟨m1, m2, mt⟩ := hM (.returned none) σ1 (by rw [h]; rfl)
    exact am_W.ret1 hgo hcal hfit hr m1 m2 mt (kk σ1)
/-- thrown: .inl; an int: .inr -/
abbrev am_kTI (x : (Nat ⊕ Int32) × am_S) : Option (Outcome × am_S) := match x.1 with
  | .inl a => some (.threw a, x.2)
  | .inr v => some (.returned (some (.int v)), x.2)
abbrev am_kTV (x : (Nat ⊕ Unit) × am_S) : Option (Outcome × am_S) := match x.1 with
  | .inl a => some (.threw a, x.2)
  | .inr _ => some (.returned none, x.2)
theorem aw_callTI {n : Nat} {X : Option ((Nat ⊕ Int32) × am_S)} {F : (Nat ⊕ Int32) × am_S → Option β} (hgo : am_go g M M' σ pc as st) (hcal : am_cal M' n) (hfit : am_fit M M') (hr : ((st.map (am_up g)).map fun v => v.category).sum ≤ 8) (hM : am_Met g M' as σ (X.bind am_kTI))
    (kk : ∀ v σ1, am_W g M σ0 (pc + 3) lv (.int v :: st) σ1 (F (.inr v, σ1)) k) (kt : ∀ a σ1, am_T g M σ0 pc lv st σ1 a (F (.inl a, σ1)) k) : am_W g M σ0 pc lv (as.reverse ++ st) σ (X.bind F) k :=
  am_W.bindI fun x h => by
    obtain ⟨v, σ1⟩ := x
    cases v with
    | inl a =>
      obtain ⟨m1, m2, mt⟩ := hM (.threw a) σ1 (by rw [h]; rfl)
      exact am_W.thr1 hgo hcal hfit hr m1 m2 mt (kt a σ1)
    | inr v =>
      obtain ⟨m1, m2, mt⟩ := hM (.returned (some (.int v))) σ1 (by rw [h]; rfl)
      exact am_W.ret1 hgo hcal hfit hr m1 m2 mt (kk v σ1)
theorem aw_callTV {n : Nat} {X : Option ((Nat ⊕ Unit) × am_S)} {F : (Nat ⊕ Unit) × am_S → Option β} (hgo : am_go g M M' σ pc as st) (hcal : am_cal M' n) (hfit : am_fit M M') (hr : ((st.map (am_up g)).map fun v => v.category).sum ≤ 8) (hM : am_Met g M' as σ (X.bind am_kTV))
    (kk : ∀ σ1, am_W g M σ0 (pc + 3) lv st σ1 (F (.inr (), σ1)) k) (kt : ∀ a σ1, am_T g M σ0 pc lv st σ1 a (F (.inl a, σ1)) k) : am_W g M σ0 pc lv (as.reverse ++ st) σ (X.bind F) k :=
  am_W.bindI fun x h => by
    obtain ⟨v, σ1⟩ := x
    cases v with
    | inl a =>
      obtain ⟨m1, m2, mt⟩ := hM (.threw a) σ1 (by rw [h]; rfl)
      exact am_W.thr1 hgo hcal hfit hr m1 m2 mt (kt a σ1)
    | inr v =>
      obtain ⟨m1, m2, mt⟩ := hM (.returned none) σ1 (by rw [h]; rfl)
      exact am_W.ret1 hgo hcal hfit hr m1 m2 mt (kk σ1)
/-! throwing -/
theorem aw_throw {a : Nat} (hd : decode (am_code M) pc = .ok (.athrow, 1) := by decide +kernel) (kk : am_T g M σ0 pc lv st σ a E k) : am_W g M σ0 pc lv (.ref a :: st) σ E k := by
  intro res σ' hE
  obtain ⟨a1, b1, j⟩ := kk res σ' hE
  refine ⟨a1, b1, fun p l e R s m args below meth c H locs ls C hc hs h1 h2 hR hL hl => ?_⟩
  intro T hT X
  obtain ⟨t, t1, t2⟩ := j p l e R s m args below meth c H locs ls C hc hs h1 h2 hR hL hl T hT X
  refine ⟨t, ?_, t2⟩
  have hd' : decode c.code pc = .ok (.athrow, 1) := by rw [C.2.1]; exact hd
  have hexec := C.1
  jvm_step X.here [hexec, hd', athrow.wp_sem, am_up]
  exact t1
/-- no handler covers pc: the method ends with the exception -/
def am_bare (M : am_M) (pc : Nat) : Bool := (am_hand M).all fun q => !(decide (q.1 ≤ pc) && decide (pc < q.2.1))
theorem at_out {a : Nat} {x : β} (hx : k x = some (.threw a, σ)) (hb : am_bare M pc = true := by decide) : am_T g M σ0 pc lv st σ a (some x) k := by
  intro res σ' hE
  have hE' : k x = some (res, σ') := hE
  rw [hx] at hE'
  cases hE'
  refine ⟨Nat.le_refl _, Nat.le_refl _, fun p l e R s m args below meth c H locs ls C hc hs h1 h2 hR hL hl T hT X => ?_⟩
  obtain ⟨r1, r2, r3, r4, r5⟩ := X.leaveThrown (am_r g a) (g := F0 m pc ls (st.map (am_up g))) rfl rfl rfl (fun y hy => by
    have h8 := C.2.2.2.2.2.2.2.1
    have hm : (y.startPc, y.endPc, y.handlerPc, y.catchType) ∈ am_hand M := by rw [← h8]; exact List.mem_map.mpr ⟨y, hy, rfl⟩
    have := List.all_eq_true.mp hb _ hm
    simp only [covers] at *
    simp at this ⊢
    omega) C.2.2.2.2.2.1
  exact ⟨_, r1, r2, r3, by show am_R g σ T.heap; rw [hT]; exact hR, r4, locs, r5, hl⟩
end CL
end
section
/-! ===== an exception is caught: the handler's class resolved by the search, if it was not ===== -/
/-- the search over these rows ends at the handler pc, with these tables -/
def am_sr (e : Env) (S : State) (f : JFrame) (a : Addr) (rows : List ExceptionTableEntry) (pc : Nat) (vm' : Vm) : Prop :=
  ∀ (Q : Handler → Pre) (E : CtlPost) (d : Bool) (acts : List Action), wp (findHandler.go f a rows) Q E e d acts S ↔ Q (.found pc) d acts (S.setVm vm')
section CT
variable {e : Env} {s S : State} {f : JFrame} {a : Addr} {x : ExceptionTableEntry} {rows : List ExceptionTableEntry} {c : ClassId} {cell : Cell}
theorem am_sr_yes (hx : covers x f.pc = true) (h0 : x.catchType ≠ 0) (hl : S.vm.ClassLinks e.platform f.method.cls x.catchType c) (hcell : S.heap[a]? = some cell) (hobj : ∀ k, cell.vm ≠ .statics k)
    (hk : ∃ k, S.vm.classes[cell.cls]? = some k) (hc : ∃ k, S.vm.classes[c]? = some k) (hfit : S.vm.assignable cell.cls c = true) : am_sr e S f a (x :: rows) x.handlerPc (S.vm.noted f.method.cls x.catchType (.cls c)) := by
  intro Q E d acts
  simp only [covers] at hx
  obtain ⟨r1, r2⟩ := (resolveClass_links e.toSetting hl).op (op := VmOp.resolveClass f.method.cls x.catchType) rfl
  have hal : S.vm.Alike (S.vm.noted f.method.cls x.catchType (.cls c)) := (Vm.Alike.refl S.vm).noted _ _ _
  obtain ⟨k1, hk1⟩ := hk
  obtain ⟨k2, hk2⟩ := hc
  obtain ⟨k1', hk1', -⟩ := hal.2.2 _ _ hk1
  obtain ⟨k2', hk2', -⟩ := hal.2.2 _ _ hk2
  have hfit' : (S.vm.noted f.method.cls x.catchType (.cls c)).assignable cell.cls c = true := by rw [hal.assignable]; exact hfit
  simp [findHandler.go, hx, h0, r1, r2, hcell, hobj, hk1', hk2', hfit', VmOp.dirties, VmOp.acts]
theorem am_sr_no {pc : Nat} {vm' : Vm} (hx : covers x f.pc = true) (h0 : x.catchType ≠ 0) (hl : S.vm.ClassLinks e.platform f.method.cls x.catchType c) (hcell : S.heap[a]? = some cell) (hobj : ∀ k, cell.vm ≠ .statics k)
    (hk : ∃ k, S.vm.classes[cell.cls]? = some k) (hc : ∃ k, S.vm.classes[c]? = some k) (hno : S.vm.assignable cell.cls c = false) (hr : am_sr e (S.setVm (S.vm.noted f.method.cls x.catchType (.cls c))) f a rows pc vm') : am_sr e S f a (x :: rows) pc vm' := by
  intro Q E d acts
  simp only [covers] at hx
  obtain ⟨r1, r2⟩ := (resolveClass_links e.toSetting hl).op (op := VmOp.resolveClass f.method.cls x.catchType) rfl
  have hal : S.vm.Alike (S.vm.noted f.method.cls x.catchType (.cls c)) := (Vm.Alike.refl S.vm).noted _ _ _
  obtain ⟨k1, hk1⟩ := hk
  obtain ⟨k2, hk2⟩ := hc
  obtain ⟨k1', hk1', -⟩ := hal.2.2 _ _ hk1
  obtain ⟨k2', hk2', -⟩ := hal.2.2 _ _ hk2
  have hno' : (S.vm.noted f.method.cls x.catchType (.cls c)).assignable cell.cls c = false := by rw [hal.assignable]; exact hno
  have h2 := hr Q E d acts
  have h3 : (S.setVm (S.vm.noted f.method.cls x.catchType (.cls c))).setVm vm' = S.setVm vm' := rfl
  rw [h3] at h2
  rw [← h2]
  simp [findHandler.go, hx, h0, r1, r2, hcell, hobj, hk1', hk2', hno', VmOp.dirties, VmOp.acts]
theorem am_thr_found {r : List Frame} {meth : Method} {code : Code} {pc : Nat} {vm' : Vm} (hm : S.vm.method? f.method = some meth) (hc : meth.code = some code) (hs : am_sr e S f a code.exceptionTable.toList pc vm') :
    (stepThrowing e S a (.java f :: r)).Is ((S.setVm vm').setFrames (.java { f with pc := pc, stack := [.ref a] } :: r)) [] := by
  have hfind : ∀ (Q : Handler → Pre) (E : CtlPost) (d : Bool) (acts : List Action), wp (findHandler f a) Q E e d acts S ↔ Q (.found pc) d acts (S.setVm vm') := fun Q E d acts => by
    rw [W.findHandler_eq hm hc]
    exact hs Q E d acts
  simp only [stepThrowing, searchFrame, vmDo]
  generalize hr : Sem.go _ e false [] S = res
  obtain ⟨as, rfl, ha⟩ := Sem.eq_ok_of hr (a := Handler.found pc) (s' := S.setVm vm') (acts' := []) (by simp [hfind _ _ _ _])
  exact ⟨rfl, ha⟩
end CT
theorem am_caught {p : Program} {l : Launch} {e : Env} {R : Room} {s : State} {m : MethodId} {args : Array Value} {below : List Frame} {meth : Method} {c : Code} {T : State} {locs : List Loc} {cells slots : Nat} (X : Stand p l e R s m args below meth c T locs cells slots) {a : Addr} {gf : JFrame} (hg : gf.method = m) {pc : Nat} {vm' : Vm}
    (hs : am_sr e ((T.setTop gf).pushFrame (.throwing a)) gf a c.exceptionTable.toList pc vm') {target : State} (hrest : Steps p.tables e below ((T.setVm vm').setTop { gf with pc := pc, stack := [.ref a] }) target) :
    Steps p.tables e below ((T.setTop gf).pushFrame (.throwing a)) target := by
  have h : At T gf.method c below := by rw [hg]; exact X.here
  obtain ⟨hgo, hw⟩ := h.throwing a
  refine Steps.head hgo hw ?_
  have hm : ((T.setTop gf).pushFrame (.throwing a)).vm.method? gf.method = some meth := by
    rw [Stand.throwing_vm, hg]
    exact X.method'
  rw [stepThread_throwing (frames_entered h.top _), (am_thr_found hm X.code hs).1]
  obtain ⟨g₀, hg0⟩ := Option.isSome_iff_exists.mp h.top
  obtain ⟨r, hr⟩ := State.topJava?_eq_some.mp hg0
  have hr' : (T.setVm vm').frames = .java g₀ :: r := hr
  rw [State.setTop_of_frames _ hr'] at hrest
  have key : ∀ (u : State) (F G : List Frame), ((u.setFrames F).setVm vm').setFrames G = (u.setVm vm').setFrames G := fun u F G => by
    have h1 : (u.setFrames F).setVm vm' = (u.setVm vm').setFrames F := rfl
    rw [h1, State.setFrames_setFrames]
  rw [hr, List.tail_cons, State.pushFrame, key, State.setTop_of_frames _ hr, key]
  exact hrest
section CR
variable {g : am_G} {M : am_M} {σ0 σ : am_S} {pc : Nat} {lv : List (Option Value)} {st : List Value} {β : Type} {E : Option β} {k : β → Option (Outcome × am_S)}
/-- caught by the first handler -/
theorem at_catch1 (c0 : Nat) {a : Nat} {fs : List Value} {q : Nat × Nat × Nat × Nat} {r : List (Nat × Nat × Nat × Nat)} (hh : am_hand M = q :: r) (h1 : q.1 ≤ pc) (h2 : pc < q.2.1) (h0 : q.2.2.2 ≠ 0) (hc : c0 < am_NC) (hw : Cond.classLink (am_name M).cls q.2.2.2 (am_cn c0) ∈ lw_tbl)
    (ha : σ.2.2 a = some (.inr (c0, fs))) (kk : am_W g M σ0 q.2.2.1 lv [.ref a] σ E k) : am_T g M σ0 pc lv st σ a E k := by
  intro res σ' hE
  obtain ⟨a1, b1, j⟩ := kk res σ' hE
  refine ⟨a1, b1, fun p l e R s m args below meth c H locs ls C hce hse r1 r2 hR hL hl T hT X => ?_⟩
  have C' := C
  obtain ⟨c1, c2, c3, c4, c5, c6, c7, c8, c9, c10, c11, hW, hK⟩ := C
  obtain ⟨cell, q1, q2, q3, q4⟩ := hR.1 a _ ha
  have hcl := am_class hK hW hc
  rw [hh] at c8
  obtain ⟨x, rows, ht, hx, -⟩ := List.map_eq_cons_iff.mp c8
  subst hx
  have hpl : e.platform.magicAccessors = ({} : Platform).magicAccessors := by rw [X.admits.platform]
  obtain ⟨c', hc', hcl1⟩ := Cond.classLink_spec c4 (am_word (args := args) hK hW hw rfl) e.platform hpl
  cases hcl.1.symm.trans hc'
  obtain ⟨dk, _, _, kt, hd, _, _, _, _, hkt, _, hopen⟩ := hcl1.here
  have hcl₀ := X.warmed.classLinks hcl1
  have hW' : s.WarmedH (T.vm.noted m.cls x.catchType (.cls (g.2.2.1 c0))) := X.warmed.noted hd hopen (State.rightAt_cls hcl1)
  have hal := X.warmed.alike
  obtain ⟨kt', hkt', -⟩ := hal.2.2 _ _ hkt
  have hfit : T.vm.assignable cell.cls (g.2.2.1 c0) = true := by rw [q2, hal.assignable]; exact va_assign hcl
  have hs : am_sr e ((T.setTop (F0 m pc ls (st.map (am_up g)))).pushFrame (.throwing (am_r g a))) (F0 m pc ls (st.map (am_up g))) (am_r g a) (x :: rows) x.handlerPc (T.vm.noted m.cls x.catchType (.cls (g.2.2.1 c0))) := by
    refine am_sr_yes (by simp [covers, h1, h2]) h0 hcl₀ (by rw [Stand.throwing_heap, hT]; exact q1) (fun z hz => by rw [q3] at hz; cases hz) ?_ ?_ hfit
    · rw [q2]; exact ⟨kt', hkt'⟩
    · exact ⟨kt', hkt'⟩
  rw [← ht] at hs
  obtain ⟨t, t1, t2⟩ := j p l e R s m args below meth c H locs ls C' hce hse r1 r2 hR hL hl (T.setVm (T.vm.noted m.cls x.catchType (.cls (g.2.2.1 c0)))) hT (X.noted hW')
  exact ⟨t, am_caught X rfl hs t1, t2⟩
/-- passed by the first handler, caught by the second -/
theorem at_catch2 (c0 cN : Nat) {a : Nat} {fs : List Value} {q q' : Nat × Nat × Nat × Nat} {r : List (Nat × Nat × Nat × Nat)} (hh : am_hand M = q :: q' :: r) (h1 : q.1 ≤ pc) (h2 : pc < q.2.1) (h0 : q.2.2.2 ≠ 0) (h1' : q'.1 ≤ pc) (h2' : pc < q'.2.1) (h0' : q'.2.2.2 ≠ 0) (hc : c0 < am_NC) (hcN : cN < am_NC)
    (hno : am_K g → g.1.vm.assignable (g.2.2.1 c0) (g.2.2.1 cN) = false) (hw : Cond.classLink (am_name M).cls q.2.2.2 (am_cn cN) ∈ lw_tbl) (hw' : Cond.classLink (am_name M).cls q'.2.2.2 (am_cn c0) ∈ lw_tbl)
    (ha : σ.2.2 a = some (.inr (c0, fs))) (kk : am_W g M σ0 q'.2.2.1 lv [.ref a] σ E k) : am_T g M σ0 pc lv st σ a E k := by
  intro res σ' hE
  obtain ⟨a1, b1, j⟩ := kk res σ' hE
  refine ⟨a1, b1, fun p l e R s m args below meth c H locs ls C hce hse r1 r2 hR hL hl T hT X => ?_⟩
  have C' := C
  obtain ⟨c1, c2, c3, c4, c5, c6, c7, c8, c9, c10, c11, hW, hK⟩ := C
  obtain ⟨cell, q1, q2, q3, q4⟩ := hR.1 a _ ha
  have hcl := am_class hK hW hc
  have hclN := am_class hK hW hcN
  rw [hh] at c8
  obtain ⟨x, rows, ht, hx, hrest⟩ := List.map_eq_cons_iff.mp c8
  obtain ⟨y, rows', ht', hy, -⟩ := List.map_eq_cons_iff.mp hrest
  subst hx
  subst hy
  subst ht'
  have hpl : e.platform.magicAccessors = ({} : Platform).magicAccessors := by rw [X.admits.platform]
  obtain ⟨cn, hcn, hclN1⟩ := Cond.classLink_spec c4 (am_word (args := args) hK hW hw rfl) e.platform hpl
  cases hclN.1.symm.trans hcn
  obtain ⟨c', hc', hcl1⟩ := Cond.classLink_spec c4 (am_word (args := args) hK hW hw' rfl) e.platform hpl
  cases hcl.1.symm.trans hc'
  obtain ⟨dkN, _, _, ktN, hdN, _, _, _, _, hktN, _, hopenN⟩ := hclN1.here
  obtain ⟨dk, _, _, kt, hd, _, _, _, _, hkt, _, hopen⟩ := hcl1.here
  have hW1 : s.WarmedH (T.vm.noted m.cls x.catchType (.cls (g.2.2.1 cN))) := X.warmed.noted hdN hopenN (State.rightAt_cls hclN1)
  have X1 := X.noted hW1
  have hW' : s.WarmedH (((T.vm.noted m.cls x.catchType (.cls (g.2.2.1 cN)))).noted m.cls y.catchType (.cls (g.2.2.1 c0))) := X1.warmed.noted hd hopen (State.rightAt_cls hcl1)
  have hal := X.warmed.alike
  have hal1 := X1.warmed.alike
  obtain ⟨ktN', hktN', -⟩ := hal.2.2 _ _ hktN
  obtain ⟨kt', hkt', -⟩ := hal.2.2 _ _ hkt
  obtain ⟨kt2, hkt2, -⟩ := hal1.2.2 _ _ hkt
  have hfit : (T.vm.noted m.cls x.catchType (.cls (g.2.2.1 cN))).assignable cell.cls (g.2.2.1 c0) = true := by
    rw [q2, show (T.vm.noted m.cls x.catchType (.cls (g.2.2.1 cN))).assignable _ _ = _ from hal1.assignable _ _]
    exact va_assign hcl
  have hno1 : T.vm.assignable cell.cls (g.2.2.1 cN) = false := by
    rw [q2, hal.assignable, hW.alike.assignable]
    exact hno hK
  have hs2 : am_sr e (((T.setTop (F0 m pc ls (st.map (am_up g)))).pushFrame (.throwing (am_r g a))).setVm (T.vm.noted m.cls x.catchType (.cls (g.2.2.1 cN)))) (F0 m pc ls (st.map (am_up g))) (am_r g a) (y :: rows') y.handlerPc ((T.vm.noted m.cls x.catchType (.cls (g.2.2.1 cN))).noted m.cls y.catchType (.cls (g.2.2.1 c0))) := by
    refine am_sr_yes (by simp [covers, h1', h2']) h0' (X1.warmed.classLinks hcl1) (by show ((T.setTop (F0 m pc ls (st.map (am_up g)))).pushFrame (.throwing (am_r g a))).heap[am_r g a]? = some cell; rw [Stand.throwing_heap, hT]; exact q1) (fun z hz => by rw [q3] at hz; cases hz) ?_ ?_ hfit
    · rw [q2]; exact ⟨kt2, hkt2⟩
    · exact ⟨kt2, hkt2⟩
  have hs : am_sr e ((T.setTop (F0 m pc ls (st.map (am_up g)))).pushFrame (.throwing (am_r g a))) (F0 m pc ls (st.map (am_up g))) (am_r g a) (x :: y :: rows') y.handlerPc ((T.vm.noted m.cls x.catchType (.cls (g.2.2.1 cN))).noted m.cls y.catchType (.cls (g.2.2.1 c0))) := by
    refine am_sr_no (by simp [covers, h1, h2]) h0 (X.warmed.classLinks hclN1) (by rw [Stand.throwing_heap, hT]; exact q1) (fun z hz => by rw [q3] at hz; cases hz) ?_ ⟨ktN', hktN'⟩ hno1 hs2
    rw [q2]; exact ⟨kt', hkt'⟩
  rw [← ht] at hs
  obtain ⟨t, t1, t2⟩ := j p l e R s m args below meth c H locs ls C' hce hse r1 r2 hR hL hl (T.setVm ((T.vm.noted m.cls x.catchType (.cls (g.2.2.1 cN))).noted m.cls y.catchType (.cls (g.2.2.1 c0)))) hT (X.noted hW')
  exact ⟨t, am_caught X rfl hs t1, t2⟩
end CR
end
section
/-! ===== 'new X(); athrow', X an exception of the JDK's, no stack traces ===== -/
theorem am_hw_lays {u U : State} {C n d : String} (hvm : u.vm.Alike U.vm) (hh : ∀ a, a < u.heap.size → U.heap[a]? = u.heap[a]?) {A B : Array Value} (h : (Cond.laysStatic C n d).before A u = true) : (Cond.laysStatic C n d).before B U = true := by
  obtain ⟨c, k, i, f, a, cell, h1, h2, h3, h4, h5, h6, h7, h8, h9⟩ := Cond.laysStatic_spec h
  obtain ⟨k', hi', he⟩ := State.fieldFound?_setVm hvm h2
  have h1' : U.vm.findClass C = some c := by rw [hvm.findClass]; exact h1
  have h5' : U.heap[a]? = some cell := by rw [hh a (Array.getElem?_eq_some_iff.mp h5).1]; exact h5
  have h4' : k'.statics = some a := by rw [he]; exact h4
  have h9' : k'.staticTypes[f.slot]? = some f.type := by rw [he]; exact h9
  unfold Cond.before
  simp only [Cond.holds, Cond.value]
  rw [h1', show U.fieldFound? C n d = some (c, k', i, f) from hi']
  simp [h4', h5', h3, h6, h7, h8, h9']
theorem am_hw_ref {u U : State} {C n d : String} (hvm : u.vm.Alike U.vm) (hh : ∀ a, a < u.heap.size → U.heap[a]? = u.heap[a]?) {A B : Array Value} (hl : (Cond.laysStatic C n d).before A u = true) (h : (Cond.isRef (.static C n d)).before A u = true) : (Cond.isRef (.static C n d)).before B U = true := by
  obtain ⟨c, k, i, f, a, cell, h1, h2, h3, h4, h5, h6, h7, h8, h9⟩ := Cond.laysStatic_spec hl
  obtain ⟨k', hi', he⟩ := State.fieldFound?_setVm hvm h2
  have h5' : U.heap[a]? = some cell := by rw [hh a (Array.getElem?_eq_some_iff.mp h5).1]; exact h5
  have h4' : k'.statics = some a := by rw [he]; exact h4
  have hi2 : U.fieldFound? C n d = some (c, k', i, f) := hi'
  have e1 : (Term.static C n d).eval A u none [] u = cell.slots[f.slot]? := by
    simp [Term.eval, State.fieldNamed?, h2, h3, h4, h5, h6]
  have e2 : (Term.static C n d).eval B U none [] U = cell.slots[f.slot]? := by
    simp [Term.eval, State.fieldNamed?, hi2, h3, h4', h5', h6]
  unfold Cond.before at h ⊢
  simp only [Cond.holds, Cond.value] at h ⊢
  rw [e1] at h
  rw [e2]
  exact h
/-- the words of the constructor's chain -/
def am_xn : List String := ["java/lang/RuntimeException", "java/lang/Exception"]
def am_xs (own : String) (ic : Nat) (X : String) : List Cond := Bundle.ownAtoms0 own ic X am_xn
def am_xok (w : Cond) : Bool := goodWord w || (match w with
  | .castable _ _ => true
  | .declares _ => true
  | _ => false)
theorem am_xword {g : am_G} {s : State} {args : Array Value} (hK : am_K g) (hW : g.1.WarmedH s.vm) (ho : ∀ a, a < g.1.heap.size → s.heap[a]? = g.1.heap[a]?) {w : Cond} (h : w ∈ am_hw ∨ (w ∈ lw_tbl ∧ am_xok w = true)) : w.before args s = true := by
  rcases h with h | ⟨h1, h2⟩
  · have hw := hK.2.2.2.2.1
    have l1 := hw _ (show Cond.laysStatic "java/lang/Throwable" "UNASSIGNED_STACK" "[Ljava/lang/StackTraceElement;" ∈ am_hw by simp [am_hw])
    have l2 := hw _ (show Cond.laysStatic "java/lang/Throwable" "SUPPRESSED_SENTINEL" "Ljava/util/List;" ∈ am_hw by simp [am_hw])
    have r1 := hw _ (show Cond.isRef (.static "java/lang/Throwable" "UNASSIGNED_STACK" "[Ljava/lang/StackTraceElement;") ∈ am_hw by simp [am_hw])
    have r2 := hw _ (show Cond.isRef (.static "java/lang/Throwable" "SUPPRESSED_SENTINEL" "Ljava/util/List;") ∈ am_hw by simp [am_hw])
    simp only [am_hw, List.mem_cons, List.not_mem_nil, or_false] at h
    rcases h with rfl | rfl | rfl | rfl
    · exact am_hw_lays hW.alike ho l1
    · exact am_hw_lays hW.alike ho l2
    · exact am_hw_ref hW.alike ho l1 r1
    · exact am_hw_ref hW.alike ho l2 r2
  · by_cases hg : goodWord w = true
    · exact am_word hK hW h1 hg
    · unfold am_xok at h2
      cases w <;> first | (exfalso; revert h2 hg; simp; done) | exact am_wordC hK hW h1 | exact am_wordD hK hW h1
theorem am_xs13 : ∀ w ∈ am_xs "MapMerger" 65 "java/lang/IllegalArgumentException", w ∈ am_hw ∨ (w ∈ lw_tbl ∧ am_xok w = true) := by decide +kernel
end
section
theorem am_xs14 : ∀ w ∈ am_xs "MapMerger" 54 "java/lang/IllegalStateException", w ∈ am_hw ∨ (w ∈ lw_tbl ∧ am_xok w = true) := by decide +kernel
theorem am_xs15 : ∀ w ∈ am_xs "MapMerger" 107 "java/util/NoSuchElementException", w ∈ am_hw ∨ (w ∈ lw_tbl ∧ am_xok w = true) := by decide +kernel
section XC
variable {p : Program} {l : Launch} {e : Env} {R : Room} {s : State} {m₀ : MethodId} {args : Array Value} {below : List Frame} {meth : Method} {c : Code} {W : State} {locs : List Loc} {cells slots : Nat}
set_option maxHeartbeats 1000000 in
/-- the constructor's chain over a fresh cell: the cell keeps class and kind, nothing else moves -/
theorem am_xctor (X : Stand p l e R s m₀ args below meth c W locs cells slots) (hexec : p.tables.exec = Jvm.exec) (htr : e.platform.stackTraces = false) {own cls : String} {names : List String} {ic : Nat}
    (hown : s.vm.findClass own = some m₀.cls) (hcls : Bundle.fit cls = true) (hnames : ∀ n ∈ names, Bundle.fit n = true)
    (h : ∀ a ∈ Bundle.ownAtoms0 own ic cls names, a.before args s = true)
    {lo : Nat} (hlo : ∀ x ∈ locs, lo ≤ x.base) (hst : ∀ (cc : ClassId) (kk : Class) (ii : Nat) (ff : Field) (aa : Nat), s.fieldFound? "java/lang/Throwable" "UNASSIGNED_STACK" "[Ljava/lang/StackTraceElement;" = some (cc, kk, ii, ff) → kk.statics = some aa → aa < lo)
    {a : Addr} {cX : ClassId} {kX : Class} (hfoundX : s.vm.findClass cls = some cX) (hkX : s.vm.classes[cX]? = some kX) (hcell : W.heap[a]? = some (freshCell cX kX)) (hnew : lo ≤ a)
    {g : JFrame} (hg : g.method = m₀) (hsize : g.locals.size = c.maxLocals) {rest : List Value} (hstack : g.stack = .ref a :: rest)
    (hd6 : decode c.code g.pc = .ok (.invokespecial ic, 3))
    (hRframes : names.length + 3 < R.frames) (hRlocals : 2 * g.monitorRoom + (rest.map fun v => v.category).sum + (13 * (names.length + 1) + 41) ≤ R.locals) :
    ∃ (vm' : Vm) (ce : Cell) (L : List Loc), Stand p l e R s m₀ args below meth c ((W.setVm vm').setCell a ce) (locs ++ L) cells slots ∧ ce.cls = cX ∧ ce.vm = .none ∧ (∀ q ∈ L, q.base = a) ∧
      ∀ target, Steps p.tables e below (((W.setVm vm').setCell a ce).setTop { g with pc := g.pc + 3, stack := rest }) target → Steps p.tables e below (W.setTop g) target := by
  have howns : e.platform.frameOwnsMonitors = true := by rw [X.admits.platform]
  have hfin : e.platform.finalization = false := by rw [X.admits.platform]
  have hpl : e.platform.magicAccessors = ({} : Platform).magicAccessors := by rw [X.admits.platform]
  have a' : ∀ x, x ∈ Bundle.ownAtoms0 own ic cls names → x.holds args s none s [] = true := fun x hx => h x hx
  obtain ⟨T, Z, L, LZ, Y⟩ := ThrowableC.of_atoms (args := args) howns hfin hpl (fun x hx => h x (by simp [Bundle.ownAtoms0, hx]))
  obtain ⟨P1, Ps, hlen, L1, hL, hP1m, hlink1, hlink⟩ := Bundle.chain0 (args := args) hpl Y.init0 names cls hcls hnames (fun x hx => h x (by simp [Bundle.ownAtoms0, hx]))
  have hfound : s.vm.findClass cls = some P1.m.cls := findClass_of_methodNamed hP1m
  cases Option.some.inj (hfoundX.symm.trans hfound)
  obtain ⟨c1, kX', hc1, hk, hord, -, -, hn6⟩ := Cond.instantiable_spec (a' (.instantiable cls 6) (by simp [Bundle.ownAtoms0]))
  cases Option.some.inj (hc1.symm.trans hfound)
  cases Option.some.inj (hkX.symm.trans hk)
  have hsel0 : selectMethod e.platform s.vm P1.m.cls T.fill0 = .method T.fill0 := by
    obtain ⟨c2, r2, m2, q1, q2, q3, q4, -⟩ := Cond.selects_spec (a' (.selects cls Bundle.tFill0 Bundle.tFill0) (by simp [Bundle.ownAtoms0]))
    cases Option.some.inj (q1.symm.trans hfound)
    cases Option.some.inj (q2.symm.trans (State.methodFound?_of_named Y.fill0 (by decide)))
    cases Option.some.inj (q3.symm.trans Y.fill0)
    rw [Launch.admits_selectMethod X.admits]; exact q4
  have hselF : selectMethod e.platform s.vm P1.m.cls T.fill = .method T.fill := by
    obtain ⟨c2, r2, m2, q1, q2, q3, q4, -⟩ := Cond.selects_spec (a' (.selects cls Bundle.tFill Bundle.tFill) (by simp [Bundle.ownAtoms0]))
    cases Option.some.inj (q1.symm.trans hfound)
    cases Option.some.inj (q2.symm.trans (State.methodFound?_of_named Y.fill (by decide)))
    cases Option.some.inj (q3.symm.trans Y.fill)
    rw [Launch.admits_selectMethod X.admits]; exact q4
  obtain ⟨cellS0, hcS0, hiss⟩ := Y.statics
  obtain ⟨u0, hu0⟩ := Cond.staticRefV Y.unassigned L.unassignedStatic L.statics hcS0 hiss (a' (.isRef (.static Bundle.tN "UNASSIGNED_STACK" Bundle.steD)) (by simp [Bundle.ownAtoms0]))
  obtain ⟨sen, hsen⟩ := Cond.staticRefV Y.sentinel L.sentinelStatic L.statics hcS0 hiss (a' (.isRef (.static Bundle.tN "SUPPRESSED_SENTINEL" Bundle.listD)) (by simp [Bundle.ownAtoms0]))
  obtain ⟨ci198, i198, fB, hk198, hg198, ha198, hsB, -, hnB, htB, hffB⟩ := Cond.ownField (t := .object "java/lang/Object") Y.found L.cls (by decide +kernel) (a' (.fieldLink Bundle.tN 198 Bundle.tN "backtrace" "Ljava/lang/Object;") (by simp [Bundle.ownAtoms0])) (a' (.lays Bundle.tN Bundle.tN "backtrace" "Ljava/lang/Object;") (by simp [Bundle.ownAtoms0])) e.platform hpl
  obtain ⟨cellS, hcS', heS, -, hkeep⟩ := X.same.2.2.2.2.2 T.aS cellS0 hcS0
  have hcellS : W.heap[T.aS]? = some cellS := hcS'
  have hlt0 : T.aS < lo := hst _ _ _ _ _ Y.unassigned L.statics
  have hout' : ∀ i, (⟨T.aS, i⟩ : Loc) ∉ locs := fun i hmem => by
    have := hlo _ hmem
    exact Nat.not_le.mpr hlt0 this
  have hknownS : cellS.vm ≠ .unknown := by
    rw [heS]; intro hu
    rw [show cellS0.vm = .unknown from hu] at hiss
    cases hiss
  have hneS : T.aS ≠ a := fun he => Nat.not_le.mpr hlt0 (he ▸ hnew)
  obtain ⟨tyC, dC, hdC, hdnC⟩ := Cond.laysAt hfound hk Y.cause (a' (.lays cls Bundle.tN "cause" "Ljava/lang/Throwable;") (by simp [Bundle.ownAtoms0]))
  obtain ⟨tyS, dS, hdS, hdnS⟩ := Cond.laysAt hfound hk Y.stack (a' (.lays cls Bundle.tN "stackTrace" Bundle.steD) (by simp [Bundle.ownAtoms0]))
  obtain ⟨tyP, dP, hdP, hdnP⟩ := Cond.laysAt hfound hk Y.supp (a' (.lays cls Bundle.tN "suppressedExceptions" Bundle.listD) (by simp [Bundle.ownAtoms0]))
  obtain ⟨tyB, dB, hdB, hdnB⟩ := Cond.laysAt hfound hk hffB (a' (.lays cls Bundle.tN "backtrace" "Ljava/lang/Object;") (by simp [Bundle.ownAtoms0]))
  have bC := Cond.laysApart hdB hdC hdnB hdnC (by rw [hnB, Y.causeName]; decide)
  have bS := Cond.laysApart hdB hdS hdnB hdnS (by rw [hnB, Y.stackName]; decide)
  have bP := Cond.laysApart hdB hdP hdnB hdnP (by rw [hnB, Y.suppName]; decide)
  have hskip : SkipFacts T e.platform s (fun u => u) u0 ((preparedCellV T.toThrowableT (freshCell P1.m.cls kX) a u0 sen).withEntry W.cur) :=
    ⟨{ ci198 := ci198, i198 := i198, fBack := fB }, ⟨hk198, hg198, ha198, hsB⟩, by
      have := fresh_default (c := P1.m.cls) tyB
      rw [htB] at this
      simpa [preparedCellV, Cell.setSlot, Cell.withEntry, Array.getElem?_setIfInBounds, bC, bS, bP, bC.symm, bS.symm, bP.symm, defaultValue] using this, fun _ _ => rfl⟩
  obtain ⟨tm, methC, cdC, kC, vm₁, hnC, -, -, -, -, -, -, -, hW₁, st1⟩ := Steps.initCold (tb := p.tables) (e := e) (below := below) (s := s) (U := W) X.here hexec X.warmed hpl hown (t := Bundle.init0 cls) rfl rfl (Bundle.fit_spec hcls).2
    (a' (.methodLink own ic (Bundle.init0 cls)) (by simp [Bundle.ownAtoms0])) (h (.instanceMethod (Bundle.init0 cls)) (by cases names <;> simp [Bundle.ownAtoms0, Bundle.chain0Atoms, Bundle.passAtoms])) (bytes := Bundle.five) (maxL := 1) (h (.code (Bundle.init0 cls) Bundle.five 1 none) (by cases names <;> simp [Bundle.ownAtoms0, Bundle.chain0Atoms, Bundle.passAtoms]))
    (f := g) hg (a := a) (rest := rest) hstack hd6
  cases Option.some.inj (hnC.symm.trans hP1m)
  have X₁ := X.noted hW₁
  obtain ⟨vm₂, X₂, st2⟩ := X₁.ctorPlainOffV hexec (g := { g with stack := rest }) hg hsize T L Z LZ (P1 :: Ps)
    (fun P hP => by rcases List.mem_cons.mp hP with rfl | hP; exact L1; exact hL P hP) ⟨hlink1, hlink⟩ (u0 := u0) (sen := sen) (self := a) (cell := freshCell P1.m.cls kX) (cellS := cellS)
    hcell (fun _ => by simp) (by simp) rfl rfl hsel0 hselF hcellS hneS hknownS (by rw [hkeep _ (hout' _)]; exact hu0) (by rw [hkeep _ (hout' _)]; exact hsen)
    (Takes.of_laid hk hord tyC (by rw [Y.causeType]; rfl)) (Takes.of_laid hk hord tyS (by rw [Y.stackType]; exact fits_refV_array _ u0)) (Takes.of_laid hk hord tyP (by rw [Y.suppType]; exact fits_refV_object _ sen)) Y.objLocals hskip htr [] hd6
    (by simp only [List.length_cons, hlen]; omega) (by simp only [List.length_cons, hlen]; exact hRlocals)
  refine ⟨vm₂, _, _, X₂, rfl, rfl, fun q hq => ?_, fun target hrest => st1 _ fun acts => ?_⟩
  · simp only [List.mem_cons, List.not_mem_nil, or_false] at hq
    rcases hq with rfl | rfl | rfl | rfl <;> rfl
  · rw [doInvoke_state]
    exact st2 _ hrest
end XC
/-- what throws away: a new exception of class c (13, 14, 15), made, and its constructor run, in six bytes behind 'new' -/
def am_nx (σ : am_S) (c : Nat) : am_S := am_new σ 6 (.inr (c, []))
section XR
variable {g : am_G} {M : am_M} {σ0 σ : am_S} {pc : Nat} {lv : List (Option Value)} {st : List Value} {β : Type} {E : Option β} {k : β → Option (Outcome × am_S)}
theorem am_N_x {c : Nat} (h : c = 13 ∨ c = 14 ∨ c = 15) : am_N c = 0 ∧ c < am_NC := by
  rcases h with rfl | rfl | rfl <;> exact ⟨rfl, by decide⟩
theorem aw_xnew (c idx ic : Nat) (hcx : c = 13 ∨ c = 14 ∨ c = 15 := by decide) (hd : decode (am_code M) pc = .ok (.new idx, 3) := by decide +kernel) (hd3 : decode (am_code M) (pc + 3) = .ok (.dup, 1) := by decide +kernel) (hd4 : decode (am_code M) (pc + 4) = .ok (.invokespecial ic, 3) := by decide +kernel)
    (hfit : Bundle.fit (am_cn c) = true := by decide +kernel) (hw : Cond.classLink (am_name M).cls idx (am_cn c) ∈ lw_tbl) (hw2 : Cond.instantiable (am_cn c) 6 ∈ lw_tbl) (hw3 : Cond.initialized (am_cn c) ∈ lw_tbl) (hx : ∀ w ∈ am_xs (am_name M).cls ic (am_cn c), w ∈ am_hw ∨ (w ∈ lw_tbl ∧ am_xok w = true))
    (hr : ((st.map (am_up g)).map fun v => v.category).sum ≤ 7) (hf : 6 ≤ am_fr M := by decide) (hl : 8 + 80 ≤ am_lc M := by decide)
    (kk : am_W g M σ0 (pc + 7) lv (.ref σ.1 :: st) (am_nx σ c) E k) : am_W g M σ0 pc lv st σ E k := by
  obtain ⟨hN, hc⟩ := am_N_x hcx
  intro res σ' hE
  obtain ⟨a1, b1, j⟩ := kk res σ' hE
  have a2 : σ.1 + 1 ≤ σ'.1 := a1
  have b2 : σ.2.1 + 6 ≤ σ'.2.1 := b1
  refine ⟨by omega, by omega, fun p l e R s m args below meth c0 H locs ls C hce hse r1 r2 hR hL hll => ?_⟩
  have C' := C
  obtain ⟨c1, c2, c3, c4, c5, c6, c7, c8, c9, c10, c11, hW, hK⟩ := C
  obtain ⟨hfl, hold⟩ := c11
  have hcl := am_class hK hW hc
  refine W.newcK c1 c2 c4 (am_word hK hW hw rfl) (am_word hK hW hw2 rfl) (am_word hK hW hw3 rfl) rfl hd (by omega) (by omega) hcl.1 rfl fun H1 kC e0 e1 e2 e3 => ?_
  refine lv_dup (va := .ref H.size) c1 c2 hd3 rfl ?_
  intro T hT X
  have ht := hR.top
  have h8 := hR.2.2.1
  have htr : e.platform.stackTraces = false := Launch.traces_off hfl X.admits
  have hlt : H.size < T.heap.size := by rw [hT, e2]; omega
  have hloH : g.1.heap.size ≤ H.size := by rw [hR.2.1]; omega
  obtain ⟨vm', ce, L, X', hce1, hce2, hL1, hstep⟩ := am_xctor X c1 htr (own := (am_name M).cls) (cls := am_cn c) (names := am_xn) (ic := ic) c4 hfit (by decide) (fun w hw' => am_xword hK hW hold (hx w hw')) (lo := g.1.heap.size) hll
    (fun cc kk ii ff aa hf1 hf2 => by
      obtain ⟨c', k', i', f', a', cell', h1, h2, h3, h4, h5, -⟩ := Cond.laysStatic_spec (hK.2.2.2.2.1 (Cond.laysStatic "java/lang/Throwable" "UNASSIGNED_STACK" "[Ljava/lang/StackTraceElement;") (by simp [am_hw]))
      obtain ⟨k2, hi2, he⟩ := State.fieldFound?_setVm hW.alike h2
      have hi3 : s.fieldFound? "java/lang/Throwable" "UNASSIGNED_STACK" "[Ljava/lang/StackTraceElement;" = some (c', k2, i', f') := hi2
      rw [hi3] at hf1
      cases hf1
      have h6 : kk.statics = some a' := by rw [he]; exact h4
      cases h6.symm.trans hf2
      exact (Array.getElem?_eq_some_iff.mp h5).1)
    (a := H.size) (cX := g.2.2.1 c) (kX := kC) hcl.1 e0 (by rw [hT]; exact e1) hloH (g := F0 m (pc + 3 + 1) ls (.ref H.size :: .ref H.size :: st.map (am_up g))) rfl (by rw [c3]; exact hL.size) (rest := .ref H.size :: st.map (am_up g)) rfl (by rw [c2]; exact hd4)
    (by show 2 + 3 < R.frames; omega) (by show 2 * 0 + (1 + ((st.map (am_up g)).map fun v => v.category).sum) + (13 * (2 + 1) + 41) ≤ R.locals; omega)
  have hR1 : am_R g (am_nx σ c) ((T.setVm vm').setCell H.size ce).heap := by
    refine hR.new (n := 6) ?_ ?_ fun q hq => ?_
    · refine ⟨ce, heapAt_setCell_self (s := T.setVm vm') ce hlt, hce1, hce2, fun k hk => ?_⟩
      have hk' : k < am_N c := hk
      rw [hN] at hk'
      cases hk'
    · rw [size_setCell]
      show T.heap.size = _
      rw [hT, e2]
    · rw [heapAt_setCell_ne _ (Nat.ne_of_gt hq)]
      show T.heap[q]? = _
      rw [hT]
      exact e3 q hq
  have X2 : Stand p l e R s m args below meth c0 ((T.setVm vm').setCell H.size ce) (locs ++ L) ((am_nx σ c).1 - σ0.1) ((am_nx σ c).2.1 - σ0.2.1) := by
    have q1 : (am_nx σ c).1 - σ0.1 = σ.1 - σ0.1 + 1 := by show σ.1 + 1 - σ0.1 = _; omega
    have q2 : (am_nx σ c).2.1 - σ0.2.1 = σ.2.1 - σ0.2.1 + 6 := by show σ.2.1 + 6 - σ0.2.1 = _; omega
    rw [q1, q2]
    exact X'
  obtain ⟨t, t1, t2⟩ := j p l e R s m args below meth c0 _ (locs ++ L) ls C' hce hse (show σ0.1 ≤ σ.1 + 1 by omega) (show σ0.2.1 ≤ σ.2.1 + 6 by omega) hR1 hL (fun q hq => by
    rcases List.mem_append.mp hq with hz | hz
    · exact hll q hz
    · rw [hL1 q hz]; exact hloH) _ rfl X2
  refine ⟨t, hstep t ?_, t2⟩
  have e9 : (F0 m (pc + 7) ls ((Value.ref σ.1 :: st).map (am_up g))) = F0 m (pc + 3 + 1 + 3) ls (.ref H.size :: st.map (am_up g)) := by
    simp only [List.map_cons, am_up, ht]
  rw [e9] at t1
  exact t1
end XR
end
section
/-! ===== statics, the marks, Math ===== -/
section JD
variable {g : am_G} {M : am_M} {σ0 σ : am_S} {pc : Nat} {lv : List (Option Value)} {st : List Value} {β : Type} {E : Option β} {k : β → Option (Outcome × am_S)}
theorem am_Zs {s : State} {H : Heap} {C n d : String} {v : Value} (hW : g.1.WarmedH s.vm) (hR : am_R g σ H) (h : va_Z C n d v (fun q => g.1.heap.size ≤ q) g.1 g.1.heap) : va_Z C n d v (fun q => g.1.heap.size ≤ q) s H :=
  (va_Z.moved hW.alike h).kept fun a ha _ => hR.2.2.2 a ha
theorem am_gstat {p : Program} {l : Launch} {e : Env} {R : Room} {s : State} {m : MethodId} {args : Array Value} {below : List Frame} {meth : Method} {c : Code} {H : Heap} {locs : List Loc} {cells slots : Nat} {Q : State → Prop} {ls : Array Slot} {C n d own : String} {v : Value} {index : Nat} {cc : ByteArray} {rest : List Value} (hexec : p.tables.exec = Jvm.exec) (hb : c.code = cc)
    (hZ : va_Z C n d v (fun q => g.1.heap.size ≤ q) s H) (hown : s.vm.findClass own = some m.cls) (hlink : (Cond.fieldLink own index C n d).before args s = true) (hdg : decode cc pc = .ok (.getstatic index, 3))
    (kk : W p l e R s m args below meth c H locs cells slots Q (F0 m (pc + 3) ls (v :: rest))) : W p l e R s m args below meth c H locs cells slots Q (F0 m pc ls rest) := by
  obtain ⟨cf, kf, fi, f, a, cell, h1, h2, h3, h4, h5, h6, h7, h8⟩ := hZ
  exact W.gets hexec hb hown hlink h1 h2 h3 h4 h5 (fun e => by rw [e] at h6; cases h6) h7 rfl hdg kk
/-- getstatic REFUSED -/
theorem aw_refused (idx : Nat) (hd : decode (am_code M) pc = .ok (.getstatic idx, 3) := by decide +kernel) (hw : Cond.fieldLink (am_name M).cls idx "MapMergerModel" "REFUSED" "LMapMergerModel$No;" ∈ lw_tbl)
    (kk : am_W g M σ0 (pc + 3) lv (.ref 1 :: st) σ E k) : am_W g M σ0 pc lv st σ E k := by
  refine kk.same fun {p l e R s m args below meth c0 H locs cells slots Q ls} C hL hR w => ?_
  obtain ⟨c1, c2, c3, c4, c5, c6, c7, c8, c9, c10, c11, hW, hK⟩ := C
  exact am_gstat c1 c2 (am_Zs hW hR hK.2.2.2.2.2.1) c4 (am_word hK hW hw rfl) hd w
/-- getstatic COMPACT_STRINGS -/
theorem aw_compact (idx : Nat) (hd : decode (am_code M) pc = .ok (.getstatic idx, 3) := by decide +kernel) (hw : Cond.fieldLink (am_name M).cls idx "java/lang/String" "COMPACT_STRINGS" "Z" ∈ lw_tbl)
    (kk : am_W g M σ0 (pc + 3) lv (.int 1 :: st) σ E k) : am_W g M σ0 pc lv st σ E k := by
  refine kk.same fun {p l e R s m args below meth c0 H locs cells slots Q ls} C hL hR w => ?_
  obtain ⟨c1, c2, c3, c4, c5, c6, c7, c8, c9, c10, c11, hW, hK⟩ := C
  exact am_gstat c1 c2 (am_Zs hW hR hK.2.2.2.2.2.2.2.1) c4 (am_word hK hW hw rfl) hd w
theorem am_OFs {s : State} {H : Heap} {o n d : String} {v : Value} {q : Nat} (hW : g.1.WarmedH s.vm) (hR : am_R g σ H) (h : va_OF o n d v q (fun q => g.1.heap.size ≤ q) g.1 g.1.heap) : va_OF o n d v q (fun q => g.1.heap.size ≤ q) s H :=
  (va_OF.moved hW.alike h).kept fun a ha _ => hR.2.2.2 a ha
/-- a mark's bytes -/
theorem aw_sval (idx i : Nat) (h2 : 2 ≤ i) (h5 : i < 5) (hd : decode (am_code M) pc = .ok (.getfield idx, 3) := by decide +kernel) (hw : Cond.fieldLink (am_name M).cls idx "java/lang/String" "value" "[B" ∈ lw_tbl)
    (kk : am_W g M σ0 (pc + 3) lv (.ref (i + 3) :: st) σ E k) : am_W g M σ0 pc lv (.ref i :: st) σ E k := by
  refine kk.same fun {p l e R s m args below meth c0 H locs cells slots Q ls} C hL hR w => ?_
  obtain ⟨c1, c2, c3, c4, c5, c6, c7, c8, c9, c10, c11, hW, hK⟩ := C
  obtain ⟨cf, k, fi, f, cell, h1, h2', h3, h4, h5', h6⟩ := am_OFs hW hR (hK.2.2.2.2.2.2.1 i h2 h5).2.2
  have e1 : am_r g i = g.2.1 i := by unfold am_r; rw [if_pos (by omega)]
  have e2 : am_r g (i + 3) = g.2.1 (i + 3) := by unfold am_r; rw [if_pos (by omega)]
  simp only [List.map_cons, am_up, e1, e2] at w ⊢
  exact W.getf c1 c2 c4 (am_word hK hW hw rfl) h1 h2' h3 h4 (v := .ref (g.2.1 (i + 3))) h5' rfl rfl hd w
/-- a mark's coder -/
theorem aw_scod (idx i : Nat) (h2 : 2 ≤ i) (h5 : i < 5) (hd : decode (am_code M) pc = .ok (.getfield idx, 3) := by decide +kernel) (hw : Cond.fieldLink (am_name M).cls idx "java/lang/String" "coder" "B" ∈ lw_tbl)
    (kk : am_W g M σ0 (pc + 3) lv (.int 0 :: st) σ E k) : am_W g M σ0 pc lv (.ref i :: st) σ E k := by
  refine kk.same fun {p l e R s m args below meth c0 H locs cells slots Q ls} C hL hR w => ?_
  obtain ⟨c1, c2, c3, c4, c5, c6, c7, c8, c9, c10, c11, hW, hK⟩ := C
  obtain ⟨cf, k, fi, f, cell, h1, h2', h3, h4, h5', h6⟩ := am_OFs hW hR (hK.2.2.2.2.2.2.1 i h2 h5).2.1
  have e1 : am_r g i = g.2.1 i := by unfold am_r; rw [if_pos (by omega)]
  simp only [List.map_cons, am_up, e1] at w ⊢
  exact W.getf c1 c2 c4 (am_word hK hW hw rfl) h1 h2' h3 h4 (v := .int 0) h5' rfl rfl hd w
/-- ldc of a mark -/
theorem aw_ldcS (idx i : Nat) (tx : String) (hi : i < 8) (hd : decode (am_code M) pc = .ok (.ldc idx, 2) := by decide +kernel) (hz : am_str g → vk_R (am_name M).cls idx tx (g.2.1 i) g.1)
    (kk : am_W g M σ0 (pc + 2) lv (.ref i :: st) σ E k) : am_W g M σ0 pc lv st σ E k := by
  refine kk.same fun {p l e R s m args below meth c0 H locs cells slots Q ls} C hL hR w => ?_
  obtain ⟨c1, c2, c3, c4, c5, c6, c7, c8, c9, c10, c11, hW, hK⟩ := C
  have e1 : am_r g i = g.2.1 i := by unfold am_r; rw [if_pos hi]
  simp only [List.map_cons, am_up, e1] at w
  exact va_ldcS c1 c2 c4 (vk_R.warm hW (hz hK.2.2.2.2.2.2)) hd w
/-- a method of a mark's -/
theorem am_goVS {M' : am_M} {As : List Value} (idx i : Nat) (h2 : 2 ≤ i) (h5 : i < 5) (hd : decode (am_code M) pc = .ok (.invokevirtual idx, 3)) (hw : Cond.methodLink (am_name M).cls idx (am_name M') ∈ lw_tbl) (hc : am_cal M' As.length) (hi : Cond.instanceMethod (am_name M') ∈ lw_tbl) (hs : Cond.selects "java/lang/String" (am_name M') (am_name M') ∈ lw_tbl) : am_go g M M' σ pc (.ref i :: As) st := by
  intro p l e R s m args below meth c T locs cells slots ls C X hR
  obtain ⟨c1, c2, c3, c4, c5, c6, c7, c8, c9, c10, c11, hW, hK⟩ := C
  obtain ⟨cell, q1, q2, q3, -⟩ := (va_O.moved hW.alike (hK.2.2.2.2.2.2.1 i h2 h5).1).kept (H1 := T.heap) fun a ha _ => hR.2.2.2 a ha
  have e1 : am_r g i = g.2.1 i := by unfold am_r; rw [if_pos (by omega)]
  obtain ⟨mk, methM, hnamed, hmethM, hstM, habM⟩ := Cond.instanceMethod_spec (am_word (args := args) hK hW hi rfl)
  obtain ⟨methM', cM, hmethM', -, -, -, -, -, -, hsigM⟩ := am_cw_spec hnamed (am_word (args := args) hK hW hc.1 (am_cw_good M'))
  cases hmethM.symm.trans hmethM'
  obtain ⟨c2', r2, m2, p1, p2, p3, p4, kP, hkP, hkPi⟩ := Cond.selects_spec (am_word (args := args) hK hW hs rfl)
  cases q3.symm.trans p1
  cases (State.methodFound?_of_named hnamed hc.2.2.1).symm.trans p2
  cases hnamed.symm.trans p3
  have hselP : selectMethod e.platform s.vm cell.cls mk = .method mk := by rw [Launch.admits_selectMethod X.admits]; exact p4
  have hlen : (As.map (am_up g)).length = methM.sig.parameters.length := by rw [List.length_map]; exact hc.len _ hsigM
  obtain ⟨vm₁, X₁, hstep₁⟩ := X.invokevirtual c1 c4 (am_word hK hW hw rfl) hnamed hmethM hstM hkP hkPi hc.2.2.1 (a := am_r g i) (cell := cell) (by rw [e1]; exact q1)
    (fun z h => by rw [h] at q2; cases q2) hselP hmethM habM hkP hkPi (g := F0 m pc ls (((Value.ref i :: As).reverse ++ st).map (am_up g))) rfl (argsL := As.map (am_up g)) (rest := st.map (am_up g)) hlen (by simp [am_up]) (by rw [c2]; exact hd)
  refine ⟨vm₁, mk, _, X₁.warmed, X₁, X₁.named hnamed, by rw [c2]; exact hd, fun target h => hstep₁ _ fun acts => ?_⟩
  rw [doInvoke_state]
  exact h
def am_max (x y : Int32) : Int32 := if x < y then y else x
def am_min (x y : Int32) : Int32 := if y < x then y else x
theorem aw_max (idx : Nat) {x y : Int32} (hd : decode (am_code M) pc = .ok (.invokestatic idx, 3) := by decide +kernel) (hw : Cond.methodLink (am_name M).cls idx Lib.Math.max.name ∈ lw_tbl) (hw2 : Cond.static Lib.Math.max.name ∈ lw_tbl) (hw3 : Cond.initialized "java/lang/Math" ∈ lw_tbl) (hw4 : Cond.code Lib.Math.max.name Lib.Math.max.code 2 (some .int) ∈ lw_tbl)
    (hr : ((st.map (am_up g)).map fun v => v.category).sum ≤ 8) (hf : 1 ≤ am_fr M := by decide) (hl : 21 ≤ am_lc M := by decide) (kk : am_W g M σ0 (pc + 3) lv (.int (am_max x y) :: st) σ E k) : am_W g M σ0 pc lv (.int y :: .int x :: st) σ E k := by
  intro res σ' hE
  obtain ⟨a1, b1, j⟩ := kk res σ' hE
  refine ⟨a1, b1, fun p l e R s m args below meth c H locs ls C hc hs h1 h2 hR hL hll => ?_⟩
  have w := j p l e R s m args below meth c H locs ls C hc hs h1 h2 hR hL hll
  obtain ⟨c1, c2, c3, c4, c5, c6, c7, c8, c9, c10, c11, hW, hK⟩ := C
  exact va_mmax c1 c2 (by rw [c3]; exact hL.size.symm) c4 (am_word hK hW hw rfl) (am_word hK hW hw2 rfl) (am_word hK hW hw3 rfl) (am_word hK hW hw4 rfl) (by omega) (by omega) (by omega) (by omega) hd w
theorem aw_min (idx : Nat) {x y : Int32} (hd : decode (am_code M) pc = .ok (.invokestatic idx, 3) := by decide +kernel) (hw : Cond.methodLink (am_name M).cls idx Lib.Math.min.name ∈ lw_tbl) (hw2 : Cond.static Lib.Math.min.name ∈ lw_tbl) (hw3 : Cond.initialized "java/lang/Math" ∈ lw_tbl) (hw4 : Cond.code Lib.Math.min.name Lib.Math.min.code 2 (some .int) ∈ lw_tbl)
    (hr : ((st.map (am_up g)).map fun v => v.category).sum ≤ 8) (hf : 1 ≤ am_fr M := by decide) (hl : 21 ≤ am_lc M := by decide) (kk : am_W g M σ0 (pc + 3) lv (.int (am_min x y) :: st) σ E k) : am_W g M σ0 pc lv (.int y :: .int x :: st) σ E k := by
  intro res σ' hE
  obtain ⟨a1, b1, j⟩ := kk res σ' hE
  refine ⟨a1, b1, fun p l e R s m args below meth c H locs ls C hc hs h1 h2 hR hL hll => ?_⟩
  have w := j p l e R s m args below meth c H locs ls C hc hs h1 h2 hR hL hll
  obtain ⟨c1, c2, c3, c4, c5, c6, c7, c8, c9, c10, c11, hW, hK⟩ := C
  exact va_mmin c1 c2 (by rw [c3]; exact hL.size.symm) c4 (am_word hK hW hw rfl) (am_word hK hW hw2 rfl) (am_word hK hW hw3 rfl) (am_word hK hW hw4 rfl) (by omega) (by omega) (by omega) (by omega) hd w
theorem aw_i2c {x : Int32} (hd : decode (am_code M) pc = .ok (.i2c, 1) := by decide +kernel) (kk : am_W g M σ0 (pc + 1) lv (.int (x.toUInt32 % 65536).toInt32 :: st) σ E k) : am_W g M σ0 pc lv (.int x :: st) σ E k :=
  kk.pure fun C hL w => lv_i2c C.1 C.2.1 hd rfl w
/-- returns of small types -/
def am_rn (t : FieldType) (v : Int32) (σ : am_S) : Option (Int32 × am_S) := if narrow t (.int v) = .int v then some (v, σ) else none
theorem aw_nret {v : Int32} {t : FieldType} (hd : decode (am_code M) pc = .ok (.ireturn, 1) := by decide +kernel) (hr : am_ret M = some t := by rfl) : am_W g M σ0 pc lv [.int v] σ (am_rn t v σ) am_kI := by
  intro res σ' hE
  unfold am_rn at hE
  split at hE
  · rename_i hv
    cases hE
    refine ⟨Nat.le_refl _, Nat.le_refl _, fun p l e R s m args below meth c H locs ls C hc hs h1 h2 hR hL hl => ?_⟩
    refine am_weak (W.zret (ty := t) (Qc := am_QR g σ (.returned (some (.int v)))) (free := fun q => g.1.heap.size ≤ q) C.1 C.2.1 (by rw [C.2.2.2.2.1]; exact hr) hv (fun t ht _ => ⟨rfl, by rw [ht]; exact hR⟩) hl hd C.2.2.2.2.2.1) fun t h => am_endR h
  · cases hE
/-- REFUSED, caught by the one handler -/
theorem at_cNo {a : Nat} {q : Nat × Nat × Nat × Nat} (hh : am_hand M = [q] := by rfl) (h1 : q.1 ≤ pc := by decide) (h2 : pc < q.2.1 := by decide) (h0 : q.2.2.2 ≠ 0 := by decide) (hw : Cond.classLink (am_name M).cls q.2.2.2 "MapMergerModel$No" ∈ lw_tbl) (hw2 : Cond.castable "MapMergerModel$No" "MapMergerModel$No" ∈ lw_tbl)
    (kk : am_W g M σ0 q.2.2.1 lv [.ref a] σ E k) : am_T g M σ0 pc lv st σ a (if a = 1 then E else none) k := by
  by_cases ha : a = 1
  · rw [if_pos ha]
    subst ha
    intro res σ' hE
    obtain ⟨a1, b1, j⟩ := kk res σ' hE
    refine ⟨a1, b1, fun p l e R s m args below meth c H locs ls C hce hse r1 r2 hR hL hl T hT X => ?_⟩
    have C' := C
    obtain ⟨c1, c2, c3, c4, c5, c6, c7, c8, c9, c10, c11, hW, hK⟩ := C
    obtain ⟨cell, q1, q2, q3, -⟩ := (va_O.moved hW.alike hK.2.2.2.2.2.2.2.2.2.2.2).kept (H1 := H) fun a ha _ => hR.2.2.2 a ha
    have e1 : am_r g 1 = g.2.1 1 := by unfold am_r; rw [if_pos (by omega)]
    rw [hh] at c8
    obtain ⟨x, rows, ht, hx, -⟩ := List.map_eq_cons_iff.mp c8
    subst hx
    have hpl : e.platform.magicAccessors = ({} : Platform).magicAccessors := by rw [X.admits.platform]
    obtain ⟨c', hc', hcl1⟩ := Cond.classLink_spec c4 (am_word (args := args) hK hW hw rfl) e.platform hpl
    cases q3.symm.trans hc'
    obtain ⟨c3', c4', hc3, hc4, hasg⟩ := Cond.castable_spec (am_wordC (args := args) hK hW hw2)
    cases q3.symm.trans hc3
    cases q3.symm.trans hc4
    obtain ⟨dk, _, _, kt, hd, _, _, _, _, hkt, _, hopen⟩ := hcl1.here
    have hcl₀ := X.warmed.classLinks hcl1
    have hW' : s.WarmedH (T.vm.noted m.cls x.catchType (.cls cell.cls)) := X.warmed.noted hd hopen (State.rightAt_cls hcl1)
    have hal := X.warmed.alike
    obtain ⟨kt', hkt', -⟩ := hal.2.2 _ _ hkt
    have hfit : T.vm.assignable cell.cls cell.cls = true := by rw [hal.assignable]; exact hasg
    have hs : am_sr e ((T.setTop (F0 m pc ls (st.map (am_up g)))).pushFrame (.throwing (am_r g 1))) (F0 m pc ls (st.map (am_up g))) (am_r g 1) (x :: rows) x.handlerPc (T.vm.noted m.cls x.catchType (.cls cell.cls)) := by
      refine am_sr_yes (cell := cell) (by simp [covers, h1, h2]) h0 hcl₀ (by rw [Stand.throwing_heap, hT, e1]; exact q1) (fun z hz => by rw [hz] at q2; cases q2) ⟨kt', hkt'⟩ ⟨kt', hkt'⟩ hfit
    rw [← ht] at hs
    obtain ⟨t, t1, t2⟩ := j p l e R s m args below meth c H locs ls C' hce hse r1 r2 hR hL hl (T.setVm (T.vm.noted m.cls x.catchType (.cls cell.cls))) hT (X.noted hW')
    exact ⟨t, am_caught X rfl hs t1, t2⟩
  · rw [if_neg ha]
    intro res σ' hE
    cases hE
end JD
end
