section
-- ===== PART A: goes FIRST, ahead of the names: the tables' words, and 'selects' of the private methods out of them =====
/-- a private method of a class that the tables say can be made, by its rows of tables_1 -/
def lw_okq (q : MethodName × Nat) : Prop := (q.1.cls ≠ "java/lang/invoke/MethodHandle" ∧ q.1.cls ≠ "java/lang/invoke/VarHandle") ∧ Cond.instantiable q.1.cls q.2 ∈ tables_1 ∧ Cond.privateMethod q.1 ∈ tables_1 ∧ Cond.instanceMethod q.1 ∈ tables_1
theorem lw_p0 : lw_okq (⟨"java/lang/Throwable", "fillInStackTrace", "(I)Ljava/lang/Throwable;"⟩, 6) := ⟨⟨by decide +kernel, by decide +kernel⟩, List.mem_of_getElem? (i := 436) (by decide +kernel), List.mem_of_getElem? (i := 434) (by decide +kernel), List.mem_of_getElem? (i := 435) (by decide +kernel)⟩
theorem lw_p1 : lw_okq (⟨"MapMerger$Inbox", "dropFirstArgument", "()V"⟩, 4) := ⟨⟨by decide +kernel, by decide +kernel⟩, List.mem_of_getElem? (i := 36) (by decide +kernel), List.mem_of_getElem? (i := 496) (by decide +kernel), List.mem_of_getElem? (i := 497) (by decide +kernel)⟩
theorem lw_p2 : lw_okq (⟨"MapMerger$Inbox", "removeFront", "(I)V"⟩, 4) := ⟨⟨by decide +kernel, by decide +kernel⟩, List.mem_of_getElem? (i := 36) (by decide +kernel), List.mem_of_getElem? (i := 500) (by decide +kernel), List.mem_of_getElem? (i := 501) (by decide +kernel)⟩
theorem lw_p3 : lw_okq (⟨"MapMerger", "putArguments", "(I)I"⟩, 5) := ⟨⟨by decide +kernel, by decide +kernel⟩, List.mem_of_getElem? (i := 28) (by decide +kernel), List.mem_of_getElem? (i := 514) (by decide +kernel), List.mem_of_getElem? (i := 515) (by decide +kernel)⟩
theorem lw_p4 : lw_okq (⟨"MapMerger", "firstArgumentIsPath", "()Z"⟩, 5) := ⟨⟨by decide +kernel, by decide +kernel⟩, List.mem_of_getElem? (i := 28) (by decide +kernel), List.mem_of_getElem? (i := 521) (by decide +kernel), List.mem_of_getElem? (i := 522) (by decide +kernel)⟩
theorem lw_p5 : lw_okq (⟨"MapMerger$PathMap", "placeFor", "([BII)I"⟩, 4) := ⟨⟨by decide +kernel, by decide +kernel⟩, List.mem_of_getElem? (i := 124) (by decide +kernel), List.mem_of_getElem? (i := 550) (by decide +kernel), List.mem_of_getElem? (i := 551) (by decide +kernel)⟩
theorem lw_p6 : lw_okq (⟨"MapMerger$PathMap", "compareAt", "(I[BII)I"⟩, 4) := ⟨⟨by decide +kernel, by decide +kernel⟩, List.mem_of_getElem? (i := 124) (by decide +kernel), List.mem_of_getElem? (i := 554) (by decide +kernel), List.mem_of_getElem? (i := 555) (by decide +kernel)⟩
theorem lw_p7 : lw_okq (⟨"MapMerger$PathMap", "isAt", "(I[BII)Z"⟩, 4) := ⟨⟨by decide +kernel, by decide +kernel⟩, List.mem_of_getElem? (i := 124) (by decide +kernel), List.mem_of_getElem? (i := 572) (by decide +kernel), List.mem_of_getElem? (i := 573) (by decide +kernel)⟩
theorem lw_p8 : lw_okq (⟨"MapMerger$PathMap", "hasRoomFor", "([BII)Z"⟩, 4) := ⟨⟨by decide +kernel, by decide +kernel⟩, List.mem_of_getElem? (i := 124) (by decide +kernel), List.mem_of_getElem? (i := 576) (by decide +kernel), List.mem_of_getElem? (i := 577) (by decide +kernel)⟩
theorem lw_p9 : lw_okq (⟨"MapMerger$PathMap", "isBeneathOrAbove", "(I[BII)Z"⟩, 4) := ⟨⟨by decide +kernel, by decide +kernel⟩, List.mem_of_getElem? (i := 124) (by decide +kernel), List.mem_of_getElem? (i := 580) (by decide +kernel), List.mem_of_getElem? (i := 581) (by decide +kernel)⟩
theorem lw_p10 : lw_okq (⟨"MapMerger$Blobs", "addText", "([BII)V"⟩, 8) := ⟨⟨by decide +kernel, by decide +kernel⟩, List.mem_of_getElem? (i := 57) (by decide +kernel), List.mem_of_getElem? (i := 599) (by decide +kernel), List.mem_of_getElem? (i := 600) (by decide +kernel)⟩
theorem lw_p11 : lw_okq (⟨"MapMerger$Blobs", "looksRough", "(II)Z"⟩, 8) := ⟨⟨by decide +kernel, by decide +kernel⟩, List.mem_of_getElem? (i := 57) (by decide +kernel), List.mem_of_getElem? (i := 604) (by decide +kernel), List.mem_of_getElem? (i := 605) (by decide +kernel)⟩
theorem lw_p12 : lw_okq (⟨"MapMerger$Blobs", "cutLines", "(II)V"⟩, 8) := ⟨⟨by decide +kernel, by decide +kernel⟩, List.mem_of_getElem? (i := 57) (by decide +kernel), List.mem_of_getElem? (i := 608) (by decide +kernel), List.mem_of_getElem? (i := 609) (by decide +kernel)⟩
theorem lw_p13 : lw_okq (⟨"MapMerger$LineTable", "bucketOf", "(II)I"⟩, 7) := ⟨⟨by decide +kernel, by decide +kernel⟩, List.mem_of_getElem? (i := 64) (by decide +kernel), List.mem_of_getElem? (i := 616) (by decide +kernel), List.mem_of_getElem? (i := 617) (by decide +kernel)⟩
theorem lw_p14 : lw_okq (⟨"MapMerger$LineTable", "findKind", "(III)I"⟩, 7) := ⟨⟨by decide +kernel, by decide +kernel⟩, List.mem_of_getElem? (i := 64) (by decide +kernel), List.mem_of_getElem? (i := 620) (by decide +kernel), List.mem_of_getElem? (i := 621) (by decide +kernel)⟩
theorem lw_p15 : lw_okq (⟨"MapMerger$PathMap", "insertAt", "(I[BII)V"⟩, 4) := ⟨⟨by decide +kernel, by decide +kernel⟩, List.mem_of_getElem? (i := 124) (by decide +kernel), List.mem_of_getElem? (i := 629) (by decide +kernel), List.mem_of_getElem? (i := 630) (by decide +kernel)⟩
def lw_privs_1 : List (MethodName × Nat) := [(⟨"java/lang/Throwable", "fillInStackTrace", "(I)Ljava/lang/Throwable;"⟩, 6), (⟨"MapMerger$Inbox", "dropFirstArgument", "()V"⟩, 4), (⟨"MapMerger$Inbox", "removeFront", "(I)V"⟩, 4), (⟨"MapMerger", "putArguments", "(I)I"⟩, 5), (⟨"MapMerger", "firstArgumentIsPath", "()Z"⟩, 5), (⟨"MapMerger$PathMap", "placeFor", "([BII)I"⟩, 4), (⟨"MapMerger$PathMap", "compareAt", "(I[BII)I"⟩, 4), (⟨"MapMerger$PathMap", "isAt", "(I[BII)Z"⟩, 4), (⟨"MapMerger$PathMap", "hasRoomFor", "([BII)Z"⟩, 4), (⟨"MapMerger$PathMap", "isBeneathOrAbove", "(I[BII)Z"⟩, 4), (⟨"MapMerger$Blobs", "addText", "([BII)V"⟩, 8), (⟨"MapMerger$Blobs", "looksRough", "(II)Z"⟩, 8), (⟨"MapMerger$Blobs", "cutLines", "(II)V"⟩, 8), (⟨"MapMerger$LineTable", "bucketOf", "(II)I"⟩, 7), (⟨"MapMerger$LineTable", "findKind", "(III)I"⟩, 7), (⟨"MapMerger$PathMap", "insertAt", "(I[BII)V"⟩, 4)]
theorem lw_r1 : ∀ q ∈ lw_privs_1, lw_okq q := List.forall_mem_cons.mpr ⟨lw_p0, List.forall_mem_cons.mpr ⟨lw_p1, List.forall_mem_cons.mpr ⟨lw_p2, List.forall_mem_cons.mpr ⟨lw_p3, List.forall_mem_cons.mpr ⟨lw_p4, List.forall_mem_cons.mpr ⟨lw_p5, List.forall_mem_cons.mpr ⟨lw_p6, List.forall_mem_cons.mpr ⟨lw_p7, List.forall_mem_cons.mpr ⟨lw_p8, List.forall_mem_cons.mpr ⟨lw_p9, List.forall_mem_cons.mpr ⟨lw_p10, List.forall_mem_cons.mpr ⟨lw_p11, List.forall_mem_cons.mpr ⟨lw_p12, List.forall_mem_cons.mpr ⟨lw_p13, List.forall_mem_cons.mpr ⟨lw_p14, List.forall_mem_cons.mpr ⟨lw_p15, fun _ h => absurd h List.not_mem_nil⟩⟩⟩⟩⟩⟩⟩⟩⟩⟩⟩⟩⟩⟩⟩⟩
theorem lw_p16 : lw_okq (⟨"MapMerger", "dropArgument", "(I)I"⟩, 5) := ⟨⟨by decide +kernel, by decide +kernel⟩, List.mem_of_getElem? (i := 28) (by decide +kernel), List.mem_of_getElem? (i := 664) (by decide +kernel), List.mem_of_getElem? (i := 665) (by decide +kernel)⟩
theorem lw_p17 : lw_okq (⟨"MapMerger$Renames", "listChanges", "(LMapMerger$PathMap;LMapMerger$PathMap;)V"⟩, 9) := ⟨⟨by decide +kernel, by decide +kernel⟩, List.mem_of_getElem? (i := 143) (by decide +kernel), List.mem_of_getElem? (i := 699) (by decide +kernel), List.mem_of_getElem? (i := 700) (by decide +kernel)⟩
theorem lw_p18 : lw_okq (⟨"MapMerger$Renames", "addGone", "(I)V"⟩, 9) := ⟨⟨by decide +kernel, by decide +kernel⟩, List.mem_of_getElem? (i := 143) (by decide +kernel), List.mem_of_getElem? (i := 711) (by decide +kernel), List.mem_of_getElem? (i := 712) (by decide +kernel)⟩
theorem lw_p19 : lw_okq (⟨"MapMerger$Renames", "addCome", "(I)V"⟩, 9) := ⟨⟨by decide +kernel, by decide +kernel⟩, List.mem_of_getElem? (i := 143) (by decide +kernel), List.mem_of_getElem? (i := 715) (by decide +kernel), List.mem_of_getElem? (i := 716) (by decide +kernel)⟩
theorem lw_p20 : lw_okq (⟨"MapMerger$Renames", "pairSameBlobs", "(LMapMerger$PathMap;LMapMerger$PathMap;)V"⟩, 9) := ⟨⟨by decide +kernel, by decide +kernel⟩, List.mem_of_getElem? (i := 143) (by decide +kernel), List.mem_of_getElem? (i := 719) (by decide +kernel), List.mem_of_getElem? (i := 720) (by decide +kernel)⟩
theorem lw_p21 : lw_okq (⟨"MapMerger$Renames", "join", "(III)V"⟩, 9) := ⟨⟨by decide +kernel, by decide +kernel⟩, List.mem_of_getElem? (i := 143) (by decide +kernel), List.mem_of_getElem? (i := 728) (by decide +kernel), List.mem_of_getElem? (i := 729) (by decide +kernel)⟩
theorem lw_p22 : lw_okq (⟨"MapMerger$Renames", "scoreAll", "(LMapMerger$PathMap;LMapMerger$PathMap;)V"⟩, 9) := ⟨⟨by decide +kernel, by decide +kernel⟩, List.mem_of_getElem? (i := 143) (by decide +kernel), List.mem_of_getElem? (i := 732) (by decide +kernel), List.mem_of_getElem? (i := 733) (by decide +kernel)⟩
theorem lw_p23 : lw_okq (⟨"MapMerger$Blobs", "commonLength", "(II)I"⟩, 8) := ⟨⟨by decide +kernel, by decide +kernel⟩, List.mem_of_getElem? (i := 57) (by decide +kernel), List.mem_of_getElem? (i := 743) (by decide +kernel), List.mem_of_getElem? (i := 744) (by decide +kernel)⟩
theorem lw_p24 : lw_okq (⟨"MapMerger$Renames", "pairByScore", "()V"⟩, 9) := ⟨⟨by decide +kernel, by decide +kernel⟩, List.mem_of_getElem? (i := 143) (by decide +kernel), List.mem_of_getElem? (i := 751) (by decide +kernel), List.mem_of_getElem? (i := 752) (by decide +kernel)⟩
theorem lw_p25 : lw_okq (⟨"MapMerger$Renames", "bestFreePair", "()I"⟩, 9) := ⟨⟨by decide +kernel, by decide +kernel⟩, List.mem_of_getElem? (i := 143) (by decide +kernel), List.mem_of_getElem? (i := 755) (by decide +kernel), List.mem_of_getElem? (i := 756) (by decide +kernel)⟩
theorem lw_p26 : lw_okq (⟨"MapMerger$Merging", "listGroups", "()V"⟩, 15) := ⟨⟨by decide +kernel, by decide +kernel⟩, List.mem_of_getElem? (i := 177) (by decide +kernel), List.mem_of_getElem? (i := 759) (by decide +kernel), List.mem_of_getElem? (i := 760) (by decide +kernel)⟩
theorem lw_p27 : lw_okq (⟨"MapMerger$Merging", "listGroup", "(III)V"⟩, 15) := ⟨⟨by decide +kernel, by decide +kernel⟩, List.mem_of_getElem? (i := 177) (by decide +kernel), List.mem_of_getElem? (i := 768) (by decide +kernel), List.mem_of_getElem? (i := 769) (by decide +kernel)⟩
theorem lw_p28 : lw_okq (⟨"MapMerger$Merging", "addGroup", "(III)Z"⟩, 15) := ⟨⟨by decide +kernel, by decide +kernel⟩, List.mem_of_getElem? (i := 177) (by decide +kernel), List.mem_of_getElem? (i := 784) (by decide +kernel), List.mem_of_getElem? (i := 785) (by decide +kernel)⟩
theorem lw_p29 : lw_okq (⟨"MapMerger$Merging", "isPathOfBase", "(ILMapMerger$PathMap;I)Z"⟩, 15) := ⟨⟨by decide +kernel, by decide +kernel⟩, List.mem_of_getElem? (i := 177) (by decide +kernel), List.mem_of_getElem? (i := 789) (by decide +kernel), List.mem_of_getElem? (i := 790) (by decide +kernel)⟩
theorem lw_p30 : lw_okq (⟨"MapMerger$Merging", "giveText", "(I)Z"⟩, 15) := ⟨⟨by decide +kernel, by decide +kernel⟩, List.mem_of_getElem? (i := 177) (by decide +kernel), List.mem_of_getElem? (i := 811) (by decide +kernel), List.mem_of_getElem? (i := 812) (by decide +kernel)⟩
theorem lw_p31 : lw_okq (⟨"MapMerger$TextMerger", "startText", "()V"⟩, 11) := ⟨⟨by decide +kernel, by decide +kernel⟩, List.mem_of_getElem? (i := 185) (by decide +kernel), List.mem_of_getElem? (i := 830) (by decide +kernel), List.mem_of_getElem? (i := 831) (by decide +kernel)⟩
def lw_privs_2 : List (MethodName × Nat) := [(⟨"MapMerger", "dropArgument", "(I)I"⟩, 5), (⟨"MapMerger$Renames", "listChanges", "(LMapMerger$PathMap;LMapMerger$PathMap;)V"⟩, 9), (⟨"MapMerger$Renames", "addGone", "(I)V"⟩, 9), (⟨"MapMerger$Renames", "addCome", "(I)V"⟩, 9), (⟨"MapMerger$Renames", "pairSameBlobs", "(LMapMerger$PathMap;LMapMerger$PathMap;)V"⟩, 9), (⟨"MapMerger$Renames", "join", "(III)V"⟩, 9), (⟨"MapMerger$Renames", "scoreAll", "(LMapMerger$PathMap;LMapMerger$PathMap;)V"⟩, 9), (⟨"MapMerger$Blobs", "commonLength", "(II)I"⟩, 8), (⟨"MapMerger$Renames", "pairByScore", "()V"⟩, 9), (⟨"MapMerger$Renames", "bestFreePair", "()I"⟩, 9), (⟨"MapMerger$Merging", "listGroups", "()V"⟩, 15), (⟨"MapMerger$Merging", "listGroup", "(III)V"⟩, 15), (⟨"MapMerger$Merging", "addGroup", "(III)Z"⟩, 15), (⟨"MapMerger$Merging", "isPathOfBase", "(ILMapMerger$PathMap;I)Z"⟩, 15), (⟨"MapMerger$Merging", "giveText", "(I)Z"⟩, 15), (⟨"MapMerger$TextMerger", "startText", "()V"⟩, 11)]
theorem lw_r2 : ∀ q ∈ lw_privs_2, lw_okq q := List.forall_mem_cons.mpr ⟨lw_p16, List.forall_mem_cons.mpr ⟨lw_p17, List.forall_mem_cons.mpr ⟨lw_p18, List.forall_mem_cons.mpr ⟨lw_p19, List.forall_mem_cons.mpr ⟨lw_p20, List.forall_mem_cons.mpr ⟨lw_p21, List.forall_mem_cons.mpr ⟨lw_p22, List.forall_mem_cons.mpr ⟨lw_p23, List.forall_mem_cons.mpr ⟨lw_p24, List.forall_mem_cons.mpr ⟨lw_p25, List.forall_mem_cons.mpr ⟨lw_p26, List.forall_mem_cons.mpr ⟨lw_p27, List.forall_mem_cons.mpr ⟨lw_p28, List.forall_mem_cons.mpr ⟨lw_p29, List.forall_mem_cons.mpr ⟨lw_p30, List.forall_mem_cons.mpr ⟨lw_p31, fun _ h => absurd h List.not_mem_nil⟩⟩⟩⟩⟩⟩⟩⟩⟩⟩⟩⟩⟩⟩⟩⟩
theorem lw_p32 : lw_okq (⟨"MapMerger$TextMerger", "pairLines", "(II[I)V"⟩, 11) := ⟨⟨by decide +kernel, by decide +kernel⟩, List.mem_of_getElem? (i := 185) (by decide +kernel), List.mem_of_getElem? (i := 842) (by decide +kernel), List.mem_of_getElem? (i := 843) (by decide +kernel)⟩
theorem lw_p33 : lw_okq (⟨"MapMerger$TextMerger", "fillLongest", "(II)V"⟩, 11) := ⟨⟨by decide +kernel, by decide +kernel⟩, List.mem_of_getElem? (i := 185) (by decide +kernel), List.mem_of_getElem? (i := 850) (by decide +kernel), List.mem_of_getElem? (i := 851) (by decide +kernel)⟩
theorem lw_p34 : lw_okq (⟨"MapMerger$TextMerger", "addStableLines", "(I)V"⟩, 11) := ⟨⟨by decide +kernel, by decide +kernel⟩, List.mem_of_getElem? (i := 185) (by decide +kernel), List.mem_of_getElem? (i := 856) (by decide +kernel), List.mem_of_getElem? (i := 857) (by decide +kernel)⟩
theorem lw_p35 : lw_okq (⟨"MapMerger$TextMerger", "addPart", "()V"⟩, 11) := ⟨⟨by decide +kernel, by decide +kernel⟩, List.mem_of_getElem? (i := 185) (by decide +kernel), List.mem_of_getElem? (i := 864) (by decide +kernel), List.mem_of_getElem? (i := 865) (by decide +kernel)⟩
theorem lw_p36 : lw_okq (⟨"MapMerger$TextMerger", "addBytes", "(II)V"⟩, 11) := ⟨⟨by decide +kernel, by decide +kernel⟩, List.mem_of_getElem? (i := 185) (by decide +kernel), List.mem_of_getElem? (i := 885) (by decide +kernel), List.mem_of_getElem? (i := 886) (by decide +kernel)⟩
theorem lw_p37 : lw_okq (⟨"MapMerger$TextMerger", "addMark", "(Ljava/lang/String;)V"⟩, 11) := ⟨⟨by decide +kernel, by decide +kernel⟩, List.mem_of_getElem? (i := 185) (by decide +kernel), List.mem_of_getElem? (i := 895) (by decide +kernel), List.mem_of_getElem? (i := 896) (by decide +kernel)⟩
theorem lw_p38 : lw_okq (⟨"MapMerger$TextMerger", "addByte", "(I)V"⟩, 11) := ⟨⟨by decide +kernel, by decide +kernel⟩, List.mem_of_getElem? (i := 185) (by decide +kernel), List.mem_of_getElem? (i := 947) (by decide +kernel), List.mem_of_getElem? (i := 948) (by decide +kernel)⟩
theorem lw_p39 : lw_okq (⟨"MapMerger$TextMerger", "endLine", "()V"⟩, 11) := ⟨⟨by decide +kernel, by decide +kernel⟩, List.mem_of_getElem? (i := 185) (by decide +kernel), List.mem_of_getElem? (i := 951) (by decide +kernel), List.mem_of_getElem? (i := 952) (by decide +kernel)⟩
theorem lw_p40 : lw_okq (⟨"MapMerger$TextMerger", "addLastPart", "()V"⟩, 11) := ⟨⟨by decide +kernel, by decide +kernel⟩, List.mem_of_getElem? (i := 185) (by decide +kernel), List.mem_of_getElem? (i := 965) (by decide +kernel), List.mem_of_getElem? (i := 966) (by decide +kernel)⟩
theorem lw_p41 : lw_okq (⟨"MapMerger$Merging", "giveMergedText", "(I)Z"⟩, 15) := ⟨⟨by decide +kernel, by decide +kernel⟩, List.mem_of_getElem? (i := 177) (by decide +kernel), List.mem_of_getElem? (i := 983) (by decide +kernel), List.mem_of_getElem? (i := 984) (by decide +kernel)⟩
theorem lw_p42 : lw_okq (⟨"MapMergerModel", "bad", "()I"⟩, 42) := ⟨⟨by decide +kernel, by decide +kernel⟩, List.mem_of_getElem? (i := 1095) (by decide +kernel), List.mem_of_getElem? (i := 1292) (by decide +kernel), List.mem_of_getElem? (i := 1293) (by decide +kernel)⟩
theorem lw_p43 : lw_okq (⟨"MapMergerModel", "takeAll", "()I"⟩, 42) := ⟨⟨by decide +kernel, by decide +kernel⟩, List.mem_of_getElem? (i := 1095) (by decide +kernel), List.mem_of_getElem? (i := 1326) (by decide +kernel), List.mem_of_getElem? (i := 1327) (by decide +kernel)⟩
theorem lw_p44 : lw_okq (⟨"MapMergerModel", "blobOf", "(LMapMergerModel$Row;)I"⟩, 42) := ⟨⟨by decide +kernel, by decide +kernel⟩, List.mem_of_getElem? (i := 1095) (by decide +kernel), List.mem_of_getElem? (i := 1343) (by decide +kernel), List.mem_of_getElem? (i := 1344) (by decide +kernel)⟩
theorem lw_p45 : lw_okq (⟨"MapMergerModel", "rebuild", "(LMapMergerModel$Paths;LMapMergerModel$Row;I)V"⟩, 42) := ⟨⟨by decide +kernel, by decide +kernel⟩, List.mem_of_getElem? (i := 1095) (by decide +kernel), List.mem_of_getElem? (i := 1350) (by decide +kernel), List.mem_of_getElem? (i := 1351) (by decide +kernel)⟩
theorem lw_p46 : lw_okq (⟨"MapMergerModel", "refused", "()I"⟩, 42) := ⟨⟨by decide +kernel, by decide +kernel⟩, List.mem_of_getElem? (i := 1095) (by decide +kernel), List.mem_of_getElem? (i := 1382) (by decide +kernel), List.mem_of_getElem? (i := 1383) (by decide +kernel)⟩
theorem lw_p47 : lw_okq (⟨"MapMergerModel", "mergeMaps", "()V"⟩, 42) := ⟨⟨by decide +kernel, by decide +kernel⟩, List.mem_of_getElem? (i := 1095) (by decide +kernel), List.mem_of_getElem? (i := 1411) (by decide +kernel), List.mem_of_getElem? (i := 1412) (by decide +kernel)⟩
def lw_privs_3 : List (MethodName × Nat) := [(⟨"MapMerger$TextMerger", "pairLines", "(II[I)V"⟩, 11), (⟨"MapMerger$TextMerger", "fillLongest", "(II)V"⟩, 11), (⟨"MapMerger$TextMerger", "addStableLines", "(I)V"⟩, 11), (⟨"MapMerger$TextMerger", "addPart", "()V"⟩, 11), (⟨"MapMerger$TextMerger", "addBytes", "(II)V"⟩, 11), (⟨"MapMerger$TextMerger", "addMark", "(Ljava/lang/String;)V"⟩, 11), (⟨"MapMerger$TextMerger", "addByte", "(I)V"⟩, 11), (⟨"MapMerger$TextMerger", "endLine", "()V"⟩, 11), (⟨"MapMerger$TextMerger", "addLastPart", "()V"⟩, 11), (⟨"MapMerger$Merging", "giveMergedText", "(I)Z"⟩, 15), (⟨"MapMergerModel", "bad", "()I"⟩, 42), (⟨"MapMergerModel", "takeAll", "()I"⟩, 42), (⟨"MapMergerModel", "blobOf", "(LMapMergerModel$Row;)I"⟩, 42), (⟨"MapMergerModel", "rebuild", "(LMapMergerModel$Paths;LMapMergerModel$Row;I)V"⟩, 42), (⟨"MapMergerModel", "refused", "()I"⟩, 42), (⟨"MapMergerModel", "mergeMaps", "()V"⟩, 42)]
theorem lw_r3 : ∀ q ∈ lw_privs_3, lw_okq q := List.forall_mem_cons.mpr ⟨lw_p32, List.forall_mem_cons.mpr ⟨lw_p33, List.forall_mem_cons.mpr ⟨lw_p34, List.forall_mem_cons.mpr ⟨lw_p35, List.forall_mem_cons.mpr ⟨lw_p36, List.forall_mem_cons.mpr ⟨lw_p37, List.forall_mem_cons.mpr ⟨lw_p38, List.forall_mem_cons.mpr ⟨lw_p39, List.forall_mem_cons.mpr ⟨lw_p40, List.forall_mem_cons.mpr ⟨lw_p41, List.forall_mem_cons.mpr ⟨lw_p42, List.forall_mem_cons.mpr ⟨lw_p43, List.forall_mem_cons.mpr ⟨lw_p44, List.forall_mem_cons.mpr ⟨lw_p45, List.forall_mem_cons.mpr ⟨lw_p46, List.forall_mem_cons.mpr ⟨lw_p47, fun _ h => absurd h List.not_mem_nil⟩⟩⟩⟩⟩⟩⟩⟩⟩⟩⟩⟩⟩⟩⟩⟩
theorem lw_p48 : lw_okq (⟨"MapMergerModel", "renames", "(LMapMergerModel$Paths;LMapMergerModel$Paths;[I[I)V"⟩, 42) := ⟨⟨by decide +kernel, by decide +kernel⟩, List.mem_of_getElem? (i := 1095) (by decide +kernel), List.mem_of_getElem? (i := 1415) (by decide +kernel), List.mem_of_getElem? (i := 1416) (by decide +kernel)⟩
theorem lw_p49 : lw_okq (⟨"MapMergerModel", "score", "(II)I"⟩, 42) := ⟨⟨by decide +kernel, by decide +kernel⟩, List.mem_of_getElem? (i := 1095) (by decide +kernel), List.mem_of_getElem? (i := 1427) (by decide +kernel), List.mem_of_getElem? (i := 1428) (by decide +kernel)⟩
theorem lw_p50 : lw_okq (⟨"MapMergerModel", "blobText", "(ILMapMergerModel$Row;)V"⟩, 42) := ⟨⟨by decide +kernel, by decide +kernel⟩, List.mem_of_getElem? (i := 1095) (by decide +kernel), List.mem_of_getElem? (i := 1431) (by decide +kernel), List.mem_of_getElem? (i := 1432) (by decide +kernel)⟩
theorem lw_p51 : lw_okq (⟨"MapMergerModel", "cut", "(I)V"⟩, 42) := ⟨⟨by decide +kernel, by decide +kernel⟩, List.mem_of_getElem? (i := 1095) (by decide +kernel), List.mem_of_getElem? (i := 1436) (by decide +kernel), List.mem_of_getElem? (i := 1437) (by decide +kernel)⟩
theorem lw_p52 : lw_okq (⟨"MapMergerModel", "sort", "(I)V"⟩, 42) := ⟨⟨by decide +kernel, by decide +kernel⟩, List.mem_of_getElem? (i := 1095) (by decide +kernel), List.mem_of_getElem? (i := 1440) (by decide +kernel), List.mem_of_getElem? (i := 1441) (by decide +kernel)⟩
theorem lw_p53 : lw_okq (⟨"MapMergerModel", "sameLine", "(IIII)Z"⟩, 42) := ⟨⟨by decide +kernel, by decide +kernel⟩, List.mem_of_getElem? (i := 1095) (by decide +kernel), List.mem_of_getElem? (i := 1444) (by decide +kernel), List.mem_of_getElem? (i := 1445) (by decide +kernel)⟩
theorem lw_p54 : lw_okq (⟨"MapMergerModel", "start", "(II)I"⟩, 42) := ⟨⟨by decide +kernel, by decide +kernel⟩, List.mem_of_getElem? (i := 1095) (by decide +kernel), List.mem_of_getElem? (i := 1448) (by decide +kernel), List.mem_of_getElem? (i := 1449) (by decide +kernel)⟩
theorem lw_p55 : lw_okq (⟨"MapMergerModel", "many", "(II)I"⟩, 42) := ⟨⟨by decide +kernel, by decide +kernel⟩, List.mem_of_getElem? (i := 1095) (by decide +kernel), List.mem_of_getElem? (i := 1455) (by decide +kernel), List.mem_of_getElem? (i := 1456) (by decide +kernel)⟩
theorem lw_p56 : lw_okq (⟨"MapMergerModel", "decide", "(III)V"⟩, 42) := ⟨⟨by decide +kernel, by decide +kernel⟩, List.mem_of_getElem? (i := 1095) (by decide +kernel), List.mem_of_getElem? (i := 1459) (by decide +kernel), List.mem_of_getElem? (i := 1460) (by decide +kernel)⟩
theorem lw_p57 : lw_okq (⟨"MapMergerModel", "outcome", "(LMapMergerModel$Paths;IIZIII)V"⟩, 42) := ⟨⟨by decide +kernel, by decide +kernel⟩, List.mem_of_getElem? (i := 1095) (by decide +kernel), List.mem_of_getElem? (i := 1464) (by decide +kernel), List.mem_of_getElem? (i := 1465) (by decide +kernel)⟩
theorem lw_p58 : lw_okq (⟨"MapMergerModel", "merged", "(LMapMergerModel$Row;)Z"⟩, 42) := ⟨⟨by decide +kernel, by decide +kernel⟩, List.mem_of_getElem? (i := 1095) (by decide +kernel), List.mem_of_getElem? (i := 1473) (by decide +kernel), List.mem_of_getElem? (i := 1474) (by decide +kernel)⟩
theorem lw_p59 : lw_okq (⟨"MapMergerModel", "pair", "(I)V"⟩, 42) := ⟨⟨by decide +kernel, by decide +kernel⟩, List.mem_of_getElem? (i := 1095) (by decide +kernel), List.mem_of_getElem? (i := 1477) (by decide +kernel), List.mem_of_getElem? (i := 1478) (by decide +kernel)⟩
theorem lw_p60 : lw_okq (⟨"MapMergerModel", "common", "(IIII)I"⟩, 42) := ⟨⟨by decide +kernel, by decide +kernel⟩, List.mem_of_getElem? (i := 1095) (by decide +kernel), List.mem_of_getElem? (i := 1481) (by decide +kernel), List.mem_of_getElem? (i := 1482) (by decide +kernel)⟩
theorem lw_p61 : lw_okq (⟨"MapMergerModel", "part", "(IIIIIILMapMergerModel$Row;)Z"⟩, 42) := ⟨⟨by decide +kernel, by decide +kernel⟩, List.mem_of_getElem? (i := 1095) (by decide +kernel), List.mem_of_getElem? (i := 1485) (by decide +kernel), List.mem_of_getElem? (i := 1486) (by decide +kernel)⟩
theorem lw_p62 : lw_okq (⟨"MapMergerModel", "ended", "(IIILMapMergerModel$Row;)V"⟩, 42) := ⟨⟨by decide +kernel, by decide +kernel⟩, List.mem_of_getElem? (i := 1095) (by decide +kernel), List.mem_of_getElem? (i := 1496) (by decide +kernel), List.mem_of_getElem? (i := 1497) (by decide +kernel)⟩
theorem lw_p63 : lw_okq (⟨"MapMergerModel", "freshBlob", "(LMapMergerModel$Row;Z)I"⟩, 42) := ⟨⟨by decide +kernel, by decide +kernel⟩, List.mem_of_getElem? (i := 1095) (by decide +kernel), List.mem_of_getElem? (i := 1504) (by decide +kernel), List.mem_of_getElem? (i := 1505) (by decide +kernel)⟩
def lw_privs_4 : List (MethodName × Nat) := [(⟨"MapMergerModel", "renames", "(LMapMergerModel$Paths;LMapMergerModel$Paths;[I[I)V"⟩, 42), (⟨"MapMergerModel", "score", "(II)I"⟩, 42), (⟨"MapMergerModel", "blobText", "(ILMapMergerModel$Row;)V"⟩, 42), (⟨"MapMergerModel", "cut", "(I)V"⟩, 42), (⟨"MapMergerModel", "sort", "(I)V"⟩, 42), (⟨"MapMergerModel", "sameLine", "(IIII)Z"⟩, 42), (⟨"MapMergerModel", "start", "(II)I"⟩, 42), (⟨"MapMergerModel", "many", "(II)I"⟩, 42), (⟨"MapMergerModel", "decide", "(III)V"⟩, 42), (⟨"MapMergerModel", "outcome", "(LMapMergerModel$Paths;IIZIII)V"⟩, 42), (⟨"MapMergerModel", "merged", "(LMapMergerModel$Row;)Z"⟩, 42), (⟨"MapMergerModel", "pair", "(I)V"⟩, 42), (⟨"MapMergerModel", "common", "(IIII)I"⟩, 42), (⟨"MapMergerModel", "part", "(IIIIIILMapMergerModel$Row;)Z"⟩, 42), (⟨"MapMergerModel", "ended", "(IIILMapMergerModel$Row;)V"⟩, 42), (⟨"MapMergerModel", "freshBlob", "(LMapMergerModel$Row;Z)I"⟩, 42)]
theorem lw_r4 : ∀ q ∈ lw_privs_4, lw_okq q := List.forall_mem_cons.mpr ⟨lw_p48, List.forall_mem_cons.mpr ⟨lw_p49, List.forall_mem_cons.mpr ⟨lw_p50, List.forall_mem_cons.mpr ⟨lw_p51, List.forall_mem_cons.mpr ⟨lw_p52, List.forall_mem_cons.mpr ⟨lw_p53, List.forall_mem_cons.mpr ⟨lw_p54, List.forall_mem_cons.mpr ⟨lw_p55, List.forall_mem_cons.mpr ⟨lw_p56, List.forall_mem_cons.mpr ⟨lw_p57, List.forall_mem_cons.mpr ⟨lw_p58, List.forall_mem_cons.mpr ⟨lw_p59, List.forall_mem_cons.mpr ⟨lw_p60, List.forall_mem_cons.mpr ⟨lw_p61, List.forall_mem_cons.mpr ⟨lw_p62, List.forall_mem_cons.mpr ⟨lw_p63, fun _ h => absurd h List.not_mem_nil⟩⟩⟩⟩⟩⟩⟩⟩⟩⟩⟩⟩⟩⟩⟩⟩
theorem lw_p64 : lw_okq (⟨"MapMergerModel", "seenLength", "(I)I"⟩, 42) := ⟨⟨by decide +kernel, by decide +kernel⟩, List.mem_of_getElem? (i := 1095) (by decide +kernel), List.mem_of_getElem? (i := 1517) (by decide +kernel), List.mem_of_getElem? (i := 1518) (by decide +kernel)⟩
def lw_privs_5 : List (MethodName × Nat) := [(⟨"MapMergerModel", "seenLength", "(I)I"⟩, 42)]
theorem lw_r5 : ∀ q ∈ lw_privs_5, lw_okq q := List.forall_mem_cons.mpr ⟨lw_p64, fun _ h => absurd h List.not_mem_nil⟩
def lw_privs : List (MethodName × Nat) := lw_privs_1 ++ (lw_privs_2 ++ (lw_privs_3 ++ (lw_privs_4 ++ (lw_privs_5))))
def lw_tbl : List Cond := k2_sels lw_privs ++ tables_1
theorem lw_privs_ok : ∀ q ∈ lw_privs, lw_okq q := by
  show ∀ q ∈ lw_privs_1 ++ (lw_privs_2 ++ (lw_privs_3 ++ (lw_privs_4 ++ (lw_privs_5)))), lw_okq q
  exact List.forall_mem_append.mpr ⟨lw_r1, List.forall_mem_append.mpr ⟨lw_r2, List.forall_mem_append.mpr ⟨lw_r3, List.forall_mem_append.mpr ⟨lw_r4, lw_r5⟩⟩⟩⟩
end
section
/-! ===== the classes by number: names, how many fields, the fields ===== -/
def am_cn : Nat → String
  | 0 => "MapMerger"
  | 1 => "MapMerger$Inbox"
  | 2 => "MapMerger$Blobs"
  | 3 => "MapMerger$LineTable"
  | 4 => "MapMerger$PathMap"
  | 5 => "MapMerger$Renames"
  | 6 => "MapMerger$Merging"
  | 7 => "MapMerger$TextMerger"
  | 8 => "MapMerger$Part"
  | 9 => "MapMerger$Outcomes"
  | 10 => "MapMergerModel"
  | 11 => "MapMergerModel$Paths"
  | 12 => "MapMergerModel$Row"
  | 13 => "java/lang/IllegalArgumentException"
  | 14 => "java/lang/IllegalStateException"
  | 15 => "java/util/NoSuchElementException"
  | 16 => "MapMergerModel$No"
  | _ => ""
def am_N : Nat → Nat
  | 0 => 5
  | 1 => 4
  | 2 => 8
  | 3 => 7
  | 4 => 4
  | 5 => 9
  | 6 => 15
  | 7 => 11
  | 8 => 4
  | 9 => 10
  | 10 => 42
  | 11 => 5
  | 12 => 2
  | _ => 0
/-- name, descriptor, final, type -/
def am_fl : Nat → List (String × String × Bool × FieldType)
  | 0 => [("inbox", "LMapMerger$Inbox;", true, .object "MapMerger$Inbox"), ("blobs", "LMapMerger$Blobs;", true, .object "MapMerger$Blobs"), ("maps", "[LMapMerger$PathMap;", true, .array (.object "MapMerger$PathMap")), ("renames", "LMapMerger$Renames;", true, .object "MapMerger$Renames"), ("merging", "LMapMerger$Merging;", true, .object "MapMerger$Merging")]
  | 1 => [("bytes", "[B", true, .array .byte), ("ends", "[I", true, .array .int), ("arguments", "I", false, .int), ("length", "I", false, .int)]
  | 2 => [("bytes", "[B", true, .array .byte), ("starts", "[I", true, .array .int), ("rough", "[Z", true, .array .boolean), ("firstLines", "[I", true, .array .int), ("lineCounts", "[I", true, .array .int), ("lines", "LMapMerger$LineTable;", true, .object "MapMerger$LineTable"), ("waiting", "[I", true, .array .int), ("size", "I", false, .int)]
  | 3 => [("bytes", "[B", true, .array .byte), ("starts", "[I", true, .array .int), ("lengths", "[I", true, .array .int), ("kinds", "[I", true, .array .int), ("heads", "[I", true, .array .int), ("chain", "[I", true, .array .int), ("size", "I", false, .int)]
  | 4 => [("letters", "[B", true, .array .byte), ("starts", "[I", true, .array .int), ("values", "[I", true, .array .int), ("size", "I", false, .int)]
  | 5 => [("blobs", "LMapMerger$Blobs;", true, .object "MapMerger$Blobs"), ("gone", "[I", true, .array .int), ("come", "[I", true, .array .int), ("comeTaken", "[Z", true, .array .boolean), ("scores", "[I", true, .array .int), ("partners", "[I", true, .array .int), ("partnerScores", "[I", true, .array .int), ("goneCount", "I", false, .int), ("comeCount", "I", false, .int)]
  | 6 => [("base", "LMapMerger$PathMap;", true, .object "MapMerger$PathMap"), ("ours", "LMapMerger$PathMap;", true, .object "MapMerger$PathMap"), ("theirs", "LMapMerger$PathMap;", true, .object "MapMerger$PathMap"), ("blobs", "LMapMerger$Blobs;", true, .object "MapMerger$Blobs"), ("toOurs", "LMapMerger$Renames;", true, .object "MapMerger$Renames"), ("toTheirs", "LMapMerger$Renames;", true, .object "MapMerger$Renames"), ("oursUsed", "[Z", true, .array .boolean), ("theirsUsed", "[Z", true, .array .boolean), ("groupsP", "[I", true, .array .int), ("groupsA", "[I", true, .array .int), ("groupsB", "[I", true, .array .int), ("merger", "LMapMerger$TextMerger;", true, .object "MapMerger$TextMerger"), ("groupCount", "I", false, .int), ("latest", "LMapMerger$Outcomes;", false, .object "MapMerger$Outcomes"), ("spare", "LMapMerger$Outcomes;", false, .object "MapMerger$Outcomes")]
  | 7 => [("blobs", "LMapMerger$Blobs;", true, .object "MapMerger$Blobs"), ("base", "LMapMerger$Part;", true, .object "MapMerger$Part"), ("ours", "LMapMerger$Part;", true, .object "MapMerger$Part"), ("theirs", "LMapMerger$Part;", true, .object "MapMerger$Part"), ("longest", "[I", true, .array .int), ("oursPairs", "[I", true, .array .int), ("theirsPairs", "[I", true, .array .int), ("text", "[B", true, .array .byte), ("length", "I", false, .int), ("conflict", "Z", false, .boolean), ("tooLong", "Z", false, .boolean)]
  | 8 => [("blobs", "LMapMerger$Blobs;", true, .object "MapMerger$Blobs"), ("number", "I", false, .int), ("from", "I", false, .int), ("to", "I", false, .int)]
  | 9 => [("blobs", "LMapMerger$Blobs;", true, .object "MapMerger$Blobs"), ("places", "LMapMerger$PathMap;", true, .object "MapMerger$PathMap"), ("unmerged", "[Z", true, .array .boolean), ("sources", "[I", true, .array .int), ("textBlobs", "[I", true, .array .int), ("textStarts", "[I", true, .array .int), ("textLengths", "[I", true, .array .int), ("mergedBytes", "[B", true, .array .byte), ("mergedLength", "I", false, .int), ("unmergedCount", "I", false, .int)]
  | 10 => [("thrown", "I", false, .int), ("maps", "[LMapMergerModel$Paths;", true, .array (.object "MapMergerModel$Paths")), ("blobs", "LMapMergerModel$Row;", true, .object "MapMergerModel$Row"), ("blobFrom", "[I", true, .array .int), ("blobMany", "I", false, .int), ("input", "LMapMergerModel$Row;", true, .object "MapMergerModel$Row"), ("arguments", "[LMapMergerModel$Row;", true, .array (.object "MapMergerModel$Row")), ("given", "I", false, .int), ("texts", "[LMapMergerModel$Row;", true, .array (.object "MapMergerModel$Row")), ("starts", "[I", true, .array .int), ("kinds", "[I", true, .array .int), ("count", "[I", true, .array .int), ("partner", "[I", true, .array .int), ("above", "[I", true, .array .int), ("below", "[I", true, .array .int), ("gone", "[I", true, .array .int), ("come", "[I", true, .array .int), ("scores", "[S", true, .array .short), ("goneMany", "I", false, .int), ("comeMany", "I", false, .int), ("base", "LMapMergerModel$Paths;", true, .object "MapMergerModel$Paths"), ("mine", "LMapMergerModel$Paths;", true, .object "MapMergerModel$Paths"), ("theirs", "LMapMergerModel$Paths;", true, .object "MapMergerModel$Paths"), ("outcome", "LMapMergerModel$Paths;", true, .object "MapMergerModel$Paths"), ("result", "LMapMergerModel$Paths;", true, .object "MapMergerModel$Paths"), ("toOurs", "[I", true, .array .int), ("toTheirs", "[I", true, .array .int), ("anyScore", "[I", true, .array .int), ("oursDone", "[Z", true, .array .boolean), ("theirsDone", "[Z", true, .array .boolean), ("fresh", "LMapMergerModel$Row;", true, .object "MapMergerModel$Row"), ("merge", "LMapMergerModel$Row;", true, .object "MapMergerModel$Row"), ("freshFrom", "[I", true, .array .int), ("freshMany", "I", false, .int), ("baseAt", "[I", true, .array .int), ("oursAt", "[I", true, .array .int), ("theirsAt", "[I", true, .array .int), ("next", "LMapMergerModel$Paths;", true, .object "MapMergerModel$Paths"), ("seen", "LMapMergerModel$Paths;", true, .object "MapMergerModel$Paths"), ("seenTexts", "LMapMergerModel$Row;", true, .object "MapMergerModel$Row"), ("seenFrom", "[I", true, .array .int), ("seenBlob", "[I", true, .array .int)]
  | 11 => [("names", "LMapMergerModel$Row;", true, .object "MapMergerModel$Row"), ("from", "[I", true, .array .int), ("blobs", "[I", true, .array .int), ("unmerged", "[Z", true, .array .boolean), ("n", "I", false, .int)]
  | 12 => [("at", "[B", false, .array .byte), ("n", "I", false, .int)]
  | _ => []
def am_fd (c k : Nat) : String × String × Bool × FieldType := (am_fl c).getD k ("", "", false, .int)
def am_NC : Nat := 17
/-! ===== THE ABSTRACT MACHINE: addresses by number (8 and on: made since the law began, in their order; below 8: what was there before), a heap of plain cells ===== -/
/-- the law's first state; what was there before, by number; the classes' numbers in the tables; the slots of their fields -/
abbrev am_G : Type := State × (Nat → Nat) × (Nat → ClassId) × (Nat → Nat → Nat)
abbrev am_C : Type := (FieldType × Nat × (Nat → Value)) ⊕ (Nat × List Value)
/-- next address, slots used so far, heap -/
abbrev am_S : Type := Nat × Nat × (Nat → Option am_C)
/-- name, bytes, locals, what it returns, handlers, frames and locals that its calls need -/
abbrev am_M : Type := MethodName × ByteArray × Nat × Option FieldType × List (Nat × Nat × Nat × Nat) × Nat × Nat
def am_r (g : am_G) (k : Nat) : Nat := if k < 8 then g.2.1 k else g.1.heap.size + (k - 8)
def am_up (g : am_G) : Value → Value
  | .ref k => .ref (am_r g k)
  | v => v
/-- an array of references: the class of its components -/
def am_ok (U : State) (cA : ClassId) : FieldType → Prop
  | .object C => ∃ (kA : Class) (comp : ClassId), U.vm.classes[cA]? = some kA ∧ kA.kind = .array comp (.object C) ∧ U.vm.findClass C = some comp
  | _ => True
def am_at (g : am_G) (a : Nat) (x : am_C) (H : Heap) : Prop := match x with
  | .inl y => ∃ cell : Cell, H[a]? = some cell ∧ g.1.isArrayOf cell y.1 ∧ am_ok g.1 cell.cls y.1 ∧ cell.vm ≠ .unknown ∧ (y.2.1 ≤ cell.slots.size ∧ cell.slots.size.toInt32 = Int32.ofNat y.2.1) ∧ ∀ j, j < y.2.1 → cell.slots[j]? = some (am_up g (y.2.2 j)) ∧ fits y.1 (am_up g (y.2.2 j)) = true
  | .inr y => t_OB a (g.2.2.1 y.1) (am_N y.1) (g.2.2.2 y.1) H (vp_V (y.2.map (am_up g)))
def am_R (g : am_G) (σ : am_S) (H : Heap) : Prop :=
  (∀ (k : Nat) (x : am_C), σ.2.2 k = some x → am_at g (am_r g k) x H) ∧ H.size = g.1.heap.size + (σ.1 - 8) ∧ 8 ≤ σ.1 ∧ ∀ a, a < g.1.heap.size → H[a]? = g.1.heap[a]?
/-- words that speak of static fields' cells -/
def am_hw : List Cond := [.laysStatic "java/lang/Throwable" "UNASSIGNED_STACK" "[Ljava/lang/StackTraceElement;", .laysStatic "java/lang/Throwable" "SUPPRESSED_SENTINEL" "Ljava/util/List;", .isRef (.static "java/lang/Throwable" "UNASSIGNED_STACK" "[Ljava/lang/StackTraceElement;"), .isRef (.static "java/lang/Throwable" "SUPPRESSED_SENTINEL" "Ljava/util/List;")]
/-- the three marks (2, 3, 4), their bytes' arrays (5, 6, 7), String's own static -/
def am_str (g : am_G) : Prop :=
  (∀ i, 2 ≤ i → i < 5 → va_O "java/lang/String" (g.2.1 i) (fun q => g.1.heap.size ≤ q) g.1 g.1.heap ∧ va_OF "java/lang/String" "coder" "B" (.int 0) (g.2.1 i) (fun q => g.1.heap.size ≤ q) g.1 g.1.heap ∧ va_OF "java/lang/String" "value" "[B" (.ref (g.2.1 (i + 3))) (g.2.1 i) (fun q => g.1.heap.size ≤ q) g.1 g.1.heap) ∧
  va_Z "java/lang/String" "COMPACT_STRINGS" "Z" (.int 1) (fun q => g.1.heap.size ≤ q) g.1 g.1.heap ∧
  (vk_R "MapMerger$TextMerger" 132 "<<<<<<< ours\n" (g.2.1 2) g.1 ∧ vk_R "MapMerger$TextMerger" 141 "=======\n" (g.2.1 3) g.1 ∧ vk_R "MapMerger$TextMerger" 143 ">>>>>>> theirs\n" (g.2.1 4) g.1) ∧
  (vk_R "MapMergerModel" 80 "<<<<<<< ours\n" (g.2.1 2) g.1 ∧ vk_R "MapMergerModel" 89 "=======\n" (g.2.1 3) g.1 ∧ vk_R "MapMergerModel" 91 ">>>>>>> theirs\n" (g.2.1 4) g.1) ∧
  ∃ v : Value, v.category = 1 ∧ va_Z "jdk/internal/util/Preconditions" "SIOOBE_FORMATTER" "Ljava/util/function/BiFunction;" v (fun q => g.1.heap.size ≤ q) g.1 g.1.heap
/-- what is known of the start -/
def am_K (g : am_G) : Prop :=
  (∀ w ∈ lw_tbl, (goodWord w = true ∨ w.onTables = true ∨ ∃ C, w = .arrayOver (.object C)) → w.before #[] g.1 = true) ∧
  (∀ c, c < am_NC → ClassAt g.1 (am_cn c) (g.2.2.1 c) ∧ ∀ k, k < am_N c → SlotIs g.1 (am_cn c) (am_fd c k).1 (am_fd c k).2.1 (g.2.2.2 c k)) ∧
  (∀ k, k < 8 → g.2.1 k < g.1.heap.size) ∧
  (g.1.vm.assignable (g.2.2.1 14) (g.2.2.1 13) = false ∧ g.1.vm.assignable (g.2.2.1 15) (g.2.2.1 13) = false) ∧
  ((∀ w ∈ am_hw, w.before #[] g.1 = true) ∧ va_Z "MapMergerModel" "REFUSED" "LMapMergerModel$No;" (.ref (g.2.1 1)) (fun q => g.1.heap.size ≤ q) g.1 g.1.heap ∧ am_str g)
abbrev am_name (M : am_M) : MethodName := M.1
abbrev am_code (M : am_M) : ByteArray := M.2.1
abbrev am_maxL (M : am_M) : Nat := M.2.2.1
abbrev am_ret (M : am_M) : Option FieldType := M.2.2.2.1
abbrev am_hand (M : am_M) : List (Nat × Nat × Nat × Nat) := M.2.2.2.2.1
abbrev am_fr (M : am_M) : Nat := M.2.2.2.2.2.1
abbrev am_lc (M : am_M) : Nat := M.2.2.2.2.2.2
/-- a method's own facts, at its entry -/
def am_Cx (g : am_G) (M : am_M) (p : Program) (l : Launch) (e : Env) (R : Room) (s : State) (m : MethodId) (meth : Method) (c : Code) : Prop :=
  p.tables.exec = Jvm.exec ∧ c.code = am_code M ∧ c.maxLocals = am_maxL M ∧ s.vm.findClass (am_name M).cls = some m.cls ∧ meth.sig.returnType = am_ret M ∧ meth.locks = false ∧ meth.name = (am_name M).name ∧
  c.exceptionTable.toList.map (fun x => (x.startPc, x.endPc, x.handlerPc, x.catchType)) = am_hand M ∧ am_fr M ≤ R.frames ∧ am_lc M ≤ R.locals ∧ (l.flags = flags0 ∧ ∀ a, a < g.1.heap.size → s.heap[a]? = g.1.heap[a]?) ∧ g.1.WarmedH s.vm ∧ am_K g
def am_L (g : am_G) (nL : Nat) (lv : List (Option Value)) (ls : Array Slot) : Prop :=
  ls.size = nL ∧ lv_wf ls ∧ ∀ (i : Nat) (v : Value), lv[i]? = some (some v) → v.category = 1 ∧ ls[i]? = some (.val (am_up g v))
def am_upO (g : am_G) : Outcome → Outcome
  | .returned v => .returned (v.map (am_up g))
  | .threw a => .threw (am_r g a)
/-- how a method ends -/
def am_End (g : am_G) (below : List Frame) (s : State) (σ0 σ' : am_S) (res : Outcome) : State → Prop := fun t =>
  t.status = .running ∧ Ended t below (am_upO g res) ∧ am_R g σ' t.heap ∧ s.WarmedH t.vm ∧ ∃ L : List Loc, s.sameButNew ({ t with vm := s.vm } : State) L (σ'.1 - σ0.1) (σ'.2.1 - σ0.2.1) ∧ ∀ q ∈ L, g.1.heap.size ≤ q.base
/-- the machine, at pc with these locals, this stack and this heap, comes to that end -/
def am_J (g : am_G) (M : am_M) (σ0 σ' : am_S) (res : Outcome) (pc : Nat) (lv : List (Option Value)) (st : List Value) (σ : am_S) : Prop :=
  ∀ (p : Program) (l : Launch) (e : Env) (R : Room) (s : State) (m : MethodId) (args : Array Value) (below : List Frame) (meth : Method) (c : Code) (H : Heap) (locs : List Loc) (ls : Array Slot),
    am_Cx g M p l e R s m meth c → σ'.1 - σ0.1 ≤ R.cells → σ'.2.1 - σ0.2.1 ≤ R.slots → σ0.1 ≤ σ.1 → σ0.2.1 ≤ σ.2.1 → am_R g σ H → am_L g (am_maxL M) lv ls → (∀ q ∈ locs, g.1.heap.size ≤ q.base) →
    W p l e R s m args below meth c H locs (σ.1 - σ0.1) (σ.2.1 - σ0.2.1) (am_End g below s σ0 σ' res) (F0 m pc ls (st.map (am_up g)))
/-- the machine does what the expression says, where it says something -/
def am_W (g : am_G) (M : am_M) (σ0 : am_S) (pc : Nat) (lv : List (Option Value)) (st : List Value) (σ : am_S) {β : Type} (E : Option β) (k : β → Option (Outcome × am_S)) : Prop :=
  ∀ (res : Outcome) (σ' : am_S), E.bind k = some (res, σ') → σ.1 ≤ σ'.1 ∧ σ.2.1 ≤ σ'.2.1 ∧ am_J g M σ0 σ' res pc lv st σ
/-! ===== small facts ===== -/
theorem am_word {g : am_G} {s : State} {args : Array Value} (hK : am_K g) (hW : g.1.WarmedH s.vm) {w : Cond} (hw : w ∈ lw_tbl) (hg : goodWord w = true) : w.before args s = true := by
  refine word_at hW ?_ (hK.1 w hw (Or.inl hg))
  exact good_of_word hg
theorem am_wordF {g : am_G} {s : State} {args : Array Value} (hK : am_K g) (hW : g.1.WarmedH s.vm) {a : String} {i : Nat} {b n d h : String} (hw : Cond.fieldLinkNest a i b n d h ∈ lw_tbl) : (Cond.fieldLinkNest a i b n d h).before args s = true :=
  va_Nw.use rfl (va_Nw.warmF hW (hK.1 _ hw (Or.inr (Or.inl rfl))))
theorem am_wordM {g : am_G} {s : State} {args : Array Value} (hK : am_K g) (hW : g.1.WarmedH s.vm) {a : String} {i : Nat} {x : MethodName} {h : String} (hw : Cond.methodLinkNest a i x h ∈ lw_tbl) : (Cond.methodLinkNest a i x h).before args s = true :=
  va_Nw.use rfl (va_Nw.warmM hW (hK.1 _ hw (Or.inr (Or.inl rfl))))
theorem am_wordC {g : am_G} {s : State} {args : Array Value} (hK : am_K g) (hW : g.1.WarmedH s.vm) {a b : String} (hw : Cond.castable a b ∈ lw_tbl) : (Cond.castable a b).before args s = true :=
  va_Nw.use rfl (va_Nw.warmC hW (hK.1 _ hw (Or.inr (Or.inl rfl))))
theorem am_wordD {g : am_G} {s : State} {args : Array Value} (hK : am_K g) (hW : g.1.WarmedH s.vm) {x : MethodName} (hw : Cond.declares x ∈ lw_tbl) : (Cond.declares x).before args s = true :=
  va_Nw.use rfl (va_Nw.warmD hW (hK.1 _ hw (Or.inr (Or.inl rfl))))
theorem am_wordO {g : am_G} {s : State} {args : Array Value} (hK : am_K g) (hW : g.1.WarmedH s.vm) {C : String} (hw : Cond.arrayOver (.object C) ∈ lw_tbl) : (Cond.arrayOver (.object C)).before args s = true :=
  va_AO.use (va_AO.moved hW.alike (hK.1 _ hw (Or.inr (Or.inr ⟨C, rfl⟩))))
theorem am_alike {g : am_G} {s : State} (hW : g.1.WarmedH s.vm) : g.1.vm.Alike s.vm := hW.alike
theorem am_L.get {g : am_G} {nL : Nat} {lv : List (Option Value)} {ls : Array Slot} (h : am_L g nL lv ls) {i : Nat} {v : Value} (hi : lv[i]? = some (some v)) : ls[i]? = some (.val (am_up g v)) := (h.2.2 i v hi).2
theorem am_cat (g : am_G) (v : Value) : (am_up g v).category = v.category := by cases v <;> rfl
def am_pairs (g : am_G) (lv : List (Option Value)) : List (Nat × Value) := (List.range lv.length).filterMap fun i => match lv[i]? with
  | some (some v) => some (i, am_up g v)
  | _ => none
theorem am_pairs_mem {g : am_G} {lv : List (Option Value)} {q : Nat × Value} (h : q ∈ am_pairs g lv) : ∃ v, lv[q.1]? = some (some v) ∧ q.2 = am_up g v := by
  obtain ⟨i, -, hi⟩ := List.mem_filterMap.mp h
  split at hi
  · rename_i v hv
    cases hi
    exact ⟨v, hv, rfl⟩
  · cases hi
theorem am_pairs_in {g : am_G} {lv : List (Option Value)} {i : Nat} {v : Value} (h : lv[i]? = some (some v)) : (i, am_up g v) ∈ am_pairs g lv := by
  refine List.mem_filterMap.mpr ⟨i, List.mem_range.mpr (List.getElem?_eq_some_iff.mp h).1, ?_⟩
  simp [h]
theorem am_L.has {g : am_G} {nL : Nat} {lv : List (Option Value)} {ls : Array Slot} (h : am_L g nL lv ls) : lv_has ls nL (am_pairs g lv) := by
  refine ⟨h.1, h.2.1, fun q hq => ?_⟩
  obtain ⟨v, h1, h2⟩ := am_pairs_mem hq
  rw [h2]
  exact (h.2.2 _ _ h1).2
theorem am_L.store {g : am_G} {nL : Nat} {lv : List (Option Value)} {ls ls' : Array Slot} (h : am_L g nL lv ls) {i : Nat} {v : Value} (hc : v.category = 1)
    (h' : lv_has ls' nL ((i, am_up g v) :: (am_pairs g lv).filter (fun q => !(q.1 == i) && !(q.1 + 1 == i && q.2.category == 2)))) : am_L g nL (lv.set i (some v)) ls' := by
  refine ⟨h'.1, h'.2.1, fun j w hj => ?_⟩
  by_cases hji : j = i
  · subst hji
    have hl : j < lv.length := by
      have := (List.getElem?_eq_some_iff.mp hj).1
      simpa using this
    rw [List.getElem?_set_self hl] at hj
    cases hj
    exact ⟨hc, h'.2.2 (j, am_up g v) List.mem_cons_self⟩
  · rw [List.getElem?_set_ne (Ne.symm hji)] at hj
    have h1 := (h.2.2 j w hj).1
    refine ⟨h1, h'.2.2 (j, am_up g w) (List.mem_cons_of_mem _ (List.mem_filter.mpr ⟨am_pairs_in hj, ?_⟩))⟩
    simp [hji, am_cat, h1]
end
section
section AW
variable {g : am_G} {M : am_M} {σ0 σ : am_S} {pc : Nat} {lv : List (Option Value)} {st : List Value} {β : Type} {E E1 E2 : Option β} {k : β → Option (Outcome × am_S)}
theorem am_W.pure {pc' : Nat} {st' : List Value} (h : ∀ {p : Program} {l : Launch} {e : Env} {R : Room} {s : State} {m : MethodId} {args : Array Value} {below : List Frame} {meth : Method} {c : Code} {H : Heap} {locs : List Loc} {cells slots : Nat} {Q : State → Prop} {ls : Array Slot},
      am_Cx g M p l e R s m meth c → am_L g (am_maxL M) lv ls → W p l e R s m args below meth c H locs cells slots Q (F0 m pc' ls (st'.map (am_up g))) → W p l e R s m args below meth c H locs cells slots Q (F0 m pc ls (st.map (am_up g))))
    (kk : am_W g M σ0 pc' lv st' σ E k) : am_W g M σ0 pc lv st σ E k := by
  intro res σ' hE
  obtain ⟨a, b, j⟩ := kk res σ' hE
  exact ⟨a, b, fun p l e R s m args below meth c H locs ls C hc hs h1 h2 hR hL hl => h C hL (j p l e R s m args below meth c H locs ls C hc hs h1 h2 hR hL hl)⟩
theorem am_W.stored {pc' i : Nat} {v : Value} (hv : v.category = 1) (h : ∀ {p : Program} {l : Launch} {e : Env} {R : Room} {s : State} {m : MethodId} {args : Array Value} {below : List Frame} {meth : Method} {c : Code} {H : Heap} {locs : List Loc} {cells slots : Nat} {Q : State → Prop} {ls : Array Slot},
      am_Cx g M p l e R s m meth c → am_L g (am_maxL M) lv ls → (∀ ls' : Array Slot, lv_has ls' (am_maxL M) ((i, am_up g v) :: (am_pairs g lv).filter (fun q => !(q.1 == i) && !(q.1 + 1 == i && q.2.category == 2))) → W p l e R s m args below meth c H locs cells slots Q (F0 m pc' ls' (st.map (am_up g)))) → W p l e R s m args below meth c H locs cells slots Q (F0 m pc ls ((v :: st).map (am_up g))))
    (kk : am_W g M σ0 pc' (lv.set i (some v)) st σ E k) : am_W g M σ0 pc lv (v :: st) σ E k := by
  intro res σ' hE
  obtain ⟨a, b, j⟩ := kk res σ' hE
  exact ⟨a, b, fun p l e R s m args below meth c H locs ls C hc hs h1 h2 hR hL hl => h C hL fun ls' h' => j p l e R s m args below meth c H locs ls' C hc hs h1 h2 hR (hL.store hv h') hl⟩
theorem am_W.none {k : β → Option (Outcome × am_S)} : am_W g M σ0 pc lv st σ (none : Option β) k := by
  intro res σ' hE
  cases hE
theorem am_W.done {x : β} (kk : am_W g M σ0 pc lv st σ (k x) some) : am_W g M σ0 pc lv st σ (some x) k := by
  intro res σ' hE
  exact kk res σ' ((show (k x).bind some = k x by cases k x <;> rfl).trans hE)
theorem am_W.cont {γ : Type} {f : γ → Option β} {X : Option γ} (kk : am_W g M σ0 pc lv st σ X (fun x => (f x).bind k)) : am_W g M σ0 pc lv st σ (X.bind f) k := by
  intro res σ' hE
  exact kk res σ' (by rw [← hE]; cases X <;> rfl)
theorem am_W.ite {c : Prop} {d : Decidable c} (h1 : c → am_W g M σ0 pc lv st σ E1 k) (h2 : ¬ c → am_W g M σ0 pc lv st σ E2 k) : am_W g M σ0 pc lv st σ (@ite _ c d E1 E2) k := by
  by_cases hc : c
  · rw [if_pos hc]; exact h1 hc
  · rw [if_neg hc]; exact h2 hc
theorem aw_iconst (n : Int) {v : Int32} (hd : decode (am_code M) pc = .ok (.iconst n, 1) := by decide +kernel) (hv : Int32.ofInt n = v := by rfl) (kk : am_W g M σ0 (pc + 1) lv (.int v :: st) σ E k) : am_W g M σ0 pc lv (st) σ E k :=
  kk.pure fun C hL w => lv_iconst C.1 C.2.1 hd hv w
theorem aw_bipush (n : Int) {v : Int32} (hd : decode (am_code M) pc = .ok (.bipush n, 2) := by decide +kernel) (hv : (Int8.ofInt n).toInt32 = v := by rfl) (kk : am_W g M σ0 (pc + 2) lv (.int v :: st) σ E k) : am_W g M σ0 pc lv (st) σ E k :=
  kk.pure fun C hL w => lv_bipush C.1 C.2.1 hd hv w
theorem aw_sipush (n : Int) {v : Int32} (hd : decode (am_code M) pc = .ok (.sipush n, 3) := by decide +kernel) (hv : (Int16.ofInt n).toInt32 = v := by rfl) (kk : am_W g M σ0 (pc + 3) lv (.int v :: st) σ E k) : am_W g M σ0 pc lv (st) σ E k :=
  kk.pure fun C hL w => lv_sipush C.1 C.2.1 hd hv w
theorem aw_iload_n (i : Fin 4) {x : Int32} (hd : decode (am_code M) pc = .ok (.iload_n i, 1) := by decide +kernel) (hl : lv[(i : Nat)]? = some (some (.int x)) := by rfl) (kk : am_W g M σ0 (pc + 1) lv (.int x :: st) σ E k) : am_W g M σ0 pc lv (st) σ E k :=
  kk.pure fun C hL w => lv_iload_n C.1 C.2.1 hd rfl (hL.get hl) w
theorem aw_iload (i : Nat) {x : Int32} (hd : decode (am_code M) pc = .ok (.iload i, 2) := by decide +kernel) (hl : lv[i]? = some (some (.int x)) := by rfl) (kk : am_W g M σ0 (pc + 2) lv (.int x :: st) σ E k) : am_W g M σ0 pc lv (st) σ E k :=
  kk.pure fun C hL w => lv_iload C.1 C.2.1 hd (hL.get hl) w
theorem aw_aload_n (i : Fin 4) {x : Nat} (hd : decode (am_code M) pc = .ok (.aload_n i, 1) := by decide +kernel) (hl : lv[(i : Nat)]? = some (some (.ref x)) := by rfl) (kk : am_W g M σ0 (pc + 1) lv (.ref x :: st) σ E k) : am_W g M σ0 pc lv (st) σ E k :=
  kk.pure fun C hL w => lv_aload_n C.1 C.2.1 hd rfl (hL.get hl) w
theorem aw_aload (i : Nat) {x : Nat} (hd : decode (am_code M) pc = .ok (.aload i, 2) := by decide +kernel) (hl : lv[i]? = some (some (.ref x)) := by rfl) (kk : am_W g M σ0 (pc + 2) lv (.ref x :: st) σ E k) : am_W g M σ0 pc lv (st) σ E k :=
  kk.pure fun C hL w => lv_aload C.1 C.2.1 hd (hL.get hl) w
theorem aw_iadd {x y : Int32} (hd : decode (am_code M) pc = .ok (.iadd, 1) := by decide +kernel) (kk : am_W g M σ0 (pc + 1) lv (.int (x + y) :: st) σ E k) : am_W g M σ0 pc lv (.int y :: .int x :: st) σ E k :=
  kk.pure fun C hL w => lv_iadd C.1 C.2.1 hd w
theorem aw_isub {x y : Int32} (hd : decode (am_code M) pc = .ok (.isub, 1) := by decide +kernel) (kk : am_W g M σ0 (pc + 1) lv (.int (x - y) :: st) σ E k) : am_W g M σ0 pc lv (.int y :: .int x :: st) σ E k :=
  kk.pure fun C hL w => lv_isub C.1 C.2.1 hd w
theorem aw_imul {x y : Int32} (hd : decode (am_code M) pc = .ok (.imul, 1) := by decide +kernel) (kk : am_W g M σ0 (pc + 1) lv (.int (x * y) :: st) σ E k) : am_W g M σ0 pc lv (.int y :: .int x :: st) σ E k :=
  kk.pure fun C hL w => lv_imul C.1 C.2.1 hd w
theorem aw_iand {x y : Int32} (hd : decode (am_code M) pc = .ok (.iand, 1) := by decide +kernel) (kk : am_W g M σ0 (pc + 1) lv (.int (x &&& y) :: st) σ E k) : am_W g M σ0 pc lv (.int y :: .int x :: st) σ E k :=
  kk.pure fun C hL w => lv_iand C.1 C.2.1 hd w
theorem aw_ior {x y : Int32} (hd : decode (am_code M) pc = .ok (.ior, 1) := by decide +kernel) (kk : am_W g M σ0 (pc + 1) lv (.int (x ||| y) :: st) σ E k) : am_W g M σ0 pc lv (.int y :: .int x :: st) σ E k :=
  kk.pure fun C hL w => lv_ior C.1 C.2.1 hd w
theorem aw_ixor {x y : Int32} (hd : decode (am_code M) pc = .ok (.ixor, 1) := by decide +kernel) (kk : am_W g M σ0 (pc + 1) lv (.int (x ^^^ y) :: st) σ E k) : am_W g M σ0 pc lv (.int y :: .int x :: st) σ E k :=
  kk.pure fun C hL w => lv_ixor C.1 C.2.1 hd w
theorem aw_ishr {x y : Int32} (hd : decode (am_code M) pc = .ok (.ishr, 1) := by decide +kernel) (kk : am_W g M σ0 (pc + 1) lv (.int (x >>> (y &&& 31)) :: st) σ E k) : am_W g M σ0 pc lv (.int y :: .int x :: st) σ E k :=
  kk.pure fun C hL w => lv_ishr C.1 C.2.1 hd w
def am_ushr (x y : Int32) : Int32 := (x.toUInt32 >>> (y.toUInt32 &&& Int32.toUInt32 31)).toInt32
def am_rem (x y : Int32) : Int32 := x - x / y * y
def am_i2b (x : Int32) : Int32 := x.toInt8.toInt32
def am_i2s (x : Int32) : Int32 := x.toInt16.toInt32
theorem aw_iushr {x y : Int32} (hd : decode (am_code M) pc = .ok (.iushr, 1) := by decide +kernel) (kk : am_W g M σ0 (pc + 1) lv (.int (am_ushr x y) :: st) σ E k) : am_W g M σ0 pc lv (.int y :: .int x :: st) σ E k :=
  kk.pure fun C hL w => lv_iushr C.1 C.2.1 hd rfl w
theorem aw_i2b {x : Int32} (hd : decode (am_code M) pc = .ok (.i2b, 1) := by decide +kernel) (kk : am_W g M σ0 (pc + 1) lv (.int (am_i2b x) :: st) σ E k) : am_W g M σ0 pc lv (.int x :: st) σ E k :=
  kk.pure fun C hL w => lv_i2b C.1 C.2.1 hd rfl w
theorem aw_i2s {x : Int32} (hd : decode (am_code M) pc = .ok (.i2s, 1) := by decide +kernel) (kk : am_W g M σ0 (pc + 1) lv (.int (am_i2s x) :: st) σ E k) : am_W g M σ0 pc lv (.int x :: st) σ E k :=
  kk.pure fun C hL w => lv_i2s C.1 C.2.1 hd rfl w
theorem aw_i2l {x : Int32} (hd : decode (am_code M) pc = .ok (.i2l, 1) := by decide +kernel) (kk : am_W g M σ0 (pc + 1) lv (.long x.toInt64 :: st) σ E k) : am_W g M σ0 pc lv (.int x :: st) σ E k :=
  kk.pure fun C hL w => lv_i2l C.1 C.2.1 hd rfl w
theorem aw_lcmp {x y : Int64} (hd : decode (am_code M) pc = .ok (.lcmp, 1) := by decide +kernel) (kk : am_W g M σ0 (pc + 1) lv (.int (lg_cmp x y) :: st) σ E k) : am_W g M σ0 pc lv (.long y :: .long x :: st) σ E k :=
  kk.pure fun C hL w => W.lcmp C.1 C.2.1 hd w
theorem aw_dup {v : Value} (hd : decode (am_code M) pc = .ok (.dup, 1) := by decide +kernel) (hv : v.category = 1 := by rfl) (kk : am_W g M σ0 (pc + 1) lv (v :: v :: st) σ E k) : am_W g M σ0 pc lv (v :: st) σ E k :=
  kk.pure fun C hL w => lv_dup C.1 C.2.1 hd ((am_cat g v).trans hv) w
theorem aw_pop {v : Value} (hd : decode (am_code M) pc = .ok (.pop, 1) := by decide +kernel) (hv : v.category = 1 := by rfl) (kk : am_W g M σ0 (pc + 1) lv (st) σ E k) : am_W g M σ0 pc lv (v :: st) σ E k :=
  kk.pure fun C hL w => lv_pop C.1 C.2.1 hd ((am_cat g v).trans hv) w
theorem aw_dup2 {u v : Value} (hd : decode (am_code M) pc = .ok (.dup2, 1) := by decide +kernel) (hu : u.category = 1 := by rfl) (hv : v.category = 1 := by rfl) (kk : am_W g M σ0 (pc + 1) lv (u :: v :: u :: v :: st) σ E k) : am_W g M σ0 pc lv (u :: v :: st) σ E k :=
  kk.pure fun C hL w => lv_dup2_11 C.1 C.2.1 hd ((am_cat g u).trans hu) ((am_cat g v).trans hv) w
theorem aw_ldc (i : Nat) {v : Int32} (hd : decode (am_code M) pc = .ok (.ldc i, 2) := by decide +kernel) (hw : Cond.constant (am_name M).cls i v ∈ lw_tbl) (kk : am_W g M σ0 (pc + 2) lv (.int v :: st) σ E k) : am_W g M σ0 pc lv st σ E k :=
  kk.pure fun C hL w => lv_ldc C.1 C.2.1 C.2.2.2.1 (am_word C.2.2.2.2.2.2.2.2.2.2.2.2 C.2.2.2.2.2.2.2.2.2.2.2.1 hw rfl) hd w
theorem aw_idiv {x y : Int32} (hd : decode (am_code M) pc = .ok (.idiv, 1) := by decide +kernel) (hy : ¬ y = 0) (kk : am_W g M σ0 (pc + 1) lv (.int (x / y) :: st) σ E k) : am_W g M σ0 pc lv (.int y :: .int x :: st) σ E k :=
  kk.pure fun C hL w => lv_idiv C.1 C.2.1 hd hy w
theorem aw_idivZ {x y : Int32} (hd : decode (am_code M) pc = .ok (.idiv, 1) := by decide +kernel) (kk : ¬ y = 0 → am_W g M σ0 (pc + 1) lv (.int (x / y) :: st) σ E k) : am_W g M σ0 pc lv (.int y :: .int x :: st) σ (if y = 0 then none else E) k :=
  am_W.ite (fun _ => am_W.none) fun hy => aw_idiv (hd := hd) hy (kk hy)
theorem aw_irem {x y : Int32} (hd : decode (am_code M) pc = .ok (.irem, 1) := by decide +kernel) (hy : ¬ y = 0) (kk : am_W g M σ0 (pc + 1) lv (.int (am_rem x y) :: st) σ E k) : am_W g M σ0 pc lv (.int y :: .int x :: st) σ E k :=
  kk.pure fun C hL w => lv_irem C.1 C.2.1 hd hy w
theorem aw_iremZ {x y : Int32} (hd : decode (am_code M) pc = .ok (.irem, 1) := by decide +kernel) (kk : ¬ y = 0 → am_W g M σ0 (pc + 1) lv (.int (am_rem x y) :: st) σ E k) : am_W g M σ0 pc lv (.int y :: .int x :: st) σ (if y = 0 then none else E) k :=
  am_W.ite (fun _ => am_W.none) fun hy => aw_irem (hd := hd) hy (kk hy)
theorem aw_istore (i : Nat) {x : Int32} (hd : decode (am_code M) pc = .ok (.istore i, 2) := by decide +kernel) (hn : (i : Nat) < am_maxL M := by decide) (kk : am_W g M σ0 (pc + 2) (lv.set (i : Nat) (some (.int x))) st σ E k) : am_W g M σ0 pc lv (.int x :: st) σ E k :=
  am_W.stored rfl (fun C hL w => lv_istore C.1 C.2.1 hd hL.has hn rfl w) kk
theorem aw_istore_n (i : Fin 4) {x : Int32} (hd : decode (am_code M) pc = .ok (.istore_n i, 1) := by decide +kernel) (hn : (i : Nat) < am_maxL M := by decide) (kk : am_W g M σ0 (pc + 1) (lv.set (i : Nat) (some (.int x))) st σ E k) : am_W g M σ0 pc lv (.int x :: st) σ E k :=
  am_W.stored rfl (fun C hL w => lv_istore_n C.1 C.2.1 hd rfl hL.has hn rfl w) kk
theorem aw_astore (i : Nat) {x : Nat} (hd : decode (am_code M) pc = .ok (.astore i, 2) := by decide +kernel) (hn : (i : Nat) < am_maxL M := by decide) (kk : am_W g M σ0 (pc + 2) (lv.set (i : Nat) (some (.ref x))) st σ E k) : am_W g M σ0 pc lv (.ref x :: st) σ E k :=
  am_W.stored rfl (fun C hL w => lv_astore C.1 C.2.1 hd hL.has hn rfl w) kk
theorem aw_astore_n (i : Fin 4) {x : Nat} (hd : decode (am_code M) pc = .ok (.astore_n i, 1) := by decide +kernel) (hn : (i : Nat) < am_maxL M := by decide) (kk : am_W g M σ0 (pc + 1) (lv.set (i : Nat) (some (.ref x))) st σ E k) : am_W g M σ0 pc lv (.ref x :: st) σ E k :=
  am_W.stored rfl (fun C hL w => lv_astore_n C.1 C.2.1 hd rfl hL.has hn rfl w) kk
theorem aw_iinc (i : Nat) (n : Int) {x v : Int32} (hd : decode (am_code M) pc = .ok (.iinc i n, 3) := by decide +kernel) (hl : lv[i]? = some (some (.int x)) := by rfl) (hv : Int32.ofInt n = v := by rfl) (hn : i < am_maxL M := by decide) (kk : am_W g M σ0 (pc + 3) (lv.set i (some (.int (x + v)))) st σ E k) : am_W g M σ0 pc lv st σ E k := by
  subst hv
  intro res σ' hE
  obtain ⟨a, b, j⟩ := kk res σ' hE
  refine ⟨a, b, fun p l e R s m args below meth c H locs ls C hc hs h1 h2 hR hL hl' => ?_⟩
  obtain ⟨q, hq⟩ := List.getElem?_of_mem (am_pairs_in (g := g) hl)
  exact lv_iinc C.1 C.2.1 hd hL.has hq rfl hn rfl fun ls' h' => j p l e R s m args below meth c H locs ls' C hc hs h1 h2 hR (hL.store (v := .int (x + Int32.ofInt n)) rfl h') hl'
theorem aw_if_eq (off : Int) (tgt : Nat) {x : Int32} (hd : decode (am_code M) pc = .ok (.ifCond .eq off, 3) := by decide +kernel) (ht : (pc : Int) + off = (tgt : Int) := by decide) (kt : x = 0 → am_W g M σ0 tgt lv st σ E1 k) (kf : ¬ x = 0 → am_W g M σ0 (pc + 3) lv st σ E2 k) : am_W g M σ0 pc lv (.int x :: st) σ (if x = 0 then E1 else E2) k := by
  by_cases hc : x = 0
  · rw [if_pos hc]
    exact (kt hc).pure fun C hL w => lv_if_eq C.1 C.2.1 hd ht (fun _ => w) fun h => absurd hc h
  · rw [if_neg hc]
    exact (kf hc).pure fun C hL w => lv_if_eq C.1 C.2.1 hd ht (fun h => absurd h hc) fun _ => w
theorem aw_icmp_eq (off : Int) (tgt : Nat) {x y : Int32} (hd : decode (am_code M) pc = .ok (.if_icmp .eq off, 3) := by decide +kernel) (ht : (pc : Int) + off = (tgt : Int) := by decide) (kt : x = y → am_W g M σ0 tgt lv st σ E1 k) (kf : ¬ x = y → am_W g M σ0 (pc + 3) lv st σ E2 k) : am_W g M σ0 pc lv (.int y :: .int x :: st) σ (if x = y then E1 else E2) k := by
  by_cases hc : x = y
  · rw [if_pos hc]
    exact (kt hc).pure fun C hL w => lv_icmp_eq C.1 C.2.1 hd ht (fun _ => w) fun h => absurd hc h
  · rw [if_neg hc]
    exact (kf hc).pure fun C hL w => lv_icmp_eq C.1 C.2.1 hd ht (fun h => absurd h hc) fun _ => w
theorem aw_if_ne (off : Int) (tgt : Nat) {x : Int32} (hd : decode (am_code M) pc = .ok (.ifCond .ne off, 3) := by decide +kernel) (ht : (pc : Int) + off = (tgt : Int) := by decide) (kt : ¬ x = 0 → am_W g M σ0 tgt lv st σ E2 k) (kf : x = 0 → am_W g M σ0 (pc + 3) lv st σ E1 k) : am_W g M σ0 pc lv (.int x :: st) σ (if x = 0 then E1 else E2) k := by
  by_cases hc : x = 0
  · rw [if_pos hc]
    exact (kf hc).pure fun C hL w => lv_if_ne C.1 C.2.1 hd ht (fun h => absurd hc h) fun _ => w
  · rw [if_neg hc]
    exact (kt hc).pure fun C hL w => lv_if_ne C.1 C.2.1 hd ht (fun _ => w) fun h => absurd h hc
theorem aw_icmp_ne (off : Int) (tgt : Nat) {x y : Int32} (hd : decode (am_code M) pc = .ok (.if_icmp .ne off, 3) := by decide +kernel) (ht : (pc : Int) + off = (tgt : Int) := by decide) (kt : ¬ x = y → am_W g M σ0 tgt lv st σ E2 k) (kf : x = y → am_W g M σ0 (pc + 3) lv st σ E1 k) : am_W g M σ0 pc lv (.int y :: .int x :: st) σ (if x = y then E1 else E2) k := by
  by_cases hc : x = y
  · rw [if_pos hc]
    exact (kf hc).pure fun C hL w => lv_icmp_ne C.1 C.2.1 hd ht (fun h => absurd hc h) fun _ => w
  · rw [if_neg hc]
    exact (kt hc).pure fun C hL w => lv_icmp_ne C.1 C.2.1 hd ht (fun _ => w) fun h => absurd h hc
theorem aw_if_lt (off : Int) (tgt : Nat) {x : Int32} (hd : decode (am_code M) pc = .ok (.ifCond .lt off, 3) := by decide +kernel) (ht : (pc : Int) + off = (tgt : Int) := by decide) (kt : x < 0 → am_W g M σ0 tgt lv st σ E1 k) (kf : ¬ x < 0 → am_W g M σ0 (pc + 3) lv st σ E2 k) : am_W g M σ0 pc lv (.int x :: st) σ (if x < 0 then E1 else E2) k := by
  by_cases hc : x < 0
  · rw [if_pos hc]
    exact (kt hc).pure fun C hL w => lv_if_lt C.1 C.2.1 hd ht (fun _ => w) fun h => absurd hc h
  · rw [if_neg hc]
    exact (kf hc).pure fun C hL w => lv_if_lt C.1 C.2.1 hd ht (fun h => absurd h hc) fun _ => w
theorem aw_icmp_lt (off : Int) (tgt : Nat) {x y : Int32} (hd : decode (am_code M) pc = .ok (.if_icmp .lt off, 3) := by decide +kernel) (ht : (pc : Int) + off = (tgt : Int) := by decide) (kt : x < y → am_W g M σ0 tgt lv st σ E1 k) (kf : ¬ x < y → am_W g M σ0 (pc + 3) lv st σ E2 k) : am_W g M σ0 pc lv (.int y :: .int x :: st) σ (if x < y then E1 else E2) k := by
  by_cases hc : x < y
  · rw [if_pos hc]
    exact (kt hc).pure fun C hL w => lv_icmp_lt C.1 C.2.1 hd ht (fun _ => w) fun h => absurd hc h
  · rw [if_neg hc]
    exact (kf hc).pure fun C hL w => lv_icmp_lt C.1 C.2.1 hd ht (fun h => absurd h hc) fun _ => w
theorem aw_if_ge (off : Int) (tgt : Nat) {x : Int32} (hd : decode (am_code M) pc = .ok (.ifCond .ge off, 3) := by decide +kernel) (ht : (pc : Int) + off = (tgt : Int) := by decide) (kt : 0 ≤ x → am_W g M σ0 tgt lv st σ E1 k) (kf : ¬ 0 ≤ x → am_W g M σ0 (pc + 3) lv st σ E2 k) : am_W g M σ0 pc lv (.int x :: st) σ (if 0 ≤ x then E1 else E2) k := by
  by_cases hc : 0 ≤ x
  · rw [if_pos hc]
    exact (kt hc).pure fun C hL w => lv_if_ge C.1 C.2.1 hd ht (fun _ => w) fun h => absurd hc h
  · rw [if_neg hc]
    exact (kf hc).pure fun C hL w => lv_if_ge C.1 C.2.1 hd ht (fun h => absurd h hc) fun _ => w
theorem aw_icmp_ge (off : Int) (tgt : Nat) {x y : Int32} (hd : decode (am_code M) pc = .ok (.if_icmp .ge off, 3) := by decide +kernel) (ht : (pc : Int) + off = (tgt : Int) := by decide) (kt : y ≤ x → am_W g M σ0 tgt lv st σ E1 k) (kf : ¬ y ≤ x → am_W g M σ0 (pc + 3) lv st σ E2 k) : am_W g M σ0 pc lv (.int y :: .int x :: st) σ (if y ≤ x then E1 else E2) k := by
  by_cases hc : y ≤ x
  · rw [if_pos hc]
    exact (kt hc).pure fun C hL w => lv_icmp_ge C.1 C.2.1 hd ht (fun _ => w) fun h => absurd hc h
  · rw [if_neg hc]
    exact (kf hc).pure fun C hL w => lv_icmp_ge C.1 C.2.1 hd ht (fun h => absurd h hc) fun _ => w
theorem aw_if_gt (off : Int) (tgt : Nat) {x : Int32} (hd : decode (am_code M) pc = .ok (.ifCond .gt off, 3) := by decide +kernel) (ht : (pc : Int) + off = (tgt : Int) := by decide) (kt : 0 < x → am_W g M σ0 tgt lv st σ E1 k) (kf : ¬ 0 < x → am_W g M σ0 (pc + 3) lv st σ E2 k) : am_W g M σ0 pc lv (.int x :: st) σ (if 0 < x then E1 else E2) k := by
  by_cases hc : 0 < x
  · rw [if_pos hc]
    exact (kt hc).pure fun C hL w => lv_if_gt C.1 C.2.1 hd ht (fun _ => w) fun h => absurd hc h
  · rw [if_neg hc]
    exact (kf hc).pure fun C hL w => lv_if_gt C.1 C.2.1 hd ht (fun h => absurd h hc) fun _ => w
theorem aw_icmp_gt (off : Int) (tgt : Nat) {x y : Int32} (hd : decode (am_code M) pc = .ok (.if_icmp .gt off, 3) := by decide +kernel) (ht : (pc : Int) + off = (tgt : Int) := by decide) (kt : y < x → am_W g M σ0 tgt lv st σ E1 k) (kf : ¬ y < x → am_W g M σ0 (pc + 3) lv st σ E2 k) : am_W g M σ0 pc lv (.int y :: .int x :: st) σ (if y < x then E1 else E2) k := by
  by_cases hc : y < x
  · rw [if_pos hc]
    exact (kt hc).pure fun C hL w => lv_icmp_gt C.1 C.2.1 hd ht (fun _ => w) fun h => absurd hc h
  · rw [if_neg hc]
    exact (kf hc).pure fun C hL w => lv_icmp_gt C.1 C.2.1 hd ht (fun h => absurd h hc) fun _ => w
theorem aw_if_le (off : Int) (tgt : Nat) {x : Int32} (hd : decode (am_code M) pc = .ok (.ifCond .le off, 3) := by decide +kernel) (ht : (pc : Int) + off = (tgt : Int) := by decide) (kt : x ≤ 0 → am_W g M σ0 tgt lv st σ E1 k) (kf : ¬ x ≤ 0 → am_W g M σ0 (pc + 3) lv st σ E2 k) : am_W g M σ0 pc lv (.int x :: st) σ (if x ≤ 0 then E1 else E2) k := by
  by_cases hc : x ≤ 0
  · rw [if_pos hc]
    exact (kt hc).pure fun C hL w => lv_if_le C.1 C.2.1 hd ht (fun _ => w) fun h => absurd hc h
  · rw [if_neg hc]
    exact (kf hc).pure fun C hL w => lv_if_le C.1 C.2.1 hd ht (fun h => absurd h hc) fun _ => w
theorem aw_icmp_le (off : Int) (tgt : Nat) {x y : Int32} (hd : decode (am_code M) pc = .ok (.if_icmp .le off, 3) := by decide +kernel) (ht : (pc : Int) + off = (tgt : Int) := by decide) (kt : x ≤ y → am_W g M σ0 tgt lv st σ E1 k) (kf : ¬ x ≤ y → am_W g M σ0 (pc + 3) lv st σ E2 k) : am_W g M σ0 pc lv (.int y :: .int x :: st) σ (if x ≤ y then E1 else E2) k := by
  by_cases hc : x ≤ y
  · rw [if_pos hc]
    exact (kt hc).pure fun C hL w => lv_icmp_le C.1 C.2.1 hd ht (fun _ => w) fun h => absurd hc h
  · rw [if_neg hc]
    exact (kf hc).pure fun C hL w => lv_icmp_le C.1 C.2.1 hd ht (fun h => absurd h hc) fun _ => w
theorem aw_goto (off : Int) (tgt : Nat) (hd : decode (am_code M) pc = .ok (.goto off, 3) := by decide +kernel) (ht : (pc : Int) + off = (tgt : Int) := by decide) (kk : am_W g M σ0 tgt lv st σ E k) : am_W g M σ0 pc lv st σ E k :=
  kk.pure fun C hL w => lv_goto C.1 C.2.1 hd ht w
theorem aw_tsOut (dflt lo hi : Int) (offs : Array Int) (len tgt : Nat) {x : Int32} (hd : decode (am_code M) pc = .ok (.tableswitch dflt lo hi offs, len) := by decide +kernel) (ht : (pc : Int) + dflt = (tgt : Int) := by decide) (h : x.toInt < lo ∨ hi < x.toInt) (kk : am_W g M σ0 tgt lv st σ E k) : am_W g M σ0 pc lv (.int x :: st) σ E k :=
  kk.pure fun C hL w => lv_tableOut C.1 C.2.1 hd h ht w
theorem aw_tsIn (dflt lo hi : Int) (offs : Array Int) (len tgt : Nat) (off : Int) {x : Int32} (hd : decode (am_code M) pc = .ok (.tableswitch dflt lo hi offs, len) := by decide +kernel) (ht : (pc : Int) + off = (tgt : Int) := by decide) (h1 : ¬ x.toInt < lo) (h2 : ¬ hi < x.toInt) (ho : offs[(x.toInt - lo).toNat]? = some off) (kk : am_W g M σ0 tgt lv st σ E k) : am_W g M σ0 pc lv (.int x :: st) σ E k :=
  kk.pure fun C hL w => lv_tableIn C.1 C.2.1 hd h1 h2 ho ht w
end AW
end
section
/-! ===== the heap: facts on am_R, then a row an instruction ===== -/
theorem am_ok_moved {u U : State} (hvm : u.vm.Alike U.vm) {cA : ClassId} {ty : FieldType} (h : am_ok u cA ty) : am_ok U cA ty := by
  cases ty with
  | object C =>
    obtain ⟨kA, comp, h1, h2, h3⟩ := h
    obtain ⟨k', hk', he⟩ := hvm.2.2 _ _ h1
    exact ⟨k', comp, hk', by rw [he]; exact h2, by rw [hvm.findClass]; exact h3⟩
  | _ => trivial
theorem am_r_ge {g : am_G} {k : Nat} (h : 8 ≤ k) : am_r g k = g.1.heap.size + (k - 8) := by
  unfold am_r; rw [if_neg (by omega)]
theorem am_r_ne {g : am_G} (hK : am_K g) {j a : Nat} (ha : 8 ≤ a) (h : j ≠ a) : am_r g j ≠ am_r g a := by
  rw [am_r_ge ha]
  unfold am_r
  split
  · rename_i hj
    have := hK.2.2.1 j hj
    omega
  · omega
theorem am_at.kept {g : am_G} {a : Nat} {x : am_C} {H H1 : Heap} (h : am_at g a x H) (hq : H1[a]? = H[a]?) : am_at g a x H1 := by
  cases x with
  | inl y =>
    obtain ⟨cell, h1, h2⟩ := h
    exact ⟨cell, hq.trans h1, h2⟩
  | inr y => exact t_OB.kept h hq
theorem am_at.lt {g : am_G} {a : Nat} {x : am_C} {H : Heap} (h : am_at g a x H) : a < H.size := by
  cases x with
  | inl y =>
    obtain ⟨cell, h1, h2⟩ := h
    exact (Array.getElem?_eq_some_iff.mp h1).1
  | inr y =>
    obtain ⟨cell, h1, h2⟩ := h
    exact (Array.getElem?_eq_some_iff.mp h1).1
def am_upd (h : Nat → Option am_C) (a : Nat) (x : am_C) : Nat → Option am_C := fun j => if j = a then some x else h j
def am_put (σ : am_S) (a : Nat) (x : am_C) : am_S := (σ.1, σ.2.1, am_upd σ.2.2 a x)
def am_new (σ : am_S) (n : Nat) (x : am_C) : am_S := (σ.1 + 1, σ.2.1 + n, am_upd σ.2.2 σ.1 x)
theorem am_R.put {g : am_G} (hK : am_K g) {σ : am_S} {H H1 : Heap} (h : am_R g σ H) {a : Nat} {x : am_C} (ha : 8 ≤ a) (hx : am_at g (am_r g a) x H1) (hz : H1.size = H.size) (ho : ∀ q, q ≠ am_r g a → H1[q]? = H[q]?) : am_R g (am_put σ a x) H1 := by
  refine ⟨fun j y hj => ?_, by rw [hz]; exact h.2.1, h.2.2.1, fun q hq => ?_⟩
  · by_cases hja : j = a
    · subst hja
      simp [am_put, am_upd] at hj
      subst hj
      exact hx
    · simp [am_put, am_upd, hja] at hj
      exact (h.1 j y hj).kept (ho _ (am_r_ne hK ha hja))
  · rw [ho q (by rw [am_r_ge ha]; omega)]
    exact h.2.2.2 q hq
theorem am_R.top {g : am_G} {σ : am_S} {H : Heap} (h : am_R g σ H) : am_r g σ.1 = H.size := by
  rw [am_r_ge h.2.2.1, h.2.1]
theorem am_R.new {g : am_G} {σ : am_S} {H H1 : Heap} (h : am_R g σ H) {n : Nat} {x : am_C} (hx : am_at g H.size x H1) (hz : H1.size = H.size + 1) (ho : ∀ q, q < H.size → H1[q]? = H[q]?) : am_R g (am_new σ n x) H1 := by
  have ht := h.top
  have h8 := h.2.2.1
  refine ⟨fun j y hj => ?_, ?_, ?_, fun q hq => ?_⟩
  · by_cases hja : j = σ.1
    · subst hja
      simp [am_new, am_upd] at hj
      subst hj
      rw [ht]
      exact hx
    · simp [am_new, am_upd, hja] at hj
      exact (h.1 j y hj).kept (ho _ (h.1 j y hj).lt)
  · show H1.size = _ + (σ.1 + 1 - 8)
    rw [hz, h.2.1]
    omega
  · show 8 ≤ σ.1 + 1
    omega
  · rw [ho q (by rw [h.2.1]; omega)]
    exact h.2.2.2 q hq
/-! the fields' words -/
def am_lay (c k : Nat) : Cond := if (am_fd c k).2.2.1 = true then .laysFinal (am_cn c) (am_cn c) (am_fd c k).1 (am_fd c k).2.1 else .lays (am_cn c) (am_cn c) (am_fd c k).1 (am_fd c k).2.1
theorem am_N_eq : ∀ c, c < am_NC → am_N c = (am_fl c).length := by decide +kernel
theorem am_ty_ok : ∀ c, c < am_NC → ∀ k, k < am_N c → parseFieldDescriptor (am_fd c k).2.1 = some (am_fd c k).2.2.2 := by decide +kernel
theorem am_nm_ok : ∀ c, c < am_NC → ∀ a, a < am_N c → ∀ b, b < am_N c → a ≠ b → (am_fd c a).1 ≠ (am_fd c b).1 := by decide +kernel
theorem am_lay_ok : ∀ c, c < am_NC → ∀ k, k < am_N c → am_lay c k ∈ lw_tbl := by decide +kernel
theorem am_lay_good (c k : Nat) : goodWord (am_lay c k) = true := by
  unfold am_lay
  split <;> rfl
end
section
section AH
variable {g : am_G} {s : State}
theorem am_lays (hK : am_K g) (hW : g.1.WarmedH s.vm) {c k : Nat} (hc : c < am_NC) (hk : k < am_N c) (args : Array Value) :
    (Cond.lays (am_cn c) (am_cn c) (am_fd c k).1 (am_fd c k).2.1).before args s = true ∨ (Cond.laysFinal (am_cn c) (am_cn c) (am_fd c k).1 (am_fd c k).2.1).before args s = true := by
  have h := am_word (args := args) hK hW (am_lay_ok c hc k hk) (am_lay_good c k)
  unfold am_lay at h
  split at h
  · exact Or.inr h
  · exact Or.inl h
theorem am_class (hK : am_K g) (hW : g.1.WarmedH s.vm) {c : Nat} (hc : c < am_NC) : ClassAt s (am_cn c) (g.2.2.1 c) := classAt_moved hW.alike (hK.2.1 c hc).1
theorem am_slot (hK : am_K g) (hW : g.1.WarmedH s.vm) {c k : Nat} (hc : c < am_NC) (hk : k < am_N c) : SlotIs s (am_cn c) (am_fd c k).1 (am_fd c k).2.1 (g.2.2.2 c k) := slotIs_moved hW.alike ((hK.2.1 c hc).2 k hk)
theorem am_apart (hK : am_K g) (hW : g.1.WarmedH s.vm) {c : Nat} (hc : c < am_NC) : ∀ x y, x < am_N c → y < am_N c → x ≠ y → g.2.2.2 c x ≠ g.2.2.2 c y := by
  intro x y hx hy hne
  obtain ⟨_, _, _, fa, hia, ea⟩ := am_slot hK hW hc hx
  obtain ⟨_, _, _, fb, hib, eb⟩ := am_slot hK hW hc hy
  rw [← ea, ← eb]
  refine u_apart (am_lays hK hW hc hx #[]) (am_lays hK hW hc hy #[]) hia hib ?_
  rw [(State.fieldFound?_type hia (am_ty_ok c hc x hx)).1, (State.fieldFound?_type hib (am_ty_ok c hc y hy)).1]
  exact am_nm_ok c hc x hx y hy hne
end AH
def am_gf (σ : am_S) (c k a : Nat) : Option Value := match σ.2.2 a with
  | some (.inr y) => if y.1 = c then y.2[k]? else none
  | _ => none
def am_gI (σ : am_S) (c k a : Nat) : Option Int32 := match am_gf σ c k a with
  | some (.int v) => some v
  | _ => none
def am_gA (σ : am_S) (c k a : Nat) : Option Nat := match am_gf σ c k a with
  | some (.ref v) => some v
  | _ => none
def am_pf (σ : am_S) (c k a : Nat) (v : Value) : Option am_S := match σ.2.2 a with
  | some (.inr y) => if y.1 = c ∧ 8 ≤ a ∧ k < y.2.length then some (am_put σ a (.inr (c, y.2.set k v))) else none
  | _ => none
def am_pI (σ : am_S) (c k a : Nat) (v : Int32) : Option am_S := am_pf σ c k a (.int v)
def am_pZ (σ : am_S) (c k a : Nat) (v : Int32) : Option am_S := if v = 0 ∨ v = 1 then am_pf σ c k a (.int v) else none
def am_pA (σ : am_S) (c k a : Nat) (v : Nat) : Option am_S := am_pf σ c k a (.ref v)
theorem am_gf_some {σ : am_S} {c k a : Nat} {v : Value} (h : am_gf σ c k a = some v) : ∃ fs : List Value, σ.2.2 a = some (.inr (c, fs)) ∧ fs[k]? = some v := by
  unfold am_gf at h
  split at h
  · rename_i y hy
    split at h
    · rename_i hc
      obtain ⟨c', fs⟩ := y
      subst hc
      exact ⟨fs, hy, h⟩
    · cases h
  · cases h
theorem am_gI_some {σ : am_S} {c k a : Nat} {v : Int32} (h : am_gI σ c k a = some v) : am_gf σ c k a = some (.int v) := by
  unfold am_gI at h
  split at h
  · rename_i x hx; cases h; exact hx
  · cases h
theorem am_gA_some {σ : am_S} {c k a : Nat} {v : Nat} (h : am_gA σ c k a = some v) : am_gf σ c k a = some (.ref v) := by
  unfold am_gA at h
  split at h
  · rename_i x hx; cases h; exact hx
  · cases h
theorem am_pf_some {σ σ1 : am_S} {c k a : Nat} {v : Value} (h : am_pf σ c k a v = some σ1) : ∃ fs : List Value, σ.2.2 a = some (.inr (c, fs)) ∧ 8 ≤ a ∧ k < fs.length ∧ σ1 = am_put σ a (.inr (c, fs.set k v)) := by
  unfold am_pf at h
  split at h
  · rename_i y hy
    split at h
    · rename_i hc
      obtain ⟨c', fs⟩ := y
      obtain ⟨hc, h8, hl⟩ := hc
      subst hc
      cases h
      exact ⟨fs, hy, h8, hl, rfl⟩
    · cases h
  · cases h
section AWH
variable {g : am_G} {M : am_M} {σ0 σ : am_S} {pc : Nat} {lv : List (Option Value)} {st : List Value} {β : Type} {E : Option β} {k : β → Option (Outcome × am_S)}
/-- what a bind says -/
theorem am_W.bindI {γ : Type} {X : Option γ} {F : γ → Option β} (h : ∀ x, X = some x → am_W g M σ0 pc lv st σ (F x) k) : am_W g M σ0 pc lv st σ (X.bind F) k := by
  cases X with
  | none => exact am_W.none
  | some x => exact h x rfl
theorem am_W.same {pc' : Nat} {st' : List Value} (h : ∀ {p : Program} {l : Launch} {e : Env} {R : Room} {s : State} {m : MethodId} {args : Array Value} {below : List Frame} {meth : Method} {c : Code} {H : Heap} {locs : List Loc} {cells slots : Nat} {Q : State → Prop} {ls : Array Slot},
      am_Cx g M p l e R s m meth c → am_L g (am_maxL M) lv ls → am_R g σ H → W p l e R s m args below meth c H locs cells slots Q (F0 m pc' ls (st'.map (am_up g))) → W p l e R s m args below meth c H locs cells slots Q (F0 m pc ls (st.map (am_up g))))
    (kk : am_W g M σ0 pc' lv st' σ E k) : am_W g M σ0 pc lv st σ E k := by
  intro res σ' hE
  obtain ⟨a, b, j⟩ := kk res σ' hE
  exact ⟨a, b, fun p l e R s m args below meth c H locs ls C hc hs h1 h2 hR hL hl => h C hL hR (j p l e R s m args below meth c H locs ls C hc hs h1 h2 hR hL hl)⟩
/-- a write to one cell -/
theorem am_W.write {pc' a : Nat} {st' : List Value} {x : am_C} (h : ∀ {p : Program} {l : Launch} {e : Env} {R : Room} {s : State} {m : MethodId} {args : Array Value} {below : List Frame} {meth : Method} {c : Code} {H : Heap} {locs : List Loc} {cells slots : Nat} {Q : State → Prop} {ls : Array Slot},
      am_Cx g M p l e R s m meth c → am_L g (am_maxL M) lv ls → am_R g σ H →
      (∀ (H1 : Heap) (i : Nat), am_R g (am_put σ a x) H1 → W p l e R s m args below meth c H1 (locs ++ [⟨am_r g a, i⟩]) cells slots Q (F0 m pc' ls (st'.map (am_up g)))) → W p l e R s m args below meth c H locs cells slots Q (F0 m pc ls (st.map (am_up g))))
    (ha : 8 ≤ a) (kk : am_W g M σ0 pc' lv st' (am_put σ a x) E k) : am_W g M σ0 pc lv st σ E k := by
  intro res σ' hE
  obtain ⟨a1, b1, j⟩ := kk res σ' hE
  refine ⟨a1, b1, fun p l e R s m args below meth c H locs ls C hc hs h1 h2 hR hL hl => h C hL hR fun H1 i hR1 => ?_⟩
  refine j p l e R s m args below meth c H1 _ ls C hc hs h1 h2 hR1 hL fun q hq => ?_
  rcases List.mem_append.mp hq with h3 | h3
  · exact hl q h3
  · rw [List.mem_singleton.mp h3]
    show _ ≤ am_r g a
    rw [am_r_ge ha]
    omega
theorem aw_gf (c kf idx : Nat) {a : Nat} {v : Value} (hd : decode (am_code M) pc = .ok (.getfield idx, 3) := by decide +kernel) (hw : Cond.fieldLink (am_name M).cls idx (am_cn c) (am_fd c kf).1 (am_fd c kf).2.1 ∈ lw_tbl) (hc : c < am_NC := by decide) (hk : kf < am_N c := by decide)
    (hv : am_gf σ c kf a = some v) (kk : am_W g M σ0 (pc + 3) lv (v :: st) σ E k) : am_W g M σ0 pc lv (.ref a :: st) σ E k := by
  refine kk.same fun {p l e R s m args below meth c0 H locs cells slots Q ls} C hL hR w => ?_
  obtain ⟨c1, c2, c3, c4, c5, c6, c7, c8, c9, c10, c11, hW, hK⟩ := C
  obtain ⟨fs, h1, h2⟩ := am_gf_some hv
  obtain ⟨cell, q1, q2, q3, q4⟩ := hR.1 a _ h1
  obtain ⟨hfc, kC, hkC, hkind⟩ := am_class hK hW hc
  obtain ⟨cf, kf', fi, f, hi, hsl⟩ := am_slot hK hW hc hk
  refine W.getf c1 c2 c4 (am_word hK hW hw rfl) hi (u_facts hfc hkC (am_lays hK hW hc hk args) hi).1 q1 (by rw [q3]; exact fun h => by cases h) (v := am_up g v) ?_ rfl rfl hd w
  rw [hsl, q4 kf hk]
  simp [vp_V, h2]
theorem aw_gfN (c kf idx : Nat) (host : String) {a : Nat} {v : Value} (hd : decode (am_code M) pc = .ok (.getfield idx, 3) := by decide +kernel) (hw : Cond.fieldLinkNest (am_name M).cls idx (am_cn c) (am_fd c kf).1 (am_fd c kf).2.1 host ∈ lw_tbl) (hc : c < am_NC := by decide) (hk : kf < am_N c := by decide)
    (hv : am_gf σ c kf a = some v) (kk : am_W g M σ0 (pc + 3) lv (v :: st) σ E k) : am_W g M σ0 pc lv (.ref a :: st) σ E k := by
  refine kk.same fun {p l e R s m args below meth c0 H locs cells slots Q ls} C hL hR w => ?_
  obtain ⟨c1, c2, c3, c4, c5, c6, c7, c8, c9, c10, c11, hW, hK⟩ := C
  obtain ⟨fs, h1, h2⟩ := am_gf_some hv
  obtain ⟨cell, q1, q2, q3, q4⟩ := hR.1 a _ h1
  obtain ⟨hfc, kC, hkC, hkind⟩ := am_class hK hW hc
  obtain ⟨cf, kf', fi, f, hi, hsl⟩ := am_slot hK hW hc hk
  refine va_Wgetf c1 c2 c4 (am_wordF hK hW hw) hi (u_facts hfc hkC (am_lays hK hW hc hk args) hi).1 q1 (by rw [q3]; exact fun h => by cases h) (v := am_up g v) ?_ rfl rfl hd w
  rw [hsl, q4 kf hk]
  simp [vp_V, h2]
theorem aw_gI (c kf idx : Nat) {a : Nat} {F : Int32 → Option β} (hd : decode (am_code M) pc = .ok (.getfield idx, 3) := by decide +kernel) (hc : c < am_NC := by decide) (hk : kf < am_N c := by decide) (hw : Cond.fieldLink (am_name M).cls idx (am_cn c) (am_fd c kf).1 (am_fd c kf).2.1 ∈ lw_tbl)
    (kk : ∀ v, am_W g M σ0 (pc + 3) lv (.int v :: st) σ (F v) k) : am_W g M σ0 pc lv (.ref a :: st) σ ((am_gI σ c kf a).bind F) k :=
  am_W.bindI fun v h => aw_gf c kf idx hd hw hc hk (am_gI_some h) (kk v)
theorem aw_gA (c kf idx : Nat) {a : Nat} {F : Nat → Option β} (hd : decode (am_code M) pc = .ok (.getfield idx, 3) := by decide +kernel) (hc : c < am_NC := by decide) (hk : kf < am_N c := by decide) (hw : Cond.fieldLink (am_name M).cls idx (am_cn c) (am_fd c kf).1 (am_fd c kf).2.1 ∈ lw_tbl)
    (kk : ∀ v, am_W g M σ0 (pc + 3) lv (.ref v :: st) σ (F v) k) : am_W g M σ0 pc lv (.ref a :: st) σ ((am_gA σ c kf a).bind F) k :=
  am_W.bindI fun v h => aw_gf c kf idx hd hw hc hk (am_gA_some h) (kk v)
theorem aw_gIN (c kf idx : Nat) (host : String) {a : Nat} {F : Int32 → Option β} (hd : decode (am_code M) pc = .ok (.getfield idx, 3) := by decide +kernel) (hc : c < am_NC := by decide) (hk : kf < am_N c := by decide) (hw : Cond.fieldLinkNest (am_name M).cls idx (am_cn c) (am_fd c kf).1 (am_fd c kf).2.1 host ∈ lw_tbl)
    (kk : ∀ v, am_W g M σ0 (pc + 3) lv (.int v :: st) σ (F v) k) : am_W g M σ0 pc lv (.ref a :: st) σ ((am_gI σ c kf a).bind F) k :=
  am_W.bindI fun v h => aw_gfN c kf idx host hd hw hc hk (am_gI_some h) (kk v)
theorem aw_gAN (c kf idx : Nat) (host : String) {a : Nat} {F : Nat → Option β} (hd : decode (am_code M) pc = .ok (.getfield idx, 3) := by decide +kernel) (hc : c < am_NC := by decide) (hk : kf < am_N c := by decide) (hw : Cond.fieldLinkNest (am_name M).cls idx (am_cn c) (am_fd c kf).1 (am_fd c kf).2.1 host ∈ lw_tbl)
    (kk : ∀ v, am_W g M σ0 (pc + 3) lv (.ref v :: st) σ (F v) k) : am_W g M σ0 pc lv (.ref a :: st) σ ((am_gA σ c kf a).bind F) k :=
  am_W.bindI fun v h => aw_gfN c kf idx host hd hw hc hk (am_gA_some h) (kk v)
theorem am_at_set {c kf a : Nat} {fs : List Value} {v : Value} {cell : Cell} {H1 : Heap} {s : State} (hK : am_K g) (hW : g.1.WarmedH s.vm) (hc : c < am_NC) (hk : kf < am_N c) (hl : kf < fs.length) (q2 : cell.cls = g.2.2.1 c) (q3 : cell.vm = .none) (q4 : ∀ k, k < am_N c → cell.slots[g.2.2.2 c k]? = some (vp_V (fs.map (am_up g)) k))
    (e1 : H1[a]? = some (cell.setSlot (g.2.2.2 c kf) (am_up g v))) : am_at g a (.inr (c, fs.set kf v)) H1 := by
  refine t_OB.to (V := updV (vp_V (fs.map (am_up g))) kf (am_up g v)) ⟨_, e1, q2, q3, t_set q4 (am_apart hK hW hc) hk _⟩ fun j _ => ?_
  rw [vp_updV_set (by simpa using hl), List.map_set]
/-- a field that is not final -/
theorem aw_pf (c kf idx : Nat) {a : Nat} {v : Value} {fs : List Value} (hd : decode (am_code M) pc = .ok (.putfield idx, 3)) (hw : Cond.fieldLink (am_name M).cls idx (am_cn c) (am_fd c kf).1 (am_fd c kf).2.1 ∈ lw_tbl) (hc : c < am_NC) (hk : kf < am_N c) (hfin : (am_fd c kf).2.2.1 = false)
    (hn : narrow (am_fd c kf).2.2.2 (am_up g v) = am_up g v) (hf : fits (am_fd c kf).2.2.2 (am_up g v) = true) (h1 : σ.2.2 a = some (.inr (c, fs))) (h8 : 8 ≤ a) (hl : kf < fs.length)
    (kk : am_W g M σ0 (pc + 3) lv st (am_put σ a (.inr (c, fs.set kf v))) E k) : am_W g M σ0 pc lv (v :: .ref a :: st) σ E k := by
  refine am_W.write (fun {p l e R s m args below meth c0 H locs cells slots Q ls} C hL hR w => ?_) h8 kk
  obtain ⟨c1, c2, c3, c4, c5, c6, c7, c8, c9, c10, c11, hW, hK⟩ := C
  obtain ⟨cell, q1, q2, q3, q4⟩ := hR.1 a _ h1
  obtain ⟨hfc, kC, hkC, hkind⟩ := am_class hK hW hc
  obtain ⟨cf, kf', fi, f, hi, hsl⟩ := am_slot hK hW hc hk
  have hlay := am_word (args := args) hK hW (am_lay_ok c hc kf hk) (am_lay_good c kf)
  unfold am_lay at hlay
  rw [if_neg (by rw [hfin]; decide)] at hlay
  have hst := (u_facts hfc hkC (am_lays hK hW hc hk args) hi).1
  have h6 := u_store hfc hkC hkind hlay hi (am_ty_ok c hc kf hk) hn hf
  refine W.putK c1 c2 (f := f) ⟨c4, am_word hK hW hw rfl, ⟨_, _, _, hi⟩, hst⟩ (by rw [q2]; exact h6) q1 q3 (by rw [hsl]; exact k2_hasslot (q4 kf hk)) rfl rfl hd fun H' e1 e2 e3 => ?_
  rw [hsl] at e1 ⊢
  exact w H' _ (hR.put hK h8 (am_at_set hK hW hc hk hl q2 q3 q4 e1) e2 e3)
/-- a final field, in its own constructor -/
theorem aw_pfF (c kf idx : Nat) {a : Nat} {v : Value} {fs : List Value} (hd : decode (am_code M) pc = .ok (.putfield idx, 3)) (hw : Cond.fieldLink (am_name M).cls idx (am_cn c) (am_fd c kf).1 (am_fd c kf).2.1 ∈ lw_tbl) (hc : c < am_NC) (hk : kf < am_N c) (hfin : (am_fd c kf).2.2.1 = true) (hin : (am_name M).name = "<init>") (hcl : am_cn c = (am_name M).cls)
    (hn : narrow (am_fd c kf).2.2.2 (am_up g v) = am_up g v) (hf : fits (am_fd c kf).2.2.2 (am_up g v) = true) (h1 : σ.2.2 a = some (.inr (c, fs))) (h8 : 8 ≤ a) (hl : kf < fs.length)
    (kk : am_W g M σ0 (pc + 3) lv st (am_put σ a (.inr (c, fs.set kf v))) E k) : am_W g M σ0 pc lv (v :: .ref a :: st) σ E k := by
  refine am_W.write (fun {p l e R s m args below meth c0 H locs cells slots Q ls} C hL hR w => ?_) h8 kk
  obtain ⟨c1, c2, c3, c4, c5, c6, c7, c8, c9, c10, c11, hW, hK⟩ := C
  obtain ⟨cell, q1, q2, q3, q4⟩ := hR.1 a _ h1
  obtain ⟨hfc, kC, hkC, hkind⟩ := am_class hK hW hc
  obtain ⟨cf, kf', fi, f, hi, hsl⟩ := am_slot hK hW hc hk
  have hlay := am_word (args := args) hK hW (am_lay_ok c hc kf hk) (am_lay_good c kf)
  unfold am_lay at hlay
  rw [if_pos hfin] at hlay
  have hst := (u_facts hfc hkC (am_lays hK hW hc hk args) hi).1
  have hcf : m.cls = cf := by
    obtain ⟨_, _, c', _, _, _, -, -, hf', -, -, -, hown2, -⟩ := Cond.laysFinal_spec hlay
    have e1 : c' = cf := by have := hi.symm.trans hf'; simp at this; exact this.1.symm
    rw [hcl] at hown2
    rw [← e1]; exact Option.some.inj (c4.symm.trans hown2)
  have h6 := u_fits hfc hkC hkind (Or.inr hlay) hi (am_ty_ok c hc kf hk) hn hf
  refine W.putFinK c1 c2 c4 (am_word hK hW hw rfl) hi hst hcf (by rw [c7]; exact hin) (by rw [q2]; exact h6) q1 q3 (by rw [hsl]; exact k2_hasslot (q4 kf hk)) rfl rfl hd fun H' e1 e2 e3 => ?_
  rw [hsl] at e1 ⊢
  exact w H' _ (hR.put hK h8 (am_at_set hK hW hc hk hl q2 q3 q4 e1) e2 e3)
/-- a type of references -/
def am_isR : FieldType → Bool
  | .object _ => true
  | .array _ => true
  | _ => false
theorem am_narR {t : FieldType} (h : am_isR t = true) (r : Nat) : narrow t (.ref r) = .ref r ∧ fits t (.ref r) = true := by
  cases t <;> first | (cases h; done) | exact ⟨rfl, rfl⟩
theorem aw_pI (c kf idx : Nat) {a : Nat} {v : Int32} {F : am_S → Option β} (hd : decode (am_code M) pc = .ok (.putfield idx, 3) := by decide +kernel) (hc : c < am_NC := by decide) (hk : kf < am_N c := by decide) (hfin : (am_fd c kf).2.2.1 = false := by rfl) (hty : (am_fd c kf).2.2.2 = .int := by rfl) (hw : Cond.fieldLink (am_name M).cls idx (am_cn c) (am_fd c kf).1 (am_fd c kf).2.1 ∈ lw_tbl)
    (kk : ∀ σ1, am_W g M σ0 (pc + 3) lv st σ1 (F σ1) k) : am_W g M σ0 pc lv (.int v :: .ref a :: st) σ ((am_pI σ c kf a v).bind F) k :=
  am_W.bindI fun σ1 h => by
    obtain ⟨fs, h1, h2, h3, rfl⟩ := am_pf_some h
    exact aw_pf c kf idx hd hw hc hk hfin (by rw [hty]; rfl) (by rw [hty]; rfl) h1 h2 h3 (kk _)
theorem aw_pZ (c kf idx : Nat) {a : Nat} {v : Int32} {F : am_S → Option β} (hd : decode (am_code M) pc = .ok (.putfield idx, 3) := by decide +kernel) (hc : c < am_NC := by decide) (hk : kf < am_N c := by decide) (hfin : (am_fd c kf).2.2.1 = false := by rfl) (hty : (am_fd c kf).2.2.2 = .boolean := by rfl) (hw : Cond.fieldLink (am_name M).cls idx (am_cn c) (am_fd c kf).1 (am_fd c kf).2.1 ∈ lw_tbl)
    (kk : ∀ σ1, am_W g M σ0 (pc + 3) lv st σ1 (F σ1) k) : am_W g M σ0 pc lv (.int v :: .ref a :: st) σ ((am_pZ σ c kf a v).bind F) k :=
  am_W.bindI fun σ1 h => by
    unfold am_pZ at h
    split at h
    · rename_i hv
      obtain ⟨fs, h1, h2, h3, rfl⟩ := am_pf_some h
      refine aw_pf c kf idx hd hw hc hk hfin ?_ ?_ h1 h2 h3 (kk _)
      · rw [hty]; rcases hv with rfl | rfl <;> rfl
      · rw [hty]; rcases hv with rfl | rfl <;> rfl
    · cases h
theorem aw_pA (c kf idx : Nat) {a v : Nat} {F : am_S → Option β} (hd : decode (am_code M) pc = .ok (.putfield idx, 3) := by decide +kernel) (hc : c < am_NC := by decide) (hk : kf < am_N c := by decide) (hfin : (am_fd c kf).2.2.1 = false := by rfl) (hty : am_isR (am_fd c kf).2.2.2 = true := by rfl) (hw : Cond.fieldLink (am_name M).cls idx (am_cn c) (am_fd c kf).1 (am_fd c kf).2.1 ∈ lw_tbl)
    (kk : ∀ σ1, am_W g M σ0 (pc + 3) lv st σ1 (F σ1) k) : am_W g M σ0 pc lv (.ref v :: .ref a :: st) σ ((am_pA σ c kf a v).bind F) k :=
  am_W.bindI fun σ1 h => by
    obtain ⟨fs, h1, h2, h3, rfl⟩ := am_pf_some h
    exact aw_pf c kf idx hd hw hc hk hfin (am_narR hty _).1 (am_narR hty _).2 h1 h2 h3 (kk _)
theorem aw_pAF (c kf idx : Nat) {a v : Nat} {F : am_S → Option β} (hd : decode (am_code M) pc = .ok (.putfield idx, 3) := by decide +kernel) (hc : c < am_NC := by decide) (hk : kf < am_N c := by decide) (hfin : (am_fd c kf).2.2.1 = true := by rfl) (hty : am_isR (am_fd c kf).2.2.2 = true := by rfl) (hin : (am_name M).name = "<init>" := by rfl) (hcl : am_cn c = (am_name M).cls := by rfl) (hw : Cond.fieldLink (am_name M).cls idx (am_cn c) (am_fd c kf).1 (am_fd c kf).2.1 ∈ lw_tbl)
    (kk : ∀ σ1, am_W g M σ0 (pc + 3) lv st σ1 (F σ1) k) : am_W g M σ0 pc lv (.ref v :: .ref a :: st) σ ((am_pA σ c kf a v).bind F) k :=
  am_W.bindI fun σ1 h => by
    obtain ⟨fs, h1, h2, h3, rfl⟩ := am_pf_some h
    exact aw_pfF c kf idx hd hw hc hk hfin hin hcl (am_narR hty _).1 (am_narR hty _).2 h1 h2 h3 (kk _)
end AWH
end
section
def am_ld (σ : am_S) (ty : FieldType) (a : Nat) (i : Int32) : Option Value := match σ.2.2 a with
  | some (.inl y) => if y.1 = ty ∧ ¬ i < 0 ∧ i.toNatClampNeg < y.2.1 then some (y.2.2 i.toNatClampNeg) else none
  | _ => none
def am_lI (σ : am_S) (ty : FieldType) (a : Nat) (i : Int32) : Option Int32 := match am_ld σ ty a i with
  | some (.int v) => some v
  | _ => none
def am_lL (σ : am_S) (a : Nat) (i : Int32) : Option Int64 := match am_ld σ .long a i with
  | some (.long v) => some v
  | _ => none
def am_lA (σ : am_S) (c : Nat) (a : Nat) (i : Int32) : Option Nat := match am_ld σ (.object (am_cn c)) a i with
  | some (.ref v) => some v
  | _ => none
def am_len (σ : am_S) (a : Nat) : Option Int32 := match σ.2.2 a with
  | some (.inl y) => some (Int32.ofNat y.2.1)
  | _ => none
def am_st (σ : am_S) (ty : FieldType) (a : Nat) (i : Int32) (v : Value) : Option am_S := match σ.2.2 a with
  | some (.inl y) => if y.1 = ty ∧ 8 ≤ a ∧ ¬ i < 0 ∧ i.toNatClampNeg < y.2.1 then some (am_put σ a (.inl (ty, y.2.1, updV y.2.2 i.toNatClampNeg v))) else none
  | _ => none
def am_sI (σ : am_S) (a : Nat) (i v : Int32) : Option am_S := am_st σ .int a i (.int v)
def am_sB (σ : am_S) (a : Nat) (i v : Int32) : Option am_S := am_st σ .byte a i (.int (am_i2b v))
def am_sZ (σ : am_S) (a : Nat) (i v : Int32) : Option am_S := am_st σ .boolean a i (.int (v &&& 1))
def am_sS (σ : am_S) (a : Nat) (i v : Int32) : Option am_S := am_st σ .short a i (.int (am_i2s v))
def am_sL (σ : am_S) (a : Nat) (i : Int32) (v : Int64) : Option am_S := am_st σ .long a i (.long v)
/-- a reference to an object of class c into an array of such -/
def am_sA (σ : am_S) (c : Nat) (a : Nat) (i : Int32) (v : Nat) : Option am_S := match σ.2.2 v with
  | some (.inr y) => if y.1 = c then am_st σ (.object (am_cn c)) a i (.ref v) else none
  | _ => none
theorem am_ld_some {σ : am_S} {ty : FieldType} {a : Nat} {i : Int32} {v : Value} (h : am_ld σ ty a i = some v) : ∃ (n : Nat) (f : Nat → Value), σ.2.2 a = some (.inl (ty, n, f)) ∧ ¬ i < 0 ∧ i.toNatClampNeg < n ∧ f i.toNatClampNeg = v := by
  unfold am_ld at h
  split at h
  · rename_i y hy
    split at h
    · rename_i hc
      obtain ⟨t, n, f⟩ := y
      obtain ⟨h1, h2, h3⟩ := hc
      subst h1
      cases h
      exact ⟨n, f, hy, h2, h3, rfl⟩
    · cases h
  · cases h
theorem am_st_some {σ σ1 : am_S} {ty : FieldType} {a : Nat} {i : Int32} {v : Value} (h : am_st σ ty a i v = some σ1) : ∃ (n : Nat) (f : Nat → Value), σ.2.2 a = some (.inl (ty, n, f)) ∧ 8 ≤ a ∧ ¬ i < 0 ∧ i.toNatClampNeg < n ∧ σ1 = am_put σ a (.inl (ty, n, updV f i.toNatClampNeg v)) := by
  unfold am_st at h
  split at h
  · rename_i y hy
    split at h
    · rename_i hc
      obtain ⟨t, n, f⟩ := y
      obtain ⟨h1, h0, h2, h3⟩ := hc
      subst h1
      cases h
      exact ⟨n, f, hy, h0, h2, h3, rfl⟩
    · cases h
  · cases h
theorem am_lI_some {σ : am_S} {ty : FieldType} {a : Nat} {i v : Int32} (h : am_lI σ ty a i = some v) : am_ld σ ty a i = some (.int v) := by
  unfold am_lI at h
  split at h
  · rename_i x hx; cases h; exact hx
  · cases h
theorem am_lL_some {σ : am_S} {a : Nat} {i : Int32} {v : Int64} (h : am_lL σ a i = some v) : am_ld σ .long a i = some (.long v) := by
  unfold am_lL at h
  split at h
  · rename_i x hx; cases h; exact hx
  · cases h
theorem am_lA_some {σ : am_S} {c a : Nat} {i : Int32} {v : Nat} (h : am_lA σ c a i = some v) : am_ld σ (.object (am_cn c)) a i = some (.ref v) := by
  unfold am_lA at h
  split at h
  · rename_i x hx; cases h; exact hx
  · cases h
theorem am_len_some {σ : am_S} {a : Nat} {v : Int32} (h : am_len σ a = some v) : ∃ (ty : FieldType) (n : Nat) (f : Nat → Value), σ.2.2 a = some (.inl (ty, n, f)) ∧ v = Int32.ofNat n := by
  unfold am_len at h
  split at h
  · rename_i y hy
    cases h
    exact ⟨y.1, y.2.1, y.2.2, hy, rfl⟩
  · cases h
/-- an array's cell behind a store -/
theorem am_at_st {g : am_G} {ty : FieldType} {n i a : Nat} {f : Nat → Value} {v : Value} {cell : Cell} {H1 : Heap} (q2 : g.1.isArrayOf cell ty) (q3 : am_ok g.1 cell.cls ty) (q4 : cell.vm ≠ .unknown) (q5 : n ≤ cell.slots.size ∧ cell.slots.size.toInt32 = Int32.ofNat n)
    (q6 : ∀ j, j < n → cell.slots[j]? = some (am_up g (f j)) ∧ fits ty (am_up g (f j)) = true) (hv : fits ty (am_up g v) = true) (e1 : H1[a]? = some (cell.setSlot i (am_up g v))) : am_at g a (.inl (ty, n, updV f i v)) H1 := by
  refine ⟨_, e1, q2, q3, q4, by simpa [Cell.setSlot] using q5, fun j hj => ?_⟩
  by_cases hji : j = i
  · subst hji
    rw [Cell.slots_setSlot_self _ (Nat.lt_of_lt_of_le hj q5.1)]
    simp [updV, hv]
  · rw [slot_ne _ _ (Ne.symm hji)]
    simpa [updV, hji] using q6 j hj
theorem am_fits_b (x : Int32) : fits .byte (.int (am_i2b x)) = true := by
  have h := lg_i2b_range x
  have h1 : (-128 : Int32) ≤ am_i2b x := by rw [Int32.le_iff_toInt_le]; exact h.1
  have h2 : am_i2b x ≤ (127 : Int32) := by rw [Int32.le_iff_toInt_le]; have := h.2; show (am_i2b x).toInt ≤ 127; unfold am_i2b; omega
  simp [fits, h1, h2]
theorem am_fits_s (x : Int32) : fits .short (.int (am_i2s x)) = true := by
  have h := lg_i2s_range x
  have h1 : (-32768 : Int32) ≤ am_i2s x := by rw [Int32.le_iff_toInt_le]; exact h.1
  have h2 : am_i2s x ≤ (32767 : Int32) := by rw [Int32.le_iff_toInt_le]; have := h.2; show (am_i2s x).toInt ≤ 32767; unfold am_i2s; omega
  simp [fits, h1, h2]
theorem am_and1 (x : Int32) : x &&& 1 = 0 ∨ x &&& 1 = 1 := by
  have h : (x.toBitVec &&& 1#32) = 0#32 ∨ (x.toBitVec &&& 1#32) = 1#32 := by
    have h1 : (x.toBitVec &&& 1#32).toNat = x.toBitVec.toNat % 2 := by
      rw [BitVec.toNat_and]
      exact Nat.and_one_is_mod _
    rcases Nat.mod_two_eq_zero_or_one x.toBitVec.toNat with h2 | h2
    · left; apply BitVec.eq_of_toNat_eq; rw [h1, h2]; rfl
    · right; apply BitVec.eq_of_toNat_eq; rw [h1, h2]; rfl
  rcases h with h | h
  · left; exact Int32.toBitVec_inj.mp h
  · right; exact Int32.toBitVec_inj.mp h
theorem am_fits_z (x : Int32) : fits .boolean (.int (x &&& 1)) = true := by
  rcases am_and1 x with h | h <;> rw [h] <;> rfl
end
section
section AWA
variable {g : am_G} {M : am_M} {σ0 σ : am_S} {pc : Nat} {lv : List (Option Value)} {st : List Value} {β : Type} {E : Option β} {k : β → Option (Outcome × am_S)}
theorem aw_len {a : Nat} {F : Int32 → Option β} (hd : decode (am_code M) pc = .ok (.arraylength, 1) := by decide +kernel) (kk : ∀ v, am_W g M σ0 (pc + 1) lv (.int v :: st) σ (F v) k) : am_W g M σ0 pc lv (.ref a :: st) σ ((am_len σ a).bind F) k :=
  am_W.bindI fun v h => by
    refine (kk v).same fun {p l e R s m args below meth c0 H locs cells slots Q ls} C hL hR w => ?_
    obtain ⟨ty, n, f, h1, rfl⟩ := am_len_some h
    obtain ⟨cell, q1, q2, q3, q4, q5, q6⟩ := hR.1 a _ h1
    exact W.alen C.1 C.2.1 q1 (State.isArrayOf_alike C.2.2.2.2.2.2.2.2.2.2.2.1.alike q2) q5.2 rfl rfl hd w
theorem aw_lI {a : Nat} {i : Int32} {F : Int32 → Option β} (hd : decode (am_code M) pc = .ok (.iaload, 1) := by decide +kernel) (kk : ∀ v, am_W g M σ0 (pc + 1) lv (.int v :: st) σ (F v) k) : am_W g M σ0 pc lv (.int i :: .ref a :: st) σ ((am_lI σ .int a i).bind F) k :=
  am_W.bindI fun v h => by
    refine (kk v).same fun {p l e R s m args below meth c0 H locs cells slots Q ls} C hL hR w => ?_
    obtain ⟨n, f, h1, h2, h3, h4⟩ := am_ld_some (am_lI_some h)
    obtain ⟨cell, q1, q2, q3, q4, q5, q6⟩ := hR.1 a _ h1
    refine W.iald (v := am_up g (.int v)) C.1 C.2.1 q1 (State.isArrayOf_alike C.2.2.2.2.2.2.2.2.2.2.2.1.alike q2) q4 (fun z => z.elim h2 fun z2 => Nat.not_le.mpr h3 (Nat.le_trans q5.1 z2)) ?_ rfl rfl hd w
    rw [← h4]; exact (q6 _ h3).1
theorem aw_lB {a : Nat} {i : Int32} {F : Int32 → Option β} (hd : decode (am_code M) pc = .ok (.baload, 1) := by decide +kernel) (kk : ∀ v, am_W g M σ0 (pc + 1) lv (.int v :: st) σ (F v) k) : am_W g M σ0 pc lv (.int i :: .ref a :: st) σ ((am_lI σ .byte a i).bind F) k :=
  am_W.bindI fun v h => by
    refine (kk v).same fun {p l e R s m args below meth c0 H locs cells slots Q ls} C hL hR w => ?_
    obtain ⟨n, f, h1, h2, h3, h4⟩ := am_ld_some (am_lI_some h)
    obtain ⟨cell, q1, q2, q3, q4, q5, q6⟩ := hR.1 a _ h1
    refine W.bald (v := am_up g (.int v)) C.1 C.2.1 q1 (State.isArrayOf_alike C.2.2.2.2.2.2.2.2.2.2.2.1.alike q2) q4 (fun z => z.elim h2 fun z2 => Nat.not_le.mpr h3 (Nat.le_trans q5.1 z2)) ?_ rfl rfl hd w
    rw [← h4]; exact (q6 _ h3).1
theorem aw_lZ {a : Nat} {i : Int32} {F : Int32 → Option β} (hd : decode (am_code M) pc = .ok (.baload, 1) := by decide +kernel) (kk : ∀ v, am_W g M σ0 (pc + 1) lv (.int v :: st) σ (F v) k) : am_W g M σ0 pc lv (.int i :: .ref a :: st) σ ((am_lI σ .boolean a i).bind F) k :=
  am_W.bindI fun v h => by
    refine (kk v).same fun {p l e R s m args below meth c0 H locs cells slots Q ls} C hL hR w => ?_
    obtain ⟨n, f, h1, h2, h3, h4⟩ := am_ld_some (am_lI_some h)
    obtain ⟨cell, q1, q2, q3, q4, q5, q6⟩ := hR.1 a _ h1
    refine W.zald (v := am_up g (.int v)) C.1 C.2.1 q1 (State.isArrayOf_alike C.2.2.2.2.2.2.2.2.2.2.2.1.alike q2) q4 (fun z => z.elim h2 fun z2 => Nat.not_le.mpr h3 (Nat.le_trans q5.1 z2)) ?_ rfl rfl hd w
    rw [← h4]; exact (q6 _ h3).1
theorem aw_lS {a : Nat} {i : Int32} {F : Int32 → Option β} (hd : decode (am_code M) pc = .ok (.saload, 1) := by decide +kernel) (kk : ∀ v, am_W g M σ0 (pc + 1) lv (.int v :: st) σ (F v) k) : am_W g M σ0 pc lv (.int i :: .ref a :: st) σ ((am_lI σ .short a i).bind F) k :=
  am_W.bindI fun v h => by
    refine (kk v).same fun {p l e R s m args below meth c0 H locs cells slots Q ls} C hL hR w => ?_
    obtain ⟨n, f, h1, h2, h3, h4⟩ := am_ld_some (am_lI_some h)
    obtain ⟨cell, q1, q2, q3, q4, q5, q6⟩ := hR.1 a _ h1
    refine W.sald (v := am_up g (.int v)) C.1 C.2.1 q1 (State.isArrayOf_alike C.2.2.2.2.2.2.2.2.2.2.2.1.alike q2) q4 (fun z => z.elim h2 fun z2 => Nat.not_le.mpr h3 (Nat.le_trans q5.1 z2)) ?_ rfl rfl hd w
    rw [← h4]; exact (q6 _ h3).1
theorem aw_lL {a : Nat} {i : Int32} {F : Int64 → Option β} (hd : decode (am_code M) pc = .ok (.laload, 1) := by decide +kernel) (kk : ∀ v, am_W g M σ0 (pc + 1) lv (.long v :: st) σ (F v) k) : am_W g M σ0 pc lv (.int i :: .ref a :: st) σ ((am_lL σ a i).bind F) k :=
  am_W.bindI fun v h => by
    refine (kk v).same fun {p l e R s m args below meth c0 H locs cells slots Q ls} C hL hR w => ?_
    obtain ⟨n, f, h1, h2, h3, h4⟩ := am_ld_some (am_lL_some h)
    obtain ⟨cell, q1, q2, q3, q4, q5, q6⟩ := hR.1 a _ h1
    refine W.lald (v := am_up g (.long v)) C.1 C.2.1 q1 (State.isArrayOf_alike C.2.2.2.2.2.2.2.2.2.2.2.1.alike q2) q4 (fun z => z.elim h2 fun z2 => Nat.not_le.mpr h3 (Nat.le_trans q5.1 z2)) ?_ rfl rfl hd w
    rw [← h4]; exact (q6 _ h3).1
theorem aw_lA (c : Nat) {a : Nat} {i : Int32} {F : Nat → Option β} (hd : decode (am_code M) pc = .ok (.aaload, 1) := by decide +kernel) (kk : ∀ v, am_W g M σ0 (pc + 1) lv (.ref v :: st) σ (F v) k) : am_W g M σ0 pc lv (.int i :: .ref a :: st) σ ((am_lA σ c a i).bind F) k :=
  am_W.bindI fun v h => by
    refine (kk v).same fun {p l e R s m args below meth c0 H locs cells slots Q ls} C hL hR w => ?_
    obtain ⟨n, f, h1, h2, h3, h4⟩ := am_ld_some (am_lA_some h)
    obtain ⟨cell, q1, q2, q3, q4, q5, q6⟩ := hR.1 a _ h1
    refine W.aald (v := am_up g (.ref v)) C.1 C.2.1 q1 (State.isArrayOf_alike C.2.2.2.2.2.2.2.2.2.2.2.1.alike q2) rfl q4 (fun z => z.elim h2 fun z2 => Nat.not_le.mpr h3 (Nat.le_trans q5.1 z2)) ?_ rfl rfl hd w
    rw [← h4]; exact (q6 _ h3).1
theorem aw_sI {a : Nat} {i : Int32} {v : Int32} {F : am_S → Option β} (hd : decode (am_code M) pc = .ok (.iastore, 1) := by decide +kernel) (kk : ∀ σ1, am_W g M σ0 (pc + 1) lv st σ1 (F σ1) k) : am_W g M σ0 pc lv (.int v :: .int i :: .ref a :: st) σ ((am_sI σ a i v).bind F) k :=
  am_W.bindI fun σ1 h => by
    obtain ⟨n, f, h1, h8, h2, h3, rfl⟩ := am_st_some h
    refine am_W.write (fun {p l e R s m args below meth c0 H locs cells slots Q ls} C hL hR w => ?_) h8 (kk _)
    obtain ⟨cell, q1, q2, q3, q4, q5, q6⟩ := hR.1 a _ h1
    refine W.iast C.1 C.2.1 q1 (State.isArrayOf_alike C.2.2.2.2.2.2.2.2.2.2.2.1.alike q2) q4 (fun z => z.elim h2 fun z2 => Nat.not_le.mpr h3 (Nat.le_trans q5.1 z2)) rfl rfl hd fun H' e1 e2 e3 => ?_
    exact w H' _ (hR.put C.2.2.2.2.2.2.2.2.2.2.2.2 h8 (am_at_st q2 q3 q4 q5 q6 rfl e1) e2 e3)
theorem aw_sB {a : Nat} {i : Int32} {v : Int32} {F : am_S → Option β} (hd : decode (am_code M) pc = .ok (.bastore, 1) := by decide +kernel) (kk : ∀ σ1, am_W g M σ0 (pc + 1) lv st σ1 (F σ1) k) : am_W g M σ0 pc lv (.int v :: .int i :: .ref a :: st) σ ((am_sB σ a i v).bind F) k :=
  am_W.bindI fun σ1 h => by
    obtain ⟨n, f, h1, h8, h2, h3, rfl⟩ := am_st_some h
    refine am_W.write (fun {p l e R s m args below meth c0 H locs cells slots Q ls} C hL hR w => ?_) h8 (kk _)
    obtain ⟨cell, q1, q2, q3, q4, q5, q6⟩ := hR.1 a _ h1
    refine W.bast C.1 C.2.1 q1 (State.isArrayOf_alike C.2.2.2.2.2.2.2.2.2.2.2.1.alike q2) q4 (fun z => z.elim h2 fun z2 => Nat.not_le.mpr h3 (Nat.le_trans q5.1 z2)) rfl rfl hd fun H' e1 e2 e3 => ?_
    exact w H' _ (hR.put C.2.2.2.2.2.2.2.2.2.2.2.2 h8 (am_at_st q2 q3 q4 q5 q6 (am_fits_b v) e1) e2 e3)
theorem aw_sZ {a : Nat} {i : Int32} {v : Int32} {F : am_S → Option β} (hd : decode (am_code M) pc = .ok (.bastore, 1) := by decide +kernel) (kk : ∀ σ1, am_W g M σ0 (pc + 1) lv st σ1 (F σ1) k) : am_W g M σ0 pc lv (.int v :: .int i :: .ref a :: st) σ ((am_sZ σ a i v).bind F) k :=
  am_W.bindI fun σ1 h => by
    obtain ⟨n, f, h1, h8, h2, h3, rfl⟩ := am_st_some h
    refine am_W.write (fun {p l e R s m args below meth c0 H locs cells slots Q ls} C hL hR w => ?_) h8 (kk _)
    obtain ⟨cell, q1, q2, q3, q4, q5, q6⟩ := hR.1 a _ h1
    refine W.zast C.1 C.2.1 q1 (State.isArrayOf_alike C.2.2.2.2.2.2.2.2.2.2.2.1.alike q2) q4 (fun z => z.elim h2 fun z2 => Nat.not_le.mpr h3 (Nat.le_trans q5.1 z2)) rfl rfl hd fun H' e1 e2 e3 => ?_
    exact w H' _ (hR.put C.2.2.2.2.2.2.2.2.2.2.2.2 h8 (am_at_st q2 q3 q4 q5 q6 (am_fits_z v) e1) e2 e3)
theorem aw_sS {a : Nat} {i : Int32} {v : Int32} {F : am_S → Option β} (hd : decode (am_code M) pc = .ok (.sastore, 1) := by decide +kernel) (kk : ∀ σ1, am_W g M σ0 (pc + 1) lv st σ1 (F σ1) k) : am_W g M σ0 pc lv (.int v :: .int i :: .ref a :: st) σ ((am_sS σ a i v).bind F) k :=
  am_W.bindI fun σ1 h => by
    obtain ⟨n, f, h1, h8, h2, h3, rfl⟩ := am_st_some h
    refine am_W.write (fun {p l e R s m args below meth c0 H locs cells slots Q ls} C hL hR w => ?_) h8 (kk _)
    obtain ⟨cell, q1, q2, q3, q4, q5, q6⟩ := hR.1 a _ h1
    refine W.sast C.1 C.2.1 q1 (State.isArrayOf_alike C.2.2.2.2.2.2.2.2.2.2.2.1.alike q2) q4 (fun z => z.elim h2 fun z2 => Nat.not_le.mpr h3 (Nat.le_trans q5.1 z2)) rfl rfl hd fun H' e1 e2 e3 => ?_
    exact w H' _ (hR.put C.2.2.2.2.2.2.2.2.2.2.2.2 h8 (am_at_st q2 q3 q4 q5 q6 (am_fits_s v) e1) e2 e3)
theorem aw_sL {a : Nat} {i : Int32} {v : Int64} {F : am_S → Option β} (hd : decode (am_code M) pc = .ok (.lastore, 1) := by decide +kernel) (kk : ∀ σ1, am_W g M σ0 (pc + 1) lv st σ1 (F σ1) k) : am_W g M σ0 pc lv (.long v :: .int i :: .ref a :: st) σ ((am_sL σ a i v).bind F) k :=
  am_W.bindI fun σ1 h => by
    obtain ⟨n, f, h1, h8, h2, h3, rfl⟩ := am_st_some h
    refine am_W.write (fun {p l e R s m args below meth c0 H locs cells slots Q ls} C hL hR w => ?_) h8 (kk _)
    obtain ⟨cell, q1, q2, q3, q4, q5, q6⟩ := hR.1 a _ h1
    refine W.last C.1 C.2.1 q1 (State.isArrayOf_alike C.2.2.2.2.2.2.2.2.2.2.2.1.alike q2) q4 (fun z => z.elim h2 fun z2 => Nat.not_le.mpr h3 (Nat.le_trans q5.1 z2)) rfl rfl hd fun H' e1 e2 e3 => ?_
    exact w H' _ (hR.put C.2.2.2.2.2.2.2.2.2.2.2.2 h8 (am_at_st q2 q3 q4 q5 q6 rfl e1) e2 e3)
theorem aw_sA (c : Nat) {a v : Nat} {i : Int32} {F : am_S → Option β} (hd : decode (am_code M) pc = .ok (.aastore, 1) := by decide +kernel) (hc : c < am_NC := by decide) (kk : ∀ σ1, am_W g M σ0 (pc + 1) lv st σ1 (F σ1) k) : am_W g M σ0 pc lv (.ref v :: .int i :: .ref a :: st) σ ((am_sA σ c a i v).bind F) k :=
  am_W.bindI fun σ1 h => by
    unfold am_sA at h
    split at h
    · rename_i y hy
      split at h
      · rename_i hyc
        obtain ⟨c', fs⟩ := y
        subst hyc
        obtain ⟨n, f, h1, h8, h2, h3, rfl⟩ := am_st_some h
        refine am_W.write (fun {p l e R s m args below meth c0 H locs cells slots Q ls} C hL hR w => ?_) h8 (kk _)
        obtain ⟨c1, c2, c3, c4, c5, c6, c7, c8, c9, c10, c11, hW, hK⟩ := C
        obtain ⟨cell, q1, q2, q3, q4, q5, q6⟩ := hR.1 a _ h1
        obtain ⟨cv, r1, r2, r3, r4⟩ := hR.1 v _ hy
        have hcl := am_class hK hW hc
        obtain ⟨kA, comp, k1, k2, k3⟩ := am_ok_moved hW.alike q3
        have hcomp : comp = g.2.2.1 c' := Option.some.inj (k3.symm.trans hcl.1)
        subst hcomp
        obtain ⟨kC, hkC, hkind⟩ := hcl.2
        refine W.aast c1 c2 q1 q2.1 q4 k1 k2 rfl hkC ⟨h2, Nat.lt_of_lt_of_le h3 q5.1⟩ r1 (fun q z => by rw [r3] at z; cases z) (by rw [r2]; exact hkC) (by rw [r2]; exact va_assign hcl) rfl rfl hd fun H' e1 e2 e3 => ?_
        exact w H' _ (hR.put hK h8 (am_at_st q2 q3 q4 q5 q6 rfl e1) e2 e3)
      · cases h
    · cases h
/-- a cell is made -/
theorem am_W.make {pc' N : Nat} {st' : List Value} {x : am_C} (h : ∀ {p : Program} {l : Launch} {e : Env} {R : Room} {s : State} {m : MethodId} {args : Array Value} {below : List Frame} {meth : Method} {c : Code} {H : Heap} {locs : List Loc} {cells slots : Nat} {Q : State → Prop} {ls : Array Slot},
      am_Cx g M p l e R s m meth c → am_L g (am_maxL M) lv ls → am_R g σ H → cells + 1 ≤ R.cells → slots + N ≤ R.slots →
      (∀ H1 : Heap, am_R g (am_new σ N x) H1 → W p l e R s m args below meth c H1 locs (cells + 1) (slots + N) Q (F0 m pc' ls (st'.map (am_up g)))) → W p l e R s m args below meth c H locs cells slots Q (F0 m pc ls (st.map (am_up g))))
    (kk : am_W g M σ0 pc' lv st' (am_new σ N x) E k) : am_W g M σ0 pc lv st σ E k := by
  intro res σ' hE
  obtain ⟨a1, b1, j⟩ := kk res σ' hE
  have a2 : σ.1 + 1 ≤ σ'.1 := a1
  have b2 : σ.2.1 + N ≤ σ'.2.1 := b1
  refine ⟨by omega, by omega, fun p l e R s m args below meth c H locs ls C hc hs h1 h2 hR hL hl => h C hL hR (by omega) (by omega) fun H1 hR1 => ?_⟩
  have w := j p l e R s m args below meth c H1 locs ls C hc hs (show σ0.1 ≤ σ.1 + 1 by omega) (show σ0.2.1 ≤ σ.2.1 + N by omega) hR1 hL hl
  refine W.cs ?_ ?_ w
  · show _ = σ.1 + 1 - σ0.1
    omega
  · show _ = σ.2.1 + N - σ0.2.1
    omega
def am_na (σ : am_S) (ty : FieldType) (n : Int32) : Option (Nat × am_S) := if n < 0 ∨ 67108864 < n.toNatClampNeg then none else some (σ.1, am_new σ n.toNatClampNeg (.inl (ty, n.toNatClampNeg, fun _ => defaultValue ty)))
theorem am_upd_def (g : am_G) (ty : FieldType) : am_up g (defaultValue ty) = defaultValue ty := by cases ty <;> rfl
theorem am_fit_def (ty : FieldType) : fits ty (defaultValue ty) = true := by cases ty <;> rfl
theorem am_cb (ty : FieldType) : componentBytes ty ≤ 8 := by cases ty <;> simp [componentBytes]
theorem am_ok_prim {U : State} {cA : ClassId} (t : ArrayType) : am_ok U cA (newarray.typeOf t) := by cases t <;> trivial
theorem aw_na (t : ArrayType) {ty : FieldType} {n : Int32} {F : Nat × am_S → Option β} (hd : decode (am_code M) pc = .ok (.newarray t, 2) := by decide +kernel) (hty : newarray.typeOf t = ty := by rfl) (hw : Cond.arrayClass ty ∈ lw_tbl)
    (kk : ∀ a σ1, am_W g M σ0 (pc + 2) lv (.ref a :: st) σ1 (F (a, σ1)) k) : am_W g M σ0 pc lv (.int n :: st) σ ((am_na σ ty n).bind F) k :=
  am_W.bindI fun x h => by
    subst hty
    unfold am_na at h
    split at h
    · cases h
    · rename_i hn
      cases h
      refine am_W.make (fun {p l e R s m args below meth c0 H locs cells slots Q ls} C hL hR r1 r2 w => ?_) (kk _ _)
      obtain ⟨c1, c2, c3, c4, c5, c6, c7, c8, c9, c10, c11, hW, hK⟩ := C
      refine va_newaK c1 c2 (am_word hK hW hw rfl) rfl hd rfl (fun z => hn (Or.inl z)) rfl ?_ r1 r2 rfl fun H' cA e1 e2 e3 hA hN => ?_
      · have h1 : n.toNatClampNeg ≤ 67108864 := Nat.not_lt.mp fun z => hn (Or.inr z)
        have h2 := am_cb (newarray.typeOf t)
        calc n.toNatClampNeg * componentBytes (newarray.typeOf t) ≤ 67108864 * 8 := Nat.mul_le_mul h1 h2
          _ ≤ 536870912 := by decide
      · have ht := hR.top
        have w1 := w H' (hR.new (n := n.toNatClampNeg) ⟨_, e1, State.isArrayOf_alike hW.alike.symm (hA _ _), am_ok_prim t, (fun z => by cases z), ⟨Nat.le_of_eq (arrV_size _ _ _).symm, congrArg Nat.toInt32 (arrV_size _ _ _)⟩, fun j hj => ⟨by rw [arrV_read _ _ hj, am_upd_def], by rw [am_upd_def]; exact am_fit_def _⟩⟩ e2 e3)
        simp only [List.map_cons, am_up, ht] at w1
        exact w1
/-- an array of references to objects of class c -/
def am_nA (σ : am_S) (c : Nat) (n : Int32) : Option (Nat × am_S) := if n < 0 ∨ 67108864 < n.toNatClampNeg then none else some (σ.1, am_new σ n.toNatClampNeg (.inl (.object (am_cn c), n.toNatClampNeg, fun _ => .null)))
theorem aw_nA (c idx : Nat) {n : Int32} {F : Nat × am_S → Option β} (hd : decode (am_code M) pc = .ok (.anewarray idx, 3) := by decide +kernel) (hw : Cond.classLink (am_name M).cls idx (am_cn c) ∈ lw_tbl) (hw2 : Cond.arrayOver (.object (am_cn c)) ∈ lw_tbl)
    (kk : ∀ a σ1, am_W g M σ0 (pc + 3) lv (.ref a :: st) σ1 (F (a, σ1)) k) : am_W g M σ0 pc lv (.int n :: st) σ ((am_nA σ c n).bind F) k :=
  am_W.bindI fun x h => by
    unfold am_nA at h
    split at h
    · cases h
    · rename_i hn
      cases h
      refine am_W.make (fun {p l e R s m args below meth c0 H locs cells slots Q ls} C hL hR r1 r2 w => ?_) (kk _ _)
      obtain ⟨c1, c2, c3, c4, c5, c6, c7, c8, c9, c10, c11, hW, hK⟩ := C
      refine W.anew c1 c2 c4 (am_word hK hW hw rfl) (am_wordO hK hW hw2) rfl hd rfl (fun z => hn (Or.inl z)) ?_ r1 r2 fun cA kA comp e1 e2 e3 e4 => ?_
      · have h1 : n.toNatClampNeg ≤ 67108864 := Nat.not_lt.mp fun z => hn (Or.inr z)
        omega
      · have ht := hR.top
        have w1 := w (H.push { cls := cA, slots := Array.replicate n.toNatClampNeg .null, vm := .none }) (hR.new (n := n.toNatClampNeg) ⟨{ cls := cA, slots := Array.replicate n.toNatClampNeg .null, vm := .none }, by simp, State.isArrayOf_alike hW.alike.symm ⟨(fun _ z => by cases z), kA, e2, comp, e3⟩, am_ok_moved hW.alike.symm ⟨kA, comp, e2, e3, e4⟩, (fun z => by cases z), ⟨by simp, by simp⟩, fun j hj => ⟨by simp [Array.getElem?_replicate, hj, am_up], rfl⟩⟩ (by simp) (fun q hq => by rw [Array.getElem?_push, if_neg (Nat.ne_of_lt hq)]))
        simp only [List.map_cons, am_up, ht] at w1
        exact w1
def am_df (c : Nat) : List Value := (am_fl c).map fun f => defaultValue f.2.2.2
def am_no (σ : am_S) (c : Nat) : am_S := am_new σ (am_N c) (.inr (c, am_df c))
theorem am_born {s : State} {c a : Nat} {kC : Class} {H1 : Heap} (hK : am_K g) (hW : g.1.WarmedH s.vm) (hc : c < am_NC) (hkC : s.vm.classes[g.2.2.1 c]? = some kC) (e1 : H1[a]? = some (blank (g.2.2.1 c) kC)) : am_at g a (.inr (c, am_df c)) H1 := by
  obtain ⟨hfc, -⟩ := am_class hK hW hc
  refine ⟨_, e1, rfl, rfl, fun j hj => ?_⟩
  obtain ⟨cf, kf, fi, fd, hi, he⟩ := am_slot hK hW hc hj
  have h3 := (u_facts hfc hkC (am_lays hK hW hc hj #[]) hi).2.2
  rw [(State.fieldFound?_type hi (am_ty_ok c hc j hj)).2] at h3
  rw [← he, k2_blank h3]
  have hl : j < (am_fl c).length := by rw [← am_N_eq c hc]; exact hj
  simp [vp_V, am_df, am_fd, hl, am_upd_def]
theorem aw_new (c idx : Nat) (hd : decode (am_code M) pc = .ok (.new idx, 3) := by decide +kernel) (hc : c < am_NC := by decide) (hw : Cond.classLink (am_name M).cls idx (am_cn c) ∈ lw_tbl) (hw2 : Cond.instantiable (am_cn c) (am_N c) ∈ lw_tbl) (hw3 : Cond.initialized (am_cn c) ∈ lw_tbl)
    (kk : am_W g M σ0 (pc + 3) lv (.ref σ.1 :: st) (am_no σ c) E k) : am_W g M σ0 pc lv st σ E k := by
  refine am_W.make (fun {p l e R s m args below meth c0 H locs cells slots Q ls} C hL hR r1 r2 w => ?_) kk
  obtain ⟨c1, c2, c3, c4, c5, c6, c7, c8, c9, c10, c11, hW, hK⟩ := C
  refine W.newcK c1 c2 c4 (am_word hK hW hw rfl) (am_word hK hW hw2 rfl) (am_word hK hW hw3 rfl) rfl hd r1 r2 (am_class hK hW hc).1 rfl fun H' kC e0 e1 e2 e3 => ?_
  have ht := hR.top
  have w1 := w H' (hR.new (n := am_N c) (am_born hK hW hc e0 e1) e2 e3)
  simp only [List.map_cons, am_up, ht] at w1
  exact w1
theorem am_L.size {nL : Nat} {lv : List (Option Value)} {ls : Array Slot} (h : am_L g nL lv ls) : ls.size = nL := h.1
/-- Object.<init> -/
theorem aw_obj (idx : Nat) {a : Nat} (hd : decode (am_code M) pc = .ok (.invokespecial idx, 3) := by decide +kernel) (hw : Cond.methodLink (am_name M).cls idx Lib.objectInit ∈ lw_tbl) (hw2 : Cond.instanceMethod Lib.objectInit ∈ lw_tbl) (hw3 : Cond.code Lib.objectInit ⟨#[0xb1]⟩ 1 none ∈ lw_tbl)
    (hr : ((st.map (am_up g)).map fun v => v.category).sum ≤ 8) (hf : 1 ≤ am_fr M := by decide) (hl : 20 ≤ am_lc M := by decide)
    (kk : am_W g M σ0 (pc + 3) lv st σ E k) : am_W g M σ0 pc lv (.ref a :: st) σ E k := by
  refine kk.same fun {p l e R s m args below meth c0 H locs cells slots Q ls} C hL hR w => ?_
  obtain ⟨c1, c2, c3, c4, c5, c6, c7, c8, c9, c10, c11, hW, hK⟩ := C
  refine W.objInit c1 c2 c4 (am_word hK hW hw rfl) (am_word hK hW hw2 rfl) (am_word hK hW hw3 rfl) (a := am_r g a) (rest := st.map (am_up g)) rfl (by rw [c3]; exact hL.size) rfl hd (by omega) ?_ w
  show 2 * 0 + _ + 12 ≤ _
  omega
/-! System.arraycopy between arrays of one primitive type -/
theorem am_pairsS (at_ : Nat) : ∀ (xs : List Value) (i : Nat) (c : Cell), (c.storePairs at_ (xs.zipIdx i)).cls = c.cls ∧ (c.storePairs at_ (xs.zipIdx i)).vm = c.vm ∧ (c.storePairs at_ (xs.zipIdx i)).slots.size = c.slots.size ∧
    ∀ q, q < c.slots.size → (c.storePairs at_ (xs.zipIdx i)).slots[q]? = if at_ + i ≤ q ∧ q < at_ + i + xs.length then xs[q - (at_ + i)]? else c.slots[q]?
  | [], i, c => by
    refine ⟨rfl, rfl, rfl, fun q _ => ?_⟩
    rw [if_neg (by simp only [List.length_nil]; omega)]
    rfl
  | x :: xs, i, c => by
    rw [List.zipIdx_cons]
    have ih := am_pairsS at_ xs (i + 1) (c.setSlot (at_ + i) x)
    show ((c.setSlot (at_ + i) x).storePairs at_ (xs.zipIdx (i + 1))).cls = _ ∧ ((c.setSlot (at_ + i) x).storePairs at_ (xs.zipIdx (i + 1))).vm = _ ∧ ((c.setSlot (at_ + i) x).storePairs at_ (xs.zipIdx (i + 1))).slots.size = _ ∧ ∀ q, q < c.slots.size → ((c.setSlot (at_ + i) x).storePairs at_ (xs.zipIdx (i + 1))).slots[q]? = _
    have hz : (c.setSlot (at_ + i) x).slots.size = c.slots.size := by simp [Cell.setSlot]
    refine ⟨ih.1, ih.2.1, ih.2.2.1.trans hz, fun q hq => ?_⟩
    rw [ih.2.2.2 q (by rw [hz]; exact hq)]
    by_cases h1 : q = at_ + i
    · subst h1
      rw [if_neg (by omega), if_pos (by simp only [List.length_cons]; omega), Cell.slots_setSlot_self _ hq]
      simp
    · rw [slot_ne _ _ (Ne.symm h1)]
      by_cases h2 : at_ + (i + 1) ≤ q ∧ q < at_ + (i + 1) + xs.length
      · rw [if_pos h2, if_pos (by simp only [List.length_cons]; omega)]
        rw [show q - (at_ + i) = (q - (at_ + (i + 1))) + 1 by omega, List.getElem?_cons_succ]
      · rw [if_neg h2, if_neg (by simp only [List.length_cons]; omega)]
def am_cp (σ : am_S) (ty : FieldType) (a0 : Nat) (sp : Int32) (a : Nat) (dp n : Int32) : Option am_S := match σ.2.2 a0, σ.2.2 a with
  | some (.inl x), some (.inl y) => if x.1 = ty ∧ y.1 = ty ∧ 8 ≤ a ∧ ¬ sp < 0 ∧ ¬ dp < 0 ∧ ¬ n < 0 ∧ sp.toNatClampNeg + n.toNatClampNeg ≤ x.2.1 ∧ dp.toNatClampNeg + n.toNatClampNeg ≤ y.2.1 then some (am_put σ a (.inl (ty, y.2.1, va_cpy x.2.2 y.2.2 sp.toNatClampNeg dp.toNatClampNeg n.toNatClampNeg))) else none
  | _, _ => none
theorem am_cp_some {σ σ1 : am_S} {ty : FieldType} {a0 a : Nat} {sp dp n : Int32} (h : am_cp σ ty a0 sp a dp n = some σ1) : ∃ (n0 n1 : Nat) (f0 f1 : Nat → Value), σ.2.2 a0 = some (.inl (ty, n0, f0)) ∧ σ.2.2 a = some (.inl (ty, n1, f1)) ∧ 8 ≤ a ∧ ¬ sp < 0 ∧ ¬ dp < 0 ∧ ¬ n < 0 ∧ sp.toNatClampNeg + n.toNatClampNeg ≤ n0 ∧ dp.toNatClampNeg + n.toNatClampNeg ≤ n1 ∧ σ1 = am_put σ a (.inl (ty, n1, va_cpy f0 f1 sp.toNatClampNeg dp.toNatClampNeg n.toNatClampNeg)) := by
  unfold am_cp at h
  split at h
  · rename_i x y hx hy
    split at h
    · rename_i hc
      obtain ⟨t0, n0, f0⟩ := x
      obtain ⟨t1, n1, f1⟩ := y
      obtain ⟨h1, h2, h3, h4, h5, h6, h7, h8⟩ := hc
      dsimp only at h1 h2 h7 h8
      subst h1
      subst h2
      cases h
      exact ⟨n0, n1, f0, f1, hx, hy, h3, h4, h5, h6, h7, h8, rfl⟩
    · cases h
  · cases h
theorem am_nn {z : Int32} (hz : ¬ z < 0) : z.toInt = (z.toNatClampNeg : Int) := by
  have hz0 : (0 : Int) ≤ z.toInt := by
    have := Int32.not_lt.mp hz
    simpa using Int32.le_iff_toInt_le.mp this
  show z.toInt = ((z.toInt.toNat : Nat) : Int)
  omega
theorem aw_cp (idx : Nat) (ty : FieldType) {a0 a : Nat} {sp dp n : Int32} {F : am_S → Option β} (hd : decode (am_code M) pc = .ok (.invokestatic idx, 3) := by decide +kernel) (hw : Cond.methodLink (am_name M).cls idx arraycopyName ∈ lw_tbl) (hw2 : Cond.native arraycopyName ∈ lw_tbl) (hw3 : Cond.static arraycopyName ∈ lw_tbl) (hw4 : Cond.initialized "java/lang/System" ∈ lw_tbl) (hprim : refKind ty = false := by rfl)
    (hr : ((st.map (am_up g)).map fun v => v.category).sum ≤ 8) (hf : 1 ≤ am_fr M := by decide) (hl : 8 + (nativeFrameWords "java/lang/System" "arraycopy" 5 + 11) ≤ am_lc M := by decide +kernel)
    (kk : ∀ σ1, am_W g M σ0 (pc + 3) lv st σ1 (F σ1) k) : am_W g M σ0 pc lv (.int n :: .int dp :: .ref a :: .int sp :: .ref a0 :: st) σ ((am_cp σ ty a0 sp a dp n).bind F) k :=
  am_W.bindI fun σ1 h => by
    obtain ⟨n0, n1, f0, f1, h0, h1, h8, g1, g2, g3, g4, g5, rfl⟩ := am_cp_some h
    intro res σ' hE
    obtain ⟨a2, b2, j⟩ := kk _ res σ' hE
    refine ⟨a2, b2, fun p l e R s m args below meth c H locs ls C hc hs r1 r2 hR hL hll => ?_⟩
    have C' := C
    obtain ⟨c1, c2, c3, c4, c5, c6, c7, c8, c9, c10, c11, hW, hK⟩ := C
    obtain ⟨ce0, q1, q2, q3, q4, q5, q6⟩ := hR.1 a0 _ h0
    obtain ⟨ce1, p1, p2, p3, p4, p5, p6⟩ := hR.1 a _ h1
    obtain ⟨v0, k0, hk0, cm0, hkk0⟩ := State.isArrayOf_alike hW.alike q2
    obtain ⟨v1, k1, hk1, cm1, hkk1⟩ := State.isArrayOf_alike hW.alike p2
    intro T hT X
    have hget : ∀ i, i < n.toNatClampNeg → ce0.slots.getD (sp.toNatClampNeg + i) .null = am_up g (f0 (sp.toNatClampNeg + i)) := fun i hi => by
      rw [Array.getD_eq_getD_getElem?, (q6 _ (by dsimp only; omega)).1]
      rfl
    obtain ⟨vm', X', step⟩ := X.arraycopy c1 c4 (am_word hK hW hw rfl) (am_word hK hW hw2 rfl) (am_word hK hW hw3 rfl) (am_word hK hW hw4 rfl) (src := am_r g a0) (dst := am_r g a) (cs := ce0) (cd := ce1) (srcPos := sp) (destPos := dp) (n := n) (by rw [hT]; exact q1) (by rw [hT]; exact p1)
      v0 v1 q4 p4 hk0 hk1 hkk0 hkk1 (by simp [hprim]) g1 g2 g3
      (by have hq5 := q5.1; rw [am_nn g1, am_nn g3]; dsimp only at hq5 ⊢; omega)
      (by have hp5 := p5.1; rw [am_nn g2, am_nn g3]; dsimp only at hp5 ⊢; omega)
      (fun vm₁ _ i hi => by
        rw [hget i hi]
        refine ⟨(q6 _ (by dsimp only; omega)).2, ?_⟩
        have hf := (q6 (sp.toNatClampNeg + i) (by dsimp only; omega)).2
        dsimp only at hf
        revert hf
        generalize am_up g (f0 (sp.toNatClampNeg + i)) = z
        intro hf
        cases z <;> first | exact trivial | (exfalso; revert hf hprim; cases ty <;> simp [fits, refKind]))
      (g := F0 m pc ls (.int n :: .int dp :: .ref (am_r g a) :: .int sp :: .ref (am_r g a0) :: st.map (am_up g))) rfl (by rw [c3]; exact hL.size) (rest := st.map (am_up g)) rfl (by rw [c2]; exact hd) (by omega) (by show 2 * 0 + _ + _ ≤ _; omega)
    have hlt : am_r g a < H.size := (Array.getElem?_eq_some_iff.mp p1).1
    have hheap : ((T.setVm vm').setCell (am_r g a) (copied ce0 ce1 sp dp n)).heap = H.setIfInBounds (am_r g a) (copied ce0 ce1 sp dp n) := by rw [← hT]; rfl
    obtain ⟨s1, s2, s3, s4⟩ := am_pairsS dp.toNatClampNeg (ce0.stretch sp.toNatClampNeg n.toNatClampNeg) 0 ce1
    have hlen : (ce0.stretch sp.toNatClampNeg n.toNatClampNeg).length = n.toNatClampNeg := by simp [Cell.stretch]
    have hR1 : am_R g (am_put σ a (.inl (ty, n1, va_cpy f0 f1 sp.toNatClampNeg dp.toNatClampNeg n.toNatClampNeg))) (H.setIfInBounds (am_r g a) (copied ce0 ce1 sp dp n)) := by
      refine hR.put hK h8 ⟨copied ce0 ce1 sp dp n, by simp [Array.getElem?_setIfInBounds, hlt], ?_, ?_, ?_, ?_, fun q hq => ?_⟩ (by simp) (fun q hq => by simp [Array.getElem?_setIfInBounds, Ne.symm hq])
      · obtain ⟨u1, kk1, u2, u3⟩ := p2
        exact ⟨fun z hz => u1 z (by rw [← s2]; exact hz), kk1, by rw [show (copied ce0 ce1 sp dp n).cls = ce1.cls from s1]; exact u2, u3⟩
      · rw [show (copied ce0 ce1 sp dp n).cls = ce1.cls from s1]; exact p3
      · rw [show (copied ce0 ce1 sp dp n).vm = ce1.vm from s2]; exact p4
      · rw [show (copied ce0 ce1 sp dp n).slots.size = ce1.slots.size from s3]; exact p5
      · dsimp only at hq ⊢
        have e := s4 q (Nat.lt_of_lt_of_le hq p5.1)
        rw [hlen, Nat.add_zero] at e
        rw [show (copied ce0 ce1 sp dp n).slots[q]? = _ from e]
        unfold va_cpy
        by_cases hz : dp.toNatClampNeg ≤ q ∧ q < dp.toNatClampNeg + n.toNatClampNeg
        · rw [if_pos hz, if_pos hz]
          refine ⟨?_, (q6 _ (by dsimp only; omega)).2⟩
          unfold Cell.stretch
          rw [List.getElem?_map, List.getElem?_range (by omega)]
          exact congrArg some (hget _ (by omega))
        · rw [if_neg hz, if_neg hz]
          exact p6 q hq
    obtain ⟨t, t1, t2⟩ := j p l e R s m args below meth c _ (locs ++ (ce0.stretch sp.toNatClampNeg n.toNatClampNeg).zipIdx.map fun q => ⟨am_r g a, dp.toNatClampNeg + q.2⟩) ls C' hc hs r1 r2 hR1 hL (fun q hq => by
      rcases List.mem_append.mp hq with hz | hz
      · exact hll q hz
      · obtain ⟨z, -, hz⟩ := List.mem_map.mp hz
        rw [← hz]
        show _ ≤ am_r g a
        rw [am_r_ge h8]
        omega) _ hheap X'
    exact ⟨t, step t t1, t2⟩
end AWA
end
section
/-! ===== a method's contract, returns, calls ===== -/
def am_cw (M : am_M) : Cond := match am_hand M with
  | [] => .code (am_name M) (am_code M) (am_maxL M) (am_ret M)
  | q :: r => .codeWith (am_name M) (am_code M) (am_maxL M) (am_ret M) (q :: r)
theorem am_cw_good (M : am_M) : goodWord (am_cw M) = true := by
  unfold am_cw
  split <;> rfl
theorem am_cw_spec {M : am_M} {s : State} {m : MethodId} {args : Array Value} (hn : s.methodNamed? (am_name M) = some m) (h : (am_cw M).before args s = true) :
    ∃ meth c, s.vm.method? m = some meth ∧ meth.code = some c ∧ c.code = am_code M ∧ c.maxLocals = am_maxL M ∧ meth.sig.returnType = am_ret M ∧ meth.locks = false ∧ c.exceptionTable.toList.map (fun x => (x.startPc, x.endPc, x.handlerPc, x.catchType)) = am_hand M ∧ parseMethodDescriptor (am_name M).desc = some meth.sig := by
  unfold am_cw at h
  split at h
  · rename_i hh
    obtain ⟨meth, c, h1, h2, h3, h4, h5, h6, h7, h8⟩ := Cond.code_spec hn h
    refine ⟨meth, c, h1, h2, h3, h4, h5, h6, ?_, h8⟩
    rw [hh]
    have : c.exceptionTable = #[] := by simpa using h7
    rw [this]
    rfl
  · rename_i q r hh
    obtain ⟨m', meth, c, h0, h1, h2, h3, h4, h5, h6, h7, h8⟩ := Cond.codeWith_spec h
    cases hn.symm.trans h0
    exact ⟨meth, c, h1, h2, h3, h4, h6, h7, by rw [hh]; exact h5, h8⟩
def am_rm (M : am_M) (σ σ' : am_S) : Room := { frames := am_fr M, cells := σ'.1 - σ.1, slots := σ'.2.1 - σ.2.1, locals := am_lc M }
/-- from these arguments and this heap the method comes to this end, with this heap -/
def am_Mt (g : am_G) (M : am_M) (as : List Value) (σ : am_S) (res : Outcome) (σ' : am_S) : Prop :=
  ∀ l : Launch, l.flags = flags0 → am_K g → MetFree l (am_name M) (headSpec [am_cw M] (am_rm M σ σ')) (fun a U => a = (as.map (am_up g)).toArray ∧ g.1.WarmedH U.vm ∧ am_R g σ U.heap) (fun _ _ _ _ _ => True)
    (fun _ s o t => o = am_upO g res ∧ am_R g σ' t.heap ∧ s.WarmedH t.vm ∧ ∃ L : List Loc, s.sameButNew ({ t with vm := s.vm } : State) L (σ'.1 - σ.1) (σ'.2.1 - σ.2.1) ∧ ∀ q ∈ L, g.1.heap.size ≤ q.base)
def am_Met (g : am_G) (M : am_M) (as : List Value) (σ : am_S) (X : Option (Outcome × am_S)) : Prop :=
  ∀ (res : Outcome) (σ' : am_S), X = some (res, σ') → σ.1 ≤ σ'.1 ∧ σ.2.1 ≤ σ'.2.1 ∧ am_Mt g M as σ res σ'
theorem am_L_entry {g : am_G} {nL : Nat} {as : List Value} (h : ∀ v ∈ as, v.category = 1) (hn : as.length ≤ nL) :
    am_L g nL (as.map some ++ List.replicate (nL - as.length) none) (((as.map (am_up g)).map Slot.val ++ List.replicate (nL - (as.map (am_up g)).length) Slot.unset).toArray) := by
  have key : ∀ (i : Nat) (z : Slot), (((as.map (am_up g)).map Slot.val ++ List.replicate (nL - (as.map (am_up g)).length) Slot.unset).toArray)[i]? = some z → z = .unset ∨ ∃ v, v ∈ as ∧ z = .val (am_up g v) := by
    intro i z hz
    have hz' : ((as.map (am_up g)).map Slot.val ++ List.replicate (nL - (as.map (am_up g)).length) Slot.unset)[i]? = some z := by simpa using hz
    have hm := List.mem_of_getElem? hz'
    rcases List.mem_append.mp hm with h1 | h1
    · obtain ⟨w, hw, rfl⟩ := List.mem_map.mp h1
      obtain ⟨v, hv, rfl⟩ := List.mem_map.mp hw
      exact Or.inr ⟨v, hv, rfl⟩
    · exact Or.inl (List.eq_of_mem_replicate h1)
  refine ⟨by simp; omega, ⟨fun i v hv hc => ?_, fun i hi => ?_⟩, fun i v hv => ?_⟩
  · rcases key i _ hv with h1 | ⟨w, hw, h1⟩
    · cases h1
    · cases h1
      rw [am_cat, h w hw] at hc
      cases hc
  · rcases key i _ hi with h1 | ⟨w, hw, h1⟩ <;> cases h1
  · have hl : i < as.length := by
      by_cases hl : i < as.length
      · exact hl
      · rw [List.getElem?_append_right (by simpa using hl)] at hv
        rw [List.getElem?_replicate] at hv
        split at hv <;> cases hv
    rw [List.getElem?_append_left (by simpa using hl), List.getElem?_map] at hv
    obtain ⟨w, hw, he⟩ := Option.map_eq_some_iff.mp hv
    cases he
    refine ⟨h v (List.mem_of_getElem? hw), ?_⟩
    have hv2 := (List.getElem?_eq_some_iff.mp hw).2
    simp [List.getElem?_append_left, hl, hv2]
theorem am_Met.of {g : am_G} {M : am_M} {σ : am_S} {β : Type} {E : Option β} {k : β → Option (Outcome × am_S)} {as : List Value} {lv : List (Option Value)} (hcat : ∀ v ∈ as, v.category = 1) (hlen : as.length ≤ am_maxL M) (hlv : as.map some ++ List.replicate (am_maxL M - as.length) none = lv) (hy : plainName (am_name M).cls = true)
    (h : am_W g M σ 0 lv [] σ E k) : am_Met g M as σ (E.bind k) := by
  intro res σ' hE
  obtain ⟨h1, h2, hj⟩ := h res σ' hE
  refine ⟨h1, h2, fun l hfl hK => ?_⟩
  refine MetFree.of_bodyS (code := am_code M) (maxLocals := am_maxL M) (ret := am_ret M) hy ?_ ?_
  · intro args s m hp hn
    obtain ⟨meth, c, q1, q2, q3, q4, q5, q6, -, -⟩ := am_cw_spec hn (atoms_spec (ws := [am_cw M]) hp _ List.mem_cons_self)
    exact ⟨meth, c, q1, q2, q3, q4, q5, q6⟩
  · intro p e s m args below meth c s₁ B hml hP _
    obtain ⟨hargs, hW, hR⟩ := hP
    have hh0 : s₁.heap = s.heap := by rw [B.state]; rfl
    obtain ⟨meth', c', q1, q2, q3, q4, q5, q6, q7, q8⟩ := am_cw_spec B.named (atoms_spec (ws := [am_cw M]) B.pre _ List.mem_cons_self)
    cases B.method.symm.trans q1
    cases (Stand.of_body B).code.symm.trans q2
    have C : am_Cx g M p l e (am_rm M σ σ') s m meth c := ⟨B.exec, B.bytes, hml, findClass_of_methodNamed B.named, B.returns, B.notSynchronized, (name_of_methodNamed B.named B.method).1, q7, Nat.le_refl _, Nat.le_refl _, ⟨hfl, hR.2.2.2⟩, hW, hK⟩
    have hL := am_L_entry (g := g) (nL := am_maxL M) hcat hlen
    rw [hlv] at hL
    have w := hj p l e (am_rm M σ σ') s m args below meth c s.heap [] _ C (Nat.le_refl _) (Nat.le_refl _) (Nat.le_refl _) (Nat.le_refl _) hR hL (fun q hq => by cases hq)
    rw [Nat.sub_self, Nat.sub_self] at w
    obtain ⟨t, a1, b1, b2, b3, b4, b5⟩ := w s₁ hh0 (Stand.of_body B)
    refine ⟨t, _, ?_, b1, b2, rfl, b3, b4, b5⟩
    rw [hargs, entry_eq m (as.map (am_up g)) (fun v hv => ?_) (am_maxL M)]
    · exact a1
    · obtain ⟨w', hw', rfl⟩ := List.mem_map.mp hv
      rw [am_cat]
      exact hcat w' hw'
section RT
variable {g : am_G} {M : am_M} {σ0 σ : am_S} {pc : Nat} {lv : List (Option Value)}
abbrev am_kI (x : Int32 × am_S) : Option (Outcome × am_S) := some (.returned (some (.int x.1)), x.2)
abbrev am_kA (x : Nat × am_S) : Option (Outcome × am_S) := some (.returned (some (.ref x.1)), x.2)
abbrev am_kV (σ : am_S) : Option (Outcome × am_S) := some (.returned none, σ)
theorem am_weak {p : Program} {l : Launch} {e : Env} {R : Room} {s : State} {m : MethodId} {args : Array Value} {below : List Frame} {meth : Method} {c : Code} {H : Heap} {locs : List Loc} {cells slots : Nat} {Q Q' : State → Prop} {gf : JFrame}
    (h : W p l e R s m args below meth c H locs cells slots Q gf) (hq : ∀ t, Q t → Q' t) : W p l e R s m args below meth c H locs cells slots Q' gf := by
  intro T hT X
  obtain ⟨t, a, b⟩ := h T hT X
  exact ⟨t, a, hq t b⟩
def am_QR (g : am_G) (σ : am_S) (res : Outcome) : Array Value → State → Outcome → State → Prop := fun _ _ o t => o = am_upO g res ∧ am_R g σ t.heap
theorem am_endR {below : List Frame} {args : Array Value} {s t : State} {res : Outcome} (h : MQ below (am_QR g σ res) args s (σ.1 - σ0.1) (σ.2.1 - σ0.2.1) (fun q => g.1.heap.size ≤ q) t) : am_End g below s σ0 σ res t := by
  obtain ⟨o, h1, h2, ⟨rfl, h3⟩, L, ⟨h4, h5, h6⟩, h7⟩ := h
  exact ⟨h1, h2, h3, h5, L, h6, h7⟩
theorem aw_iret {v : Int32} (hd : decode (am_code M) pc = .ok (.ireturn, 1) := by decide +kernel) (hr : am_ret M = some .int := by rfl) : am_W g M σ0 pc lv [.int v] σ (some (v, σ)) am_kI := by
  intro res σ' hE
  cases hE
  refine ⟨Nat.le_refl _, Nat.le_refl _, fun p l e R s m args below meth c H locs ls C hc hs h1 h2 hR hL hl => ?_⟩
  refine am_weak (W.iret (Qc := am_QR g σ (.returned (some (.int v)))) (free := fun q => g.1.heap.size ≤ q) C.1 C.2.1 (by rw [C.2.2.2.2.1]; exact hr) (fun t ht _ => ⟨rfl, by rw [ht]; exact hR⟩) hl hd C.2.2.2.2.2.1) fun t h => am_endR h
def am_z (v : Int32) (σ : am_S) : Option (Int32 × am_S) := if v = 0 ∨ v = 1 then some (v, σ) else none
theorem aw_zret {v : Int32} (hd : decode (am_code M) pc = .ok (.ireturn, 1) := by decide +kernel) (hr : am_ret M = some .boolean := by rfl) : am_W g M σ0 pc lv [.int v] σ (am_z v σ) am_kI := by
  intro res σ' hE
  unfold am_z at hE
  split at hE
  · rename_i hv
    cases hE
    refine ⟨Nat.le_refl _, Nat.le_refl _, fun p l e R s m args below meth c H locs ls C hc hs h1 h2 hR hL hl => ?_⟩
    refine am_weak (W.zret (ty := .boolean) (Qc := am_QR g σ (.returned (some (.int v)))) (free := fun q => g.1.heap.size ≤ q) C.1 C.2.1 (by rw [C.2.2.2.2.1]; exact hr) (by rcases hv with rfl | rfl <;> rfl) (fun t ht _ => ⟨rfl, by rw [ht]; exact hR⟩) hl hd C.2.2.2.2.2.1) fun t h => am_endR h
  · cases hE
theorem aw_vret (hd : decode (am_code M) pc = .ok (.return_, 1) := by decide +kernel) (hr : am_ret M = none := by rfl) : am_W g M σ0 pc lv [] σ (some σ) am_kV := by
  intro res σ' hE
  cases hE
  refine ⟨Nat.le_refl _, Nat.le_refl _, fun p l e R s m args below meth c H locs ls C hc hs h1 h2 hR hL hl => ?_⟩
  refine am_weak (W.vret (Qc := am_QR g σ (.returned none)) (free := fun q => g.1.heap.size ≤ q) C.1 C.2.1 (by rw [C.2.2.2.2.1]; exact hr) (fun t ht _ => ⟨rfl, by rw [ht]; exact hR⟩) hl hd C.2.2.2.2.2.1) fun t h => am_endR h
theorem aw_aret {v : Nat} {t : FieldType} (hd : decode (am_code M) pc = .ok (.areturn, 1) := by decide +kernel) (hr : am_ret M = some t := by rfl) (ht : am_isR t = true := by rfl) : am_W g M σ0 pc lv [.ref v] σ (some (v, σ)) am_kA := by
  intro res σ' hE
  cases hE
  refine ⟨Nat.le_refl _, Nat.le_refl _, fun p l e R s m args below meth c H locs ls C hc hs h1 h2 hR hL hl => ?_⟩
  refine am_weak (W.aret (v := .ref (am_r g v)) (rt := t) (Qc := am_QR g σ (.returned (some (.ref v)))) (free := fun q => g.1.heap.size ≤ q) C.1 C.2.1 (by rw [C.2.2.2.2.1]; exact hr) ?_ (Or.inr ⟨_, rfl⟩) (fun t ht _ => ⟨rfl, by rw [ht]; exact hR⟩) hl hd C.2.2.2.2.2.1) fun t h => am_endR h
  cases t <;> first | (cases ht; done) | exact Or.inl ⟨_, rfl⟩ | exact Or.inr ⟨_, rfl⟩
end RT
end
section
section BK
variable {g : am_G} {p : Program} {l : Launch} {e : Env} {R : Room} {s : State} {m : MethodId} {args : Array Value} {below : List Frame} {meth : Method} {c : Code} {T : State} {locs : List Loc} {cells slots : Nat}
/-- a call, from behind its resolution to its return or to the exception's note over the caller's frame -/
def am_bk (p : Program) (e : Env) (below : List Frame) (T T' : State) (gf : JFrame) (mk : MethodId) (a : Array Value) (len : Nat) : Outcome → Prop
  | .returned v => Steps p.tables e below (doInvoke e (T.setTop gf) [] mk a).1 (T'.setTop { gf with pc := gf.pc + len, stack := v.toList ++ gf.stack })
  | .threw x => Steps p.tables e below (doInvoke e (T.setTop gf) [] mk a).1 ((T'.setTop gf).pushFrame (.throwing x))
theorem am_back (X : Stand p l e R s m args below meth c T locs cells slots) (hfl : l.flags = flags0) (hK : am_K g) (hW : g.1.WarmedH T.vm) {M : am_M} {as : List Value} {σ σ' : am_S} {res : Outcome} (hm : am_Mt g M as σ res σ') (hR : am_R g σ T.heap)
    (hcw : ∀ a', (am_cw M).before a' T = true) (hini : ∀ a', (Cond.initialized (am_name M).cls).before a' T = true) {mk : MethodId} (hn : T.methodNamed? (am_name M) = some mk) {gf : JFrame} (hg : gf.method = m) (hsize : gf.locals.size = c.maxLocals) {ig : Instr} {len : Nat} (hdg : decode c.code gf.pc = .ok (ig, len))
    (hWt : 2 * gf.monitorRoom + (gf.stack.map fun v => v.category).sum ≤ 8) (hfr : am_fr M + 1 ≤ R.frames) (hlo : 8 + (am_maxL M + 11) + am_lc M ≤ R.locals) (hce : cells + (σ'.1 - σ.1) ≤ R.cells) (hsl : slots + (σ'.2.1 - σ.2.1) ≤ R.slots) :
    ∃ (T' : State) (L : List Loc), Stand p l e R s m args below meth c T' (locs ++ L) (cells + (σ'.1 - σ.1)) (slots + (σ'.2.1 - σ.2.1)) ∧ am_R g σ' T'.heap ∧ (∀ q ∈ L, g.1.heap.size ≤ q.base) ∧ am_bk p e below T T' gf mk (as.map (am_up g)).toArray len (am_upO g res) := by
  obtain ⟨methY, cY, hmY, hcY, -, hlY, -, -, -, -⟩ := am_cw_spec hn (hcw #[])
  obtain ⟨kY, hkY, -⟩ := className_of_methodNamed hn
  have hinitY : kY.init = .initialized := Cond.initialized_spec (findClass_of_methodNamed hn) hkY (hini #[])
  have h : At T gf.method c below := by rw [hg]; exact X.here
  have happ : (headSpec [am_cw M] (am_rm M σ σ')).appliesLoose (am_name M) e.platform (T.calling gf mk (as.map (am_up g)).toArray) = true :=
    Spec.appliesLoose_calling (g := gf) h hdg hn hkY hinitY (X.room_calling (g := gf) (R' := am_rm M σ σ') hsize hmY hcY hfr (by rw [hlY]; show _ ≤ _; have : (am_rm M σ σ').locals = am_lc M := rfl; omega) hce hsl)
      (atoms_intro fun w hw => by rw [List.mem_singleton.mp hw]; exact hcw _)
  obtain ⟨mid, hmid⟩ := h.above
  have hfr' : (T.setTop gf).frames = (.java gf :: mid) ++ below := by rw [State.frames_setTop' gf h.top, hmid]; rfl
  obtain ⟨o, s₂, hsteps, -, hend, hq⟩ := Steps.callFree (hm l hfl hK) p X.admits X.cas X.clock (acts := []) hfr' happ ⟨rfl, hW, hR⟩ trivial
  obtain ⟨ho, hR', hW₂, L, hsame₂, hL⟩ := hq
  rw [State.frames_setTop' gf h.top] at hend
  obtain ⟨e2, q2, q3, q4, q5, q6⟩ := hsame₂
  have e3 : s₂ = ({ (T.calling gf mk (as.map (am_up g)).toArray).setFrames s₂.frames with heap := s₂.heap, slotsUsed := s₂.slotsUsed } : State).setVm s₂.vm := by
    have : s₂ = ({ s₂ with vm := (T.calling gf mk (as.map (am_up g)).toArray).vm } : State).setVm s₂.vm := rfl
    have e2' : ({ s₂ with vm := (T.calling gf mk (as.map (am_up g)).toArray).vm } : State) = { (T.calling gf mk (as.map (am_up g)).toArray).setFrames s₂.frames with heap := s₂.heap, slotsUsed := s₂.slotsUsed } := e2
    rw [e2'] at this
    exact this
  have hW' : T.WarmedH s₂.vm := hW₂
  obtain ⟨g₀, hg0⟩ := Option.isSome_iff_exists.mp h.top
  obtain ⟨r, hr⟩ := State.topJava?_eq_some.mp hg0
  have hr' : (({ T with heap := s₂.heap, slotsUsed := s₂.slotsUsed } : State).setVm s₂.vm).frames = .java g₀ :: r := hr
  have hsame : T.sameButNew ({ T with heap := s₂.heap, slotsUsed := s₂.slotsUsed } : State) L (σ'.1 - σ.1) (σ'.2.1 - σ.2.1) := by
    refine ⟨?_, q2, q3, q4, q5, q6⟩
    obtain ⟨t, ht, -⟩ := State.frames_cons hr
    show ({ T with heap := s₂.heap, slotsUsed := s₂.slotsUsed } : State) = { T.setFrames T.frames with heap := s₂.heap, slotsUsed := s₂.slotsUsed }
    rw [State.setFrames_self ht]
  subst hg
  refine ⟨(({ T with heap := s₂.heap, slotsUsed := s₂.slotsUsed } : State).setVm s₂.vm), L,
    ⟨X.admits, X.cas, X.clock, X.frames, X.room, X.hears, X.method, X.code, (X.here.setHeapUsed s₂.heap s₂.slotsUsed).setVm hW'.alike, X.tail, State.WarmedH.trans X.warmed hW', X.limits, X.bytes, X.same.trans (hsame.setVm s.vm)⟩, hR', hL, ?_⟩
  rw [← ho]
  cases o with
  | returned v =>
    obtain ⟨c₂, i₂, len₂, hc₂, hd₂, hf₂⟩ := hend
    have hcc : c₂ = c := by
      have h1 : s₂.code? gf.method = T.code? gf.method := by
        rw [State.code?_eq, State.code?_eq, hW'.alike.method?]
      exact Option.some.inj (hc₂.symm.trans (h1.trans h.code))
    subst hcc
    have hlen : len₂ = len := by rw [hdg] at hd₂; cases hd₂; rfl
    subst hlen
    have hs₂ : s₂ = (({ T with heap := s₂.heap, slotsUsed := s₂.slotsUsed } : State).setVm s₂.vm).setTop { gf with pc := gf.pc + len₂, stack := v.toList ++ gf.stack } := by
      refine e3.trans ?_
      rw [hf₂, State.calling_eq h.top, State.setFrames_setFrames, State.setTop_of_frames _ hr', hr]
      rfl
    show Steps p.tables e below _ ((({ T with heap := s₂.heap, slotsUsed := s₂.slotsUsed } : State).setVm s₂.vm).setTop { gf with pc := gf.pc + len₂, stack := v.toList ++ gf.stack })
    rw [← hs₂]
    exact hsteps
  | threw x =>
    have hf₂ : s₂.frames = .throwing x :: .java gf :: T.frames.tail := hend
    have hs₂ : s₂ = ((({ T with heap := s₂.heap, slotsUsed := s₂.slotsUsed } : State).setVm s₂.vm).setTop gf).pushFrame (.throwing x) := by
      refine e3.trans ?_
      rw [hf₂, State.calling_eq h.top, State.setFrames_setFrames, State.pushFrame, State.frames_setTop _ hr', State.setTop_of_frames _ hr', State.setFrames_setFrames, hr]
      rfl
    show Steps p.tables e below _ (((({ T with heap := s₂.heap, slotsUsed := s₂.slotsUsed } : State).setVm s₂.vm).setTop gf).pushFrame (.throwing x))
    rw [← hs₂]
    exact hsteps
end BK
end
section
/-! ===== the invoking instructions, up to the invocation itself ===== -/
def am_go (g : am_G) (M M' : am_M) (σ : am_S) (pc : Nat) (as st : List Value) : Prop :=
  ∀ {p : Program} {l : Launch} {e : Env} {R : Room} {s : State} {m : MethodId} {args : Array Value} {below : List Frame} {meth : Method} {c : Code} {T : State} {locs : List Loc} {cells slots : Nat} {ls : Array Slot},
    am_Cx g M p l e R s m meth c → Stand p l e R s m args below meth c T locs cells slots → am_R g σ T.heap →
    ∃ (vm₁ : Vm) (mk : MethodId) (ig : Instr), s.WarmedH vm₁ ∧ Stand p l e R s m args below meth c (T.setVm vm₁) locs cells slots ∧ (T.setVm vm₁).methodNamed? (am_name M') = some mk ∧ decode c.code pc = .ok (ig, 3) ∧
      ∀ target, Steps p.tables e below (doInvoke e ((T.setVm vm₁).setTop (F0 m pc ls (st.map (am_up g)))) [] mk (as.map (am_up g)).toArray).1 target → Steps p.tables e below (T.setTop (F0 m pc ls ((as.reverse ++ st).map (am_up g)))) target
/-- the words on the callee that every call needs -/
def am_cal (M' : am_M) (n : Nat) : Prop := am_cw M' ∈ lw_tbl ∧ Cond.initialized (am_name M').cls ∈ lw_tbl ∧ ((am_name M').cls ≠ "java/lang/invoke/MethodHandle" ∧ (am_name M').cls ≠ "java/lang/invoke/VarHandle") ∧ (parseMethodDescriptor (am_name M').desc).map (fun d => d.parameters.length) = some n
theorem am_cal.len {M' : am_M} {n : Nat} (h : am_cal M' n) : ∀ sig, parseMethodDescriptor (am_name M').desc = some sig → n = sig.parameters.length := fun sig hs => by
  have h2 := h.2.2.2
  rw [hs] at h2
  exact (Option.some.inj h2).symm
section GO
variable {g : am_G} {M M' : am_M} {σ : am_S} {pc : Nat} {As st : List Value}
theorem am_goV (idx c0 : Nat) {a : Nat} {fs : List Value} (hd : decode (am_code M) pc = .ok (.invokevirtual idx, 3)) (hw : Cond.methodLink (am_name M).cls idx (am_name M') ∈ lw_tbl) (hc : am_cal M' As.length) (hi : Cond.instanceMethod (am_name M') ∈ lw_tbl) (hs : Cond.selects (am_cn c0) (am_name M') (am_name M') ∈ lw_tbl) (hc0 : c0 < am_NC)
    (ha : σ.2.2 a = some (.inr (c0, fs))) : am_go g M M' σ pc (.ref a :: As) st := by
  intro p l e R s m args below meth c T locs cells slots ls C X hR
  obtain ⟨c1, c2, c3, c4, c5, c6, c7, c8, c9, c10, c11, hW, hK⟩ := C
  obtain ⟨cell, q1, q2, q3, q4⟩ := hR.1 a _ ha
  have hcl := (am_class hK hW hc0).1
  obtain ⟨mk, methM, hnamed, hmethM, hstM, habM⟩ := Cond.instanceMethod_spec (am_word (args := args) hK hW hi rfl)
  obtain ⟨methM', cM, hmethM', -, -, -, -, -, -, hsigM⟩ := am_cw_spec hnamed (am_word (args := args) hK hW hc.1 (am_cw_good M'))
  cases hmethM.symm.trans hmethM'
  obtain ⟨c2', r2, m2, p1, p2, p3, p4, kP, hkP, hkPi⟩ := Cond.selects_spec (am_word (args := args) hK hW hs rfl)
  have hcls : s.vm.findClass (am_cn c0) = some cell.cls := by rw [q2]; exact hcl
  cases hcls.symm.trans p1
  cases (State.methodFound?_of_named hnamed hc.2.2.1).symm.trans p2
  cases hnamed.symm.trans p3
  have hselP : selectMethod e.platform s.vm cell.cls mk = .method mk := by rw [Launch.admits_selectMethod X.admits]; exact p4
  have hlen : (As.map (am_up g)).length = methM.sig.parameters.length := by rw [List.length_map]; exact hc.len _ hsigM
  obtain ⟨vm₁, X₁, hstep₁⟩ := X.invokevirtual c1 c4 (am_word hK hW hw rfl) hnamed hmethM hstM hkP hkPi hc.2.2.1 (a := am_r g a) (cell := cell) q1
    (fun z h => by rw [q3] at h; cases h) hselP hmethM habM hkP hkPi (g := F0 m pc ls (((Value.ref a :: As).reverse ++ st).map (am_up g))) rfl (argsL := As.map (am_up g)) (rest := st.map (am_up g)) hlen (by simp [am_up]) (by rw [c2]; exact hd)
  refine ⟨vm₁, mk, _, X₁.warmed, X₁, X₁.named hnamed, by rw [c2]; exact hd, fun target h => hstep₁ _ fun acts => ?_⟩
  rw [doInvoke_state]
  exact h
theorem am_goS (idx : Nat) (hd : decode (am_code M) pc = .ok (.invokestatic idx, 3)) (hw : Cond.methodLink (am_name M).cls idx (am_name M') ∈ lw_tbl) (hc : am_cal M' As.length) (hst : Cond.static (am_name M') ∈ lw_tbl) : am_go g M M' σ pc As st := by
  intro p l e R s m args below meth c T locs cells slots ls C X hR
  obtain ⟨c1, c2, c3, c4, c5, c6, c7, c8, c9, c10, c11, hW, hK⟩ := C
  have hcw := am_word (args := args) hK hW hc.1 (am_cw_good M')
  obtain ⟨mk, hnamed⟩ : ∃ mk, s.methodNamed? (am_name M') = some mk := by
    unfold am_cw at hcw
    split at hcw
    · exact Cond.code_named hcw
    · obtain ⟨mk, _, _, h0, -⟩ := Cond.codeWith_spec hcw
      exact ⟨mk, h0⟩
  obtain ⟨methM, cM, hmethM, -, -, -, -, -, -, hsigM⟩ := am_cw_spec hnamed hcw
  have hstatic : methM.isStatic = true := Cond.static_spec hnamed hmethM (am_word (args := args) hK hW hst rfl)
  obtain ⟨kP, hkP, -⟩ := className_of_methodNamed hnamed
  have hinitP : kP.init = .initialized := Cond.initialized_spec (findClass_of_methodNamed hnamed) hkP (am_word (args := args) hK hW hc.2.1 rfl)
  have hlen : (As.map (am_up g)).length = methM.sig.parameters.length := by rw [List.length_map]; exact hc.len _ hsigM
  obtain ⟨vm₁, X₁, hstep₁⟩ := X.invokestatic c1 c4 (am_word hK hW hw rfl) hnamed hmethM hstatic hkP hinitP hc.2.2.1 (g := F0 m pc ls ((As.reverse ++ st).map (am_up g))) rfl (argsL := As.map (am_up g)) (rest := st.map (am_up g)) hlen (by simp) (by rw [c2]; exact hd)
  refine ⟨vm₁, mk, _, X₁.warmed, X₁, X₁.named hnamed, by rw [c2]; exact hd, fun target h => hstep₁ _ fun acts => ?_⟩
  rw [doInvoke_state]
  exact h
theorem am_goI (idx : Nat) {a : Nat} (hd : decode (am_code M) pc = .ok (.invokespecial idx, 3)) (hw : Cond.methodLink (am_name M).cls idx (am_name M') ∈ lw_tbl) (hc : am_cal M' As.length) (hi : Cond.instanceMethod (am_name M') ∈ lw_tbl) (hy1 : (am_name M').name = "<init>") (hh : am_hand M' = []) (hret : am_ret M' = none) : am_go g M M' σ pc (.ref a :: As) st := by
  intro p l e R s m args below meth c T locs cells slots ls C X hR
  obtain ⟨c1, c2, c3, c4, c5, c6, c7, c8, c9, c10, c11, hW, hK⟩ := C
  have hpl : e.platform.magicAccessors = ({} : Platform).magicAccessors := by rw [X.admits.platform]
  have hcw := am_word (args := args) hK hW hc.1 (am_cw_good M')
  have hcw' : (Cond.code (am_name M') (am_code M') (am_maxL M') none).before args s = true := by
    unfold am_cw at hcw
    rw [hh] at hcw
    rw [← hret]
    exact hcw
  obtain ⟨mk, methM, cM, kP, vm₁, hnamed, hmethM, hcodeM, -, hlocalsM, -, hkP, -, hW₁, hstep₁⟩ := Steps.initColdArgs (e := e) X.here c1 X.warmed hpl c4 hy1 hc.2.2.1 (am_word hK hW hw rfl) (am_word hK hW hi rfl) hcw' (f := F0 m pc ls (((Value.ref a :: As).reverse ++ st).map (am_up g))) rfl
    (argsL := As.map (am_up g)) (rest := st.map (am_up g)) (a := am_r g a) (fun sig h => by rw [List.length_map]; exact hc.len sig h) (by simp [am_up]) (by rw [c2]; exact hd)
  have X₁ := X.noted hW₁
  refine ⟨vm₁, mk, _, X₁.warmed, X₁, X₁.named hnamed, by rw [c2]; exact hd, fun target h => hstep₁ _ fun acts => ?_⟩
  rw [doInvoke_state]
  exact h
theorem am_goIN (idx : Nat) (host : String) {a : Nat} (hd : decode (am_code M) pc = .ok (.invokespecial idx, 3)) (hw : Cond.methodLinkNest (am_name M).cls idx (am_name M') host ∈ lw_tbl) (hc : am_cal M' As.length) (hi : Cond.instanceMethod (am_name M') ∈ lw_tbl) (hy1 : (am_name M').name = "<init>") (hh : am_hand M' = []) (hret : am_ret M' = none) : am_go g M M' σ pc (.ref a :: As) st := by
  intro p l e R s m args below meth c T locs cells slots ls C X hR
  obtain ⟨c1, c2, c3, c4, c5, c6, c7, c8, c9, c10, c11, hW, hK⟩ := C
  have hpl : e.platform.magicAccessors = ({} : Platform).magicAccessors := by rw [X.admits.platform]
  have hcw := am_word (args := args) hK hW hc.1 (am_cw_good M')
  have hcw' : (Cond.code (am_name M') (am_code M') (am_maxL M') none).before args s = true := by
    unfold am_cw at hcw
    rw [hh] at hcw
    rw [← hret]
    exact hcw
  obtain ⟨mk, methM, cM, kP, vm₁, hnamed, hmethM, hcodeM, -, hlocalsM, -, hkP, -, hW₁, hstep₁⟩ := Steps.initColdArgsNest (e := e) X.here c1 X.warmed hpl c4 hy1 hc.2.2.1 (am_wordM hK hW hw) (am_word hK hW hi rfl) hcw' (f := F0 m pc ls (((Value.ref a :: As).reverse ++ st).map (am_up g))) rfl
    (argsL := As.map (am_up g)) (rest := st.map (am_up g)) (a := am_r g a) (fun sig h => by rw [List.length_map]; exact hc.len sig h) (by simp [am_up]) (by rw [c2]; exact hd)
  have X₁ := X.noted hW₁
  refine ⟨vm₁, mk, _, X₁.warmed, X₁, X₁.named hnamed, by rw [c2]; exact hd, fun target h => hstep₁ _ fun acts => ?_⟩
  rw [doInvoke_state]
  exact h
end GO
end
section
/-! ===== calls that return, calls that throw ===== -/
/-- the exception at a is on its way, over the frame at pc -/
def am_JT (g : am_G) (M : am_M) (σ0 σ' : am_S) (res : Outcome) (pc : Nat) (lv : List (Option Value)) (st : List Value) (σ : am_S) (a : Nat) : Prop :=
  ∀ (p : Program) (l : Launch) (e : Env) (R : Room) (s : State) (m : MethodId) (args : Array Value) (below : List Frame) (meth : Method) (c : Code) (H : Heap) (locs : List Loc) (ls : Array Slot),
    am_Cx g M p l e R s m meth c → σ'.1 - σ0.1 ≤ R.cells → σ'.2.1 - σ0.2.1 ≤ R.slots → σ0.1 ≤ σ.1 → σ0.2.1 ≤ σ.2.1 → am_R g σ H → am_L g (am_maxL M) lv ls → (∀ q ∈ locs, g.1.heap.size ≤ q.base) →
    ∀ T : State, T.heap = H → Stand p l e R s m args below meth c T locs (σ.1 - σ0.1) (σ.2.1 - σ0.2.1) → ∃ t, Steps p.tables e below ((T.setTop (F0 m pc ls (st.map (am_up g)))).pushFrame (.throwing (am_r g a))) t ∧ am_End g below s σ0 σ' res t
def am_T (g : am_G) (M : am_M) (σ0 : am_S) (pc : Nat) (lv : List (Option Value)) (st : List Value) (σ : am_S) (a : Nat) {β : Type} (E : Option β) (k : β → Option (Outcome × am_S)) : Prop :=
  ∀ (res : Outcome) (σ' : am_S), E.bind k = some (res, σ') → σ.1 ≤ σ'.1 ∧ σ.2.1 ≤ σ'.2.1 ∧ am_JT g M σ0 σ' res pc lv st σ a
section CL
variable {g : am_G} {M M' : am_M} {σ0 σ σ1 : am_S} {pc : Nat} {lv : List (Option Value)} {as st : List Value} {β : Type} {E : Option β} {k : β → Option (Outcome × am_S)}
/-- room for the callee's frames -/
def am_fit (M M' : am_M) : Prop := am_fr M' + 1 ≤ am_fr M ∧ 8 + (am_maxL M' + 11) + am_lc M' ≤ am_lc M
theorem am_W.ret1 {n : Nat} {v : Option Value} (hgo : am_go g M M' σ pc as st) (hcal : am_cal M' n) (hfit : am_fit M M') (hr : ((st.map (am_up g)).map fun v => v.category).sum ≤ 8) (hm1 : σ.1 ≤ σ1.1) (hm2 : σ.2.1 ≤ σ1.2.1) (hmt : am_Mt g M' as σ (.returned v) σ1)
    (kk : am_W g M σ0 (pc + 3) lv (v.toList ++ st) σ1 E k) : am_W g M σ0 pc lv (as.reverse ++ st) σ E k := by
  intro res σ' hE
  obtain ⟨a1, b1, j⟩ := kk res σ' hE
  refine ⟨by omega, by omega, fun p l e R s m args below meth c H locs ls C hc hs h1 h2 hR hL hl => ?_⟩
  intro T hT X
  have hR' : am_R g σ T.heap := by rw [hT]; exact hR
  obtain ⟨vm₁, mk, ig, hW₁, X₁, hn, hdg, hstep⟩ := hgo (ls := ls) C X hR'
  have C' := C
  obtain ⟨c1, c2, c3, c4, c5, c6, c7, c8, c9, c10, c11, hW, hK⟩ := C
  have hWT : g.1.WarmedH (T.setVm vm₁).vm := State.WarmedH.trans hW hW₁
  obtain ⟨f1, f2⟩ := hfit
  obtain ⟨T', L, X', hR1, hL1, hbk⟩ := am_back X₁ c11.1 hK hWT hmt hR' (fun a' => am_word hK hWT hcal.1 (am_cw_good M')) (fun a' => am_word hK hWT hcal.2.1 rfl) hn (gf := F0 m pc ls (st.map (am_up g))) rfl (by rw [c3]; exact hL.size) hdg
    (by show 2 * 0 + ((st.map (am_up g)).map fun v => v.category).sum ≤ 8; omega) (by omega) (by omega) (by omega) (by omega)
  have w := j p l e R s m args below meth c T'.heap (locs ++ L) ls C' hc hs (by omega) (by omega) hR1 hL (fun q hq => (List.mem_append.mp hq).elim (hl q) (hL1 q))
  obtain ⟨t, t1, t2⟩ := W.cs (cells := σ.1 - σ0.1 + (σ1.1 - σ.1)) (slots := σ.2.1 - σ0.2.1 + (σ1.2.1 - σ.2.1)) (by omega) (by omega) w T' rfl X'
  refine ⟨t, hstep t (Steps.trans hbk ?_), t2⟩
  cases v <;> exact t1
theorem am_W.thr1 {n x : Nat} (hgo : am_go g M M' σ pc as st) (hcal : am_cal M' n) (hfit : am_fit M M') (hr : ((st.map (am_up g)).map fun v => v.category).sum ≤ 8) (hm1 : σ.1 ≤ σ1.1) (hm2 : σ.2.1 ≤ σ1.2.1) (hmt : am_Mt g M' as σ (.threw x) σ1)
    (kk : am_T g M σ0 pc lv st σ1 x E k) : am_W g M σ0 pc lv (as.reverse ++ st) σ E k := by
  intro res σ' hE
  obtain ⟨a1, b1, j⟩ := kk res σ' hE
  refine ⟨by omega, by omega, fun p l e R s m args below meth c H locs ls C hc hs h1 h2 hR hL hl => ?_⟩
  intro T hT X
  have hR' : am_R g σ T.heap := by rw [hT]; exact hR
  obtain ⟨vm₁, mk, ig, hW₁, X₁, hn, hdg, hstep⟩ := hgo (ls := ls) C X hR'
  have C' := C
  obtain ⟨c1, c2, c3, c4, c5, c6, c7, c8, c9, c10, c11, hW, hK⟩ := C
  have hWT : g.1.WarmedH (T.setVm vm₁).vm := State.WarmedH.trans hW hW₁
  obtain ⟨f1, f2⟩ := hfit
  obtain ⟨T', L, X', hR1, hL1, hbk⟩ := am_back X₁ c11.1 hK hWT hmt hR' (fun a' => am_word hK hWT hcal.1 (am_cw_good M')) (fun a' => am_word hK hWT hcal.2.1 rfl) hn (gf := F0 m pc ls (st.map (am_up g))) rfl (by rw [c3]; exact hL.size) hdg
    (by show 2 * 0 + ((st.map (am_up g)).map fun v => v.category).sum ≤ 8; omega) (by omega) (by omega) (by omega) (by omega)
  have X2 : Stand p l e R s m args below meth c T' (locs ++ L) (σ1.1 - σ0.1) (σ1.2.1 - σ0.2.1) := by
    have e1 : σ.1 - σ0.1 + (σ1.1 - σ.1) = σ1.1 - σ0.1 := by omega
    have e2 : σ.2.1 - σ0.2.1 + (σ1.2.1 - σ.2.1) = σ1.2.1 - σ0.2.1 := by omega
    rw [e1, e2] at X'
    exact X'
  obtain ⟨t, t1, t2⟩ := j p l e R s m args below meth c T'.heap (locs ++ L) ls C' hc hs (by omega) (by omega) hR1 hL (fun q hq => (List.mem_append.mp hq).elim (hl q) (hL1 q)) T' rfl X2
  exact ⟨t, hstep t (Steps.trans hbk t1), t2⟩
/-! rows: what is called answers an int, a reference, nothing; or it may throw -/
theorem aw_callI {n : Nat} {X : Option (Int32 × am_S)} {F : Int32 × am_S → Option β} (hgo : am_go g M M' σ pc as st) (hcal : am_cal M' n) (hfit : am_fit M M') (hr : ((st.map (am_up g)).map fun v => v.category).sum ≤ 8) (hM : am_Met g M' as σ (X.bind am_kI))
    (kk : ∀ v σ1, am_W g M σ0 (pc + 3) lv (.int v :: st) σ1 (F (v, σ1)) k) : am_W g M σ0 pc lv (as.reverse ++ st) σ (X.bind F) k :=
  am_W.bindI fun x h => by
    obtain ⟨v, σ1⟩ := x
    obtain ⟨m1, m2, mt⟩ := hM (.returned (some (.int v))) σ1 (by rw [h]; rfl)
    exact am_W.ret1 hgo hcal hfit hr m1 m2 mt (kk v σ1)
theorem aw_callA {n : Nat} {X : Option (Nat × am_S)} {F : Nat × am_S → Option β} (hgo : am_go g M M' σ pc as st) (hcal : am_cal M' n) (hfit : am_fit M M') (hr : ((st.map (am_up g)).map fun v => v.category).sum ≤ 8) (hM : am_Met g M' as σ (X.bind am_kA))
    (kk : ∀ v σ1, am_W g M σ0 (pc + 3) lv (.ref v :: st) σ1 (F (v, σ1)) k) : am_W g M σ0 pc lv (as.reverse ++ st) σ (X.bind F) k :=
  am_W.bindI fun x h => by
    obtain ⟨v, σ1⟩ := x
    obtain ⟨m1, m2, mt⟩ := hM (.returned (some (.ref v))) σ1 (by rw [h]; rfl)
    exact am_W.ret1 hgo hcal hfit hr m1 m2 mt (kk v σ1)
theorem aw_callV {n : Nat} {X : Option am_S} {F : am_S → Option β} (hgo : am_go g M M' σ pc as st) (hcal : am_cal M' n) (hfit : am_fit M M') (hr : ((st.map (am_up g)).map fun v => v.category).sum ≤ 8) (hM : am_Met g M' as σ (X.bind am_kV))
    (kk : ∀ σ1, am_W g M σ0 (pc + 3) lv st σ1 (F σ1) k) : am_W g M σ0 pc lv (as.reverse ++ st) σ (X.bind F) k :=
  am_W.bindI fun σ1 h => by
    obtain ⟨m1, m2, mt⟩ := hM (.returned none) σ1 (by rw [h]; rfl)
    exact am_W.ret1 hgo hcal hfit hr m1 m2 mt (kk σ1)
/-- thrown: .inl; an int: .inr -/
abbrev am_kTI (x : (Nat ⊕ Int32) × am_S) : Option (Outcome × am_S) := match x.1 with
  | .inl a => some (.threw a, x.2)
  | .inr v => some (.returned (some (.int v)), x.2)
abbrev am_kTV (x : (Nat ⊕ Unit) × am_S) : Option (Outcome × am_S) := match x.1 with
  | .inl a => some (.threw a, x.2)
  | .inr _ => some (.returned none, x.2)
theorem aw_callTI {n : Nat} {X : Option ((Nat ⊕ Int32) × am_S)} {F : (Nat ⊕ Int32) × am_S → Option β} (hgo : am_go g M M' σ pc as st) (hcal : am_cal M' n) (hfit : am_fit M M') (hr : ((st.map (am_up g)).map fun v => v.category).sum ≤ 8) (hM : am_Met g M' as σ (X.bind am_kTI))
    (kk : ∀ v σ1, am_W g M σ0 (pc + 3) lv (.int v :: st) σ1 (F (.inr v, σ1)) k) (kt : ∀ a σ1, am_T g M σ0 pc lv st σ1 a (F (.inl a, σ1)) k) : am_W g M σ0 pc lv (as.reverse ++ st) σ (X.bind F) k :=
  am_W.bindI fun x h => by
    obtain ⟨v, σ1⟩ := x
    cases v with
    | inl a =>
      obtain ⟨m1, m2, mt⟩ := hM (.threw a) σ1 (by rw [h]; rfl)
      exact am_W.thr1 hgo hcal hfit hr m1 m2 mt (kt a σ1)
    | inr v =>
      obtain ⟨m1, m2, mt⟩ := hM (.returned (some (.int v))) σ1 (by rw [h]; rfl)
      exact am_W.ret1 hgo hcal hfit hr m1 m2 mt (kk v σ1)
theorem aw_callTV {n : Nat} {X : Option ((Nat ⊕ Unit) × am_S)} {F : (Nat ⊕ Unit) × am_S → Option β} (hgo : am_go g M M' σ pc as st) (hcal : am_cal M' n) (hfit : am_fit M M') (hr : ((st.map (am_up g)).map fun v => v.category).sum ≤ 8) (hM : am_Met g M' as σ (X.bind am_kTV))
    (kk : ∀ σ1, am_W g M σ0 (pc + 3) lv st σ1 (F (.inr (), σ1)) k) (kt : ∀ a σ1, am_T g M σ0 pc lv st σ1 a (F (.inl a, σ1)) k) : am_W g M σ0 pc lv (as.reverse ++ st) σ (X.bind F) k :=
  am_W.bindI fun x h => by
    obtain ⟨v, σ1⟩ := x
    cases v with
    | inl a =>
      obtain ⟨m1, m2, mt⟩ := hM (.threw a) σ1 (by rw [h]; rfl)
      exact am_W.thr1 hgo hcal hfit hr m1 m2 mt (kt a σ1)
    | inr v =>
      obtain ⟨m1, m2, mt⟩ := hM (.returned none) σ1 (by rw [h]; rfl)
      exact am_W.ret1 hgo hcal hfit hr m1 m2 mt (kk σ1)
/-! throwing -/
theorem aw_throw {a : Nat} (hd : decode (am_code M) pc = .ok (.athrow, 1) := by decide +kernel) (kk : am_T g M σ0 pc lv st σ a E k) : am_W g M σ0 pc lv (.ref a :: st) σ E k := by
  intro res σ' hE
  obtain ⟨a1, b1, j⟩ := kk res σ' hE
  refine ⟨a1, b1, fun p l e R s m args below meth c H locs ls C hc hs h1 h2 hR hL hl => ?_⟩
  intro T hT X
  obtain ⟨t, t1, t2⟩ := j p l e R s m args below meth c H locs ls C hc hs h1 h2 hR hL hl T hT X
  refine ⟨t, ?_, t2⟩
  have hd' : decode c.code pc = .ok (.athrow, 1) := by rw [C.2.1]; exact hd
  have hexec := C.1
  jvm_step X.here [hexec, hd', athrow.wp_sem, am_up]
  exact t1
/-- no handler covers pc: the method ends with the exception -/
def am_bare (M : am_M) (pc : Nat) : Bool := (am_hand M).all fun q => !(decide (q.1 ≤ pc) && decide (pc < q.2.1))
theorem at_out {a : Nat} {x : β} (hx : k x = some (.threw a, σ)) (hb : am_bare M pc = true := by decide) : am_T g M σ0 pc lv st σ a (some x) k := by
  intro res σ' hE
  have hE' : k x = some (res, σ') := hE
  rw [hx] at hE'
  cases hE'
  refine ⟨Nat.le_refl _, Nat.le_refl _, fun p l e R s m args below meth c H locs ls C hc hs h1 h2 hR hL hl T hT X => ?_⟩
  obtain ⟨r1, r2, r3, r4, r5⟩ := X.leaveThrown (am_r g a) (g := F0 m pc ls (st.map (am_up g))) rfl rfl rfl (fun y hy => by
    have h8 := C.2.2.2.2.2.2.2.1
    have hm : (y.startPc, y.endPc, y.handlerPc, y.catchType) ∈ am_hand M := by rw [← h8]; exact List.mem_map.mpr ⟨y, hy, rfl⟩
    have := List.all_eq_true.mp hb _ hm
    simp only [covers] at *
    simp at this ⊢
    omega) C.2.2.2.2.2.1
  exact ⟨_, r1, r2, r3, by show am_R g σ T.heap; rw [hT]; exact hR, r4, locs, r5, hl⟩
end CL
end
section
/-! ===== an exception is caught: the handler's class resolved by the search, if it was not ===== -/
/-- the search over these rows ends at the handler pc, with these tables -/
def am_sr (e : Env) (S : State) (f : JFrame) (a : Addr) (rows : List ExceptionTableEntry) (pc : Nat) (vm' : Vm) : Prop :=
  ∀ (Q : Handler → Pre) (E : CtlPost) (d : Bool) (acts : List Action), wp (findHandler.go f a rows) Q E e d acts S ↔ Q (.found pc) d acts (S.setVm vm')
section CT
variable {e : Env} {s S : State} {f : JFrame} {a : Addr} {x : ExceptionTableEntry} {rows : List ExceptionTableEntry} {c : ClassId} {cell : Cell}
theorem am_sr_yes (hx : covers x f.pc = true) (h0 : x.catchType ≠ 0) (hl : S.vm.ClassLinks e.platform f.method.cls x.catchType c) (hcell : S.heap[a]? = some cell) (hobj : ∀ k, cell.vm ≠ .statics k)
    (hk : ∃ k, S.vm.classes[cell.cls]? = some k) (hc : ∃ k, S.vm.classes[c]? = some k) (hfit : S.vm.assignable cell.cls c = true) : am_sr e S f a (x :: rows) x.handlerPc (S.vm.noted f.method.cls x.catchType (.cls c)) := by
  intro Q E d acts
  simp only [covers] at hx
  obtain ⟨r1, r2⟩ := (resolveClass_links e.toSetting hl).op (op := VmOp.resolveClass f.method.cls x.catchType) rfl
  have hal : S.vm.Alike (S.vm.noted f.method.cls x.catchType (.cls c)) := (Vm.Alike.refl S.vm).noted _ _ _
  obtain ⟨k1, hk1⟩ := hk
  obtain ⟨k2, hk2⟩ := hc
  obtain ⟨k1', hk1', -⟩ := hal.2.2 _ _ hk1
  obtain ⟨k2', hk2', -⟩ := hal.2.2 _ _ hk2
  have hfit' : (S.vm.noted f.method.cls x.catchType (.cls c)).assignable cell.cls c = true := by rw [hal.assignable]; exact hfit
  simp [findHandler.go, hx, h0, r1, r2, hcell, hobj, hk1', hk2', hfit', VmOp.dirties, VmOp.acts]
theorem am_sr_no {pc : Nat} {vm' : Vm} (hx : covers x f.pc = true) (h0 : x.catchType ≠ 0) (hl : S.vm.ClassLinks e.platform f.method.cls x.catchType c) (hcell : S.heap[a]? = some cell) (hobj : ∀ k, cell.vm ≠ .statics k)
    (hk : ∃ k, S.vm.classes[cell.cls]? = some k) (hc : ∃ k, S.vm.classes[c]? = some k) (hno : S.vm.assignable cell.cls c = false) (hr : am_sr e (S.setVm (S.vm.noted f.method.cls x.catchType (.cls c))) f a rows pc vm') : am_sr e S f a (x :: rows) pc vm' := by
  intro Q E d acts
  simp only [covers] at hx
  obtain ⟨r1, r2⟩ := (resolveClass_links e.toSetting hl).op (op := VmOp.resolveClass f.method.cls x.catchType) rfl
  have hal : S.vm.Alike (S.vm.noted f.method.cls x.catchType (.cls c)) := (Vm.Alike.refl S.vm).noted _ _ _
  obtain ⟨k1, hk1⟩ := hk
  obtain ⟨k2, hk2⟩ := hc
  obtain ⟨k1', hk1', -⟩ := hal.2.2 _ _ hk1
  obtain ⟨k2', hk2', -⟩ := hal.2.2 _ _ hk2
  have hno' : (S.vm.noted f.method.cls x.catchType (.cls c)).assignable cell.cls c = false := by rw [hal.assignable]; exact hno
  have h2 := hr Q E d acts
  have h3 : (S.setVm (S.vm.noted f.method.cls x.catchType (.cls c))).setVm vm' = S.setVm vm' := rfl
  rw [h3] at h2
  rw [← h2]
  simp [findHandler.go, hx, h0, r1, r2, hcell, hobj, hk1', hk2', hno', VmOp.dirties, VmOp.acts]
theorem am_thr_found {r : List Frame} {meth : Method} {code : Code} {pc : Nat} {vm' : Vm} (hm : S.vm.method? f.method = some meth) (hc : meth.code = some code) (hs : am_sr e S f a code.exceptionTable.toList pc vm') :
    (stepThrowing e S a (.java f :: r)).Is ((S.setVm vm').setFrames (.java { f with pc := pc, stack := [.ref a] } :: r)) [] := by
  have hfind : ∀ (Q : Handler → Pre) (E : CtlPost) (d : Bool) (acts : List Action), wp (findHandler f a) Q E e d acts S ↔ Q (.found pc) d acts (S.setVm vm') := fun Q E d acts => by
    rw [W.findHandler_eq hm hc]
    exact hs Q E d acts
  simp only [stepThrowing, searchFrame, vmDo]
  generalize hr : Sem.go _ e false [] S = res
  obtain ⟨as, rfl, ha⟩ := Sem.eq_ok_of hr (a := Handler.found pc) (s' := S.setVm vm') (acts' := []) (by simp [hfind _ _ _ _])
  exact ⟨rfl, ha⟩
end CT
theorem am_caught {p : Program} {l : Launch} {e : Env} {R : Room} {s : State} {m : MethodId} {args : Array Value} {below : List Frame} {meth : Method} {c : Code} {T : State} {locs : List Loc} {cells slots : Nat} (X : Stand p l e R s m args below meth c T locs cells slots) {a : Addr} {gf : JFrame} (hg : gf.method = m) {pc : Nat} {vm' : Vm}
    (hs : am_sr e ((T.setTop gf).pushFrame (.throwing a)) gf a c.exceptionTable.toList pc vm') {target : State} (hrest : Steps p.tables e below ((T.setVm vm').setTop { gf with pc := pc, stack := [.ref a] }) target) :
    Steps p.tables e below ((T.setTop gf).pushFrame (.throwing a)) target := by
  have h : At T gf.method c below := by rw [hg]; exact X.here
  obtain ⟨hgo, hw⟩ := h.throwing a
  refine Steps.head hgo hw ?_
  have hm : ((T.setTop gf).pushFrame (.throwing a)).vm.method? gf.method = some meth := by
    rw [Stand.throwing_vm, hg]
    exact X.method'
  rw [stepThread_throwing (frames_entered h.top _), (am_thr_found hm X.code hs).1]
  obtain ⟨g₀, hg0⟩ := Option.isSome_iff_exists.mp h.top
  obtain ⟨r, hr⟩ := State.topJava?_eq_some.mp hg0
  have hr' : (T.setVm vm').frames = .java g₀ :: r := hr
  rw [State.setTop_of_frames _ hr'] at hrest
  have key : ∀ (u : State) (F G : List Frame), ((u.setFrames F).setVm vm').setFrames G = (u.setVm vm').setFrames G := fun u F G => by
    have h1 : (u.setFrames F).setVm vm' = (u.setVm vm').setFrames F := rfl
    rw [h1, State.setFrames_setFrames]
  rw [hr, List.tail_cons, State.pushFrame, key, State.setTop_of_frames _ hr, key]
  exact hrest
section CR
variable {g : am_G} {M : am_M} {σ0 σ : am_S} {pc : Nat} {lv : List (Option Value)} {st : List Value} {β : Type} {E : Option β} {k : β → Option (Outcome × am_S)}
/-- caught by the first handler -/
theorem at_catch1 (c0 : Nat) {a : Nat} {fs : List Value} {q : Nat × Nat × Nat × Nat} {r : List (Nat × Nat × Nat × Nat)} (hh : am_hand M = q :: r) (h1 : q.1 ≤ pc) (h2 : pc < q.2.1) (h0 : q.2.2.2 ≠ 0) (hc : c0 < am_NC) (hw : Cond.classLink (am_name M).cls q.2.2.2 (am_cn c0) ∈ lw_tbl)
    (ha : σ.2.2 a = some (.inr (c0, fs))) (kk : am_W g M σ0 q.2.2.1 lv [.ref a] σ E k) : am_T g M σ0 pc lv st σ a E k := by
  intro res σ' hE
  obtain ⟨a1, b1, j⟩ := kk res σ' hE
  refine ⟨a1, b1, fun p l e R s m args below meth c H locs ls C hce hse r1 r2 hR hL hl T hT X => ?_⟩
  have C' := C
  obtain ⟨c1, c2, c3, c4, c5, c6, c7, c8, c9, c10, c11, hW, hK⟩ := C
  obtain ⟨cell, q1, q2, q3, q4⟩ := hR.1 a _ ha
  have hcl := am_class hK hW hc
  rw [hh] at c8
  obtain ⟨x, rows, ht, hx, -⟩ := List.map_eq_cons_iff.mp c8
  subst hx
  have hpl : e.platform.magicAccessors = ({} : Platform).magicAccessors := by rw [X.admits.platform]
  obtain ⟨c', hc', hcl1⟩ := Cond.classLink_spec c4 (am_word (args := args) hK hW hw rfl) e.platform hpl
  cases hcl.1.symm.trans hc'
  obtain ⟨dk, _, _, kt, hd, _, _, _, _, hkt, _, hopen⟩ := hcl1.here
  have hcl₀ := X.warmed.classLinks hcl1
  have hW' : s.WarmedH (T.vm.noted m.cls x.catchType (.cls (g.2.2.1 c0))) := X.warmed.noted hd hopen (State.rightAt_cls hcl1)
  have hal := X.warmed.alike
  obtain ⟨kt', hkt', -⟩ := hal.2.2 _ _ hkt
  have hfit : T.vm.assignable cell.cls (g.2.2.1 c0) = true := by rw [q2, hal.assignable]; exact va_assign hcl
  have hs : am_sr e ((T.setTop (F0 m pc ls (st.map (am_up g)))).pushFrame (.throwing (am_r g a))) (F0 m pc ls (st.map (am_up g))) (am_r g a) (x :: rows) x.handlerPc (T.vm.noted m.cls x.catchType (.cls (g.2.2.1 c0))) := by
    refine am_sr_yes (by simp [covers, h1, h2]) h0 hcl₀ (by rw [Stand.throwing_heap, hT]; exact q1) (fun z hz => by rw [q3] at hz; cases hz) ?_ ?_ hfit
    · rw [q2]; exact ⟨kt', hkt'⟩
    · exact ⟨kt', hkt'⟩
  rw [← ht] at hs
  obtain ⟨t, t1, t2⟩ := j p l e R s m args below meth c H locs ls C' hce hse r1 r2 hR hL hl (T.setVm (T.vm.noted m.cls x.catchType (.cls (g.2.2.1 c0)))) hT (X.noted hW')
  exact ⟨t, am_caught X rfl hs t1, t2⟩
/-- passed by the first handler, caught by the second -/
theorem at_catch2 (c0 cN : Nat) {a : Nat} {fs : List Value} {q q' : Nat × Nat × Nat × Nat} {r : List (Nat × Nat × Nat × Nat)} (hh : am_hand M = q :: q' :: r) (h1 : q.1 ≤ pc) (h2 : pc < q.2.1) (h0 : q.2.2.2 ≠ 0) (h1' : q'.1 ≤ pc) (h2' : pc < q'.2.1) (h0' : q'.2.2.2 ≠ 0) (hc : c0 < am_NC) (hcN : cN < am_NC)
    (hno : am_K g → g.1.vm.assignable (g.2.2.1 c0) (g.2.2.1 cN) = false) (hw : Cond.classLink (am_name M).cls q.2.2.2 (am_cn cN) ∈ lw_tbl) (hw' : Cond.classLink (am_name M).cls q'.2.2.2 (am_cn c0) ∈ lw_tbl)
    (ha : σ.2.2 a = some (.inr (c0, fs))) (kk : am_W g M σ0 q'.2.2.1 lv [.ref a] σ E k) : am_T g M σ0 pc lv st σ a E k := by
  intro res σ' hE
  obtain ⟨a1, b1, j⟩ := kk res σ' hE
  refine ⟨a1, b1, fun p l e R s m args below meth c H locs ls C hce hse r1 r2 hR hL hl T hT X => ?_⟩
  have C' := C
  obtain ⟨c1, c2, c3, c4, c5, c6, c7, c8, c9, c10, c11, hW, hK⟩ := C
  obtain ⟨cell, q1, q2, q3, q4⟩ := hR.1 a _ ha
  have hcl := am_class hK hW hc
  have hclN := am_class hK hW hcN
  rw [hh] at c8
  obtain ⟨x, rows, ht, hx, hrest⟩ := List.map_eq_cons_iff.mp c8
  obtain ⟨y, rows', ht', hy, -⟩ := List.map_eq_cons_iff.mp hrest
  subst hx
  subst hy
  subst ht'
  have hpl : e.platform.magicAccessors = ({} : Platform).magicAccessors := by rw [X.admits.platform]
  obtain ⟨cn, hcn, hclN1⟩ := Cond.classLink_spec c4 (am_word (args := args) hK hW hw rfl) e.platform hpl
  cases hclN.1.symm.trans hcn
  obtain ⟨c', hc', hcl1⟩ := Cond.classLink_spec c4 (am_word (args := args) hK hW hw' rfl) e.platform hpl
  cases hcl.1.symm.trans hc'
  obtain ⟨dkN, _, _, ktN, hdN, _, _, _, _, hktN, _, hopenN⟩ := hclN1.here
  obtain ⟨dk, _, _, kt, hd, _, _, _, _, hkt, _, hopen⟩ := hcl1.here
  have hW1 : s.WarmedH (T.vm.noted m.cls x.catchType (.cls (g.2.2.1 cN))) := X.warmed.noted hdN hopenN (State.rightAt_cls hclN1)
  have X1 := X.noted hW1
  have hW' : s.WarmedH (((T.vm.noted m.cls x.catchType (.cls (g.2.2.1 cN)))).noted m.cls y.catchType (.cls (g.2.2.1 c0))) := X1.warmed.noted hd hopen (State.rightAt_cls hcl1)
  have hal := X.warmed.alike
  have hal1 := X1.warmed.alike
  obtain ⟨ktN', hktN', -⟩ := hal.2.2 _ _ hktN
  obtain ⟨kt', hkt', -⟩ := hal.2.2 _ _ hkt
  obtain ⟨kt2, hkt2, -⟩ := hal1.2.2 _ _ hkt
  have hfit : (T.vm.noted m.cls x.catchType (.cls (g.2.2.1 cN))).assignable cell.cls (g.2.2.1 c0) = true := by
    rw [q2, show (T.vm.noted m.cls x.catchType (.cls (g.2.2.1 cN))).assignable _ _ = _ from hal1.assignable _ _]
    exact va_assign hcl
  have hno1 : T.vm.assignable cell.cls (g.2.2.1 cN) = false := by
    rw [q2, hal.assignable, hW.alike.assignable]
    exact hno hK
  have hs2 : am_sr e (((T.setTop (F0 m pc ls (st.map (am_up g)))).pushFrame (.throwing (am_r g a))).setVm (T.vm.noted m.cls x.catchType (.cls (g.2.2.1 cN)))) (F0 m pc ls (st.map (am_up g))) (am_r g a) (y :: rows') y.handlerPc ((T.vm.noted m.cls x.catchType (.cls (g.2.2.1 cN))).noted m.cls y.catchType (.cls (g.2.2.1 c0))) := by
    refine am_sr_yes (by simp [covers, h1', h2']) h0' (X1.warmed.classLinks hcl1) (by show ((T.setTop (F0 m pc ls (st.map (am_up g)))).pushFrame (.throwing (am_r g a))).heap[am_r g a]? = some cell; rw [Stand.throwing_heap, hT]; exact q1) (fun z hz => by rw [q3] at hz; cases hz) ?_ ?_ hfit
    · rw [q2]; exact ⟨kt2, hkt2⟩
    · exact ⟨kt2, hkt2⟩
  have hs : am_sr e ((T.setTop (F0 m pc ls (st.map (am_up g)))).pushFrame (.throwing (am_r g a))) (F0 m pc ls (st.map (am_up g))) (am_r g a) (x :: y :: rows') y.handlerPc ((T.vm.noted m.cls x.catchType (.cls (g.2.2.1 cN))).noted m.cls y.catchType (.cls (g.2.2.1 c0))) := by
    refine am_sr_no (by simp [covers, h1, h2]) h0 (X.warmed.classLinks hclN1) (by rw [Stand.throwing_heap, hT]; exact q1) (fun z hz => by rw [q3] at hz; cases hz) ?_ ⟨ktN', hktN'⟩ hno1 hs2
    rw [q2]; exact ⟨kt', hkt'⟩
  rw [← ht] at hs
  obtain ⟨t, t1, t2⟩ := j p l e R s m args below meth c H locs ls C' hce hse r1 r2 hR hL hl (T.setVm ((T.vm.noted m.cls x.catchType (.cls (g.2.2.1 cN))).noted m.cls y.catchType (.cls (g.2.2.1 c0)))) hT (X.noted hW')
  exact ⟨t, am_caught X rfl hs t1, t2⟩
end CR
end
section
/-! ===== 'new X(); athrow', X an exception of the JDK's, no stack traces ===== -/
theorem am_hw_lays {u U : State} {C n d : String} (hvm : u.vm.Alike U.vm) (hh : ∀ a, a < u.heap.size → U.heap[a]? = u.heap[a]?) {A B : Array Value} (h : (Cond.laysStatic C n d).before A u = true) : (Cond.laysStatic C n d).before B U = true := by
  obtain ⟨c, k, i, f, a, cell, h1, h2, h3, h4, h5, h6, h7, h8, h9⟩ := Cond.laysStatic_spec h
  obtain ⟨k', hi', he⟩ := State.fieldFound?_setVm hvm h2
  have h1' : U.vm.findClass C = some c := by rw [hvm.findClass]; exact h1
  have h5' : U.heap[a]? = some cell := by rw [hh a (Array.getElem?_eq_some_iff.mp h5).1]; exact h5
  have h4' : k'.statics = some a := by rw [he]; exact h4
  have h9' : k'.staticTypes[f.slot]? = some f.type := by rw [he]; exact h9
  unfold Cond.before
  simp only [Cond.holds, Cond.value]
  rw [h1', show U.fieldFound? C n d = some (c, k', i, f) from hi']
  simp [h4', h5', h3, h6, h7, h8, h9']
theorem am_hw_ref {u U : State} {C n d : String} (hvm : u.vm.Alike U.vm) (hh : ∀ a, a < u.heap.size → U.heap[a]? = u.heap[a]?) {A B : Array Value} (hl : (Cond.laysStatic C n d).before A u = true) (h : (Cond.isRef (.static C n d)).before A u = true) : (Cond.isRef (.static C n d)).before B U = true := by
  obtain ⟨c, k, i, f, a, cell, h1, h2, h3, h4, h5, h6, h7, h8, h9⟩ := Cond.laysStatic_spec hl
  obtain ⟨k', hi', he⟩ := State.fieldFound?_setVm hvm h2
  have h5' : U.heap[a]? = some cell := by rw [hh a (Array.getElem?_eq_some_iff.mp h5).1]; exact h5
  have h4' : k'.statics = some a := by rw [he]; exact h4
  have hi2 : U.fieldFound? C n d = some (c, k', i, f) := hi'
  have e1 : (Term.static C n d).eval A u none [] u = cell.slots[f.slot]? := by
    simp [Term.eval, State.fieldNamed?, h2, h3, h4, h5, h6]
  have e2 : (Term.static C n d).eval B U none [] U = cell.slots[f.slot]? := by
    simp [Term.eval, State.fieldNamed?, hi2, h3, h4', h5', h6]
  unfold Cond.before at h ⊢
  simp only [Cond.holds, Cond.value] at h ⊢
  rw [e1] at h
  rw [e2]
  exact h
/-- the words of the constructor's chain -/
def am_xn : List String := ["java/lang/RuntimeException", "java/lang/Exception"]
def am_xs (own : String) (ic : Nat) (X : String) : List Cond := Bundle.ownAtoms0 own ic X am_xn
def am_xok (w : Cond) : Bool := goodWord w || (match w with
  | .castable _ _ => true
  | .declares _ => true
  | _ => false)
theorem am_xword {g : am_G} {s : State} {args : Array Value} (hK : am_K g) (hW : g.1.WarmedH s.vm) (ho : ∀ a, a < g.1.heap.size → s.heap[a]? = g.1.heap[a]?) {w : Cond} (h : w ∈ am_hw ∨ (w ∈ lw_tbl ∧ am_xok w = true)) : w.before args s = true := by
  rcases h with h | ⟨h1, h2⟩
  · have hw := hK.2.2.2.2.1
    have l1 := hw _ (show Cond.laysStatic "java/lang/Throwable" "UNASSIGNED_STACK" "[Ljava/lang/StackTraceElement;" ∈ am_hw by simp [am_hw])
    have l2 := hw _ (show Cond.laysStatic "java/lang/Throwable" "SUPPRESSED_SENTINEL" "Ljava/util/List;" ∈ am_hw by simp [am_hw])
    have r1 := hw _ (show Cond.isRef (.static "java/lang/Throwable" "UNASSIGNED_STACK" "[Ljava/lang/StackTraceElement;") ∈ am_hw by simp [am_hw])
    have r2 := hw _ (show Cond.isRef (.static "java/lang/Throwable" "SUPPRESSED_SENTINEL" "Ljava/util/List;") ∈ am_hw by simp [am_hw])
    simp only [am_hw, List.mem_cons, List.not_mem_nil, or_false] at h
    rcases h with rfl | rfl | rfl | rfl
    · exact am_hw_lays hW.alike ho l1
    · exact am_hw_lays hW.alike ho l2
    · exact am_hw_ref hW.alike ho l1 r1
    · exact am_hw_ref hW.alike ho l2 r2
  · by_cases hg : goodWord w = true
    · exact am_word hK hW h1 hg
    · unfold am_xok at h2
      cases w <;> first | (exfalso; revert h2 hg; simp; done) | exact am_wordC hK hW h1 | exact am_wordD hK hW h1
theorem am_xs13 : ∀ w ∈ am_xs "MapMerger" 65 "java/lang/IllegalArgumentException", w ∈ am_hw ∨ (w ∈ lw_tbl ∧ am_xok w = true) := by decide +kernel
end
section
theorem am_xs14 : ∀ w ∈ am_xs "MapMerger" 54 "java/lang/IllegalStateException", w ∈ am_hw ∨ (w ∈ lw_tbl ∧ am_xok w = true) := by decide +kernel
theorem am_xs15 : ∀ w ∈ am_xs "MapMerger" 107 "java/util/NoSuchElementException", w ∈ am_hw ∨ (w ∈ lw_tbl ∧ am_xok w = true) := by decide +kernel
section XC
variable {p : Program} {l : Launch} {e : Env} {R : Room} {s : State} {m₀ : MethodId} {args : Array Value} {below : List Frame} {meth : Method} {c : Code} {W : State} {locs : List Loc} {cells slots : Nat}
set_option maxHeartbeats 1000000 in
/-- the constructor's chain over a fresh cell: the cell keeps class and kind, nothing else moves -/
theorem am_xctor (X : Stand p l e R s m₀ args below meth c W locs cells slots) (hexec : p.tables.exec = Jvm.exec) (htr : e.platform.stackTraces = false) {own cls : String} {names : List String} {ic : Nat}
    (hown : s.vm.findClass own = some m₀.cls) (hcls : Bundle.fit cls = true) (hnames : ∀ n ∈ names, Bundle.fit n = true)
    (h : ∀ a ∈ Bundle.ownAtoms0 own ic cls names, a.before args s = true)
    {lo : Nat} (hlo : ∀ x ∈ locs, lo ≤ x.base) (hst : ∀ (cc : ClassId) (kk : Class) (ii : Nat) (ff : Field) (aa : Nat), s.fieldFound? "java/lang/Throwable" "UNASSIGNED_STACK" "[Ljava/lang/StackTraceElement;" = some (cc, kk, ii, ff) → kk.statics = some aa → aa < lo)
    {a : Addr} {cX : ClassId} {kX : Class} (hfoundX : s.vm.findClass cls = some cX) (hkX : s.vm.classes[cX]? = some kX) (hcell : W.heap[a]? = some (freshCell cX kX)) (hnew : lo ≤ a)
    {g : JFrame} (hg : g.method = m₀) (hsize : g.locals.size = c.maxLocals) {rest : List Value} (hstack : g.stack = .ref a :: rest)
    (hd6 : decode c.code g.pc = .ok (.invokespecial ic, 3))
    (hRframes : names.length + 3 < R.frames) (hRlocals : 2 * g.monitorRoom + (rest.map fun v => v.category).sum + (13 * (names.length + 1) + 41) ≤ R.locals) :
    ∃ (vm' : Vm) (ce : Cell) (L : List Loc), Stand p l e R s m₀ args below meth c ((W.setVm vm').setCell a ce) (locs ++ L) cells slots ∧ ce.cls = cX ∧ ce.vm = .none ∧ (∀ q ∈ L, q.base = a) ∧
      ∀ target, Steps p.tables e below (((W.setVm vm').setCell a ce).setTop { g with pc := g.pc + 3, stack := rest }) target → Steps p.tables e below (W.setTop g) target := by
  have howns : e.platform.frameOwnsMonitors = true := by rw [X.admits.platform]
  have hfin : e.platform.finalization = false := by rw [X.admits.platform]
  have hpl : e.platform.magicAccessors = ({} : Platform).magicAccessors := by rw [X.admits.platform]
  have a' : ∀ x, x ∈ Bundle.ownAtoms0 own ic cls names → x.holds args s none s [] = true := fun x hx => h x hx
  obtain ⟨T, Z, L, LZ, Y⟩ := ThrowableC.of_atoms (args := args) howns hfin hpl (fun x hx => h x (by simp [Bundle.ownAtoms0, hx]))
  obtain ⟨P1, Ps, hlen, L1, hL, hP1m, hlink1, hlink⟩ := Bundle.chain0 (args := args) hpl Y.init0 names cls hcls hnames (fun x hx => h x (by simp [Bundle.ownAtoms0, hx]))
  have hfound : s.vm.findClass cls = some P1.m.cls := findClass_of_methodNamed hP1m
  cases Option.some.inj (hfoundX.symm.trans hfound)
  obtain ⟨c1, kX', hc1, hk, hord, -, -, hn6⟩ := Cond.instantiable_spec (a' (.instantiable cls 6) (by simp [Bundle.ownAtoms0]))
  cases Option.some.inj (hc1.symm.trans hfound)
  cases Option.some.inj (hkX.symm.trans hk)
  have hsel0 : selectMethod e.platform s.vm P1.m.cls T.fill0 = .method T.fill0 := by
    obtain ⟨c2, r2, m2, q1, q2, q3, q4, -⟩ := Cond.selects_spec (a' (.selects cls Bundle.tFill0 Bundle.tFill0) (by simp [Bundle.ownAtoms0]))
    cases Option.some.inj (q1.symm.trans hfound)
    cases Option.some.inj (q2.symm.trans (State.methodFound?_of_named Y.fill0 (by decide)))
    cases Option.some.inj (q3.symm.trans Y.fill0)
    rw [Launch.admits_selectMethod X.admits]; exact q4
  have hselF : selectMethod e.platform s.vm P1.m.cls T.fill = .method T.fill := by
    obtain ⟨c2, r2, m2, q1, q2, q3, q4, -⟩ := Cond.selects_spec (a' (.selects cls Bundle.tFill Bundle.tFill) (by simp [Bundle.ownAtoms0]))
    cases Option.some.inj (q1.symm.trans hfound)
    cases Option.some.inj (q2.symm.trans (State.methodFound?_of_named Y.fill (by decide)))
    cases Option.some.inj (q3.symm.trans Y.fill)
    rw [Launch.admits_selectMethod X.admits]; exact q4
  obtain ⟨cellS0, hcS0, hiss⟩ := Y.statics
  obtain ⟨u0, hu0⟩ := Cond.staticRefV Y.unassigned L.unassignedStatic L.statics hcS0 hiss (a' (.isRef (.static Bundle.tN "UNASSIGNED_STACK" Bundle.steD)) (by simp [Bundle.ownAtoms0]))
  obtain ⟨sen, hsen⟩ := Cond.staticRefV Y.sentinel L.sentinelStatic L.statics hcS0 hiss (a' (.isRef (.static Bundle.tN "SUPPRESSED_SENTINEL" Bundle.listD)) (by simp [Bundle.ownAtoms0]))
  obtain ⟨ci198, i198, fB, hk198, hg198, ha198, hsB, -, hnB, htB, hffB⟩ := Cond.ownField (t := .object "java/lang/Object") Y.found L.cls (by decide +kernel) (a' (.fieldLink Bundle.tN 198 Bundle.tN "backtrace" "Ljava/lang/Object;") (by simp [Bundle.ownAtoms0])) (a' (.lays Bundle.tN Bundle.tN "backtrace" "Ljava/lang/Object;") (by simp [Bundle.ownAtoms0])) e.platform hpl
  obtain ⟨cellS, hcS', heS, -, hkeep⟩ := X.same.2.2.2.2.2 T.aS cellS0 hcS0
  have hcellS : W.heap[T.aS]? = some cellS := hcS'
  have hlt0 : T.aS < lo := hst _ _ _ _ _ Y.unassigned L.statics
  have hout' : ∀ i, (⟨T.aS, i⟩ : Loc) ∉ locs := fun i hmem => by
    have := hlo _ hmem
    exact Nat.not_le.mpr hlt0 this
  have hknownS : cellS.vm ≠ .unknown := by
    rw [heS]; intro hu
    rw [show cellS0.vm = .unknown from hu] at hiss
    cases hiss
  have hneS : T.aS ≠ a := fun he => Nat.not_le.mpr hlt0 (he ▸ hnew)
  obtain ⟨tyC, dC, hdC, hdnC⟩ := Cond.laysAt hfound hk Y.cause (a' (.lays cls Bundle.tN "cause" "Ljava/lang/Throwable;") (by simp [Bundle.ownAtoms0]))
  obtain ⟨tyS, dS, hdS, hdnS⟩ := Cond.laysAt hfound hk Y.stack (a' (.lays cls Bundle.tN "stackTrace" Bundle.steD) (by simp [Bundle.ownAtoms0]))
  obtain ⟨tyP, dP, hdP, hdnP⟩ := Cond.laysAt hfound hk Y.supp (a' (.lays cls Bundle.tN "suppressedExceptions" Bundle.listD) (by simp [Bundle.ownAtoms0]))
  obtain ⟨tyB, dB, hdB, hdnB⟩ := Cond.laysAt hfound hk hffB (a' (.lays cls Bundle.tN "backtrace" "Ljava/lang/Object;") (by simp [Bundle.ownAtoms0]))
  have bC := Cond.laysApart hdB hdC hdnB hdnC (by rw [hnB, Y.causeName]; decide)
  have bS := Cond.laysApart hdB hdS hdnB hdnS (by rw [hnB, Y.stackName]; decide)
  have bP := Cond.laysApart hdB hdP hdnB hdnP (by rw [hnB, Y.suppName]; decide)
  have hskip : SkipFacts T e.platform s (fun u => u) u0 ((preparedCellV T.toThrowableT (freshCell P1.m.cls kX) a u0 sen).withEntry W.cur) :=
    ⟨{ ci198 := ci198, i198 := i198, fBack := fB }, ⟨hk198, hg198, ha198, hsB⟩, by
      have := fresh_default (c := P1.m.cls) tyB
      rw [htB] at this
      simpa [preparedCellV, Cell.setSlot, Cell.withEntry, Array.getElem?_setIfInBounds, bC, bS, bP, bC.symm, bS.symm, bP.symm, defaultValue] using this, fun _ _ => rfl⟩
  obtain ⟨tm, methC, cdC, kC, vm₁, hnC, -, -, -, -, -, -, -, hW₁, st1⟩ := Steps.initCold (tb := p.tables) (e := e) (below := below) (s := s) (U := W) X.here hexec X.warmed hpl hown (t := Bundle.init0 cls) rfl rfl (Bundle.fit_spec hcls).2
    (a' (.methodLink own ic (Bundle.init0 cls)) (by simp [Bundle.ownAtoms0])) (h (.instanceMethod (Bundle.init0 cls)) (by cases names <;> simp [Bundle.ownAtoms0, Bundle.chain0Atoms, Bundle.passAtoms])) (bytes := Bundle.five) (maxL := 1) (h (.code (Bundle.init0 cls) Bundle.five 1 none) (by cases names <;> simp [Bundle.ownAtoms0, Bundle.chain0Atoms, Bundle.passAtoms]))
    (f := g) hg (a := a) (rest := rest) hstack hd6
  cases Option.some.inj (hnC.symm.trans hP1m)
  have X₁ := X.noted hW₁
  obtain ⟨vm₂, X₂, st2⟩ := X₁.ctorPlainOffV hexec (g := { g with stack := rest }) hg hsize T L Z LZ (P1 :: Ps)
    (fun P hP => by rcases List.mem_cons.mp hP with rfl | hP; exact L1; exact hL P hP) ⟨hlink1, hlink⟩ (u0 := u0) (sen := sen) (self := a) (cell := freshCell P1.m.cls kX) (cellS := cellS)
    hcell (fun _ => by simp) (by simp) rfl rfl hsel0 hselF hcellS hneS hknownS (by rw [hkeep _ (hout' _)]; exact hu0) (by rw [hkeep _ (hout' _)]; exact hsen)
    (Takes.of_laid hk hord tyC (by rw [Y.causeType]; rfl)) (Takes.of_laid hk hord tyS (by rw [Y.stackType]; exact fits_refV_array _ u0)) (Takes.of_laid hk hord tyP (by rw [Y.suppType]; exact fits_refV_object _ sen)) Y.objLocals hskip htr [] hd6
    (by simp only [List.length_cons, hlen]; omega) (by simp only [List.length_cons, hlen]; exact hRlocals)
  refine ⟨vm₂, _, _, X₂, rfl, rfl, fun q hq => ?_, fun target hrest => st1 _ fun acts => ?_⟩
  · simp only [List.mem_cons, List.not_mem_nil, or_false] at hq
    rcases hq with rfl | rfl | rfl | rfl <;> rfl
  · rw [doInvoke_state]
    exact st2 _ hrest
end XC
/-- what throws away: a new exception of class c (13, 14, 15), made, and its constructor run, in six bytes behind 'new' -/
def am_nx (σ : am_S) (c : Nat) : am_S := am_new σ 6 (.inr (c, []))
section XR
variable {g : am_G} {M : am_M} {σ0 σ : am_S} {pc : Nat} {lv : List (Option Value)} {st : List Value} {β : Type} {E : Option β} {k : β → Option (Outcome × am_S)}
theorem am_N_x {c : Nat} (h : c = 13 ∨ c = 14 ∨ c = 15) : am_N c = 0 ∧ c < am_NC := by
  rcases h with rfl | rfl | rfl <;> exact ⟨rfl, by decide⟩
theorem aw_xnew (c idx ic : Nat) (hcx : c = 13 ∨ c = 14 ∨ c = 15 := by decide) (hd : decode (am_code M) pc = .ok (.new idx, 3) := by decide +kernel) (hd3 : decode (am_code M) (pc + 3) = .ok (.dup, 1) := by decide +kernel) (hd4 : decode (am_code M) (pc + 4) = .ok (.invokespecial ic, 3) := by decide +kernel)
    (hfit : Bundle.fit (am_cn c) = true := by decide +kernel) (hw : Cond.classLink (am_name M).cls idx (am_cn c) ∈ lw_tbl) (hw2 : Cond.instantiable (am_cn c) 6 ∈ lw_tbl) (hw3 : Cond.initialized (am_cn c) ∈ lw_tbl) (hx : ∀ w ∈ am_xs (am_name M).cls ic (am_cn c), w ∈ am_hw ∨ (w ∈ lw_tbl ∧ am_xok w = true))
    (hr : ((st.map (am_up g)).map fun v => v.category).sum ≤ 7) (hf : 6 ≤ am_fr M := by decide) (hl : 8 + 80 ≤ am_lc M := by decide)
    (kk : am_W g M σ0 (pc + 7) lv (.ref σ.1 :: st) (am_nx σ c) E k) : am_W g M σ0 pc lv st σ E k := by
  obtain ⟨hN, hc⟩ := am_N_x hcx
  intro res σ' hE
  obtain ⟨a1, b1, j⟩ := kk res σ' hE
  have a2 : σ.1 + 1 ≤ σ'.1 := a1
  have b2 : σ.2.1 + 6 ≤ σ'.2.1 := b1
  refine ⟨by omega, by omega, fun p l e R s m args below meth c0 H locs ls C hce hse r1 r2 hR hL hll => ?_⟩
  have C' := C
  obtain ⟨c1, c2, c3, c4, c5, c6, c7, c8, c9, c10, c11, hW, hK⟩ := C
  obtain ⟨hfl, hold⟩ := c11
  have hcl := am_class hK hW hc
  refine W.newcK c1 c2 c4 (am_word hK hW hw rfl) (am_word hK hW hw2 rfl) (am_word hK hW hw3 rfl) rfl hd (by omega) (by omega) hcl.1 rfl fun H1 kC e0 e1 e2 e3 => ?_
  refine lv_dup (va := .ref H.size) c1 c2 hd3 rfl ?_
  intro T hT X
  have ht := hR.top
  have h8 := hR.2.2.1
  have htr : e.platform.stackTraces = false := Launch.traces_off hfl X.admits
  have hlt : H.size < T.heap.size := by rw [hT, e2]; omega
  have hloH : g.1.heap.size ≤ H.size := by rw [hR.2.1]; omega
  obtain ⟨vm', ce, L, X', hce1, hce2, hL1, hstep⟩ := am_xctor X c1 htr (own := (am_name M).cls) (cls := am_cn c) (names := am_xn) (ic := ic) c4 hfit (by decide) (fun w hw' => am_xword hK hW hold (hx w hw')) (lo := g.1.heap.size) hll
    (fun cc kk ii ff aa hf1 hf2 => by
      obtain ⟨c', k', i', f', a', cell', h1, h2, h3, h4, h5, -⟩ := Cond.laysStatic_spec (hK.2.2.2.2.1 (Cond.laysStatic "java/lang/Throwable" "UNASSIGNED_STACK" "[Ljava/lang/StackTraceElement;") (by simp [am_hw]))
      obtain ⟨k2, hi2, he⟩ := State.fieldFound?_setVm hW.alike h2
      have hi3 : s.fieldFound? "java/lang/Throwable" "UNASSIGNED_STACK" "[Ljava/lang/StackTraceElement;" = some (c', k2, i', f') := hi2
      rw [hi3] at hf1
      cases hf1
      have h6 : kk.statics = some a' := by rw [he]; exact h4
      cases h6.symm.trans hf2
      exact (Array.getElem?_eq_some_iff.mp h5).1)
    (a := H.size) (cX := g.2.2.1 c) (kX := kC) hcl.1 e0 (by rw [hT]; exact e1) hloH (g := F0 m (pc + 3 + 1) ls (.ref H.size :: .ref H.size :: st.map (am_up g))) rfl (by rw [c3]; exact hL.size) (rest := .ref H.size :: st.map (am_up g)) rfl (by rw [c2]; exact hd4)
    (by show 2 + 3 < R.frames; omega) (by show 2 * 0 + (1 + ((st.map (am_up g)).map fun v => v.category).sum) + (13 * (2 + 1) + 41) ≤ R.locals; omega)
  have hR1 : am_R g (am_nx σ c) ((T.setVm vm').setCell H.size ce).heap := by
    refine hR.new (n := 6) ?_ ?_ fun q hq => ?_
    · refine ⟨ce, heapAt_setCell_self (s := T.setVm vm') ce hlt, hce1, hce2, fun k hk => ?_⟩
      have hk' : k < am_N c := hk
      rw [hN] at hk'
      cases hk'
    · rw [size_setCell]
      show T.heap.size = _
      rw [hT, e2]
    · rw [heapAt_setCell_ne _ (Nat.ne_of_gt hq)]
      show T.heap[q]? = _
      rw [hT]
      exact e3 q hq
  have X2 : Stand p l e R s m args below meth c0 ((T.setVm vm').setCell H.size ce) (locs ++ L) ((am_nx σ c).1 - σ0.1) ((am_nx σ c).2.1 - σ0.2.1) := by
    have q1 : (am_nx σ c).1 - σ0.1 = σ.1 - σ0.1 + 1 := by show σ.1 + 1 - σ0.1 = _; omega
    have q2 : (am_nx σ c).2.1 - σ0.2.1 = σ.2.1 - σ0.2.1 + 6 := by show σ.2.1 + 6 - σ0.2.1 = _; omega
    rw [q1, q2]
    exact X'
  obtain ⟨t, t1, t2⟩ := j p l e R s m args below meth c0 _ (locs ++ L) ls C' hce hse (show σ0.1 ≤ σ.1 + 1 by omega) (show σ0.2.1 ≤ σ.2.1 + 6 by omega) hR1 hL (fun q hq => by
    rcases List.mem_append.mp hq with hz | hz
    · exact hll q hz
    · rw [hL1 q hz]; exact hloH) _ rfl X2
  refine ⟨t, hstep t ?_, t2⟩
  have e9 : (F0 m (pc + 7) ls ((Value.ref σ.1 :: st).map (am_up g))) = F0 m (pc + 3 + 1 + 3) ls (.ref H.size :: st.map (am_up g)) := by
    simp only [List.map_cons, am_up, ht]
  rw [e9] at t1
  exact t1
end XR
end
section
/-! ===== statics, the marks, Math ===== -/
section JD
variable {g : am_G} {M : am_M} {σ0 σ : am_S} {pc : Nat} {lv : List (Option Value)} {st : List Value} {β : Type} {E : Option β} {k : β → Option (Outcome × am_S)}
theorem am_Zs {s : State} {H : Heap} {C n d : String} {v : Value} (hW : g.1.WarmedH s.vm) (hR : am_R g σ H) (h : va_Z C n d v (fun q => g.1.heap.size ≤ q) g.1 g.1.heap) : va_Z C n d v (fun q => g.1.heap.size ≤ q) s H :=
  (va_Z.moved hW.alike h).kept fun a ha _ => hR.2.2.2 a ha
theorem am_gstat {p : Program} {l : Launch} {e : Env} {R : Room} {s : State} {m : MethodId} {args : Array Value} {below : List Frame} {meth : Method} {c : Code} {H : Heap} {locs : List Loc} {cells slots : Nat} {Q : State → Prop} {ls : Array Slot} {C n d own : String} {v : Value} {index : Nat} {cc : ByteArray} {rest : List Value} (hexec : p.tables.exec = Jvm.exec) (hb : c.code = cc)
    (hZ : va_Z C n d v (fun q => g.1.heap.size ≤ q) s H) (hown : s.vm.findClass own = some m.cls) (hlink : (Cond.fieldLink own index C n d).before args s = true) (hdg : decode cc pc = .ok (.getstatic index, 3))
    (kk : W p l e R s m args below meth c H locs cells slots Q (F0 m (pc + 3) ls (v :: rest))) : W p l e R s m args below meth c H locs cells slots Q (F0 m pc ls rest) := by
  obtain ⟨cf, kf, fi, f, a, cell, h1, h2, h3, h4, h5, h6, h7, h8⟩ := hZ
  exact W.gets hexec hb hown hlink h1 h2 h3 h4 h5 (fun e => by rw [e] at h6; cases h6) h7 rfl hdg kk
/-- getstatic REFUSED -/
theorem aw_refused (idx : Nat) (hd : decode (am_code M) pc = .ok (.getstatic idx, 3) := by decide +kernel) (hw : Cond.fieldLink (am_name M).cls idx "MapMergerModel" "REFUSED" "LMapMergerModel$No;" ∈ lw_tbl)
    (kk : am_W g M σ0 (pc + 3) lv (.ref 1 :: st) σ E k) : am_W g M σ0 pc lv st σ E k := by
  refine kk.same fun {p l e R s m args below meth c0 H locs cells slots Q ls} C hL hR w => ?_
  obtain ⟨c1, c2, c3, c4, c5, c6, c7, c8, c9, c10, c11, hW, hK⟩ := C
  exact am_gstat c1 c2 (am_Zs hW hR hK.2.2.2.2.2.1) c4 (am_word hK hW hw rfl) hd w
/-- getstatic COMPACT_STRINGS -/
theorem aw_compact (idx : Nat) (hd : decode (am_code M) pc = .ok (.getstatic idx, 3) := by decide +kernel) (hw : Cond.fieldLink (am_name M).cls idx "java/lang/String" "COMPACT_STRINGS" "Z" ∈ lw_tbl)
    (kk : am_W g M σ0 (pc + 3) lv (.int 1 :: st) σ E k) : am_W g M σ0 pc lv st σ E k := by
  refine kk.same fun {p l e R s m args below meth c0 H locs cells slots Q ls} C hL hR w => ?_
  obtain ⟨c1, c2, c3, c4, c5, c6, c7, c8, c9, c10, c11, hW, hK⟩ := C
  exact am_gstat c1 c2 (am_Zs hW hR hK.2.2.2.2.2.2.2.1) c4 (am_word hK hW hw rfl) hd w
theorem am_OFs {s : State} {H : Heap} {o n d : String} {v : Value} {q : Nat} (hW : g.1.WarmedH s.vm) (hR : am_R g σ H) (h : va_OF o n d v q (fun q => g.1.heap.size ≤ q) g.1 g.1.heap) : va_OF o n d v q (fun q => g.1.heap.size ≤ q) s H :=
  (va_OF.moved hW.alike h).kept fun a ha _ => hR.2.2.2 a ha
/-- a mark's bytes -/
theorem aw_sval (idx i : Nat) (h2 : 2 ≤ i) (h5 : i < 5) (hd : decode (am_code M) pc = .ok (.getfield idx, 3) := by decide +kernel) (hw : Cond.fieldLink (am_name M).cls idx "java/lang/String" "value" "[B" ∈ lw_tbl)
    (kk : am_W g M σ0 (pc + 3) lv (.ref (i + 3) :: st) σ E k) : am_W g M σ0 pc lv (.ref i :: st) σ E k := by
  refine kk.same fun {p l e R s m args below meth c0 H locs cells slots Q ls} C hL hR w => ?_
  obtain ⟨c1, c2, c3, c4, c5, c6, c7, c8, c9, c10, c11, hW, hK⟩ := C
  obtain ⟨cf, k, fi, f, cell, h1, h2', h3, h4, h5', h6⟩ := am_OFs hW hR (hK.2.2.2.2.2.2.1 i h2 h5).2.2
  have e1 : am_r g i = g.2.1 i := by unfold am_r; rw [if_pos (by omega)]
  have e2 : am_r g (i + 3) = g.2.1 (i + 3) := by unfold am_r; rw [if_pos (by omega)]
  simp only [List.map_cons, am_up, e1, e2] at w ⊢
  exact W.getf c1 c2 c4 (am_word hK hW hw rfl) h1 h2' h3 h4 (v := .ref (g.2.1 (i + 3))) h5' rfl rfl hd w
/-- a mark's coder -/
theorem aw_scod (idx i : Nat) (h2 : 2 ≤ i) (h5 : i < 5) (hd : decode (am_code M) pc = .ok (.getfield idx, 3) := by decide +kernel) (hw : Cond.fieldLink (am_name M).cls idx "java/lang/String" "coder" "B" ∈ lw_tbl)
    (kk : am_W g M σ0 (pc + 3) lv (.int 0 :: st) σ E k) : am_W g M σ0 pc lv (.ref i :: st) σ E k := by
  refine kk.same fun {p l e R s m args below meth c0 H locs cells slots Q ls} C hL hR w => ?_
  obtain ⟨c1, c2, c3, c4, c5, c6, c7, c8, c9, c10, c11, hW, hK⟩ := C
  obtain ⟨cf, k, fi, f, cell, h1, h2', h3, h4, h5', h6⟩ := am_OFs hW hR (hK.2.2.2.2.2.2.1 i h2 h5).2.1
  have e1 : am_r g i = g.2.1 i := by unfold am_r; rw [if_pos (by omega)]
  simp only [List.map_cons, am_up, e1] at w ⊢
  exact W.getf c1 c2 c4 (am_word hK hW hw rfl) h1 h2' h3 h4 (v := .int 0) h5' rfl rfl hd w
/-- ldc of a mark -/
theorem aw_ldcS (idx i : Nat) (tx : String) (hi : i < 8) (hd : decode (am_code M) pc = .ok (.ldc idx, 2) := by decide +kernel) (hz : am_str g → vk_R (am_name M).cls idx tx (g.2.1 i) g.1)
    (kk : am_W g M σ0 (pc + 2) lv (.ref i :: st) σ E k) : am_W g M σ0 pc lv st σ E k := by
  refine kk.same fun {p l e R s m args below meth c0 H locs cells slots Q ls} C hL hR w => ?_
  obtain ⟨c1, c2, c3, c4, c5, c6, c7, c8, c9, c10, c11, hW, hK⟩ := C
  have e1 : am_r g i = g.2.1 i := by unfold am_r; rw [if_pos hi]
  simp only [List.map_cons, am_up, e1] at w
  exact va_ldcS c1 c2 c4 (vk_R.warm hW (hz hK.2.2.2.2.2.2)) hd w
/-- a method of a mark's -/
theorem am_goVS {M' : am_M} {As : List Value} (idx i : Nat) (h2 : 2 ≤ i) (h5 : i < 5) (hd : decode (am_code M) pc = .ok (.invokevirtual idx, 3)) (hw : Cond.methodLink (am_name M).cls idx (am_name M') ∈ lw_tbl) (hc : am_cal M' As.length) (hi : Cond.instanceMethod (am_name M') ∈ lw_tbl) (hs : Cond.selects "java/lang/String" (am_name M') (am_name M') ∈ lw_tbl) : am_go g M M' σ pc (.ref i :: As) st := by
  intro p l e R s m args below meth c T locs cells slots ls C X hR
  obtain ⟨c1, c2, c3, c4, c5, c6, c7, c8, c9, c10, c11, hW, hK⟩ := C
  obtain ⟨cell, q1, q2, q3, -⟩ := (va_O.moved hW.alike (hK.2.2.2.2.2.2.1 i h2 h5).1).kept (H1 := T.heap) fun a ha _ => hR.2.2.2 a ha
  have e1 : am_r g i = g.2.1 i := by unfold am_r; rw [if_pos (by omega)]
  obtain ⟨mk, methM, hnamed, hmethM, hstM, habM⟩ := Cond.instanceMethod_spec (am_word (args := args) hK hW hi rfl)
  obtain ⟨methM', cM, hmethM', -, -, -, -, -, -, hsigM⟩ := am_cw_spec hnamed (am_word (args := args) hK hW hc.1 (am_cw_good M'))
  cases hmethM.symm.trans hmethM'
  obtain ⟨c2', r2, m2, p1, p2, p3, p4, kP, hkP, hkPi⟩ := Cond.selects_spec (am_word (args := args) hK hW hs rfl)
  cases q3.symm.trans p1
  cases (State.methodFound?_of_named hnamed hc.2.2.1).symm.trans p2
  cases hnamed.symm.trans p3
  have hselP : selectMethod e.platform s.vm cell.cls mk = .method mk := by rw [Launch.admits_selectMethod X.admits]; exact p4
  have hlen : (As.map (am_up g)).length = methM.sig.parameters.length := by rw [List.length_map]; exact hc.len _ hsigM
  obtain ⟨vm₁, X₁, hstep₁⟩ := X.invokevirtual c1 c4 (am_word hK hW hw rfl) hnamed hmethM hstM hkP hkPi hc.2.2.1 (a := am_r g i) (cell := cell) (by rw [e1]; exact q1)
    (fun z h => by rw [h] at q2; cases q2) hselP hmethM habM hkP hkPi (g := F0 m pc ls (((Value.ref i :: As).reverse ++ st).map (am_up g))) rfl (argsL := As.map (am_up g)) (rest := st.map (am_up g)) hlen (by simp [am_up]) (by rw [c2]; exact hd)
  refine ⟨vm₁, mk, _, X₁.warmed, X₁, X₁.named hnamed, by rw [c2]; exact hd, fun target h => hstep₁ _ fun acts => ?_⟩
  rw [doInvoke_state]
  exact h
def am_max (x y : Int32) : Int32 := if x < y then y else x
def am_min (x y : Int32) : Int32 := if y < x then y else x
theorem aw_max (idx : Nat) {x y : Int32} (hd : decode (am_code M) pc = .ok (.invokestatic idx, 3) := by decide +kernel) (hw : Cond.methodLink (am_name M).cls idx Lib.Math.max.name ∈ lw_tbl) (hw2 : Cond.static Lib.Math.max.name ∈ lw_tbl) (hw3 : Cond.initialized "java/lang/Math" ∈ lw_tbl) (hw4 : Cond.code Lib.Math.max.name Lib.Math.max.code 2 (some .int) ∈ lw_tbl)
    (hr : ((st.map (am_up g)).map fun v => v.category).sum ≤ 8) (hf : 1 ≤ am_fr M := by decide) (hl : 21 ≤ am_lc M := by decide) (kk : am_W g M σ0 (pc + 3) lv (.int (am_max x y) :: st) σ E k) : am_W g M σ0 pc lv (.int y :: .int x :: st) σ E k := by
  intro res σ' hE
  obtain ⟨a1, b1, j⟩ := kk res σ' hE
  refine ⟨a1, b1, fun p l e R s m args below meth c H locs ls C hc hs h1 h2 hR hL hll => ?_⟩
  have w := j p l e R s m args below meth c H locs ls C hc hs h1 h2 hR hL hll
  obtain ⟨c1, c2, c3, c4, c5, c6, c7, c8, c9, c10, c11, hW, hK⟩ := C
  exact va_mmax c1 c2 (by rw [c3]; exact hL.size.symm) c4 (am_word hK hW hw rfl) (am_word hK hW hw2 rfl) (am_word hK hW hw3 rfl) (am_word hK hW hw4 rfl) (by omega) (by omega) (by omega) (by omega) hd w
theorem aw_min (idx : Nat) {x y : Int32} (hd : decode (am_code M) pc = .ok (.invokestatic idx, 3) := by decide +kernel) (hw : Cond.methodLink (am_name M).cls idx Lib.Math.min.name ∈ lw_tbl) (hw2 : Cond.static Lib.Math.min.name ∈ lw_tbl) (hw3 : Cond.initialized "java/lang/Math" ∈ lw_tbl) (hw4 : Cond.code Lib.Math.min.name Lib.Math.min.code 2 (some .int) ∈ lw_tbl)
    (hr : ((st.map (am_up g)).map fun v => v.category).sum ≤ 8) (hf : 1 ≤ am_fr M := by decide) (hl : 21 ≤ am_lc M := by decide) (kk : am_W g M σ0 (pc + 3) lv (.int (am_min x y) :: st) σ E k) : am_W g M σ0 pc lv (.int y :: .int x :: st) σ E k := by
  intro res σ' hE
  obtain ⟨a1, b1, j⟩ := kk res σ' hE
  refine ⟨a1, b1, fun p l e R s m args below meth c H locs ls C hc hs h1 h2 hR hL hll => ?_⟩
  have w := j p l e R s m args below meth c H locs ls C hc hs h1 h2 hR hL hll
  obtain ⟨c1, c2, c3, c4, c5, c6, c7, c8, c9, c10, c11, hW, hK⟩ := C
  exact va_mmin c1 c2 (by rw [c3]; exact hL.size.symm) c4 (am_word hK hW hw rfl) (am_word hK hW hw2 rfl) (am_word hK hW hw3 rfl) (am_word hK hW hw4 rfl) (by omega) (by omega) (by omega) (by omega) hd w
theorem aw_i2c {x : Int32} (hd : decode (am_code M) pc = .ok (.i2c, 1) := by decide +kernel) (kk : am_W g M σ0 (pc + 1) lv (.int (x.toUInt32 % 65536).toInt32 :: st) σ E k) : am_W g M σ0 pc lv (.int x :: st) σ E k :=
  kk.pure fun C hL w => lv_i2c C.1 C.2.1 hd rfl w
/-- returns of small types -/
def am_rn (t : FieldType) (v : Int32) (σ : am_S) : Option (Int32 × am_S) := if narrow t (.int v) = .int v then some (v, σ) else none
theorem aw_nret {v : Int32} {t : FieldType} (hd : decode (am_code M) pc = .ok (.ireturn, 1) := by decide +kernel) (hr : am_ret M = some t := by rfl) : am_W g M σ0 pc lv [.int v] σ (am_rn t v σ) am_kI := by
  intro res σ' hE
  unfold am_rn at hE
  split at hE
  · rename_i hv
    cases hE
    refine ⟨Nat.le_refl _, Nat.le_refl _, fun p l e R s m args below meth c H locs ls C hc hs h1 h2 hR hL hl => ?_⟩
    refine am_weak (W.zret (ty := t) (Qc := am_QR g σ (.returned (some (.int v)))) (free := fun q => g.1.heap.size ≤ q) C.1 C.2.1 (by rw [C.2.2.2.2.1]; exact hr) hv (fun t ht _ => ⟨rfl, by rw [ht]; exact hR⟩) hl hd C.2.2.2.2.2.1) fun t h => am_endR h
  · cases hE
end JD
end
section
/-! ===== more rows: fewer locals, pairs, methods that change nothing, switches, catches ===== -/
def am_mask (ms : List Bool) (lv : List (Option Value)) : List (Option Value) := List.zipWith (fun b x => if b then x else none) ms lv
def am_b2 {α β : Type} (X : Option (α × am_S)) (F : α → am_S → Option β) : Option β := X.bind fun x => F x.1 x.2
def am_btf {α β : Type} (T : Nat → am_S → Option β) (F : α → am_S → Option β) (x : (Nat ⊕ α) × am_S) : Option β := match x.1 with
  | .inl a => T a x.2
  | .inr v => F v x.2
def am_bt {α β : Type} (X : Option ((Nat ⊕ α) × am_S)) (T : Nat → am_S → Option β) (F : α → am_S → Option β) : Option β := X.bind (am_btf T F)
abbrev am_kPI (σ : am_S) (v : Int32) : Option (Outcome × am_S) := some (.returned (some (.int v)), σ)
abbrev am_kPA (σ : am_S) (v : Nat) : Option (Outcome × am_S) := some (.returned (some (.ref v)), σ)
def am_isx (σ : am_S) (c a : Nat) : Bool := match σ.2.2 a with
  | some (.inr y) => y.1 == c
  | _ => false
theorem am_isx_some {σ : am_S} {c a : Nat} (h : am_isx σ c a = true) : ∃ fs, σ.2.2 a = some (.inr (c, fs)) := by
  unfold am_isx at h
  split at h
  · rename_i y hy
    obtain ⟨c', fs⟩ := y
    have : c' = c := by simpa using h
    subst this
    exact ⟨fs, hy⟩
  · cases h
section MR
variable {g : am_G} {M M' : am_M} {σ0 σ : am_S} {pc : Nat} {lv : List (Option Value)} {as st : List Value} {β : Type} {E E1 E2 : Option β} {k : β → Option (Outcome × am_S)}
theorem am_W.drop (ms : List Bool) (kk : am_W g M σ0 pc (am_mask ms lv) st σ E k) : am_W g M σ0 pc lv st σ E k := by
  intro res σ' hE
  obtain ⟨a, b, j⟩ := kk res σ' hE
  refine ⟨a, b, fun p l e R s m args below meth c H locs ls C hc hs h1 h2 hR hL hl => j p l e R s m args below meth c H locs ls C hc hs h1 h2 hR ⟨hL.1, hL.2.1, fun i v hv => hL.2.2 i v ?_⟩ hl⟩
  unfold am_mask at hv
  rw [List.getElem?_zipWith] at hv
  split at hv
  · rename_i x y h3 h4
    cases x
    · cases hv
    · simp at hv
      rw [h4, hv]
  · cases hv
/-! a method that changes nothing -/
theorem aw_iretP {v : Int32} (hd : decode (am_code M) pc = .ok (.ireturn, 1) := by decide +kernel) (hr : am_ret M = some .int := by rfl) : am_W g M σ0 pc lv [.int v] σ (some v) (am_kPI σ) := by
  intro res σ' hE
  exact aw_iret hd hr res σ' hE
theorem aw_zretP {v : Int32} (hd : decode (am_code M) pc = .ok (.ireturn, 1) := by decide +kernel) (hr : am_ret M = some .boolean := by rfl) : am_W g M σ0 pc lv [.int v] σ (if v = 0 ∨ v = 1 then some v else none) (am_kPI σ) := by
  intro res σ' hE
  refine aw_zret hd hr res σ' ?_
  rw [← hE]
  unfold am_z
  split <;> rfl
theorem aw_zretL {v : Int32} (hv : v = 0 ∨ v = 1) (hd : decode (am_code M) pc = .ok (.ireturn, 1) := by decide +kernel) (hr : am_ret M = some .boolean := by rfl) : am_W g M σ0 pc lv [.int v] σ (some (v, σ)) am_kI := by
  have h := aw_zret (g := g) (σ0 := σ0) (lv := lv) (σ := σ) (v := v) hd hr
  unfold am_z at h
  rw [if_pos hv] at h
  exact h
theorem aw_zretPL {v : Int32} (hv : v = 0 ∨ v = 1) (hd : decode (am_code M) pc = .ok (.ireturn, 1) := by decide +kernel) (hr : am_ret M = some .boolean := by rfl) : am_W g M σ0 pc lv [.int v] σ (some v) (am_kPI σ) := by
  have h := aw_zretP (g := g) (σ0 := σ0) (lv := lv) (σ := σ) (v := v) hd hr
  rw [if_pos hv] at h
  exact h
theorem aw_nretP {v : Int32} {t : FieldType} (hd : decode (am_code M) pc = .ok (.ireturn, 1) := by decide +kernel) (hr : am_ret M = some t := by rfl) : am_W g M σ0 pc lv [.int v] σ (if narrow t (.int v) = .int v then some v else none) (am_kPI σ) := by
  intro res σ' hE
  refine aw_nret hd hr res σ' ?_
  rw [← hE]
  unfold am_rn
  split <;> rfl
theorem aw_aretP {v : Nat} {t : FieldType} (hd : decode (am_code M) pc = .ok (.areturn, 1) := by decide +kernel) (hr : am_ret M = some t := by rfl) (ht : am_isR t = true := by rfl) : am_W g M σ0 pc lv [.ref v] σ (some v) (am_kPA σ) := by
  intro res σ' hE
  exact aw_aret hd hr ht res σ' hE
theorem aw_callPI {n : Nat} {X : Option Int32} {F : Int32 → Option β} (hgo : am_go g M M' σ pc as st) (hcal : am_cal M' n) (hfit : am_fit M M') (hr : ((st.map (am_up g)).map fun v => v.category).sum ≤ 8) (hM : am_Met g M' as σ (X.bind (am_kPI σ)))
    (kk : ∀ v, am_W g M σ0 (pc + 3) lv (.int v :: st) σ (F v) k) : am_W g M σ0 pc lv (as.reverse ++ st) σ (X.bind F) k :=
  am_W.bindI fun v h => by
    obtain ⟨m1, m2, mt⟩ := hM (.returned (some (.int v))) σ (by rw [h]; rfl)
    exact am_W.ret1 hgo hcal hfit hr m1 m2 mt (kk v)
theorem aw_callPA {n : Nat} {X : Option Nat} {F : Nat → Option β} (hgo : am_go g M M' σ pc as st) (hcal : am_cal M' n) (hfit : am_fit M M') (hr : ((st.map (am_up g)).map fun v => v.category).sum ≤ 8) (hM : am_Met g M' as σ (X.bind (am_kPA σ)))
    (kk : ∀ v, am_W g M σ0 (pc + 3) lv (.ref v :: st) σ (F v) k) : am_W g M σ0 pc lv (as.reverse ++ st) σ (X.bind F) k :=
  am_W.bindI fun v h => by
    obtain ⟨m1, m2, mt⟩ := hM (.returned (some (.ref v))) σ (by rw [h]; rfl)
    exact am_W.ret1 hgo hcal hfit hr m1 m2 mt (kk v)
theorem aw_call2I {n : Nat} {X : Option (Int32 × am_S)} {F : Int32 → am_S → Option β} (hgo : am_go g M M' σ pc as st) (hcal : am_cal M' n) (hfit : am_fit M M') (hr : ((st.map (am_up g)).map fun v => v.category).sum ≤ 8) (hM : am_Met g M' as σ (X.bind am_kI))
    (kk : ∀ v σ1, am_W g M σ0 (pc + 3) lv (.int v :: st) σ1 (F v σ1) k) : am_W g M σ0 pc lv (as.reverse ++ st) σ (am_b2 X F) k :=
  aw_callI (F := fun x => F x.1 x.2) hgo hcal hfit hr hM kk
theorem aw_call2A {n : Nat} {X : Option (Nat × am_S)} {F : Nat → am_S → Option β} (hgo : am_go g M M' σ pc as st) (hcal : am_cal M' n) (hfit : am_fit M M') (hr : ((st.map (am_up g)).map fun v => v.category).sum ≤ 8) (hM : am_Met g M' as σ (X.bind am_kA))
    (kk : ∀ v σ1, am_W g M σ0 (pc + 3) lv (.ref v :: st) σ1 (F v σ1) k) : am_W g M σ0 pc lv (as.reverse ++ st) σ (am_b2 X F) k :=
  aw_callA (F := fun x => F x.1 x.2) hgo hcal hfit hr hM kk
theorem aw_calltI {n : Nat} {X : Option ((Nat ⊕ Int32) × am_S)} {T : Nat → am_S → Option β} {F : Int32 → am_S → Option β} (hgo : am_go g M M' σ pc as st) (hcal : am_cal M' n) (hfit : am_fit M M') (hr : ((st.map (am_up g)).map fun v => v.category).sum ≤ 8) (hM : am_Met g M' as σ (X.bind am_kTI))
    (kt : ∀ a σ1, am_T g M σ0 pc lv st σ1 a (T a σ1) k) (kk : ∀ v σ1, am_W g M σ0 (pc + 3) lv (.int v :: st) σ1 (F v σ1) k) : am_W g M σ0 pc lv (as.reverse ++ st) σ (am_bt X T F) k :=
  aw_callTI (F := am_btf T F) hgo hcal hfit hr hM kk kt
theorem aw_calltV {n : Nat} {X : Option ((Nat ⊕ Unit) × am_S)} {T : Nat → am_S → Option β} {F : Unit → am_S → Option β} (hgo : am_go g M M' σ pc as st) (hcal : am_cal M' n) (hfit : am_fit M M') (hr : ((st.map (am_up g)).map fun v => v.category).sum ≤ 8) (hM : am_Met g M' as σ (X.bind am_kTV))
    (kt : ∀ a σ1, am_T g M σ0 pc lv st σ1 a (T a σ1) k) (kk : ∀ σ1, am_W g M σ0 (pc + 3) lv st σ1 (F () σ1) k) : am_W g M σ0 pc lv (as.reverse ++ st) σ (am_bt X T F) k :=
  aw_callTV (F := am_btf T F) hgo hcal hfit hr hM kk kt
/-! arrays made -/
theorem aw_na2 (t : ArrayType) {ty : FieldType} {n : Int32} {F : Nat → am_S → Option β} (hd : decode (am_code M) pc = .ok (.newarray t, 2) := by decide +kernel) (hty : newarray.typeOf t = ty := by rfl) (hw : Cond.arrayClass ty ∈ lw_tbl)
    (kk : ∀ a σ1, am_W g M σ0 (pc + 2) lv (.ref a :: st) σ1 (F a σ1) k) : am_W g M σ0 pc lv (.int n :: st) σ (am_b2 (am_na σ ty n) F) k :=
  aw_na t (F := fun x => F x.1 x.2) hd hty hw kk
theorem aw_nA2 (c idx : Nat) {n : Int32} {F : Nat → am_S → Option β} (hd : decode (am_code M) pc = .ok (.anewarray idx, 3) := by decide +kernel) (hw : Cond.classLink (am_name M).cls idx (am_cn c) ∈ lw_tbl) (hw2 : Cond.arrayOver (.object (am_cn c)) ∈ lw_tbl)
    (kk : ∀ a σ1, am_W g M σ0 (pc + 3) lv (.ref a :: st) σ1 (F a σ1) k) : am_W g M σ0 pc lv (.int n :: st) σ (am_b2 (am_nA σ c n) F) k :=
  aw_nA c idx (F := fun x => F x.1 x.2) hd hw hw2 kk
/-! a method that may throw: its returns -/
theorem aw_iretT {v : Int32} (hd : decode (am_code M) pc = .ok (.ireturn, 1) := by decide +kernel) (hr : am_ret M = some .int := by rfl) : am_W g M σ0 pc lv [.int v] σ (some (.inr v, σ)) am_kTI := by
  intro res σ' hE
  exact aw_iret hd hr res σ' hE
theorem aw_vretT (hd : decode (am_code M) pc = .ok (.return_, 1) := by decide +kernel) (hr : am_ret M = none := by rfl) : am_W g M σ0 pc lv [] σ (some (.inr (), σ)) am_kTV := by
  intro res σ' hE
  exact aw_vret hd hr res σ' hE
theorem at_outI {a : Nat} (hb : am_bare M pc = true := by decide) : am_T g M σ0 pc lv st σ a (some ((.inl a : Nat ⊕ Int32), σ)) am_kTI := at_out rfl hb
theorem at_outV {a : Nat} (hb : am_bare M pc = true := by decide) : am_T g M σ0 pc lv st σ a (some ((.inl a : Nat ⊕ Unit), σ)) am_kTV := at_out rfl hb
/-! catches -/
theorem am_T.none {a : Nat} : am_T g M σ0 pc lv st σ a (none : Option β) k := by
  intro res σ' hE
  cases hE
theorem at_c1 (c0 : Nat) {a : Nat} {q : Nat × Nat × Nat × Nat} (hh : am_hand M = [q] := by rfl) (h1 : q.1 ≤ pc := by decide) (h2 : pc < q.2.1 := by decide) (h0 : q.2.2.2 ≠ 0 := by decide) (hc : c0 < am_NC := by decide) (hw : Cond.classLink (am_name M).cls q.2.2.2 (am_cn c0) ∈ lw_tbl)
    (kk : am_W g M σ0 q.2.2.1 lv [.ref a] σ E k) : am_T g M σ0 pc lv st σ a (if am_isx σ c0 a = true then E else none) k := by
  by_cases hx : am_isx σ c0 a = true
  · rw [if_pos hx]
    obtain ⟨fs, ha⟩ := am_isx_some hx
    exact at_catch1 c0 hh h1 h2 h0 hc hw ha kk
  · rw [if_neg hx]
    exact am_T.none
theorem at_c2 (c0 c1 : Nat) {a : Nat} {q q' : Nat × Nat × Nat × Nat} (hh : am_hand M = [q, q'] := by rfl) (h1 : q.1 ≤ pc := by decide) (h2 : pc < q.2.1 := by decide) (h0 : q.2.2.2 ≠ 0 := by decide) (h1' : q'.1 ≤ pc := by decide) (h2' : pc < q'.2.1 := by decide) (h0' : q'.2.2.2 ≠ 0 := by decide) (hc0 : c0 < am_NC := by decide) (hc1 : c1 < am_NC := by decide)
    (hw : Cond.classLink (am_name M).cls q.2.2.2 (am_cn c0) ∈ lw_tbl) (hw' : Cond.classLink (am_name M).cls q'.2.2.2 (am_cn c1) ∈ lw_tbl) (hno : am_K g → g.1.vm.assignable (g.2.2.1 c1) (g.2.2.1 c0) = false)
    (kk : am_W g M σ0 q.2.2.1 lv [.ref a] σ E1 k) (kk' : am_W g M σ0 q'.2.2.1 lv [.ref a] σ E2 k) : am_T g M σ0 pc lv st σ a (if am_isx σ c0 a = true then E1 else if am_isx σ c1 a = true then E2 else none) k := by
  by_cases hx : am_isx σ c0 a = true
  · rw [if_pos hx]
    obtain ⟨fs, ha⟩ := am_isx_some hx
    exact at_catch1 c0 hh h1 h2 h0 hc0 hw ha kk
  · rw [if_neg hx]
    by_cases hy : am_isx σ c1 a = true
    · rw [if_pos hy]
      obtain ⟨fs, ha⟩ := am_isx_some hy
      exact at_catch2 c1 c0 hh h1 h2 h0 h1' h2' h0' hc1 hc0 hno hw hw' ha kk'
    · rw [if_neg hy]
      exact am_T.none
/-! switches -/
theorem am_tsout {x : Int32} {lo hi : Int} (h : ∀ z : Int, lo ≤ z → z ≤ hi → x.toInt ≠ z) : x.toInt < lo ∨ hi < x.toInt := by
  by_cases h1 : x.toInt < lo
  · exact Or.inl h1
  · by_cases h2 : hi < x.toInt
    · exact Or.inr h2
    · exact absurd rfl (h x.toInt (by omega) (by omega))
theorem am_neI {x y : Int32} {z : Int} (h : ¬ x = y) (hz : y.toInt = z) : x.toInt ≠ z := fun h2 => h (Int32.toInt_inj.mp (h2.trans hz.symm))
theorem aw_ldcw (i : Nat) {v : Int32} (hd : decode (am_code M) pc = .ok (.ldc_w i, 3) := by decide +kernel) (hw : Cond.constant (am_name M).cls i v ∈ lw_tbl) (kk : am_W g M σ0 (pc + 3) lv (.int v :: st) σ E k) : am_W g M σ0 pc lv st σ E k := by
  refine kk.pure fun {p l e R s m args below meth c0 H locs cells slots Q ls} C hL w => ?_
  obtain ⟨c1, c2, c3, c4, c5, c6, c7, c8, c9, c10, c11, hW, hK⟩ := C
  intro T hT X
  obtain ⟨t, t1, t2⟩ := w T hT X
  refine ⟨t, ?_, t2⟩
  obtain ⟨kC, cf, bytes, hk, hcf, hcp, hb⟩ := Cond.constant_spec c4 (am_word (args := args) hK hW hw rfl)
  obtain ⟨k', hk', he⟩ := X.warmed.alike.2.2 _ _ hk
  have hd' : decode c0.code pc = .ok (.ldc_w i, 3) := by rw [c2]; exact hd
  jvm_step X.here [c1, hd', ldc_w.wp_int (s := T) (f := F0 m pc ls (st.map (am_up g))) X.here.top hk' (by rw [he]; exact hcf) hcp, hb]
  exact t1
end MR
end
section
/-! ===== calls whose receiver is known to be there because the callee's function says something ===== -/
def am_ck {α : Type} (σ : am_S) (c a : Nat) (X : Option α) : Option α := if am_isx σ c a = true then X else none
theorem am_ck_some {α : Type} {σ : am_S} {c a : Nat} {X : Option α} (h : (am_ck σ c a X).isSome = true) : ∃ fs, σ.2.2 a = some (.inr (c, fs)) := by
  unfold am_ck at h
  split at h
  · rename_i h1
    exact am_isx_some h1
  · cases h
theorem am_ck_of {α : Type} {σ : am_S} {c a : Nat} {X : Option α} {fs : List Value} (h : σ.2.2 a = some (.inr (c, fs))) : am_ck σ c a X = X := by
  unfold am_ck am_isx
  rw [h]
  simp
theorem am_cc {v : Value} {l : List Value} (h : v.category = 1) (t : ∀ w ∈ l, w.category = 1) : ∀ w ∈ v :: l, w.category = 1 := List.forall_mem_cons.mpr ⟨h, t⟩
theorem am_c0 : ∀ w ∈ ([] : List Value), w.category = 1 := fun _ h => absurd h List.not_mem_nil
section CK
variable {g : am_G} {M M' : am_M} {σ0 σ : am_S} {pc : Nat} {lv : List (Option Value)} {st : List Value} {β : Type} {E : Option β} {k : β → Option (Outcome × am_S)}
theorem am_W.ck {c a : Nat} (kk : am_W g M σ0 pc lv st σ E k) : am_W g M σ0 pc lv st σ (am_ck σ c a E) k := am_W.ite (fun _ => kk) fun _ => am_W.none
def am_wt (g : am_G) (st : List Value) : Prop := ((st.map (am_up g)).map fun v => v.category).sum ≤ 8
theorem ac_PI (as : List Value) {n : Nat} {X : Option Int32} {F : Int32 → Option β} (hgo : X.isSome = true → am_go g M M' σ pc as st) (hcal : am_cal M' n) (hfit : am_fit M M') (hr : am_wt g st) (hM : am_Met g M' as σ (X.bind (am_kPI σ)))
    (kk : ∀ v, am_W g M σ0 (pc + 3) lv (.int v :: st) σ (F v) k) : am_W g M σ0 pc lv (as.reverse ++ st) σ (X.bind F) k := by
  cases X with
  | none => exact am_W.none
  | some x => exact aw_callPI (hgo rfl) hcal hfit hr hM kk
theorem ac_PA (as : List Value) {n : Nat} {X : Option Nat} {F : Nat → Option β} (hgo : X.isSome = true → am_go g M M' σ pc as st) (hcal : am_cal M' n) (hfit : am_fit M M') (hr : am_wt g st) (hM : am_Met g M' as σ (X.bind (am_kPA σ)))
    (kk : ∀ v, am_W g M σ0 (pc + 3) lv (.ref v :: st) σ (F v) k) : am_W g M σ0 pc lv (as.reverse ++ st) σ (X.bind F) k := by
  cases X with
  | none => exact am_W.none
  | some x => exact aw_callPA (hgo rfl) hcal hfit hr hM kk
theorem ac_I (as : List Value) {n : Nat} {X : Option (Int32 × am_S)} {F : Int32 → am_S → Option β} (hgo : X.isSome = true → am_go g M M' σ pc as st) (hcal : am_cal M' n) (hfit : am_fit M M') (hr : am_wt g st) (hM : am_Met g M' as σ (X.bind am_kI))
    (kk : ∀ v σ1, am_W g M σ0 (pc + 3) lv (.int v :: st) σ1 (F v σ1) k) : am_W g M σ0 pc lv (as.reverse ++ st) σ (am_b2 X F) k := by
  cases X with
  | none => exact am_W.none
  | some x => exact aw_call2I (hgo rfl) hcal hfit hr hM kk
theorem ac_A (as : List Value) {n : Nat} {X : Option (Nat × am_S)} {F : Nat → am_S → Option β} (hgo : X.isSome = true → am_go g M M' σ pc as st) (hcal : am_cal M' n) (hfit : am_fit M M') (hr : am_wt g st) (hM : am_Met g M' as σ (X.bind am_kA))
    (kk : ∀ v σ1, am_W g M σ0 (pc + 3) lv (.ref v :: st) σ1 (F v σ1) k) : am_W g M σ0 pc lv (as.reverse ++ st) σ (am_b2 X F) k := by
  cases X with
  | none => exact am_W.none
  | some x => exact aw_call2A (hgo rfl) hcal hfit hr hM kk
theorem ac_V (as : List Value) {n : Nat} {X : Option am_S} {F : am_S → Option β} (hgo : X.isSome = true → am_go g M M' σ pc as st) (hcal : am_cal M' n) (hfit : am_fit M M') (hr : am_wt g st) (hM : am_Met g M' as σ (X.bind am_kV))
    (kk : ∀ σ1, am_W g M σ0 (pc + 3) lv st σ1 (F σ1) k) : am_W g M σ0 pc lv (as.reverse ++ st) σ (X.bind F) k := by
  cases X with
  | none => exact am_W.none
  | some x => exact aw_callV (hgo rfl) hcal hfit hr hM kk
theorem ac_TI (as : List Value) {n : Nat} {X : Option ((Nat ⊕ Int32) × am_S)} {T : Nat → am_S → Option β} {F : Int32 → am_S → Option β} (hgo : X.isSome = true → am_go g M M' σ pc as st) (hcal : am_cal M' n) (hfit : am_fit M M') (hr : am_wt g st) (hM : am_Met g M' as σ (X.bind am_kTI))
    (kt : ∀ a σ1, am_T g M σ0 pc lv st σ1 a (T a σ1) k) (kk : ∀ v σ1, am_W g M σ0 (pc + 3) lv (.int v :: st) σ1 (F v σ1) k) : am_W g M σ0 pc lv (as.reverse ++ st) σ (am_bt X T F) k := by
  cases X with
  | none => exact am_W.none
  | some x => exact aw_calltI (hgo rfl) hcal hfit hr hM kt kk
theorem ac_TV (as : List Value) {n : Nat} {X : Option ((Nat ⊕ Unit) × am_S)} {T : Nat → am_S → Option β} {F : Unit → am_S → Option β} (hgo : X.isSome = true → am_go g M M' σ pc as st) (hcal : am_cal M' n) (hfit : am_fit M M') (hr : am_wt g st) (hM : am_Met g M' as σ (X.bind am_kTV))
    (kt : ∀ a σ1, am_T g M σ0 pc lv st σ1 a (T a σ1) k) (kk : ∀ σ1, am_W g M σ0 (pc + 3) lv st σ1 (F () σ1) k) : am_W g M σ0 pc lv (as.reverse ++ st) σ (am_bt X T F) k := by
  cases X with
  | none => exact am_W.none
  | some x => exact aw_calltV (hgo rfl) hcal hfit hr hM kt kk
/-- a virtual call's way, its receiver's presence out of the callee's function -/
theorem ag_V (idx c0 : Nat) {a : Nat} {As : List Value} {α : Type} {X : Option α} (hr : X.isSome = true → ∃ fs, σ.2.2 a = some (.inr (c0, fs))) (hw : Cond.methodLink (am_name M).cls idx (am_name M') ∈ lw_tbl) (hc : am_cal M' As.length) (hi : Cond.instanceMethod (am_name M') ∈ lw_tbl) (hs : Cond.selects (am_cn c0) (am_name M') (am_name M') ∈ lw_tbl)
    (hd : decode (am_code M) pc = .ok (.invokevirtual idx, 3) := by decide +kernel) (hc0 : c0 < am_NC := by decide) : X.isSome = true → am_go g M M' σ pc (.ref a :: As) st := fun h => by
  obtain ⟨fs, ha⟩ := hr h
  exact am_goV idx c0 hd hw hc hi hs hc0 ha
theorem ag_S (idx : Nat) {As : List Value} {α : Type} {X : Option α} (hw : Cond.methodLink (am_name M).cls idx (am_name M') ∈ lw_tbl) (hc : am_cal M' As.length) (hst : Cond.static (am_name M') ∈ lw_tbl) (hd : decode (am_code M) pc = .ok (.invokestatic idx, 3) := by decide +kernel) : X.isSome = true → am_go g M M' σ pc As st := fun _ => am_goS idx hd hw hc hst
theorem ag_I (idx : Nat) {a : Nat} {As : List Value} {α : Type} {X : Option α} (hw : Cond.methodLink (am_name M).cls idx (am_name M') ∈ lw_tbl) (hc : am_cal M' As.length) (hi : Cond.instanceMethod (am_name M') ∈ lw_tbl) (hd : decode (am_code M) pc = .ok (.invokespecial idx, 3) := by decide +kernel) (hy1 : (am_name M').name = "<init>" := by rfl) (hh : am_hand M' = [] := by rfl) (hret : am_ret M' = none := by rfl) : X.isSome = true → am_go g M M' σ pc (.ref a :: As) st := fun _ => am_goI idx hd hw hc hi hy1 hh hret
theorem ag_IN (idx : Nat) (host : String) {a : Nat} {As : List Value} {α : Type} {X : Option α} (hw : Cond.methodLinkNest (am_name M).cls idx (am_name M') host ∈ lw_tbl) (hc : am_cal M' As.length) (hi : Cond.instanceMethod (am_name M') ∈ lw_tbl) (hd : decode (am_code M) pc = .ok (.invokespecial idx, 3) := by decide +kernel) (hy1 : (am_name M').name = "<init>" := by rfl) (hh : am_hand M' = [] := by rfl) (hret : am_ret M' = none := by rfl) : X.isSome = true → am_go g M M' σ pc (.ref a :: As) st := fun _ => am_goIN idx host hd hw hc hi hy1 hh hret
end CK
end
section
/-! ===== printed by wip/gen: the words that are used, by their places ===== -/
theorem am_m1 {w : Cond} (h : w ∈ tables_1_1) : w ∈ lw_tbl := List.mem_append_right _ (List.mem_append_left _ h)
theorem am_m2 {w : Cond} (h : w ∈ tables_1_2) : w ∈ lw_tbl := List.mem_append_right _ (List.mem_append_right _ (List.mem_append_left _ h))
theorem am_m3 {w : Cond} (h : w ∈ tables_1_3) : w ∈ lw_tbl := List.mem_append_right _ (List.mem_append_right _ (List.mem_append_right _ (List.mem_append_left _ h)))
theorem am_m4 {w : Cond} (h : w ∈ tables_1_4) : w ∈ lw_tbl := List.mem_append_right _ (List.mem_append_right _ (List.mem_append_right _ (List.mem_append_right _ (List.mem_append_left _ h))))
theorem am_m5 {w : Cond} (h : w ∈ tables_1_5) : w ∈ lw_tbl := List.mem_append_right _ (List.mem_append_right _ (List.mem_append_right _ (List.mem_append_right _ (List.mem_append_right _ (List.mem_append_left _ h)))))
theorem am_m6 {w : Cond} (h : w ∈ tables_1_6) : w ∈ lw_tbl := List.mem_append_right _ (List.mem_append_right _ (List.mem_append_right _ (List.mem_append_right _ (List.mem_append_right _ (List.mem_append_right _ (List.mem_append_left _ h))))))
theorem am_m7 {w : Cond} (h : w ∈ tables_1_7) : w ∈ lw_tbl := List.mem_append_right _ (List.mem_append_right _ (List.mem_append_right _ (List.mem_append_right _ (List.mem_append_right _ (List.mem_append_right _ (List.mem_append_right _ (h)))))))
theorem wd_0 : Cond.initialized "MapMergerLaw" ∈ lw_tbl := am_m1 (List.mem_of_getElem? (i := 0) rfl)
theorem wd_1 : Cond.initialized "MapMerger" ∈ lw_tbl := am_m1 (List.mem_of_getElem? (i := 1) rfl)
theorem wd_2 : Cond.initialized "MapMerger$Inbox" ∈ lw_tbl := am_m1 (List.mem_of_getElem? (i := 2) rfl)
theorem wd_3 : Cond.initialized "MapMerger$Blobs" ∈ lw_tbl := am_m1 (List.mem_of_getElem? (i := 3) rfl)
theorem wd_4 : Cond.initialized "MapMerger$LineTable" ∈ lw_tbl := am_m1 (List.mem_of_getElem? (i := 4) rfl)
theorem wd_5 : Cond.initialized "MapMerger$PathMap" ∈ lw_tbl := am_m1 (List.mem_of_getElem? (i := 5) rfl)
theorem wd_6 : Cond.initialized "MapMerger$Renames" ∈ lw_tbl := am_m1 (List.mem_of_getElem? (i := 6) rfl)
theorem wd_7 : Cond.initialized "MapMerger$Merging" ∈ lw_tbl := am_m1 (List.mem_of_getElem? (i := 7) rfl)
theorem wd_8 : Cond.initialized "MapMerger$TextMerger" ∈ lw_tbl := am_m1 (List.mem_of_getElem? (i := 8) rfl)
theorem wd_9 : Cond.initialized "MapMerger$Part" ∈ lw_tbl := am_m1 (List.mem_of_getElem? (i := 9) rfl)
theorem wd_10 : Cond.initialized "MapMerger$Outcomes" ∈ lw_tbl := am_m1 (List.mem_of_getElem? (i := 10) rfl)
theorem wd_11 : Cond.initialized "MapMergerModel" ∈ lw_tbl := am_m1 (List.mem_of_getElem? (i := 11) rfl)
theorem wd_12 : Cond.initialized "MapMergerModel$Paths" ∈ lw_tbl := am_m1 (List.mem_of_getElem? (i := 12) rfl)
theorem wd_13 : Cond.initialized "MapMergerModel$Row" ∈ lw_tbl := am_m1 (List.mem_of_getElem? (i := 13) rfl)
theorem wd_17 : Cond.initialized "java/lang/IllegalStateException" ∈ lw_tbl := am_m1 (List.mem_of_getElem? (i := 17) rfl)
theorem wd_18 : Cond.initialized "java/lang/IllegalArgumentException" ∈ lw_tbl := am_m1 (List.mem_of_getElem? (i := 18) rfl)
theorem wd_19 : Cond.initialized "java/lang/System" ∈ lw_tbl := am_m1 (List.mem_of_getElem? (i := 19) rfl)
theorem wd_20 : Cond.initialized "MapMerger$Rows" ∈ lw_tbl := am_m1 (List.mem_of_getElem? (i := 20) rfl)
theorem wd_21 : Cond.initialized "java/lang/Math" ∈ lw_tbl := am_m1 (List.mem_of_getElem? (i := 21) rfl)
theorem wd_22 : Cond.initialized "java/util/NoSuchElementException" ∈ lw_tbl := am_m1 (List.mem_of_getElem? (i := 22) rfl)
theorem wd_23 : Cond.initialized "java/lang/String" ∈ lw_tbl := am_m1 (List.mem_of_getElem? (i := 23) rfl)
theorem wd_24 : Cond.initialized "java/lang/StringLatin1" ∈ lw_tbl := am_m1 (List.mem_of_getElem? (i := 24) rfl)
theorem wd_25 : Cond.initialized "jdk/internal/util/Preconditions" ∈ lw_tbl := am_m1 (List.mem_of_getElem? (i := 25) rfl)
theorem wd_31 : Cond.code ⟨"MapMerger", "<init>", "()V"⟩ prog_1_method_1_code 2 none ∈ lw_tbl := am_m1 (List.mem_of_getElem? (i := 31) rfl)
theorem wd_32 : Cond.methodLink "MapMerger" 1 ⟨"java/lang/Object", "<init>", "()V"⟩ ∈ lw_tbl := am_m1 (List.mem_of_getElem? (i := 32) rfl)
theorem wd_33 : Cond.instanceMethod ⟨"java/lang/Object", "<init>", "()V"⟩ ∈ lw_tbl := am_m1 (List.mem_of_getElem? (i := 33) rfl)
theorem wd_34 : Cond.code ⟨"java/lang/Object", "<init>", "()V"⟩ object_method_1_code 1 none ∈ lw_tbl := am_m1 (List.mem_of_getElem? (i := 34) rfl)
theorem wd_35 : Cond.classLink "MapMerger" 7 "MapMerger$Inbox" ∈ lw_tbl := am_m1 (List.mem_of_getElem? (i := 35) rfl)
theorem wd_36 : Cond.instantiable "MapMerger$Inbox" 4 ∈ lw_tbl := am_m1 (List.mem_of_getElem? (i := 36) rfl)
theorem wd_37 : Cond.methodLinkNest "MapMerger" 9 ⟨"MapMerger$Inbox", "<init>", "()V"⟩ "MapMerger" ∈ lw_tbl := am_m1 (List.mem_of_getElem? (i := 37) rfl)
theorem wd_38 : Cond.instanceMethod ⟨"MapMerger$Inbox", "<init>", "()V"⟩ ∈ lw_tbl := am_m1 (List.mem_of_getElem? (i := 38) rfl)
theorem wd_39 : Cond.code ⟨"MapMerger$Inbox", "<init>", "()V"⟩ prog_3_method_1_code 1 none ∈ lw_tbl := am_m1 (List.mem_of_getElem? (i := 39) rfl)
theorem wd_40 : Cond.methodLink "MapMerger$Inbox" 3 ⟨"java/lang/Object", "<init>", "()V"⟩ ∈ lw_tbl := am_m1 (List.mem_of_getElem? (i := 40) rfl)
theorem wd_41 : Cond.fieldLink "MapMerger$Inbox" 9 "MapMerger$Inbox" "bytes" "[B" ∈ lw_tbl := am_m1 (List.mem_of_getElem? (i := 41) rfl)
theorem wd_42 : Cond.fieldLink "MapMerger$Inbox" 15 "MapMerger$Inbox" "ends" "[I" ∈ lw_tbl := am_m1 (List.mem_of_getElem? (i := 42) rfl)
theorem wd_43 : Cond.fieldLink "MapMerger$Inbox" 19 "MapMerger$Inbox" "arguments" "I" ∈ lw_tbl := am_m1 (List.mem_of_getElem? (i := 43) rfl)
theorem wd_44 : Cond.fieldLink "MapMerger$Inbox" 27 "MapMerger$Inbox" "length" "I" ∈ lw_tbl := am_m1 (List.mem_of_getElem? (i := 44) rfl)
theorem wd_54 : Cond.arrayClass FieldType.byte ∈ lw_tbl := am_m1 (List.mem_of_getElem? (i := 54) rfl)
theorem wd_55 : Cond.arrayClass FieldType.int ∈ lw_tbl := am_m1 (List.mem_of_getElem? (i := 55) rfl)
theorem wd_56 : Cond.classLink "MapMerger" 16 "MapMerger$Blobs" ∈ lw_tbl := am_m1 (List.mem_of_getElem? (i := 56) rfl)
theorem wd_57 : Cond.instantiable "MapMerger$Blobs" 8 ∈ lw_tbl := am_m1 (List.mem_of_getElem? (i := 57) rfl)
theorem wd_58 : Cond.methodLinkNest "MapMerger" 18 ⟨"MapMerger$Blobs", "<init>", "()V"⟩ "MapMerger" ∈ lw_tbl := am_m1 (List.mem_of_getElem? (i := 58) rfl)
theorem wd_59 : Cond.instanceMethod ⟨"MapMerger$Blobs", "<init>", "()V"⟩ ∈ lw_tbl := am_m1 (List.mem_of_getElem? (i := 59) rfl)
theorem wd_60 : Cond.code ⟨"MapMerger$Blobs", "<init>", "()V"⟩ prog_2_method_1_code 1 none ∈ lw_tbl := am_m1 (List.mem_of_getElem? (i := 60) rfl)
theorem wd_61 : Cond.methodLink "MapMerger$Blobs" 3 ⟨"java/lang/Object", "<init>", "()V"⟩ ∈ lw_tbl := am_m1 (List.mem_of_getElem? (i := 61) rfl)
theorem wd_62 : Cond.constant "MapMerger$Blobs" 9 32768 ∈ lw_tbl := am_m1 (List.mem_of_getElem? (i := 62) rfl)
theorem wd_63 : Cond.classLink "MapMerger$Blobs" 30 "MapMerger$LineTable" ∈ lw_tbl := am_m1 (List.mem_of_getElem? (i := 63) rfl)
theorem wd_64 : Cond.instantiable "MapMerger$LineTable" 7 ∈ lw_tbl := am_m1 (List.mem_of_getElem? (i := 64) rfl)
theorem wd_65 : Cond.methodLink "MapMerger$Blobs" 32 ⟨"MapMerger$LineTable", "<init>", "([B)V"⟩ ∈ lw_tbl := am_m1 (List.mem_of_getElem? (i := 65) rfl)
theorem wd_66 : Cond.instanceMethod ⟨"MapMerger$LineTable", "<init>", "([B)V"⟩ ∈ lw_tbl := am_m1 (List.mem_of_getElem? (i := 66) rfl)
theorem wd_67 : Cond.code ⟨"MapMerger$LineTable", "<init>", "([B)V"⟩ prog_4_method_1_code 2 none ∈ lw_tbl := am_m1 (List.mem_of_getElem? (i := 67) rfl)
theorem wd_68 : Cond.methodLink "MapMerger$LineTable" 3 ⟨"java/lang/Object", "<init>", "()V"⟩ ∈ lw_tbl := am_m1 (List.mem_of_getElem? (i := 68) rfl)
theorem wd_69 : Cond.constant "MapMerger$LineTable" 9 32768 ∈ lw_tbl := am_m1 (List.mem_of_getElem? (i := 69) rfl)
theorem wd_70 : Cond.fieldLink "MapMerger$LineTable" 28 "MapMerger$LineTable" "bytes" "[B" ∈ lw_tbl := am_m1 (List.mem_of_getElem? (i := 70) rfl)
theorem wd_71 : Cond.fieldLink "MapMerger$LineTable" 10 "MapMerger$LineTable" "starts" "[I" ∈ lw_tbl := am_m1 (List.mem_of_getElem? (i := 71) rfl)
theorem wd_72 : Cond.fieldLinkNest "MapMerger$Blobs" 49 "MapMerger$LineTable" "starts" "[I" "MapMerger" ∈ lw_tbl := am_m1 (List.mem_of_getElem? (i := 72) rfl)
theorem wd_73 : Cond.fieldLink "MapMerger$LineTable" 16 "MapMerger$LineTable" "lengths" "[I" ∈ lw_tbl := am_m1 (List.mem_of_getElem? (i := 73) rfl)
theorem wd_74 : Cond.fieldLinkNest "MapMerger$Blobs" 102 "MapMerger$LineTable" "lengths" "[I" "MapMerger" ∈ lw_tbl := am_m1 (List.mem_of_getElem? (i := 74) rfl)
theorem wd_75 : Cond.fieldLink "MapMerger$LineTable" 19 "MapMerger$LineTable" "kinds" "[I" ∈ lw_tbl := am_m1 (List.mem_of_getElem? (i := 75) rfl)
theorem wd_76 : Cond.fieldLinkNest "MapMerger$Blobs" 46 "MapMerger$LineTable" "kinds" "[I" "MapMerger" ∈ lw_tbl := am_m1 (List.mem_of_getElem? (i := 76) rfl)
theorem wd_77 : Cond.fieldLink "MapMerger$LineTable" 22 "MapMerger$LineTable" "heads" "[I" ∈ lw_tbl := am_m1 (List.mem_of_getElem? (i := 77) rfl)
theorem wd_78 : Cond.fieldLink "MapMerger$LineTable" 25 "MapMerger$LineTable" "chain" "[I" ∈ lw_tbl := am_m1 (List.mem_of_getElem? (i := 78) rfl)
theorem wd_79 : Cond.fieldLink "MapMerger$LineTable" 40 "MapMerger$LineTable" "size" "I" ∈ lw_tbl := am_m1 (List.mem_of_getElem? (i := 79) rfl)
theorem wd_80 : Cond.fieldLinkNest "MapMerger$Blobs" 91 "MapMerger$LineTable" "size" "I" "MapMerger" ∈ lw_tbl := am_m1 (List.mem_of_getElem? (i := 80) rfl)
theorem wd_96 : Cond.arrayClass FieldType.boolean ∈ lw_tbl := am_m1 (List.mem_of_getElem? (i := 96) rfl)
theorem wd_97 : Cond.fieldLink "MapMerger$Blobs" 10 "MapMerger$Blobs" "bytes" "[B" ∈ lw_tbl := am_m1 (List.mem_of_getElem? (i := 97) rfl)
theorem wd_98 : Cond.fieldLink "MapMerger$Blobs" 16 "MapMerger$Blobs" "starts" "[I" ∈ lw_tbl := am_m1 (List.mem_of_getElem? (i := 98) rfl)
theorem wd_99 : Cond.fieldLink "MapMerger$Blobs" 20 "MapMerger$Blobs" "rough" "[Z" ∈ lw_tbl := am_m1 (List.mem_of_getElem? (i := 99) rfl)
theorem wd_100 : Cond.fieldLink "MapMerger$Blobs" 24 "MapMerger$Blobs" "firstLines" "[I" ∈ lw_tbl := am_m1 (List.mem_of_getElem? (i := 100) rfl)
theorem wd_101 : Cond.fieldLink "MapMerger$Blobs" 27 "MapMerger$Blobs" "lineCounts" "[I" ∈ lw_tbl := am_m1 (List.mem_of_getElem? (i := 101) rfl)
theorem wd_102 : Cond.fieldLink "MapMerger$Blobs" 35 "MapMerger$Blobs" "lines" "LMapMerger$LineTable;" ∈ lw_tbl := am_m1 (List.mem_of_getElem? (i := 102) rfl)
theorem wd_103 : Cond.fieldLink "MapMerger$Blobs" 39 "MapMerger$Blobs" "waiting" "[I" ∈ lw_tbl := am_m1 (List.mem_of_getElem? (i := 103) rfl)
theorem wd_104 : Cond.fieldLink "MapMerger$Blobs" 42 "MapMerger$Blobs" "size" "I" ∈ lw_tbl := am_m1 (List.mem_of_getElem? (i := 104) rfl)
theorem wd_122 : Cond.classLink "MapMerger" 23 "MapMerger$PathMap" ∈ lw_tbl := am_m1 (List.mem_of_getElem? (i := 122) rfl)
theorem wd_123 : Cond.arrayOver (FieldType.object "MapMerger$PathMap") ∈ lw_tbl := am_m1 (List.mem_of_getElem? (i := 123) rfl)
theorem wd_124 : Cond.instantiable "MapMerger$PathMap" 4 ∈ lw_tbl := am_m1 (List.mem_of_getElem? (i := 124) rfl)
theorem wd_125 : Cond.methodLinkNest "MapMerger" 29 ⟨"MapMerger$PathMap", "<init>", "()V"⟩ "MapMerger" ∈ lw_tbl := am_m1 (List.mem_of_getElem? (i := 125) rfl)
theorem wd_126 : Cond.instanceMethod ⟨"MapMerger$PathMap", "<init>", "()V"⟩ ∈ lw_tbl := am_m1 (List.mem_of_getElem? (i := 126) rfl)
theorem wd_127 : Cond.code ⟨"MapMerger$PathMap", "<init>", "()V"⟩ prog_8_method_1_code 1 none ∈ lw_tbl := am_m1 (List.mem_of_getElem? (i := 127) rfl)
theorem wd_128 : Cond.methodLink "MapMerger$PathMap" 3 ⟨"java/lang/Object", "<init>", "()V"⟩ ∈ lw_tbl := am_m1 (List.mem_of_getElem? (i := 128) rfl)
theorem wd_129 : Cond.fieldLink "MapMerger$PathMap" 9 "MapMerger$PathMap" "letters" "[B" ∈ lw_tbl := am_m1 (List.mem_of_getElem? (i := 129) rfl)
theorem wd_130 : Cond.fieldLink "MapMerger$PathMap" 15 "MapMerger$PathMap" "starts" "[I" ∈ lw_tbl := am_m1 (List.mem_of_getElem? (i := 130) rfl)
theorem wd_131 : Cond.fieldLink "MapMerger$PathMap" 19 "MapMerger$PathMap" "values" "[I" ∈ lw_tbl := am_m1 (List.mem_of_getElem? (i := 131) rfl)
theorem wd_132 : Cond.fieldLink "MapMerger$PathMap" 22 "MapMerger$PathMap" "size" "I" ∈ lw_tbl := am_m1 (List.mem_of_getElem? (i := 132) rfl)
theorem wd_142 : Cond.classLink "MapMerger" 30 "MapMerger$Renames" ∈ lw_tbl := am_m1 (List.mem_of_getElem? (i := 142) rfl)
theorem wd_143 : Cond.instantiable "MapMerger$Renames" 9 ∈ lw_tbl := am_m1 (List.mem_of_getElem? (i := 143) rfl)
theorem wd_144 : Cond.methodLink "MapMerger" 32 ⟨"MapMerger$Renames", "<init>", "(LMapMerger$Blobs;)V"⟩ ∈ lw_tbl := am_m1 (List.mem_of_getElem? (i := 144) rfl)
theorem wd_145 : Cond.instanceMethod ⟨"MapMerger$Renames", "<init>", "(LMapMerger$Blobs;)V"⟩ ∈ lw_tbl := am_m1 (List.mem_of_getElem? (i := 145) rfl)
theorem wd_146 : Cond.code ⟨"MapMerger$Renames", "<init>", "(LMapMerger$Blobs;)V"⟩ prog_9_method_1_code 2 none ∈ lw_tbl := am_m1 (List.mem_of_getElem? (i := 146) rfl)
theorem wd_147 : Cond.methodLink "MapMerger$Renames" 3 ⟨"java/lang/Object", "<init>", "()V"⟩ ∈ lw_tbl := am_m1 (List.mem_of_getElem? (i := 147) rfl)
theorem wd_148 : Cond.fieldLink "MapMerger$Renames" 31 "MapMerger$Renames" "blobs" "LMapMerger$Blobs;" ∈ lw_tbl := am_m1 (List.mem_of_getElem? (i := 148) rfl)
theorem wd_149 : Cond.fieldLink "MapMerger$Renames" 9 "MapMerger$Renames" "gone" "[I" ∈ lw_tbl := am_m1 (List.mem_of_getElem? (i := 149) rfl)
theorem wd_150 : Cond.fieldLink "MapMerger$Renames" 15 "MapMerger$Renames" "come" "[I" ∈ lw_tbl := am_m1 (List.mem_of_getElem? (i := 150) rfl)
theorem wd_151 : Cond.fieldLink "MapMerger$Renames" 18 "MapMerger$Renames" "comeTaken" "[Z" ∈ lw_tbl := am_m1 (List.mem_of_getElem? (i := 151) rfl)
theorem wd_152 : Cond.fieldLink "MapMerger$Renames" 22 "MapMerger$Renames" "scores" "[I" ∈ lw_tbl := am_m1 (List.mem_of_getElem? (i := 152) rfl)
theorem wd_153 : Cond.fieldLink "MapMerger$Renames" 25 "MapMerger$Renames" "partners" "[I" ∈ lw_tbl := am_m1 (List.mem_of_getElem? (i := 153) rfl)
theorem wd_154 : Cond.fieldLink "MapMerger$Renames" 28 "MapMerger$Renames" "partnerScores" "[I" ∈ lw_tbl := am_m1 (List.mem_of_getElem? (i := 154) rfl)
theorem wd_155 : Cond.fieldLink "MapMerger$Renames" 35 "MapMerger$Renames" "goneCount" "I" ∈ lw_tbl := am_m1 (List.mem_of_getElem? (i := 155) rfl)
theorem wd_156 : Cond.fieldLink "MapMerger$Renames" 43 "MapMerger$Renames" "comeCount" "I" ∈ lw_tbl := am_m1 (List.mem_of_getElem? (i := 156) rfl)
theorem wd_176 : Cond.classLink "MapMerger" 39 "MapMerger$Merging" ∈ lw_tbl := am_m1 (List.mem_of_getElem? (i := 176) rfl)
theorem wd_177 : Cond.instantiable "MapMerger$Merging" 15 ∈ lw_tbl := am_m1 (List.mem_of_getElem? (i := 177) rfl)
theorem wd_178 : Cond.methodLink "MapMerger" 41 ⟨"MapMerger$Merging", "<init>", "(LMapMerger$PathMap;LMapMerger$PathMap;LMapMerger$PathMap;LMapMerger$Blobs;)V"⟩ ∈ lw_tbl := am_m1 (List.mem_of_getElem? (i := 178) rfl)
theorem wd_179 : Cond.instanceMethod ⟨"MapMerger$Merging", "<init>", "(LMapMerger$PathMap;LMapMerger$PathMap;LMapMerger$PathMap;LMapMerger$Blobs;)V"⟩ ∈ lw_tbl := am_m1 (List.mem_of_getElem? (i := 179) rfl)
theorem wd_180 : Cond.code ⟨"MapMerger$Merging", "<init>", "(LMapMerger$PathMap;LMapMerger$PathMap;LMapMerger$PathMap;LMapMerger$Blobs;)V"⟩ prog_5_method_1_code 5 none ∈ lw_tbl := am_m1 (List.mem_of_getElem? (i := 180) rfl)
theorem wd_181 : Cond.methodLink "MapMerger$Merging" 3 ⟨"java/lang/Object", "<init>", "()V"⟩ ∈ lw_tbl := am_m1 (List.mem_of_getElem? (i := 181) rfl)
theorem wd_182 : Cond.classLink "MapMerger$Merging" 42 "MapMerger$Renames" ∈ lw_tbl := am_m1 (List.mem_of_getElem? (i := 182) rfl)
theorem wd_183 : Cond.methodLink "MapMerger$Merging" 44 ⟨"MapMerger$Renames", "<init>", "(LMapMerger$Blobs;)V"⟩ ∈ lw_tbl := am_m1 (List.mem_of_getElem? (i := 183) rfl)
theorem wd_184 : Cond.classLink "MapMerger$Merging" 54 "MapMerger$TextMerger" ∈ lw_tbl := am_m1 (List.mem_of_getElem? (i := 184) rfl)
theorem wd_185 : Cond.instantiable "MapMerger$TextMerger" 11 ∈ lw_tbl := am_m1 (List.mem_of_getElem? (i := 185) rfl)
theorem wd_186 : Cond.methodLink "MapMerger$Merging" 56 ⟨"MapMerger$TextMerger", "<init>", "(LMapMerger$Blobs;)V"⟩ ∈ lw_tbl := am_m1 (List.mem_of_getElem? (i := 186) rfl)
theorem wd_187 : Cond.instanceMethod ⟨"MapMerger$TextMerger", "<init>", "(LMapMerger$Blobs;)V"⟩ ∈ lw_tbl := am_m1 (List.mem_of_getElem? (i := 187) rfl)
theorem wd_188 : Cond.code ⟨"MapMerger$TextMerger", "<init>", "(LMapMerger$Blobs;)V"⟩ prog_11_method_1_code 2 none ∈ lw_tbl := am_m1 (List.mem_of_getElem? (i := 188) rfl)
theorem wd_189 : Cond.methodLink "MapMerger$TextMerger" 3 ⟨"java/lang/Object", "<init>", "()V"⟩ ∈ lw_tbl := am_m1 (List.mem_of_getElem? (i := 189) rfl)
theorem wd_190 : Cond.constant "MapMerger$TextMerger" 11 40401 ∈ lw_tbl := am_m1 (List.mem_of_getElem? (i := 190) rfl)
theorem wd_191 : Cond.constant "MapMerger$TextMerger" 22 65536 ∈ lw_tbl := am_m1 (List.mem_of_getElem? (i := 191) rfl)
theorem wd_192 : Cond.classLink "MapMerger$TextMerger" 31 "MapMerger$Part" ∈ lw_tbl := am_m1 (List.mem_of_getElem? (i := 192) rfl)
theorem wd_193 : Cond.instantiable "MapMerger$Part" 4 ∈ lw_tbl := am_m1 (List.mem_of_getElem? (i := 193) rfl)
theorem wd_194 : Cond.methodLink "MapMerger$TextMerger" 33 ⟨"MapMerger$Part", "<init>", "(LMapMerger$Blobs;)V"⟩ ∈ lw_tbl := am_m1 (List.mem_of_getElem? (i := 194) rfl)
theorem wd_195 : Cond.instanceMethod ⟨"MapMerger$Part", "<init>", "(LMapMerger$Blobs;)V"⟩ ∈ lw_tbl := am_m1 (List.mem_of_getElem? (i := 195) rfl)
theorem wd_196 : Cond.code ⟨"MapMerger$Part", "<init>", "(LMapMerger$Blobs;)V"⟩ prog_7_method_1_code 2 none ∈ lw_tbl := am_m1 (List.mem_of_getElem? (i := 196) rfl)
theorem wd_197 : Cond.methodLink "MapMerger$Part" 1 ⟨"java/lang/Object", "<init>", "()V"⟩ ∈ lw_tbl := am_m1 (List.mem_of_getElem? (i := 197) rfl)
theorem wd_198 : Cond.fieldLink "MapMerger$Part" 7 "MapMerger$Part" "blobs" "LMapMerger$Blobs;" ∈ lw_tbl := am_m1 (List.mem_of_getElem? (i := 198) rfl)
theorem wd_199 : Cond.fieldLink "MapMerger$Part" 13 "MapMerger$Part" "number" "I" ∈ lw_tbl := am_m1 (List.mem_of_getElem? (i := 199) rfl)
theorem wd_200 : Cond.fieldLink "MapMerger$Part" 17 "MapMerger$Part" "from" "I" ∈ lw_tbl := am_m1 (List.mem_of_getElem? (i := 200) rfl)
theorem wd_201 : Cond.fieldLink "MapMerger$Part" 20 "MapMerger$Part" "to" "I" ∈ lw_tbl := am_m1 (List.mem_of_getElem? (i := 201) rfl)
theorem wd_211 : Cond.fieldLink "MapMerger$TextMerger" 27 "MapMerger$TextMerger" "blobs" "LMapMerger$Blobs;" ∈ lw_tbl := am_m1 (List.mem_of_getElem? (i := 211) rfl)
theorem wd_212 : Cond.fieldLink "MapMerger$TextMerger" 36 "MapMerger$TextMerger" "base" "LMapMerger$Part;" ∈ lw_tbl := am_m1 (List.mem_of_getElem? (i := 212) rfl)
theorem wd_213 : Cond.fieldLink "MapMerger$TextMerger" 40 "MapMerger$TextMerger" "ours" "LMapMerger$Part;" ∈ lw_tbl := am_m1 (List.mem_of_getElem? (i := 213) rfl)
theorem wd_214 : Cond.fieldLink "MapMerger$TextMerger" 43 "MapMerger$TextMerger" "theirs" "LMapMerger$Part;" ∈ lw_tbl := am_m1 (List.mem_of_getElem? (i := 214) rfl)
theorem wd_215 : Cond.fieldLink "MapMerger$TextMerger" 12 "MapMerger$TextMerger" "longest" "[I" ∈ lw_tbl := am_m1 (List.mem_of_getElem? (i := 215) rfl)
theorem wd_216 : Cond.fieldLink "MapMerger$TextMerger" 16 "MapMerger$TextMerger" "oursPairs" "[I" ∈ lw_tbl := am_m1 (List.mem_of_getElem? (i := 216) rfl)
theorem wd_217 : Cond.fieldLink "MapMerger$TextMerger" 19 "MapMerger$TextMerger" "theirsPairs" "[I" ∈ lw_tbl := am_m1 (List.mem_of_getElem? (i := 217) rfl)
theorem wd_218 : Cond.fieldLink "MapMerger$TextMerger" 23 "MapMerger$TextMerger" "text" "[B" ∈ lw_tbl := am_m1 (List.mem_of_getElem? (i := 218) rfl)
theorem wd_219 : Cond.fieldLink "MapMerger$TextMerger" 46 "MapMerger$TextMerger" "length" "I" ∈ lw_tbl := am_m1 (List.mem_of_getElem? (i := 219) rfl)
theorem wd_220 : Cond.fieldLink "MapMerger$TextMerger" 50 "MapMerger$TextMerger" "conflict" "Z" ∈ lw_tbl := am_m1 (List.mem_of_getElem? (i := 220) rfl)
theorem wd_221 : Cond.fieldLink "MapMerger$TextMerger" 81 "MapMerger$TextMerger" "tooLong" "Z" ∈ lw_tbl := am_m1 (List.mem_of_getElem? (i := 221) rfl)
theorem wd_245 : Cond.classLink "MapMerger$Merging" 61 "MapMerger$Outcomes" ∈ lw_tbl := am_m2 (List.mem_of_getElem? (i := 5) rfl)
theorem wd_246 : Cond.instantiable "MapMerger$Outcomes" 10 ∈ lw_tbl := am_m2 (List.mem_of_getElem? (i := 6) rfl)
theorem wd_247 : Cond.methodLink "MapMerger$Merging" 63 ⟨"MapMerger$Outcomes", "<init>", "(LMapMerger$Blobs;)V"⟩ ∈ lw_tbl := am_m2 (List.mem_of_getElem? (i := 7) rfl)
theorem wd_248 : Cond.instanceMethod ⟨"MapMerger$Outcomes", "<init>", "(LMapMerger$Blobs;)V"⟩ ∈ lw_tbl := am_m2 (List.mem_of_getElem? (i := 8) rfl)
theorem wd_249 : Cond.code ⟨"MapMerger$Outcomes", "<init>", "(LMapMerger$Blobs;)V"⟩ prog_6_method_1_code 2 none ∈ lw_tbl := am_m2 (List.mem_of_getElem? (i := 9) rfl)
theorem wd_250 : Cond.methodLink "MapMerger$Outcomes" 3 ⟨"java/lang/Object", "<init>", "()V"⟩ ∈ lw_tbl := am_m2 (List.mem_of_getElem? (i := 10) rfl)
theorem wd_251 : Cond.classLink "MapMerger$Outcomes" 9 "MapMerger$PathMap" ∈ lw_tbl := am_m2 (List.mem_of_getElem? (i := 11) rfl)
theorem wd_252 : Cond.methodLinkNest "MapMerger$Outcomes" 11 ⟨"MapMerger$PathMap", "<init>", "()V"⟩ "MapMerger" ∈ lw_tbl := am_m2 (List.mem_of_getElem? (i := 12) rfl)
theorem wd_253 : Cond.constant "MapMerger$Outcomes" 35 65536 ∈ lw_tbl := am_m2 (List.mem_of_getElem? (i := 13) rfl)
theorem wd_254 : Cond.fieldLink "MapMerger$Outcomes" 40 "MapMerger$Outcomes" "blobs" "LMapMerger$Blobs;" ∈ lw_tbl := am_m2 (List.mem_of_getElem? (i := 14) rfl)
theorem wd_255 : Cond.fieldLink "MapMerger$Outcomes" 12 "MapMerger$Outcomes" "places" "LMapMerger$PathMap;" ∈ lw_tbl := am_m2 (List.mem_of_getElem? (i := 15) rfl)
theorem wd_256 : Cond.fieldLink "MapMerger$Outcomes" 18 "MapMerger$Outcomes" "unmerged" "[Z" ∈ lw_tbl := am_m2 (List.mem_of_getElem? (i := 16) rfl)
theorem wd_257 : Cond.fieldLink "MapMerger$Outcomes" 22 "MapMerger$Outcomes" "sources" "[I" ∈ lw_tbl := am_m2 (List.mem_of_getElem? (i := 17) rfl)
theorem wd_258 : Cond.fieldLink "MapMerger$Outcomes" 26 "MapMerger$Outcomes" "textBlobs" "[I" ∈ lw_tbl := am_m2 (List.mem_of_getElem? (i := 18) rfl)
theorem wd_259 : Cond.fieldLink "MapMerger$Outcomes" 29 "MapMerger$Outcomes" "textStarts" "[I" ∈ lw_tbl := am_m2 (List.mem_of_getElem? (i := 19) rfl)
theorem wd_260 : Cond.fieldLink "MapMerger$Outcomes" 32 "MapMerger$Outcomes" "textLengths" "[I" ∈ lw_tbl := am_m2 (List.mem_of_getElem? (i := 20) rfl)
theorem wd_261 : Cond.fieldLink "MapMerger$Outcomes" 36 "MapMerger$Outcomes" "mergedBytes" "[B" ∈ lw_tbl := am_m2 (List.mem_of_getElem? (i := 21) rfl)
theorem wd_262 : Cond.fieldLink "MapMerger$Outcomes" 82 "MapMerger$Outcomes" "mergedLength" "I" ∈ lw_tbl := am_m2 (List.mem_of_getElem? (i := 22) rfl)
theorem wd_263 : Cond.fieldLink "MapMerger$Outcomes" 52 "MapMerger$Outcomes" "unmergedCount" "I" ∈ lw_tbl := am_m2 (List.mem_of_getElem? (i := 23) rfl)
theorem wd_285 : Cond.fieldLink "MapMerger$Merging" 28 "MapMerger$Merging" "base" "LMapMerger$PathMap;" ∈ lw_tbl := am_m2 (List.mem_of_getElem? (i := 45) rfl)
theorem wd_286 : Cond.fieldLink "MapMerger$Merging" 32 "MapMerger$Merging" "ours" "LMapMerger$PathMap;" ∈ lw_tbl := am_m2 (List.mem_of_getElem? (i := 46) rfl)
theorem wd_287 : Cond.fieldLink "MapMerger$Merging" 35 "MapMerger$Merging" "theirs" "LMapMerger$PathMap;" ∈ lw_tbl := am_m2 (List.mem_of_getElem? (i := 47) rfl)
theorem wd_288 : Cond.fieldLink "MapMerger$Merging" 38 "MapMerger$Merging" "blobs" "LMapMerger$Blobs;" ∈ lw_tbl := am_m2 (List.mem_of_getElem? (i := 48) rfl)
theorem wd_289 : Cond.fieldLink "MapMerger$Merging" 47 "MapMerger$Merging" "toOurs" "LMapMerger$Renames;" ∈ lw_tbl := am_m2 (List.mem_of_getElem? (i := 49) rfl)
theorem wd_290 : Cond.fieldLink "MapMerger$Merging" 51 "MapMerger$Merging" "toTheirs" "LMapMerger$Renames;" ∈ lw_tbl := am_m2 (List.mem_of_getElem? (i := 50) rfl)
theorem wd_291 : Cond.fieldLink "MapMerger$Merging" 9 "MapMerger$Merging" "oursUsed" "[Z" ∈ lw_tbl := am_m2 (List.mem_of_getElem? (i := 51) rfl)
theorem wd_292 : Cond.fieldLink "MapMerger$Merging" 15 "MapMerger$Merging" "theirsUsed" "[Z" ∈ lw_tbl := am_m2 (List.mem_of_getElem? (i := 52) rfl)
theorem wd_293 : Cond.fieldLink "MapMerger$Merging" 18 "MapMerger$Merging" "groupsP" "[I" ∈ lw_tbl := am_m2 (List.mem_of_getElem? (i := 53) rfl)
theorem wd_294 : Cond.fieldLink "MapMerger$Merging" 22 "MapMerger$Merging" "groupsA" "[I" ∈ lw_tbl := am_m2 (List.mem_of_getElem? (i := 54) rfl)
theorem wd_295 : Cond.fieldLink "MapMerger$Merging" 25 "MapMerger$Merging" "groupsB" "[I" ∈ lw_tbl := am_m2 (List.mem_of_getElem? (i := 55) rfl)
theorem wd_296 : Cond.fieldLink "MapMerger$Merging" 57 "MapMerger$Merging" "merger" "LMapMerger$TextMerger;" ∈ lw_tbl := am_m2 (List.mem_of_getElem? (i := 56) rfl)
theorem wd_297 : Cond.fieldLink "MapMerger$Merging" 81 "MapMerger$Merging" "groupCount" "I" ∈ lw_tbl := am_m2 (List.mem_of_getElem? (i := 57) rfl)
theorem wd_298 : Cond.fieldLink "MapMerger$Merging" 64 "MapMerger$Merging" "latest" "LMapMerger$Outcomes;" ∈ lw_tbl := am_m2 (List.mem_of_getElem? (i := 58) rfl)
theorem wd_299 : Cond.fieldLink "MapMerger$Merging" 68 "MapMerger$Merging" "spare" "LMapMerger$Outcomes;" ∈ lw_tbl := am_m2 (List.mem_of_getElem? (i := 59) rfl)
theorem wd_331 : Cond.fieldLink "MapMerger" 10 "MapMerger" "inbox" "LMapMerger$Inbox;" ∈ lw_tbl := am_m2 (List.mem_of_getElem? (i := 91) rfl)
theorem wd_332 : Cond.fieldLink "MapMerger" 19 "MapMerger" "blobs" "LMapMerger$Blobs;" ∈ lw_tbl := am_m2 (List.mem_of_getElem? (i := 92) rfl)
theorem wd_333 : Cond.fieldLink "MapMerger" 25 "MapMerger" "maps" "[LMapMerger$PathMap;" ∈ lw_tbl := am_m2 (List.mem_of_getElem? (i := 93) rfl)
theorem wd_334 : Cond.fieldLink "MapMerger" 35 "MapMerger" "renames" "LMapMerger$Renames;" ∈ lw_tbl := am_m2 (List.mem_of_getElem? (i := 94) rfl)
theorem wd_335 : Cond.fieldLink "MapMerger" 44 "MapMerger" "merging" "LMapMerger$Merging;" ∈ lw_tbl := am_m2 (List.mem_of_getElem? (i := 95) rfl)
theorem wd_350 : Cond.code ⟨"MapMerger", "count", "(I)I"⟩ prog_1_method_12_code 2 (some FieldType.int) ∈ lw_tbl := am_m2 (List.mem_of_getElem? (i := 110) rfl)
theorem wd_351 : Cond.methodLink "MapMerger" 149 ⟨"MapMerger$PathMap", "size", "()I"⟩ ∈ lw_tbl := am_m2 (List.mem_of_getElem? (i := 111) rfl)
theorem wd_352 : Cond.instanceMethod ⟨"MapMerger$PathMap", "size", "()I"⟩ ∈ lw_tbl := am_m2 (List.mem_of_getElem? (i := 112) rfl)
theorem wd_353 : Cond.selects "MapMerger$PathMap" ⟨"MapMerger$PathMap", "size", "()I"⟩ ⟨"MapMerger$PathMap", "size", "()I"⟩ ∈ lw_tbl := am_m2 (List.mem_of_getElem? (i := 113) rfl)
theorem wd_354 : Cond.code ⟨"MapMerger$PathMap", "size", "()I"⟩ prog_8_method_2_code 1 (some FieldType.int) ∈ lw_tbl := am_m2 (List.mem_of_getElem? (i := 114) rfl)
theorem wd_355 : Cond.methodLink "MapMerger" 152 ⟨"MapMerger$Blobs", "size", "()I"⟩ ∈ lw_tbl := am_m2 (List.mem_of_getElem? (i := 115) rfl)
theorem wd_356 : Cond.instanceMethod ⟨"MapMerger$Blobs", "size", "()I"⟩ ∈ lw_tbl := am_m2 (List.mem_of_getElem? (i := 116) rfl)
theorem wd_357 : Cond.selects "MapMerger$Blobs" ⟨"MapMerger$Blobs", "size", "()I"⟩ ⟨"MapMerger$Blobs", "size", "()I"⟩ ∈ lw_tbl := am_m2 (List.mem_of_getElem? (i := 117) rfl)
theorem wd_358 : Cond.code ⟨"MapMerger$Blobs", "size", "()I"⟩ prog_2_method_2_code 1 (some FieldType.int) ∈ lw_tbl := am_m2 (List.mem_of_getElem? (i := 118) rfl)
theorem wd_359 : Cond.methodLink "MapMerger" 153 ⟨"MapMerger$Blobs", "totalLength", "()I"⟩ ∈ lw_tbl := am_m2 (List.mem_of_getElem? (i := 119) rfl)
theorem wd_360 : Cond.instanceMethod ⟨"MapMerger$Blobs", "totalLength", "()I"⟩ ∈ lw_tbl := am_m2 (List.mem_of_getElem? (i := 120) rfl)
theorem wd_361 : Cond.selects "MapMerger$Blobs" ⟨"MapMerger$Blobs", "totalLength", "()I"⟩ ⟨"MapMerger$Blobs", "totalLength", "()I"⟩ ∈ lw_tbl := am_m2 (List.mem_of_getElem? (i := 121) rfl)
theorem wd_362 : Cond.code ⟨"MapMerger$Blobs", "totalLength", "()I"⟩ prog_2_method_3_code 1 (some FieldType.int) ∈ lw_tbl := am_m2 (List.mem_of_getElem? (i := 122) rfl)
theorem wd_363 : Cond.methodLink "MapMerger" 114 ⟨"MapMerger$Merging", "latestOutcomes", "()LMapMerger$Outcomes;"⟩ ∈ lw_tbl := am_m2 (List.mem_of_getElem? (i := 123) rfl)
theorem wd_364 : Cond.instanceMethod ⟨"MapMerger$Merging", "latestOutcomes", "()LMapMerger$Outcomes;"⟩ ∈ lw_tbl := am_m2 (List.mem_of_getElem? (i := 124) rfl)
theorem wd_365 : Cond.selects "MapMerger$Merging" ⟨"MapMerger$Merging", "latestOutcomes", "()LMapMerger$Outcomes;"⟩ ⟨"MapMerger$Merging", "latestOutcomes", "()LMapMerger$Outcomes;"⟩ ∈ lw_tbl := am_m2 (List.mem_of_getElem? (i := 125) rfl)
theorem wd_366 : Cond.code ⟨"MapMerger$Merging", "latestOutcomes", "()LMapMerger$Outcomes;"⟩ prog_5_method_2_code 1 (some (FieldType.object "MapMerger$Outcomes")) ∈ lw_tbl := am_m2 (List.mem_of_getElem? (i := 126) rfl)
theorem wd_367 : Cond.methodLink "MapMerger" 156 ⟨"MapMerger$Outcomes", "size", "()I"⟩ ∈ lw_tbl := am_m2 (List.mem_of_getElem? (i := 127) rfl)
theorem wd_368 : Cond.instanceMethod ⟨"MapMerger$Outcomes", "size", "()I"⟩ ∈ lw_tbl := am_m2 (List.mem_of_getElem? (i := 128) rfl)
theorem wd_369 : Cond.selects "MapMerger$Outcomes" ⟨"MapMerger$Outcomes", "size", "()I"⟩ ⟨"MapMerger$Outcomes", "size", "()I"⟩ ∈ lw_tbl := am_m2 (List.mem_of_getElem? (i := 129) rfl)
theorem wd_370 : Cond.code ⟨"MapMerger$Outcomes", "size", "()I"⟩ prog_6_method_2_code 1 (some FieldType.int) ∈ lw_tbl := am_m2 (List.mem_of_getElem? (i := 130) rfl)
theorem wd_371 : Cond.methodLink "MapMerger$Outcomes" 44 ⟨"MapMerger$PathMap", "size", "()I"⟩ ∈ lw_tbl := am_m2 (List.mem_of_getElem? (i := 131) rfl)
theorem wd_372 : Cond.methodLink "MapMerger" 59 ⟨"MapMerger$Inbox", "inputLength", "()I"⟩ ∈ lw_tbl := am_m2 (List.mem_of_getElem? (i := 132) rfl)
theorem wd_373 : Cond.instanceMethod ⟨"MapMerger$Inbox", "inputLength", "()I"⟩ ∈ lw_tbl := am_m2 (List.mem_of_getElem? (i := 133) rfl)
theorem wd_374 : Cond.selects "MapMerger$Inbox" ⟨"MapMerger$Inbox", "inputLength", "()I"⟩ ⟨"MapMerger$Inbox", "inputLength", "()I"⟩ ∈ lw_tbl := am_m2 (List.mem_of_getElem? (i := 134) rfl)
theorem wd_375 : Cond.code ⟨"MapMerger$Inbox", "inputLength", "()I"⟩ prog_3_method_6_code 1 (some FieldType.int) ∈ lw_tbl := am_m2 (List.mem_of_getElem? (i := 135) rfl)
theorem wd_376 : Cond.methodLink "MapMerger$Inbox" 23 ⟨"MapMerger$Inbox", "argumentStart", "(I)I"⟩ ∈ lw_tbl := am_m2 (List.mem_of_getElem? (i := 136) rfl)
theorem wd_377 : Cond.instanceMethod ⟨"MapMerger$Inbox", "argumentStart", "(I)I"⟩ ∈ lw_tbl := am_m2 (List.mem_of_getElem? (i := 137) rfl)
theorem wd_378 : Cond.selects "MapMerger$Inbox" ⟨"MapMerger$Inbox", "argumentStart", "(I)I"⟩ ⟨"MapMerger$Inbox", "argumentStart", "(I)I"⟩ ∈ lw_tbl := am_m2 (List.mem_of_getElem? (i := 138) rfl)
theorem wd_379 : Cond.code ⟨"MapMerger$Inbox", "argumentStart", "(I)I"⟩ prog_3_method_4_code 2 (some FieldType.int) ∈ lw_tbl := am_m2 (List.mem_of_getElem? (i := 139) rfl)
theorem wd_380 : Cond.methodLink "MapMerger" 72 ⟨"MapMerger$Inbox", "argumentCount", "()I"⟩ ∈ lw_tbl := am_m2 (List.mem_of_getElem? (i := 140) rfl)
theorem wd_381 : Cond.instanceMethod ⟨"MapMerger$Inbox", "argumentCount", "()I"⟩ ∈ lw_tbl := am_m2 (List.mem_of_getElem? (i := 141) rfl)
theorem wd_382 : Cond.selects "MapMerger$Inbox" ⟨"MapMerger$Inbox", "argumentCount", "()I"⟩ ⟨"MapMerger$Inbox", "argumentCount", "()I"⟩ ∈ lw_tbl := am_m2 (List.mem_of_getElem? (i := 142) rfl)
theorem wd_383 : Cond.code ⟨"MapMerger$Inbox", "argumentCount", "()I"⟩ prog_3_method_3_code 1 (some FieldType.int) ∈ lw_tbl := am_m2 (List.mem_of_getElem? (i := 143) rfl)
theorem wd_386 : Cond.codeWith ⟨"MapMergerLaw", "feed", "(LMapMerger;IIIII)I"⟩ method_3_code 7 (some FieldType.int) [(0, 11, 14, 13)] ∈ lw_tbl := am_m2 (List.mem_of_getElem? (i := 146) rfl)
theorem wd_387 : Cond.classLink "MapMergerLaw" 13 "java/lang/IllegalStateException" ∈ lw_tbl := am_m2 (List.mem_of_getElem? (i := 147) rfl)
theorem wd_388 : Cond.methodLink "MapMergerLaw" 7 ⟨"MapMerger", "feed", "(IIIII)V"⟩ ∈ lw_tbl := am_m2 (List.mem_of_getElem? (i := 148) rfl)
theorem wd_389 : Cond.instanceMethod ⟨"MapMerger", "feed", "(IIIII)V"⟩ ∈ lw_tbl := am_m2 (List.mem_of_getElem? (i := 149) rfl)
theorem wd_390 : Cond.selects "MapMerger" ⟨"MapMerger", "feed", "(IIIII)V"⟩ ⟨"MapMerger", "feed", "(IIIII)V"⟩ ∈ lw_tbl := am_m2 (List.mem_of_getElem? (i := 150) rfl)
theorem wd_391 : Cond.code ⟨"MapMerger", "feed", "(IIIII)V"⟩ prog_1_method_2_code 6 none ∈ lw_tbl := am_m2 (List.mem_of_getElem? (i := 151) rfl)
theorem wd_392 : Cond.methodLink "MapMerger" 48 ⟨"MapMerger$Inbox", "hasRoomFor", "(I)Z"⟩ ∈ lw_tbl := am_m2 (List.mem_of_getElem? (i := 152) rfl)
theorem wd_393 : Cond.instanceMethod ⟨"MapMerger$Inbox", "hasRoomFor", "(I)Z"⟩ ∈ lw_tbl := am_m2 (List.mem_of_getElem? (i := 153) rfl)
theorem wd_394 : Cond.selects "MapMerger$Inbox" ⟨"MapMerger$Inbox", "hasRoomFor", "(I)Z"⟩ ⟨"MapMerger$Inbox", "hasRoomFor", "(I)Z"⟩ ∈ lw_tbl := am_m2 (List.mem_of_getElem? (i := 154) rfl)
theorem wd_395 : Cond.code ⟨"MapMerger$Inbox", "hasRoomFor", "(I)Z"⟩ prog_3_method_7_code 2 (some FieldType.boolean) ∈ lw_tbl := am_m2 (List.mem_of_getElem? (i := 155) rfl)
theorem wd_396 : Cond.classLink "MapMerger" 52 "java/lang/IllegalStateException" ∈ lw_tbl := am_m2 (List.mem_of_getElem? (i := 156) rfl)
theorem wd_397 : Cond.instantiable "java/lang/IllegalStateException" 6 ∈ lw_tbl := am_m2 (List.mem_of_getElem? (i := 157) rfl)
theorem wd_460 : Cond.methodLink "MapMerger" 55 ⟨"MapMerger$Inbox", "addNumber", "(I)V"⟩ ∈ lw_tbl := am_m2 (List.mem_of_getElem? (i := 220) rfl)
theorem wd_461 : Cond.instanceMethod ⟨"MapMerger$Inbox", "addNumber", "(I)V"⟩ ∈ lw_tbl := am_m2 (List.mem_of_getElem? (i := 221) rfl)
theorem wd_462 : Cond.selects "MapMerger$Inbox" ⟨"MapMerger$Inbox", "addNumber", "(I)V"⟩ ⟨"MapMerger$Inbox", "addNumber", "(I)V"⟩ ∈ lw_tbl := am_m2 (List.mem_of_getElem? (i := 222) rfl)
theorem wd_463 : Cond.code ⟨"MapMerger$Inbox", "addNumber", "(I)V"⟩ prog_3_method_8_code 3 none ∈ lw_tbl := am_m2 (List.mem_of_getElem? (i := 223) rfl)
theorem wd_466 : Cond.codeWith ⟨"MapMergerLaw", "end", "(LMapMerger;I[J)I"⟩ method_4_code 4 (some FieldType.int) [(0, 9, 12, 19)] ∈ lw_tbl := am_m2 (List.mem_of_getElem? (i := 226) rfl)
theorem wd_467 : Cond.classLink "MapMergerLaw" 19 "java/lang/IllegalArgumentException" ∈ lw_tbl := am_m2 (List.mem_of_getElem? (i := 227) rfl)
theorem wd_468 : Cond.methodLink "MapMergerLaw" 15 ⟨"MapMerger", "end", "(I)I"⟩ ∈ lw_tbl := am_m2 (List.mem_of_getElem? (i := 228) rfl)
theorem wd_469 : Cond.instanceMethod ⟨"MapMerger", "end", "(I)I"⟩ ∈ lw_tbl := am_m2 (List.mem_of_getElem? (i := 229) rfl)
theorem wd_470 : Cond.selects "MapMerger" ⟨"MapMerger", "end", "(I)I"⟩ ⟨"MapMerger", "end", "(I)I"⟩ ∈ lw_tbl := am_m2 (List.mem_of_getElem? (i := 230) rfl)
theorem wd_471 : Cond.code ⟨"MapMerger", "end", "(I)I"⟩ prog_1_method_3_code 2 (some FieldType.int) ∈ lw_tbl := am_m2 (List.mem_of_getElem? (i := 231) rfl)
theorem wd_472 : Cond.classLink "MapMerger" 63 "java/lang/IllegalArgumentException" ∈ lw_tbl := am_m2 (List.mem_of_getElem? (i := 232) rfl)
theorem wd_473 : Cond.instantiable "java/lang/IllegalArgumentException" 6 ∈ lw_tbl := am_m2 (List.mem_of_getElem? (i := 233) rfl)
theorem wd_487 : Cond.methodLink "MapMerger" 66 ⟨"MapMerger$Inbox", "cutInput", "(I)V"⟩ ∈ lw_tbl := am_m3 (List.mem_of_getElem? (i := 7) rfl)
theorem wd_488 : Cond.instanceMethod ⟨"MapMerger$Inbox", "cutInput", "(I)V"⟩ ∈ lw_tbl := am_m3 (List.mem_of_getElem? (i := 8) rfl)
theorem wd_489 : Cond.selects "MapMerger$Inbox" ⟨"MapMerger$Inbox", "cutInput", "(I)V"⟩ ⟨"MapMerger$Inbox", "cutInput", "(I)V"⟩ ∈ lw_tbl := am_m3 (List.mem_of_getElem? (i := 9) rfl)
theorem wd_490 : Cond.code ⟨"MapMerger$Inbox", "cutInput", "(I)V"⟩ prog_3_method_9_code 2 none ∈ lw_tbl := am_m3 (List.mem_of_getElem? (i := 10) rfl)
theorem wd_491 : Cond.methodLink "MapMerger" 69 ⟨"MapMerger$Inbox", "makeArgument", "()V"⟩ ∈ lw_tbl := am_m3 (List.mem_of_getElem? (i := 11) rfl)
theorem wd_492 : Cond.instanceMethod ⟨"MapMerger$Inbox", "makeArgument", "()V"⟩ ∈ lw_tbl := am_m3 (List.mem_of_getElem? (i := 12) rfl)
theorem wd_493 : Cond.selects "MapMerger$Inbox" ⟨"MapMerger$Inbox", "makeArgument", "()V"⟩ ⟨"MapMerger$Inbox", "makeArgument", "()V"⟩ ∈ lw_tbl := am_m3 (List.mem_of_getElem? (i := 13) rfl)
theorem wd_494 : Cond.code ⟨"MapMerger$Inbox", "makeArgument", "()V"⟩ prog_3_method_10_code 1 none ∈ lw_tbl := am_m3 (List.mem_of_getElem? (i := 14) rfl)
theorem wd_495 : Cond.methodLink "MapMerger$Inbox" 30 ⟨"MapMerger$Inbox", "dropFirstArgument", "()V"⟩ ∈ lw_tbl := am_m3 (List.mem_of_getElem? (i := 15) rfl)
theorem wd_497 : Cond.instanceMethod ⟨"MapMerger$Inbox", "dropFirstArgument", "()V"⟩ ∈ lw_tbl := am_m3 (List.mem_of_getElem? (i := 17) rfl)
theorem wd_498 : Cond.code ⟨"MapMerger$Inbox", "dropFirstArgument", "()V"⟩ prog_3_method_12_code 3 none ∈ lw_tbl := am_m3 (List.mem_of_getElem? (i := 18) rfl)
theorem wd_499 : Cond.methodLink "MapMerger$Inbox" 33 ⟨"MapMerger$Inbox", "removeFront", "(I)V"⟩ ∈ lw_tbl := am_m3 (List.mem_of_getElem? (i := 19) rfl)
theorem wd_501 : Cond.instanceMethod ⟨"MapMerger$Inbox", "removeFront", "(I)V"⟩ ∈ lw_tbl := am_m3 (List.mem_of_getElem? (i := 21) rfl)
theorem wd_502 : Cond.code ⟨"MapMerger$Inbox", "removeFront", "(I)V"⟩ prog_3_method_13_code 2 none ∈ lw_tbl := am_m3 (List.mem_of_getElem? (i := 22) rfl)
theorem wd_503 : Cond.methodLink "MapMerger$Inbox" 37 ⟨"java/lang/System", "arraycopy", "(Ljava/lang/Object;ILjava/lang/Object;II)V"⟩ ∈ lw_tbl := am_m3 (List.mem_of_getElem? (i := 23) rfl)
theorem wd_504 : Cond.static ⟨"java/lang/System", "arraycopy", "(Ljava/lang/Object;ILjava/lang/Object;II)V"⟩ ∈ lw_tbl := am_m3 (List.mem_of_getElem? (i := 24) rfl)
theorem wd_505 : Cond.native ⟨"java/lang/System", "arraycopy", "(Ljava/lang/Object;ILjava/lang/Object;II)V"⟩ ∈ lw_tbl := am_m3 (List.mem_of_getElem? (i := 25) rfl)
theorem wd_508 : Cond.codeWith ⟨"MapMergerLaw", "put", "(LMapMerger;I[J)I"⟩ method_5_code 4 (some FieldType.int) [(0, 9, 12, 19), (0, 9, 15, 13)] ∈ lw_tbl := am_m3 (List.mem_of_getElem? (i := 28) rfl)
theorem wd_509 : Cond.methodLink "MapMergerLaw" 21 ⟨"MapMerger", "put", "(I)I"⟩ ∈ lw_tbl := am_m3 (List.mem_of_getElem? (i := 29) rfl)
theorem wd_510 : Cond.instanceMethod ⟨"MapMerger", "put", "(I)I"⟩ ∈ lw_tbl := am_m3 (List.mem_of_getElem? (i := 30) rfl)
theorem wd_511 : Cond.selects "MapMerger" ⟨"MapMerger", "put", "(I)I"⟩ ⟨"MapMerger", "put", "(I)I"⟩ ∈ lw_tbl := am_m3 (List.mem_of_getElem? (i := 31) rfl)
theorem wd_512 : Cond.code ⟨"MapMerger", "put", "(I)I"⟩ prog_1_method_4_code 3 (some FieldType.int) ∈ lw_tbl := am_m3 (List.mem_of_getElem? (i := 32) rfl)
theorem wd_513 : Cond.methodLink "MapMerger" 75 ⟨"MapMerger", "putArguments", "(I)I"⟩ ∈ lw_tbl := am_m3 (List.mem_of_getElem? (i := 33) rfl)
theorem wd_515 : Cond.instanceMethod ⟨"MapMerger", "putArguments", "(I)I"⟩ ∈ lw_tbl := am_m3 (List.mem_of_getElem? (i := 35) rfl)
theorem wd_516 : Cond.code ⟨"MapMerger", "putArguments", "(I)I"⟩ prog_1_method_15_code 5 (some FieldType.int) ∈ lw_tbl := am_m3 (List.mem_of_getElem? (i := 36) rfl)
theorem wd_517 : Cond.methodLink "MapMerger" 88 ⟨"MapMerger", "isMap", "(I)Z"⟩ ∈ lw_tbl := am_m3 (List.mem_of_getElem? (i := 37) rfl)
theorem wd_518 : Cond.static ⟨"MapMerger", "isMap", "(I)Z"⟩ ∈ lw_tbl := am_m3 (List.mem_of_getElem? (i := 38) rfl)
theorem wd_519 : Cond.code ⟨"MapMerger", "isMap", "(I)Z"⟩ prog_1_method_13_code 1 (some FieldType.boolean) ∈ lw_tbl := am_m3 (List.mem_of_getElem? (i := 39) rfl)
theorem wd_520 : Cond.methodLink "MapMerger" 157 ⟨"MapMerger", "firstArgumentIsPath", "()Z"⟩ ∈ lw_tbl := am_m3 (List.mem_of_getElem? (i := 40) rfl)
theorem wd_522 : Cond.instanceMethod ⟨"MapMerger", "firstArgumentIsPath", "()Z"⟩ ∈ lw_tbl := am_m3 (List.mem_of_getElem? (i := 42) rfl)
theorem wd_523 : Cond.code ⟨"MapMerger", "firstArgumentIsPath", "()Z"⟩ prog_1_method_17_code 1 (some FieldType.boolean) ∈ lw_tbl := am_m3 (List.mem_of_getElem? (i := 43) rfl)
theorem wd_524 : Cond.methodLink "MapMerger" 161 ⟨"MapMerger$Inbox", "bytes", "()[B"⟩ ∈ lw_tbl := am_m3 (List.mem_of_getElem? (i := 44) rfl)
theorem wd_525 : Cond.instanceMethod ⟨"MapMerger$Inbox", "bytes", "()[B"⟩ ∈ lw_tbl := am_m3 (List.mem_of_getElem? (i := 45) rfl)
theorem wd_526 : Cond.selects "MapMerger$Inbox" ⟨"MapMerger$Inbox", "bytes", "()[B"⟩ ⟨"MapMerger$Inbox", "bytes", "()[B"⟩ ∈ lw_tbl := am_m3 (List.mem_of_getElem? (i := 46) rfl)
theorem wd_527 : Cond.code ⟨"MapMerger$Inbox", "bytes", "()[B"⟩ prog_3_method_2_code 1 (some (FieldType.array FieldType.byte)) ∈ lw_tbl := am_m3 (List.mem_of_getElem? (i := 47) rfl)
theorem wd_528 : Cond.methodLink "MapMerger" 165 ⟨"MapMerger$Inbox", "argumentLength", "(I)I"⟩ ∈ lw_tbl := am_m3 (List.mem_of_getElem? (i := 48) rfl)
theorem wd_529 : Cond.instanceMethod ⟨"MapMerger$Inbox", "argumentLength", "(I)I"⟩ ∈ lw_tbl := am_m3 (List.mem_of_getElem? (i := 49) rfl)
theorem wd_530 : Cond.selects "MapMerger$Inbox" ⟨"MapMerger$Inbox", "argumentLength", "(I)I"⟩ ⟨"MapMerger$Inbox", "argumentLength", "(I)I"⟩ ∈ lw_tbl := am_m3 (List.mem_of_getElem? (i := 50) rfl)
theorem wd_531 : Cond.code ⟨"MapMerger$Inbox", "argumentLength", "(I)I"⟩ prog_3_method_5_code 2 (some FieldType.int) ∈ lw_tbl := am_m3 (List.mem_of_getElem? (i := 51) rfl)
theorem wd_532 : Cond.methodLink "MapMerger" 189 ⟨"MapMerger$Rows", "isPath", "([BII)Z"⟩ ∈ lw_tbl := am_m3 (List.mem_of_getElem? (i := 52) rfl)
theorem wd_533 : Cond.static ⟨"MapMerger$Rows", "isPath", "([BII)Z"⟩ ∈ lw_tbl := am_m3 (List.mem_of_getElem? (i := 53) rfl)
theorem wd_534 : Cond.code ⟨"MapMerger$Rows", "isPath", "([BII)Z"⟩ prog_10_method_2_code 7 (some FieldType.boolean) ∈ lw_tbl := am_m3 (List.mem_of_getElem? (i := 54) rfl)
theorem wd_535 : Cond.methodLink "MapMerger$Rows" 9 ⟨"MapMerger$Rows", "isName", "([BII)Z"⟩ ∈ lw_tbl := am_m3 (List.mem_of_getElem? (i := 55) rfl)
theorem wd_536 : Cond.static ⟨"MapMerger$Rows", "isName", "([BII)Z"⟩ ∈ lw_tbl := am_m3 (List.mem_of_getElem? (i := 56) rfl)
theorem wd_537 : Cond.code ⟨"MapMerger$Rows", "isName", "([BII)Z"⟩ prog_10_method_3_code 4 (some FieldType.boolean) ∈ lw_tbl := am_m3 (List.mem_of_getElem? (i := 57) rfl)
theorem wd_538 : Cond.methodLink "MapMerger$Rows" 15 ⟨"MapMerger$Rows", "isDots", "([BII)Z"⟩ ∈ lw_tbl := am_m3 (List.mem_of_getElem? (i := 58) rfl)
theorem wd_539 : Cond.static ⟨"MapMerger$Rows", "isDots", "([BII)Z"⟩ ∈ lw_tbl := am_m3 (List.mem_of_getElem? (i := 59) rfl)
theorem wd_540 : Cond.code ⟨"MapMerger$Rows", "isDots", "([BII)Z"⟩ prog_10_method_4_code 3 (some FieldType.boolean) ∈ lw_tbl := am_m3 (List.mem_of_getElem? (i := 60) rfl)
theorem wd_541 : Cond.methodLink "MapMerger" 168 ⟨"MapMerger$PathMap", "wouldFit", "([BII)Z"⟩ ∈ lw_tbl := am_m3 (List.mem_of_getElem? (i := 61) rfl)
theorem wd_542 : Cond.instanceMethod ⟨"MapMerger$PathMap", "wouldFit", "([BII)Z"⟩ ∈ lw_tbl := am_m3 (List.mem_of_getElem? (i := 62) rfl)
theorem wd_543 : Cond.selects "MapMerger$PathMap" ⟨"MapMerger$PathMap", "wouldFit", "([BII)Z"⟩ ⟨"MapMerger$PathMap", "wouldFit", "([BII)Z"⟩ ∈ lw_tbl := am_m3 (List.mem_of_getElem? (i := 63) rfl)
theorem wd_544 : Cond.code ⟨"MapMerger$PathMap", "wouldFit", "([BII)Z"⟩ prog_8_method_10_code 4 (some FieldType.boolean) ∈ lw_tbl := am_m3 (List.mem_of_getElem? (i := 64) rfl)
theorem wd_545 : Cond.methodLink "MapMerger$PathMap" 38 ⟨"MapMerger$PathMap", "find", "([BII)I"⟩ ∈ lw_tbl := am_m3 (List.mem_of_getElem? (i := 65) rfl)
theorem wd_546 : Cond.instanceMethod ⟨"MapMerger$PathMap", "find", "([BII)I"⟩ ∈ lw_tbl := am_m3 (List.mem_of_getElem? (i := 66) rfl)
theorem wd_547 : Cond.selects "MapMerger$PathMap" ⟨"MapMerger$PathMap", "find", "([BII)I"⟩ ⟨"MapMerger$PathMap", "find", "([BII)I"⟩ ∈ lw_tbl := am_m3 (List.mem_of_getElem? (i := 67) rfl)
theorem wd_548 : Cond.code ⟨"MapMerger$PathMap", "find", "([BII)I"⟩ prog_8_method_7_code 5 (some FieldType.int) ∈ lw_tbl := am_m3 (List.mem_of_getElem? (i := 68) rfl)
theorem wd_549 : Cond.methodLink "MapMerger$PathMap" 26 ⟨"MapMerger$PathMap", "placeFor", "([BII)I"⟩ ∈ lw_tbl := am_m3 (List.mem_of_getElem? (i := 69) rfl)
theorem wd_551 : Cond.instanceMethod ⟨"MapMerger$PathMap", "placeFor", "([BII)I"⟩ ∈ lw_tbl := am_m3 (List.mem_of_getElem? (i := 71) rfl)
theorem wd_552 : Cond.code ⟨"MapMerger$PathMap", "placeFor", "([BII)I"⟩ prog_8_method_18_code 7 (some FieldType.int) ∈ lw_tbl := am_m3 (List.mem_of_getElem? (i := 72) rfl)
theorem wd_553 : Cond.methodLink "MapMerger$PathMap" 41 ⟨"MapMerger$PathMap", "compareAt", "(I[BII)I"⟩ ∈ lw_tbl := am_m3 (List.mem_of_getElem? (i := 73) rfl)
theorem wd_555 : Cond.instanceMethod ⟨"MapMerger$PathMap", "compareAt", "(I[BII)I"⟩ ∈ lw_tbl := am_m3 (List.mem_of_getElem? (i := 75) rfl)
theorem wd_556 : Cond.code ⟨"MapMerger$PathMap", "compareAt", "(I[BII)I"⟩ prog_8_method_20_code 8 (some FieldType.int) ∈ lw_tbl := am_m3 (List.mem_of_getElem? (i := 76) rfl)
theorem wd_557 : Cond.methodLink "MapMerger$PathMap" 34 ⟨"MapMerger$PathMap", "lengthOf", "(I)I"⟩ ∈ lw_tbl := am_m3 (List.mem_of_getElem? (i := 77) rfl)
theorem wd_558 : Cond.instanceMethod ⟨"MapMerger$PathMap", "lengthOf", "(I)I"⟩ ∈ lw_tbl := am_m3 (List.mem_of_getElem? (i := 78) rfl)
theorem wd_559 : Cond.selects "MapMerger$PathMap" ⟨"MapMerger$PathMap", "lengthOf", "(I)I"⟩ ⟨"MapMerger$PathMap", "lengthOf", "(I)I"⟩ ∈ lw_tbl := am_m3 (List.mem_of_getElem? (i := 79) rfl)
theorem wd_560 : Cond.code ⟨"MapMerger$PathMap", "lengthOf", "(I)I"⟩ prog_8_method_5_code 2 (some FieldType.int) ∈ lw_tbl := am_m3 (List.mem_of_getElem? (i := 80) rfl)
theorem wd_561 : Cond.methodLink "MapMerger$PathMap" 62 ⟨"java/lang/Math", "min", "(II)I"⟩ ∈ lw_tbl := am_m3 (List.mem_of_getElem? (i := 81) rfl)
theorem wd_562 : Cond.static ⟨"java/lang/Math", "min", "(II)I"⟩ ∈ lw_tbl := am_m3 (List.mem_of_getElem? (i := 82) rfl)
theorem wd_563 : Cond.code ⟨"java/lang/Math", "min", "(II)I"⟩ prog_20_method_69_code 2 (some FieldType.int) ∈ lw_tbl := am_m3 (List.mem_of_getElem? (i := 83) rfl)
theorem wd_564 : Cond.methodLink "MapMerger$PathMap" 68 ⟨"MapMerger$Rows", "commonBeginning", "([BI[BII)I"⟩ ∈ lw_tbl := am_m3 (List.mem_of_getElem? (i := 84) rfl)
theorem wd_565 : Cond.static ⟨"MapMerger$Rows", "commonBeginning", "([BI[BII)I"⟩ ∈ lw_tbl := am_m3 (List.mem_of_getElem? (i := 85) rfl)
theorem wd_566 : Cond.code ⟨"MapMerger$Rows", "commonBeginning", "([BI[BII)I"⟩ prog_10_method_5_code 6 (some FieldType.int) ∈ lw_tbl := am_m3 (List.mem_of_getElem? (i := 86) rfl)
theorem wd_567 : Cond.methodLink "MapMerger$PathMap" 74 ⟨"MapMerger$PathMap", "letterAt", "(II)I"⟩ ∈ lw_tbl := am_m3 (List.mem_of_getElem? (i := 87) rfl)
theorem wd_568 : Cond.instanceMethod ⟨"MapMerger$PathMap", "letterAt", "(II)I"⟩ ∈ lw_tbl := am_m3 (List.mem_of_getElem? (i := 88) rfl)
theorem wd_569 : Cond.selects "MapMerger$PathMap" ⟨"MapMerger$PathMap", "letterAt", "(II)I"⟩ ⟨"MapMerger$PathMap", "letterAt", "(II)I"⟩ ∈ lw_tbl := am_m3 (List.mem_of_getElem? (i := 89) rfl)
theorem wd_570 : Cond.code ⟨"MapMerger$PathMap", "letterAt", "(II)I"⟩ prog_8_method_6_code 3 (some FieldType.int) ∈ lw_tbl := am_m3 (List.mem_of_getElem? (i := 90) rfl)
theorem wd_571 : Cond.methodLink "MapMerger$PathMap" 30 ⟨"MapMerger$PathMap", "isAt", "(I[BII)Z"⟩ ∈ lw_tbl := am_m3 (List.mem_of_getElem? (i := 91) rfl)
theorem wd_573 : Cond.instanceMethod ⟨"MapMerger$PathMap", "isAt", "(I[BII)Z"⟩ ∈ lw_tbl := am_m3 (List.mem_of_getElem? (i := 93) rfl)
theorem wd_574 : Cond.code ⟨"MapMerger$PathMap", "isAt", "(I[BII)Z"⟩ prog_8_method_19_code 5 (some FieldType.boolean) ∈ lw_tbl := am_m3 (List.mem_of_getElem? (i := 94) rfl)
theorem wd_575 : Cond.methodLink "MapMerger$PathMap" 45 ⟨"MapMerger$PathMap", "hasRoomFor", "([BII)Z"⟩ ∈ lw_tbl := am_m3 (List.mem_of_getElem? (i := 95) rfl)
theorem wd_577 : Cond.instanceMethod ⟨"MapMerger$PathMap", "hasRoomFor", "([BII)Z"⟩ ∈ lw_tbl := am_m3 (List.mem_of_getElem? (i := 97) rfl)
theorem wd_578 : Cond.code ⟨"MapMerger$PathMap", "hasRoomFor", "([BII)Z"⟩ prog_8_method_16_code 5 (some FieldType.boolean) ∈ lw_tbl := am_m3 (List.mem_of_getElem? (i := 98) rfl)
theorem wd_579 : Cond.methodLink "MapMerger$PathMap" 59 ⟨"MapMerger$PathMap", "isBeneathOrAbove", "(I[BII)Z"⟩ ∈ lw_tbl := am_m3 (List.mem_of_getElem? (i := 99) rfl)
theorem wd_581 : Cond.instanceMethod ⟨"MapMerger$PathMap", "isBeneathOrAbove", "(I[BII)Z"⟩ ∈ lw_tbl := am_m3 (List.mem_of_getElem? (i := 101) rfl)
theorem wd_582 : Cond.code ⟨"MapMerger$PathMap", "isBeneathOrAbove", "(I[BII)Z"⟩ prog_8_method_21_code 7 (some FieldType.boolean) ∈ lw_tbl := am_m3 (List.mem_of_getElem? (i := 102) rfl)
theorem wd_583 : Cond.methodLink "MapMerger" 172 ⟨"MapMerger$Inbox", "argumentStart", "(I)I"⟩ ∈ lw_tbl := am_m3 (List.mem_of_getElem? (i := 103) rfl)
theorem wd_584 : Cond.methodLink "MapMerger" 175 ⟨"MapMerger$Blobs", "findOrAdd", "([BII)I"⟩ ∈ lw_tbl := am_m3 (List.mem_of_getElem? (i := 104) rfl)
theorem wd_585 : Cond.instanceMethod ⟨"MapMerger$Blobs", "findOrAdd", "([BII)I"⟩ ∈ lw_tbl := am_m3 (List.mem_of_getElem? (i := 105) rfl)
theorem wd_586 : Cond.selects "MapMerger$Blobs" ⟨"MapMerger$Blobs", "findOrAdd", "([BII)I"⟩ ⟨"MapMerger$Blobs", "findOrAdd", "([BII)I"⟩ ∈ lw_tbl := am_m3 (List.mem_of_getElem? (i := 106) rfl)
theorem wd_587 : Cond.code ⟨"MapMerger$Blobs", "findOrAdd", "([BII)I"⟩ prog_2_method_13_code 5 (some FieldType.int) ∈ lw_tbl := am_m3 (List.mem_of_getElem? (i := 107) rfl)
theorem wd_588 : Cond.methodLink "MapMerger$Blobs" 60 ⟨"MapMerger$Blobs", "find", "([BII)I"⟩ ∈ lw_tbl := am_m3 (List.mem_of_getElem? (i := 108) rfl)
theorem wd_589 : Cond.instanceMethod ⟨"MapMerger$Blobs", "find", "([BII)I"⟩ ∈ lw_tbl := am_m3 (List.mem_of_getElem? (i := 109) rfl)
theorem wd_590 : Cond.selects "MapMerger$Blobs" ⟨"MapMerger$Blobs", "find", "([BII)I"⟩ ⟨"MapMerger$Blobs", "find", "([BII)I"⟩ ∈ lw_tbl := am_m3 (List.mem_of_getElem? (i := 110) rfl)
theorem wd_591 : Cond.code ⟨"MapMerger$Blobs", "find", "([BII)I"⟩ prog_2_method_12_code 5 (some FieldType.int) ∈ lw_tbl := am_m3 (List.mem_of_getElem? (i := 111) rfl)
theorem wd_592 : Cond.methodLink "MapMerger$Blobs" 50 ⟨"MapMerger$Blobs", "lengthOf", "(I)I"⟩ ∈ lw_tbl := am_m3 (List.mem_of_getElem? (i := 112) rfl)
theorem wd_593 : Cond.instanceMethod ⟨"MapMerger$Blobs", "lengthOf", "(I)I"⟩ ∈ lw_tbl := am_m3 (List.mem_of_getElem? (i := 113) rfl)
theorem wd_594 : Cond.selects "MapMerger$Blobs" ⟨"MapMerger$Blobs", "lengthOf", "(I)I"⟩ ⟨"MapMerger$Blobs", "lengthOf", "(I)I"⟩ ∈ lw_tbl := am_m3 (List.mem_of_getElem? (i := 114) rfl)
theorem wd_595 : Cond.code ⟨"MapMerger$Blobs", "lengthOf", "(I)I"⟩ prog_2_method_6_code 2 (some FieldType.int) ∈ lw_tbl := am_m3 (List.mem_of_getElem? (i := 115) rfl)
theorem wd_596 : Cond.methodLink "MapMerger$Blobs" 54 ⟨"MapMerger$Rows", "commonBeginning", "([BI[BII)I"⟩ ∈ lw_tbl := am_m3 (List.mem_of_getElem? (i := 116) rfl)
theorem wd_597 : Cond.methodLink "MapMerger$Blobs" 64 ⟨"MapMerger$Blobs", "totalLength", "()I"⟩ ∈ lw_tbl := am_m3 (List.mem_of_getElem? (i := 117) rfl)
theorem wd_598 : Cond.methodLink "MapMerger$Blobs" 68 ⟨"MapMerger$Blobs", "addText", "([BII)V"⟩ ∈ lw_tbl := am_m3 (List.mem_of_getElem? (i := 118) rfl)
theorem wd_600 : Cond.instanceMethod ⟨"MapMerger$Blobs", "addText", "([BII)V"⟩ ∈ lw_tbl := am_m3 (List.mem_of_getElem? (i := 120) rfl)
theorem wd_601 : Cond.code ⟨"MapMerger$Blobs", "addText", "([BII)V"⟩ prog_2_method_15_code 6 none ∈ lw_tbl := am_m3 (List.mem_of_getElem? (i := 121) rfl)
theorem wd_602 : Cond.methodLink "MapMerger$Blobs" 81 ⟨"java/lang/System", "arraycopy", "(Ljava/lang/Object;ILjava/lang/Object;II)V"⟩ ∈ lw_tbl := am_m3 (List.mem_of_getElem? (i := 122) rfl)
theorem wd_603 : Cond.methodLink "MapMerger$Blobs" 87 ⟨"MapMerger$Blobs", "looksRough", "(II)Z"⟩ ∈ lw_tbl := am_m3 (List.mem_of_getElem? (i := 123) rfl)
theorem wd_605 : Cond.instanceMethod ⟨"MapMerger$Blobs", "looksRough", "(II)Z"⟩ ∈ lw_tbl := am_m3 (List.mem_of_getElem? (i := 125) rfl)
theorem wd_606 : Cond.code ⟨"MapMerger$Blobs", "looksRough", "(II)Z"⟩ prog_2_method_16_code 5 (some FieldType.boolean) ∈ lw_tbl := am_m3 (List.mem_of_getElem? (i := 126) rfl)
theorem wd_607 : Cond.methodLink "MapMerger$Blobs" 92 ⟨"MapMerger$Blobs", "cutLines", "(II)V"⟩ ∈ lw_tbl := am_m3 (List.mem_of_getElem? (i := 127) rfl)
theorem wd_609 : Cond.instanceMethod ⟨"MapMerger$Blobs", "cutLines", "(II)V"⟩ ∈ lw_tbl := am_m3 (List.mem_of_getElem? (i := 129) rfl)
theorem wd_610 : Cond.code ⟨"MapMerger$Blobs", "cutLines", "(II)V"⟩ prog_2_method_17_code 5 none ∈ lw_tbl := am_m3 (List.mem_of_getElem? (i := 130) rfl)
theorem wd_611 : Cond.methodLink "MapMerger$Blobs" 96 ⟨"MapMerger$LineTable", "addLine", "(II)V"⟩ ∈ lw_tbl := am_m3 (List.mem_of_getElem? (i := 131) rfl)
theorem wd_612 : Cond.instanceMethod ⟨"MapMerger$LineTable", "addLine", "(II)V"⟩ ∈ lw_tbl := am_m3 (List.mem_of_getElem? (i := 132) rfl)
theorem wd_613 : Cond.selects "MapMerger$LineTable" ⟨"MapMerger$LineTable", "addLine", "(II)V"⟩ ⟨"MapMerger$LineTable", "addLine", "(II)V"⟩ ∈ lw_tbl := am_m3 (List.mem_of_getElem? (i := 133) rfl)
theorem wd_614 : Cond.code ⟨"MapMerger$LineTable", "addLine", "(II)V"⟩ prog_4_method_2_code 5 none ∈ lw_tbl := am_m3 (List.mem_of_getElem? (i := 134) rfl)
theorem wd_615 : Cond.methodLink "MapMerger$LineTable" 32 ⟨"MapMerger$LineTable", "bucketOf", "(II)I"⟩ ∈ lw_tbl := am_m3 (List.mem_of_getElem? (i := 135) rfl)
theorem wd_617 : Cond.instanceMethod ⟨"MapMerger$LineTable", "bucketOf", "(II)I"⟩ ∈ lw_tbl := am_m3 (List.mem_of_getElem? (i := 137) rfl)
theorem wd_618 : Cond.code ⟨"MapMerger$LineTable", "bucketOf", "(II)I"⟩ prog_4_method_3_code 5 (some FieldType.int) ∈ lw_tbl := am_m3 (List.mem_of_getElem? (i := 138) rfl)
theorem wd_619 : Cond.methodLink "MapMerger$LineTable" 36 ⟨"MapMerger$LineTable", "findKind", "(III)I"⟩ ∈ lw_tbl := am_m3 (List.mem_of_getElem? (i := 139) rfl)
theorem wd_621 : Cond.instanceMethod ⟨"MapMerger$LineTable", "findKind", "(III)I"⟩ ∈ lw_tbl := am_m3 (List.mem_of_getElem? (i := 141) rfl)
theorem wd_622 : Cond.code ⟨"MapMerger$LineTable", "findKind", "(III)I"⟩ prog_4_method_4_code 7 (some FieldType.int) ∈ lw_tbl := am_m3 (List.mem_of_getElem? (i := 142) rfl)
theorem wd_623 : Cond.methodLink "MapMerger$LineTable" 44 ⟨"MapMerger$Rows", "commonBeginning", "([BI[BII)I"⟩ ∈ lw_tbl := am_m3 (List.mem_of_getElem? (i := 143) rfl)
theorem wd_624 : Cond.methodLink "MapMerger" 179 ⟨"MapMerger$PathMap", "assign", "([BIII)V"⟩ ∈ lw_tbl := am_m3 (List.mem_of_getElem? (i := 144) rfl)
theorem wd_625 : Cond.instanceMethod ⟨"MapMerger$PathMap", "assign", "([BIII)V"⟩ ∈ lw_tbl := am_m3 (List.mem_of_getElem? (i := 145) rfl)
theorem wd_626 : Cond.selects "MapMerger$PathMap" ⟨"MapMerger$PathMap", "assign", "([BIII)V"⟩ ⟨"MapMerger$PathMap", "assign", "([BIII)V"⟩ ∈ lw_tbl := am_m3 (List.mem_of_getElem? (i := 146) rfl)
theorem wd_627 : Cond.code ⟨"MapMerger$PathMap", "assign", "([BIII)V"⟩ prog_8_method_11_code 6 none ∈ lw_tbl := am_m3 (List.mem_of_getElem? (i := 147) rfl)
theorem wd_628 : Cond.methodLink "MapMerger$PathMap" 49 ⟨"MapMerger$PathMap", "insertAt", "(I[BII)V"⟩ ∈ lw_tbl := am_m3 (List.mem_of_getElem? (i := 148) rfl)
theorem wd_630 : Cond.instanceMethod ⟨"MapMerger$PathMap", "insertAt", "(I[BII)V"⟩ ∈ lw_tbl := am_m3 (List.mem_of_getElem? (i := 150) rfl)
theorem wd_631 : Cond.code ⟨"MapMerger$PathMap", "insertAt", "(I[BII)V"⟩ prog_8_method_17_code 7 none ∈ lw_tbl := am_m3 (List.mem_of_getElem? (i := 151) rfl)
theorem wd_632 : Cond.methodLink "MapMerger$PathMap" 53 ⟨"java/lang/System", "arraycopy", "(Ljava/lang/Object;ILjava/lang/Object;II)V"⟩ ∈ lw_tbl := am_m3 (List.mem_of_getElem? (i := 152) rfl)
theorem wd_633 : Cond.methodLink "MapMerger" 79 ⟨"MapMerger$Inbox", "takeArguments", "()V"⟩ ∈ lw_tbl := am_m3 (List.mem_of_getElem? (i := 153) rfl)
theorem wd_634 : Cond.instanceMethod ⟨"MapMerger$Inbox", "takeArguments", "()V"⟩ ∈ lw_tbl := am_m3 (List.mem_of_getElem? (i := 154) rfl)
theorem wd_635 : Cond.selects "MapMerger$Inbox" ⟨"MapMerger$Inbox", "takeArguments", "()V"⟩ ⟨"MapMerger$Inbox", "takeArguments", "()V"⟩ ∈ lw_tbl := am_m3 (List.mem_of_getElem? (i := 155) rfl)
theorem wd_636 : Cond.code ⟨"MapMerger$Inbox", "takeArguments", "()V"⟩ prog_3_method_11_code 1 none ∈ lw_tbl := am_m3 (List.mem_of_getElem? (i := 156) rfl)
theorem wd_637 : Cond.methodLink "MapMerger" 82 ⟨"MapMerger", "answerOrThrow", "(I)I"⟩ ∈ lw_tbl := am_m3 (List.mem_of_getElem? (i := 157) rfl)
theorem wd_638 : Cond.static ⟨"MapMerger", "answerOrThrow", "(I)I"⟩ ∈ lw_tbl := am_m3 (List.mem_of_getElem? (i := 158) rfl)
theorem wd_639 : Cond.code ⟨"MapMerger", "answerOrThrow", "(I)I"⟩ prog_1_method_14_code 1 (some FieldType.int) ∈ lw_tbl := am_m3 (List.mem_of_getElem? (i := 159) rfl)
theorem wd_640 : Cond.classLink "MapMerger" 105 "java/util/NoSuchElementException" ∈ lw_tbl := am_m3 (List.mem_of_getElem? (i := 160) rfl)
theorem wd_641 : Cond.instantiable "java/util/NoSuchElementException" 6 ∈ lw_tbl := am_m3 (List.mem_of_getElem? (i := 161) rfl)
theorem wd_657 : Cond.codeWith ⟨"MapMergerLaw", "drop", "(LMapMerger;I)I"⟩ method_6_code 3 (some FieldType.int) [(0, 5, 8, 19), (0, 5, 11, 28)] ∈ lw_tbl := am_m3 (List.mem_of_getElem? (i := 177) rfl)
theorem wd_658 : Cond.classLink "MapMergerLaw" 28 "java/util/NoSuchElementException" ∈ lw_tbl := am_m3 (List.mem_of_getElem? (i := 178) rfl)
theorem wd_659 : Cond.methodLink "MapMergerLaw" 24 ⟨"MapMerger", "drop", "(I)V"⟩ ∈ lw_tbl := am_m3 (List.mem_of_getElem? (i := 179) rfl)
theorem wd_660 : Cond.instanceMethod ⟨"MapMerger", "drop", "(I)V"⟩ ∈ lw_tbl := am_m3 (List.mem_of_getElem? (i := 180) rfl)
theorem wd_661 : Cond.selects "MapMerger" ⟨"MapMerger", "drop", "(I)V"⟩ ⟨"MapMerger", "drop", "(I)V"⟩ ∈ lw_tbl := am_m3 (List.mem_of_getElem? (i := 181) rfl)
theorem wd_662 : Cond.code ⟨"MapMerger", "drop", "(I)V"⟩ prog_1_method_5_code 3 none ∈ lw_tbl := am_m3 (List.mem_of_getElem? (i := 182) rfl)
theorem wd_663 : Cond.methodLink "MapMerger" 85 ⟨"MapMerger", "dropArgument", "(I)I"⟩ ∈ lw_tbl := am_m3 (List.mem_of_getElem? (i := 183) rfl)
theorem wd_665 : Cond.instanceMethod ⟨"MapMerger", "dropArgument", "(I)I"⟩ ∈ lw_tbl := am_m3 (List.mem_of_getElem? (i := 185) rfl)
theorem wd_666 : Cond.code ⟨"MapMerger", "dropArgument", "(I)I"⟩ prog_1_method_16_code 3 (some FieldType.int) ∈ lw_tbl := am_m3 (List.mem_of_getElem? (i := 186) rfl)
theorem wd_667 : Cond.methodLink "MapMerger" 183 ⟨"MapMerger$PathMap", "find", "([BII)I"⟩ ∈ lw_tbl := am_m3 (List.mem_of_getElem? (i := 187) rfl)
theorem wd_668 : Cond.methodLink "MapMerger" 186 ⟨"MapMerger$PathMap", "removeAt", "(I)V"⟩ ∈ lw_tbl := am_m3 (List.mem_of_getElem? (i := 188) rfl)
theorem wd_669 : Cond.instanceMethod ⟨"MapMerger$PathMap", "removeAt", "(I)V"⟩ ∈ lw_tbl := am_m3 (List.mem_of_getElem? (i := 189) rfl)
theorem wd_670 : Cond.selects "MapMerger$PathMap" ⟨"MapMerger$PathMap", "removeAt", "(I)V"⟩ ⟨"MapMerger$PathMap", "removeAt", "(I)V"⟩ ∈ lw_tbl := am_m3 (List.mem_of_getElem? (i := 190) rfl)
theorem wd_671 : Cond.code ⟨"MapMerger$PathMap", "removeAt", "(I)V"⟩ prog_8_method_13_code 4 none ∈ lw_tbl := am_m3 (List.mem_of_getElem? (i := 191) rfl)
theorem wd_674 : Cond.codeWith ⟨"MapMergerLaw", "copy", "(LMapMerger;II)I"⟩ method_7_code 4 (some FieldType.int) [(0, 6, 9, 19)] ∈ lw_tbl := am_m3 (List.mem_of_getElem? (i := 194) rfl)
theorem wd_675 : Cond.methodLink "MapMergerLaw" 30 ⟨"MapMerger", "copy", "(II)V"⟩ ∈ lw_tbl := am_m3 (List.mem_of_getElem? (i := 195) rfl)
theorem wd_676 : Cond.instanceMethod ⟨"MapMerger", "copy", "(II)V"⟩ ∈ lw_tbl := am_m3 (List.mem_of_getElem? (i := 196) rfl)
theorem wd_677 : Cond.selects "MapMerger" ⟨"MapMerger", "copy", "(II)V"⟩ ⟨"MapMerger", "copy", "(II)V"⟩ ∈ lw_tbl := am_m3 (List.mem_of_getElem? (i := 197) rfl)
theorem wd_678 : Cond.code ⟨"MapMerger", "copy", "(II)V"⟩ prog_1_method_6_code 4 none ∈ lw_tbl := am_m3 (List.mem_of_getElem? (i := 198) rfl)
theorem wd_679 : Cond.methodLink "MapMerger" 91 ⟨"MapMerger$PathMap", "become", "(LMapMerger$PathMap;)V"⟩ ∈ lw_tbl := am_m3 (List.mem_of_getElem? (i := 199) rfl)
theorem wd_680 : Cond.instanceMethod ⟨"MapMerger$PathMap", "become", "(LMapMerger$PathMap;)V"⟩ ∈ lw_tbl := am_m3 (List.mem_of_getElem? (i := 200) rfl)
theorem wd_681 : Cond.selects "MapMerger$PathMap" ⟨"MapMerger$PathMap", "become", "(LMapMerger$PathMap;)V"⟩ ⟨"MapMerger$PathMap", "become", "(LMapMerger$PathMap;)V"⟩ ∈ lw_tbl := am_m3 (List.mem_of_getElem? (i := 201) rfl)
theorem wd_682 : Cond.code ⟨"MapMerger$PathMap", "become", "(LMapMerger$PathMap;)V"⟩ prog_8_method_14_code 2 none ∈ lw_tbl := am_m3 (List.mem_of_getElem? (i := 202) rfl)
theorem wd_685 : Cond.codeWith ⟨"MapMergerLaw", "merge", "(LMapMerger;[J)I"⟩ method_8_code 3 (some FieldType.int) [(0, 8, 11, 19), (0, 8, 14, 13)] ∈ lw_tbl := am_m3 (List.mem_of_getElem? (i := 205) rfl)
theorem wd_686 : Cond.methodLink "MapMergerLaw" 34 ⟨"MapMerger", "merge", "()I"⟩ ∈ lw_tbl := am_m3 (List.mem_of_getElem? (i := 206) rfl)
theorem wd_687 : Cond.instanceMethod ⟨"MapMerger", "merge", "()I"⟩ ∈ lw_tbl := am_m3 (List.mem_of_getElem? (i := 207) rfl)
theorem wd_688 : Cond.selects "MapMerger" ⟨"MapMerger", "merge", "()I"⟩ ⟨"MapMerger", "merge", "()I"⟩ ∈ lw_tbl := am_m3 (List.mem_of_getElem? (i := 208) rfl)
theorem wd_689 : Cond.code ⟨"MapMerger", "merge", "()I"⟩ prog_1_method_7_code 2 (some FieldType.int) ∈ lw_tbl := am_m3 (List.mem_of_getElem? (i := 209) rfl)
theorem wd_690 : Cond.methodLink "MapMerger" 95 ⟨"MapMerger$Merging", "mergeMaps", "()I"⟩ ∈ lw_tbl := am_m3 (List.mem_of_getElem? (i := 210) rfl)
theorem wd_691 : Cond.instanceMethod ⟨"MapMerger$Merging", "mergeMaps", "()I"⟩ ∈ lw_tbl := am_m3 (List.mem_of_getElem? (i := 211) rfl)
theorem wd_692 : Cond.selects "MapMerger$Merging" ⟨"MapMerger$Merging", "mergeMaps", "()I"⟩ ⟨"MapMerger$Merging", "mergeMaps", "()I"⟩ ∈ lw_tbl := am_m3 (List.mem_of_getElem? (i := 212) rfl)
theorem wd_693 : Cond.code ⟨"MapMerger$Merging", "mergeMaps", "()I"⟩ prog_5_method_3_code 3 (some FieldType.int) ∈ lw_tbl := am_m3 (List.mem_of_getElem? (i := 213) rfl)
theorem wd_694 : Cond.methodLink "MapMerger$Merging" 71 ⟨"MapMerger$Renames", "search", "(LMapMerger$PathMap;LMapMerger$PathMap;)V"⟩ ∈ lw_tbl := am_m3 (List.mem_of_getElem? (i := 214) rfl)
theorem wd_695 : Cond.instanceMethod ⟨"MapMerger$Renames", "search", "(LMapMerger$PathMap;LMapMerger$PathMap;)V"⟩ ∈ lw_tbl := am_m3 (List.mem_of_getElem? (i := 215) rfl)
theorem wd_696 : Cond.selects "MapMerger$Renames" ⟨"MapMerger$Renames", "search", "(LMapMerger$PathMap;LMapMerger$PathMap;)V"⟩ ⟨"MapMerger$Renames", "search", "(LMapMerger$PathMap;LMapMerger$PathMap;)V"⟩ ∈ lw_tbl := am_m3 (List.mem_of_getElem? (i := 216) rfl)
theorem wd_697 : Cond.code ⟨"MapMerger$Renames", "search", "(LMapMerger$PathMap;LMapMerger$PathMap;)V"⟩ prog_9_method_5_code 3 none ∈ lw_tbl := am_m3 (List.mem_of_getElem? (i := 217) rfl)
theorem wd_698 : Cond.methodLink "MapMerger$Renames" 39 ⟨"MapMerger$Renames", "listChanges", "(LMapMerger$PathMap;LMapMerger$PathMap;)V"⟩ ∈ lw_tbl := am_m3 (List.mem_of_getElem? (i := 218) rfl)
theorem wd_700 : Cond.instanceMethod ⟨"MapMerger$Renames", "listChanges", "(LMapMerger$PathMap;LMapMerger$PathMap;)V"⟩ ∈ lw_tbl := am_m3 (List.mem_of_getElem? (i := 220) rfl)
theorem wd_701 : Cond.code ⟨"MapMerger$Renames", "listChanges", "(LMapMerger$PathMap;LMapMerger$PathMap;)V"⟩ prog_9_method_6_code 6 none ∈ lw_tbl := am_m3 (List.mem_of_getElem? (i := 221) rfl)
theorem wd_702 : Cond.methodLink "MapMerger$Renames" 55 ⟨"MapMerger$PathMap", "size", "()I"⟩ ∈ lw_tbl := am_m3 (List.mem_of_getElem? (i := 222) rfl)
theorem wd_703 : Cond.methodLink "MapMerger$Renames" 61 ⟨"MapMerger$Renames", "compareNext", "(LMapMerger$PathMap;ILMapMerger$PathMap;I)I"⟩ ∈ lw_tbl := am_m3 (List.mem_of_getElem? (i := 223) rfl)
theorem wd_704 : Cond.static ⟨"MapMerger$Renames", "compareNext", "(LMapMerger$PathMap;ILMapMerger$PathMap;I)I"⟩ ∈ lw_tbl := am_m3 (List.mem_of_getElem? (i := 224) rfl)
theorem wd_705 : Cond.code ⟨"MapMerger$Renames", "compareNext", "(LMapMerger$PathMap;ILMapMerger$PathMap;I)I"⟩ prog_9_method_7_code 4 (some FieldType.int) ∈ lw_tbl := am_m3 (List.mem_of_getElem? (i := 225) rfl)
theorem wd_706 : Cond.methodLink "MapMerger$Renames" 72 ⟨"MapMerger$PathMap", "comparePaths", "(ILMapMerger$PathMap;I)I"⟩ ∈ lw_tbl := am_m3 (List.mem_of_getElem? (i := 226) rfl)
theorem wd_707 : Cond.instanceMethod ⟨"MapMerger$PathMap", "comparePaths", "(ILMapMerger$PathMap;I)I"⟩ ∈ lw_tbl := am_m3 (List.mem_of_getElem? (i := 227) rfl)
theorem wd_708 : Cond.selects "MapMerger$PathMap" ⟨"MapMerger$PathMap", "comparePaths", "(ILMapMerger$PathMap;I)I"⟩ ⟨"MapMerger$PathMap", "comparePaths", "(ILMapMerger$PathMap;I)I"⟩ ∈ lw_tbl := am_m3 (List.mem_of_getElem? (i := 228) rfl)
theorem wd_709 : Cond.code ⟨"MapMerger$PathMap", "comparePaths", "(ILMapMerger$PathMap;I)I"⟩ prog_8_method_9_code 4 (some FieldType.int) ∈ lw_tbl := am_m3 (List.mem_of_getElem? (i := 229) rfl)
theorem wd_710 : Cond.methodLink "MapMerger$Renames" 65 ⟨"MapMerger$Renames", "addGone", "(I)V"⟩ ∈ lw_tbl := am_m3 (List.mem_of_getElem? (i := 230) rfl)
theorem wd_712 : Cond.instanceMethod ⟨"MapMerger$Renames", "addGone", "(I)V"⟩ ∈ lw_tbl := am_m3 (List.mem_of_getElem? (i := 232) rfl)
theorem wd_713 : Cond.code ⟨"MapMerger$Renames", "addGone", "(I)V"⟩ prog_9_method_8_code 2 none ∈ lw_tbl := am_m3 (List.mem_of_getElem? (i := 233) rfl)
theorem wd_714 : Cond.methodLink "MapMerger$Renames" 69 ⟨"MapMerger$Renames", "addCome", "(I)V"⟩ ∈ lw_tbl := am_m3 (List.mem_of_getElem? (i := 234) rfl)
theorem wd_716 : Cond.instanceMethod ⟨"MapMerger$Renames", "addCome", "(I)V"⟩ ∈ lw_tbl := am_m3 (List.mem_of_getElem? (i := 236) rfl)
theorem wd_717 : Cond.code ⟨"MapMerger$Renames", "addCome", "(I)V"⟩ prog_9_method_9_code 2 none ∈ lw_tbl := am_m3 (List.mem_of_getElem? (i := 237) rfl)
theorem wd_718 : Cond.methodLink "MapMerger$Renames" 46 ⟨"MapMerger$Renames", "pairSameBlobs", "(LMapMerger$PathMap;LMapMerger$PathMap;)V"⟩ ∈ lw_tbl := am_m3 (List.mem_of_getElem? (i := 238) rfl)
theorem wd_720 : Cond.instanceMethod ⟨"MapMerger$Renames", "pairSameBlobs", "(LMapMerger$PathMap;LMapMerger$PathMap;)V"⟩ ∈ lw_tbl := am_m4 (List.mem_of_getElem? (i := 0) rfl)
theorem wd_721 : Cond.code ⟨"MapMerger$Renames", "pairSameBlobs", "(LMapMerger$PathMap;LMapMerger$PathMap;)V"⟩ prog_9_method_10_code 7 none ∈ lw_tbl := am_m4 (List.mem_of_getElem? (i := 1) rfl)
theorem wd_722 : Cond.methodLink "MapMerger$Renames" 76 ⟨"MapMerger$PathMap", "valueAt", "(I)I"⟩ ∈ lw_tbl := am_m4 (List.mem_of_getElem? (i := 2) rfl)
theorem wd_723 : Cond.instanceMethod ⟨"MapMerger$PathMap", "valueAt", "(I)I"⟩ ∈ lw_tbl := am_m4 (List.mem_of_getElem? (i := 3) rfl)
theorem wd_724 : Cond.selects "MapMerger$PathMap" ⟨"MapMerger$PathMap", "valueAt", "(I)I"⟩ ⟨"MapMerger$PathMap", "valueAt", "(I)I"⟩ ∈ lw_tbl := am_m4 (List.mem_of_getElem? (i := 4) rfl)
theorem wd_725 : Cond.code ⟨"MapMerger$PathMap", "valueAt", "(I)I"⟩ prog_8_method_4_code 2 (some FieldType.int) ∈ lw_tbl := am_m4 (List.mem_of_getElem? (i := 5) rfl)
theorem wd_726 : Cond.methodLink "MapMerger$Renames" 80 ⟨"MapMerger$Blobs", "lengthOf", "(I)I"⟩ ∈ lw_tbl := am_m4 (List.mem_of_getElem? (i := 6) rfl)
theorem wd_727 : Cond.methodLink "MapMerger$Renames" 85 ⟨"MapMerger$Renames", "join", "(III)V"⟩ ∈ lw_tbl := am_m4 (List.mem_of_getElem? (i := 7) rfl)
theorem wd_729 : Cond.instanceMethod ⟨"MapMerger$Renames", "join", "(III)V"⟩ ∈ lw_tbl := am_m4 (List.mem_of_getElem? (i := 9) rfl)
theorem wd_730 : Cond.code ⟨"MapMerger$Renames", "join", "(III)V"⟩ prog_9_method_14_code 4 none ∈ lw_tbl := am_m4 (List.mem_of_getElem? (i := 10) rfl)
theorem wd_731 : Cond.methodLink "MapMerger$Renames" 49 ⟨"MapMerger$Renames", "scoreAll", "(LMapMerger$PathMap;LMapMerger$PathMap;)V"⟩ ∈ lw_tbl := am_m4 (List.mem_of_getElem? (i := 11) rfl)
theorem wd_733 : Cond.instanceMethod ⟨"MapMerger$Renames", "scoreAll", "(LMapMerger$PathMap;LMapMerger$PathMap;)V"⟩ ∈ lw_tbl := am_m4 (List.mem_of_getElem? (i := 13) rfl)
theorem wd_734 : Cond.code ⟨"MapMerger$Renames", "scoreAll", "(LMapMerger$PathMap;LMapMerger$PathMap;)V"⟩ prog_9_method_11_code 8 none ∈ lw_tbl := am_m4 (List.mem_of_getElem? (i := 14) rfl)
theorem wd_735 : Cond.methodLink "MapMerger$Renames" 89 ⟨"MapMerger$Blobs", "score", "(II)I"⟩ ∈ lw_tbl := am_m4 (List.mem_of_getElem? (i := 15) rfl)
theorem wd_736 : Cond.instanceMethod ⟨"MapMerger$Blobs", "score", "(II)I"⟩ ∈ lw_tbl := am_m4 (List.mem_of_getElem? (i := 16) rfl)
theorem wd_737 : Cond.selects "MapMerger$Blobs" ⟨"MapMerger$Blobs", "score", "(II)I"⟩ ⟨"MapMerger$Blobs", "score", "(II)I"⟩ ∈ lw_tbl := am_m4 (List.mem_of_getElem? (i := 17) rfl)
theorem wd_738 : Cond.code ⟨"MapMerger$Blobs", "score", "(II)I"⟩ prog_2_method_14_code 4 (some FieldType.int) ∈ lw_tbl := am_m4 (List.mem_of_getElem? (i := 18) rfl)
theorem wd_739 : Cond.methodLink "MapMerger$Blobs" 72 ⟨"java/lang/Math", "max", "(II)I"⟩ ∈ lw_tbl := am_m4 (List.mem_of_getElem? (i := 19) rfl)
theorem wd_740 : Cond.static ⟨"java/lang/Math", "max", "(II)I"⟩ ∈ lw_tbl := am_m4 (List.mem_of_getElem? (i := 20) rfl)
theorem wd_741 : Cond.code ⟨"java/lang/Math", "max", "(II)I"⟩ prog_20_method_65_code 2 (some FieldType.int) ∈ lw_tbl := am_m4 (List.mem_of_getElem? (i := 21) rfl)
theorem wd_742 : Cond.methodLink "MapMerger$Blobs" 78 ⟨"MapMerger$Blobs", "commonLength", "(II)I"⟩ ∈ lw_tbl := am_m4 (List.mem_of_getElem? (i := 22) rfl)
theorem wd_744 : Cond.instanceMethod ⟨"MapMerger$Blobs", "commonLength", "(II)I"⟩ ∈ lw_tbl := am_m4 (List.mem_of_getElem? (i := 24) rfl)
theorem wd_745 : Cond.code ⟨"MapMerger$Blobs", "commonLength", "(II)I"⟩ prog_2_method_18_code 6 (some FieldType.int) ∈ lw_tbl := am_m4 (List.mem_of_getElem? (i := 25) rfl)
theorem wd_746 : Cond.methodLink "MapMerger$Blobs" 99 ⟨"MapMerger$Blobs", "lineKind", "(II)I"⟩ ∈ lw_tbl := am_m4 (List.mem_of_getElem? (i := 26) rfl)
theorem wd_747 : Cond.instanceMethod ⟨"MapMerger$Blobs", "lineKind", "(II)I"⟩ ∈ lw_tbl := am_m4 (List.mem_of_getElem? (i := 27) rfl)
theorem wd_748 : Cond.selects "MapMerger$Blobs" ⟨"MapMerger$Blobs", "lineKind", "(II)I"⟩ ⟨"MapMerger$Blobs", "lineKind", "(II)I"⟩ ∈ lw_tbl := am_m4 (List.mem_of_getElem? (i := 28) rfl)
theorem wd_749 : Cond.code ⟨"MapMerger$Blobs", "lineKind", "(II)I"⟩ prog_2_method_10_code 3 (some FieldType.int) ∈ lw_tbl := am_m4 (List.mem_of_getElem? (i := 29) rfl)
theorem wd_750 : Cond.methodLink "MapMerger$Renames" 52 ⟨"MapMerger$Renames", "pairByScore", "()V"⟩ ∈ lw_tbl := am_m4 (List.mem_of_getElem? (i := 30) rfl)
theorem wd_752 : Cond.instanceMethod ⟨"MapMerger$Renames", "pairByScore", "()V"⟩ ∈ lw_tbl := am_m4 (List.mem_of_getElem? (i := 32) rfl)
theorem wd_753 : Cond.code ⟨"MapMerger$Renames", "pairByScore", "()V"⟩ prog_9_method_12_code 3 none ∈ lw_tbl := am_m4 (List.mem_of_getElem? (i := 33) rfl)
theorem wd_754 : Cond.methodLink "MapMerger$Renames" 93 ⟨"MapMerger$Renames", "bestFreePair", "()I"⟩ ∈ lw_tbl := am_m4 (List.mem_of_getElem? (i := 34) rfl)
theorem wd_756 : Cond.instanceMethod ⟨"MapMerger$Renames", "bestFreePair", "()I"⟩ ∈ lw_tbl := am_m4 (List.mem_of_getElem? (i := 36) rfl)
theorem wd_757 : Cond.code ⟨"MapMerger$Renames", "bestFreePair", "()I"⟩ prog_9_method_13_code 7 (some FieldType.int) ∈ lw_tbl := am_m4 (List.mem_of_getElem? (i := 37) rfl)
theorem wd_758 : Cond.methodLink "MapMerger$Merging" 75 ⟨"MapMerger$Merging", "listGroups", "()V"⟩ ∈ lw_tbl := am_m4 (List.mem_of_getElem? (i := 38) rfl)
theorem wd_760 : Cond.instanceMethod ⟨"MapMerger$Merging", "listGroups", "()V"⟩ ∈ lw_tbl := am_m4 (List.mem_of_getElem? (i := 40) rfl)
theorem wd_761 : Cond.code ⟨"MapMerger$Merging", "listGroups", "()V"⟩ prog_5_method_4_code 3 none ∈ lw_tbl := am_m4 (List.mem_of_getElem? (i := 41) rfl)
theorem wd_762 : Cond.methodLink "MapMerger$Merging" 100 ⟨"MapMerger$PathMap", "size", "()I"⟩ ∈ lw_tbl := am_m4 (List.mem_of_getElem? (i := 42) rfl)
theorem wd_763 : Cond.methodLink "MapMerger$Merging" 103 ⟨"MapMerger$Renames", "partnerOf", "(I)I"⟩ ∈ lw_tbl := am_m4 (List.mem_of_getElem? (i := 43) rfl)
theorem wd_764 : Cond.instanceMethod ⟨"MapMerger$Renames", "partnerOf", "(I)I"⟩ ∈ lw_tbl := am_m4 (List.mem_of_getElem? (i := 44) rfl)
theorem wd_765 : Cond.selects "MapMerger$Renames" ⟨"MapMerger$Renames", "partnerOf", "(I)I"⟩ ⟨"MapMerger$Renames", "partnerOf", "(I)I"⟩ ∈ lw_tbl := am_m4 (List.mem_of_getElem? (i := 45) rfl)
theorem wd_766 : Cond.code ⟨"MapMerger$Renames", "partnerOf", "(I)I"⟩ prog_9_method_2_code 2 (some FieldType.int) ∈ lw_tbl := am_m4 (List.mem_of_getElem? (i := 46) rfl)
theorem wd_767 : Cond.methodLink "MapMerger$Merging" 107 ⟨"MapMerger$Merging", "listGroup", "(III)V"⟩ ∈ lw_tbl := am_m4 (List.mem_of_getElem? (i := 47) rfl)
theorem wd_769 : Cond.instanceMethod ⟨"MapMerger$Merging", "listGroup", "(III)V"⟩ ∈ lw_tbl := am_m4 (List.mem_of_getElem? (i := 49) rfl)
theorem wd_770 : Cond.code ⟨"MapMerger$Merging", "listGroup", "(III)V"⟩ prog_5_method_5_code 4 none ∈ lw_tbl := am_m4 (List.mem_of_getElem? (i := 50) rfl)
theorem wd_771 : Cond.methodLink "MapMerger$Merging" 111 ⟨"MapMerger$PathMap", "findPathOf", "(LMapMerger$PathMap;I)I"⟩ ∈ lw_tbl := am_m4 (List.mem_of_getElem? (i := 51) rfl)
theorem wd_772 : Cond.instanceMethod ⟨"MapMerger$PathMap", "findPathOf", "(LMapMerger$PathMap;I)I"⟩ ∈ lw_tbl := am_m4 (List.mem_of_getElem? (i := 52) rfl)
theorem wd_773 : Cond.selects "MapMerger$PathMap" ⟨"MapMerger$PathMap", "findPathOf", "(LMapMerger$PathMap;I)I"⟩ ⟨"MapMerger$PathMap", "findPathOf", "(LMapMerger$PathMap;I)I"⟩ ∈ lw_tbl := am_m4 (List.mem_of_getElem? (i := 53) rfl)
theorem wd_774 : Cond.code ⟨"MapMerger$PathMap", "findPathOf", "(LMapMerger$PathMap;I)I"⟩ prog_8_method_8_code 3 (some FieldType.int) ∈ lw_tbl := am_m4 (List.mem_of_getElem? (i := 54) rfl)
theorem wd_775 : Cond.methodLink "MapMerger$Merging" 78 ⟨"MapMerger$Outcomes", "clear", "()V"⟩ ∈ lw_tbl := am_m4 (List.mem_of_getElem? (i := 55) rfl)
theorem wd_776 : Cond.instanceMethod ⟨"MapMerger$Outcomes", "clear", "()V"⟩ ∈ lw_tbl := am_m4 (List.mem_of_getElem? (i := 56) rfl)
theorem wd_777 : Cond.selects "MapMerger$Outcomes" ⟨"MapMerger$Outcomes", "clear", "()V"⟩ ⟨"MapMerger$Outcomes", "clear", "()V"⟩ ∈ lw_tbl := am_m4 (List.mem_of_getElem? (i := 57) rfl)
theorem wd_778 : Cond.code ⟨"MapMerger$Outcomes", "clear", "()V"⟩ prog_6_method_12_code 1 none ∈ lw_tbl := am_m4 (List.mem_of_getElem? (i := 58) rfl)
theorem wd_779 : Cond.methodLink "MapMerger$Outcomes" 79 ⟨"MapMerger$PathMap", "clear", "()V"⟩ ∈ lw_tbl := am_m4 (List.mem_of_getElem? (i := 59) rfl)
theorem wd_780 : Cond.instanceMethod ⟨"MapMerger$PathMap", "clear", "()V"⟩ ∈ lw_tbl := am_m4 (List.mem_of_getElem? (i := 60) rfl)
theorem wd_781 : Cond.selects "MapMerger$PathMap" ⟨"MapMerger$PathMap", "clear", "()V"⟩ ⟨"MapMerger$PathMap", "clear", "()V"⟩ ∈ lw_tbl := am_m4 (List.mem_of_getElem? (i := 61) rfl)
theorem wd_782 : Cond.code ⟨"MapMerger$PathMap", "clear", "()V"⟩ prog_8_method_15_code 1 none ∈ lw_tbl := am_m4 (List.mem_of_getElem? (i := 62) rfl)
theorem wd_783 : Cond.methodLink "MapMerger$Merging" 85 ⟨"MapMerger$Merging", "addGroup", "(III)Z"⟩ ∈ lw_tbl := am_m4 (List.mem_of_getElem? (i := 63) rfl)
theorem wd_785 : Cond.instanceMethod ⟨"MapMerger$Merging", "addGroup", "(III)Z"⟩ ∈ lw_tbl := am_m4 (List.mem_of_getElem? (i := 65) rfl)
theorem wd_786 : Cond.code ⟨"MapMerger$Merging", "addGroup", "(III)Z"⟩ prog_5_method_6_code 15 (some FieldType.boolean) ∈ lw_tbl := am_m4 (List.mem_of_getElem? (i := 66) rfl)
theorem wd_787 : Cond.methodLink "MapMerger$Merging" 115 ⟨"MapMerger$PathMap", "valueAt", "(I)I"⟩ ∈ lw_tbl := am_m4 (List.mem_of_getElem? (i := 67) rfl)
theorem wd_788 : Cond.methodLink "MapMerger$Merging" 118 ⟨"MapMerger$Merging", "isPathOfBase", "(ILMapMerger$PathMap;I)Z"⟩ ∈ lw_tbl := am_m4 (List.mem_of_getElem? (i := 68) rfl)
theorem wd_790 : Cond.instanceMethod ⟨"MapMerger$Merging", "isPathOfBase", "(ILMapMerger$PathMap;I)Z"⟩ ∈ lw_tbl := am_m4 (List.mem_of_getElem? (i := 70) rfl)
theorem wd_791 : Cond.code ⟨"MapMerger$Merging", "isPathOfBase", "(ILMapMerger$PathMap;I)Z"⟩ prog_5_method_7_code 4 (some FieldType.boolean) ∈ lw_tbl := am_m4 (List.mem_of_getElem? (i := 71) rfl)
theorem wd_792 : Cond.methodLink "MapMerger$Merging" 122 ⟨"MapMerger$PathMap", "comparePaths", "(ILMapMerger$PathMap;I)I"⟩ ∈ lw_tbl := am_m4 (List.mem_of_getElem? (i := 72) rfl)
theorem wd_793 : Cond.methodLink "MapMerger$Merging" 126 ⟨"MapMerger$Outcomes", "open", "(LMapMerger$PathMap;I)I"⟩ ∈ lw_tbl := am_m4 (List.mem_of_getElem? (i := 73) rfl)
theorem wd_794 : Cond.instanceMethod ⟨"MapMerger$Outcomes", "open", "(LMapMerger$PathMap;I)I"⟩ ∈ lw_tbl := am_m4 (List.mem_of_getElem? (i := 74) rfl)
theorem wd_795 : Cond.selects "MapMerger$Outcomes" ⟨"MapMerger$Outcomes", "open", "(LMapMerger$PathMap;I)I"⟩ ⟨"MapMerger$Outcomes", "open", "(LMapMerger$PathMap;I)I"⟩ ∈ lw_tbl := am_m4 (List.mem_of_getElem? (i := 75) rfl)
theorem wd_796 : Cond.code ⟨"MapMerger$Outcomes", "open", "(LMapMerger$PathMap;I)I"⟩ prog_6_method_13_code 4 (some FieldType.int) ∈ lw_tbl := am_m4 (List.mem_of_getElem? (i := 76) rfl)
theorem wd_797 : Cond.methodLink "MapMerger$Outcomes" 85 ⟨"MapMerger$PathMap", "addPathOf", "(LMapMerger$PathMap;II)Z"⟩ ∈ lw_tbl := am_m4 (List.mem_of_getElem? (i := 77) rfl)
theorem wd_798 : Cond.instanceMethod ⟨"MapMerger$PathMap", "addPathOf", "(LMapMerger$PathMap;II)Z"⟩ ∈ lw_tbl := am_m4 (List.mem_of_getElem? (i := 78) rfl)
theorem wd_799 : Cond.selects "MapMerger$PathMap" ⟨"MapMerger$PathMap", "addPathOf", "(LMapMerger$PathMap;II)Z"⟩ ⟨"MapMerger$PathMap", "addPathOf", "(LMapMerger$PathMap;II)Z"⟩ ∈ lw_tbl := am_m4 (List.mem_of_getElem? (i := 79) rfl)
theorem wd_800 : Cond.code ⟨"MapMerger$PathMap", "addPathOf", "(LMapMerger$PathMap;II)Z"⟩ prog_8_method_12_code 7 (some FieldType.boolean) ∈ lw_tbl := am_m4 (List.mem_of_getElem? (i := 80) rfl)
theorem wd_801 : Cond.methodLink "MapMerger$Merging" 129 ⟨"MapMerger$Outcomes", "setSources", "(IIII)V"⟩ ∈ lw_tbl := am_m4 (List.mem_of_getElem? (i := 81) rfl)
theorem wd_802 : Cond.instanceMethod ⟨"MapMerger$Outcomes", "setSources", "(IIII)V"⟩ ∈ lw_tbl := am_m4 (List.mem_of_getElem? (i := 82) rfl)
theorem wd_803 : Cond.selects "MapMerger$Outcomes" ⟨"MapMerger$Outcomes", "setSources", "(IIII)V"⟩ ⟨"MapMerger$Outcomes", "setSources", "(IIII)V"⟩ ∈ lw_tbl := am_m4 (List.mem_of_getElem? (i := 83) rfl)
theorem wd_804 : Cond.code ⟨"MapMerger$Outcomes", "setSources", "(IIII)V"⟩ prog_6_method_14_code 5 none ∈ lw_tbl := am_m4 (List.mem_of_getElem? (i := 84) rfl)
theorem wd_805 : Cond.methodLink "MapMerger$Merging" 133 ⟨"MapMerger$Outcomes", "setUnmerged", "(I)V"⟩ ∈ lw_tbl := am_m4 (List.mem_of_getElem? (i := 85) rfl)
theorem wd_806 : Cond.instanceMethod ⟨"MapMerger$Outcomes", "setUnmerged", "(I)V"⟩ ∈ lw_tbl := am_m4 (List.mem_of_getElem? (i := 86) rfl)
theorem wd_807 : Cond.selects "MapMerger$Outcomes" ⟨"MapMerger$Outcomes", "setUnmerged", "(I)V"⟩ ⟨"MapMerger$Outcomes", "setUnmerged", "(I)V"⟩ ∈ lw_tbl := am_m4 (List.mem_of_getElem? (i := 87) rfl)
theorem wd_808 : Cond.code ⟨"MapMerger$Outcomes", "setUnmerged", "(I)V"⟩ prog_6_method_16_code 2 none ∈ lw_tbl := am_m4 (List.mem_of_getElem? (i := 88) rfl)
theorem wd_809 : Cond.methodLink "MapMerger$Merging" 89 ⟨"MapMerger$Outcomes", "size", "()I"⟩ ∈ lw_tbl := am_m4 (List.mem_of_getElem? (i := 89) rfl)
theorem wd_810 : Cond.methodLink "MapMerger$Merging" 93 ⟨"MapMerger$Merging", "giveText", "(I)Z"⟩ ∈ lw_tbl := am_m4 (List.mem_of_getElem? (i := 90) rfl)
theorem wd_812 : Cond.instanceMethod ⟨"MapMerger$Merging", "giveText", "(I)Z"⟩ ∈ lw_tbl := am_m4 (List.mem_of_getElem? (i := 92) rfl)
theorem wd_813 : Cond.code ⟨"MapMerger$Merging", "giveText", "(I)Z"⟩ prog_5_method_8_code 6 (some FieldType.boolean) ∈ lw_tbl := am_m4 (List.mem_of_getElem? (i := 93) rfl)
theorem wd_814 : Cond.methodLink "MapMerger$Merging" 137 ⟨"MapMerger$Outcomes", "sourceOf", "(II)I"⟩ ∈ lw_tbl := am_m4 (List.mem_of_getElem? (i := 94) rfl)
theorem wd_815 : Cond.instanceMethod ⟨"MapMerger$Outcomes", "sourceOf", "(II)I"⟩ ∈ lw_tbl := am_m4 (List.mem_of_getElem? (i := 95) rfl)
theorem wd_816 : Cond.selects "MapMerger$Outcomes" ⟨"MapMerger$Outcomes", "sourceOf", "(II)I"⟩ ⟨"MapMerger$Outcomes", "sourceOf", "(II)I"⟩ ∈ lw_tbl := am_m4 (List.mem_of_getElem? (i := 96) rfl)
theorem wd_817 : Cond.code ⟨"MapMerger$Outcomes", "sourceOf", "(II)I"⟩ prog_6_method_15_code 3 (some FieldType.int) ∈ lw_tbl := am_m4 (List.mem_of_getElem? (i := 97) rfl)
theorem wd_818 : Cond.methodLink "MapMerger$Merging" 141 ⟨"MapMerger$Merging", "chooseBlob", "(III)I"⟩ ∈ lw_tbl := am_m4 (List.mem_of_getElem? (i := 98) rfl)
theorem wd_819 : Cond.static ⟨"MapMerger$Merging", "chooseBlob", "(III)I"⟩ ∈ lw_tbl := am_m4 (List.mem_of_getElem? (i := 99) rfl)
theorem wd_820 : Cond.code ⟨"MapMerger$Merging", "chooseBlob", "(III)I"⟩ prog_5_method_9_code 3 (some FieldType.int) ∈ lw_tbl := am_m4 (List.mem_of_getElem? (i := 100) rfl)
theorem wd_821 : Cond.methodLink "MapMerger$Merging" 145 ⟨"MapMerger$Outcomes", "setBlob", "(II)V"⟩ ∈ lw_tbl := am_m4 (List.mem_of_getElem? (i := 101) rfl)
theorem wd_822 : Cond.instanceMethod ⟨"MapMerger$Outcomes", "setBlob", "(II)V"⟩ ∈ lw_tbl := am_m4 (List.mem_of_getElem? (i := 102) rfl)
theorem wd_823 : Cond.selects "MapMerger$Outcomes" ⟨"MapMerger$Outcomes", "setBlob", "(II)V"⟩ ⟨"MapMerger$Outcomes", "setBlob", "(II)V"⟩ ∈ lw_tbl := am_m4 (List.mem_of_getElem? (i := 103) rfl)
theorem wd_824 : Cond.code ⟨"MapMerger$Outcomes", "setBlob", "(II)V"⟩ prog_6_method_18_code 3 none ∈ lw_tbl := am_m4 (List.mem_of_getElem? (i := 104) rfl)
theorem wd_825 : Cond.methodLink "MapMerger$Merging" 149 ⟨"MapMerger$TextMerger", "mergeTexts", "(III)V"⟩ ∈ lw_tbl := am_m4 (List.mem_of_getElem? (i := 105) rfl)
theorem wd_826 : Cond.instanceMethod ⟨"MapMerger$TextMerger", "mergeTexts", "(III)V"⟩ ∈ lw_tbl := am_m4 (List.mem_of_getElem? (i := 106) rfl)
theorem wd_827 : Cond.selects "MapMerger$TextMerger" ⟨"MapMerger$TextMerger", "mergeTexts", "(III)V"⟩ ⟨"MapMerger$TextMerger", "mergeTexts", "(III)V"⟩ ∈ lw_tbl := am_m4 (List.mem_of_getElem? (i := 107) rfl)
theorem wd_828 : Cond.code ⟨"MapMerger$TextMerger", "mergeTexts", "(III)V"⟩ prog_11_method_5_code 5 none ∈ lw_tbl := am_m4 (List.mem_of_getElem? (i := 108) rfl)
theorem wd_829 : Cond.methodLink "MapMerger$TextMerger" 54 ⟨"MapMerger$TextMerger", "startText", "()V"⟩ ∈ lw_tbl := am_m4 (List.mem_of_getElem? (i := 109) rfl)
theorem wd_831 : Cond.instanceMethod ⟨"MapMerger$TextMerger", "startText", "()V"⟩ ∈ lw_tbl := am_m4 (List.mem_of_getElem? (i := 111) rfl)
theorem wd_832 : Cond.code ⟨"MapMerger$TextMerger", "startText", "()V"⟩ prog_11_method_6_code 1 none ∈ lw_tbl := am_m4 (List.mem_of_getElem? (i := 112) rfl)
theorem wd_833 : Cond.methodLink "MapMerger$TextMerger" 57 ⟨"MapMerger$Blobs", "isRough", "(I)Z"⟩ ∈ lw_tbl := am_m4 (List.mem_of_getElem? (i := 113) rfl)
theorem wd_834 : Cond.instanceMethod ⟨"MapMerger$Blobs", "isRough", "(I)Z"⟩ ∈ lw_tbl := am_m4 (List.mem_of_getElem? (i := 114) rfl)
theorem wd_835 : Cond.selects "MapMerger$Blobs" ⟨"MapMerger$Blobs", "isRough", "(I)Z"⟩ ⟨"MapMerger$Blobs", "isRough", "(I)Z"⟩ ∈ lw_tbl := am_m4 (List.mem_of_getElem? (i := 115) rfl)
theorem wd_836 : Cond.code ⟨"MapMerger$Blobs", "isRough", "(I)Z"⟩ prog_2_method_8_code 2 (some FieldType.boolean) ∈ lw_tbl := am_m4 (List.mem_of_getElem? (i := 116) rfl)
theorem wd_837 : Cond.methodLink "MapMerger$TextMerger" 63 ⟨"MapMerger$Part", "begin", "(I)V"⟩ ∈ lw_tbl := am_m4 (List.mem_of_getElem? (i := 117) rfl)
theorem wd_838 : Cond.instanceMethod ⟨"MapMerger$Part", "begin", "(I)V"⟩ ∈ lw_tbl := am_m4 (List.mem_of_getElem? (i := 118) rfl)
theorem wd_839 : Cond.selects "MapMerger$Part" ⟨"MapMerger$Part", "begin", "(I)V"⟩ ⟨"MapMerger$Part", "begin", "(I)V"⟩ ∈ lw_tbl := am_m4 (List.mem_of_getElem? (i := 119) rfl)
theorem wd_840 : Cond.code ⟨"MapMerger$Part", "begin", "(I)V"⟩ prog_7_method_2_code 2 none ∈ lw_tbl := am_m4 (List.mem_of_getElem? (i := 120) rfl)
theorem wd_841 : Cond.methodLink "MapMerger$TextMerger" 67 ⟨"MapMerger$TextMerger", "pairLines", "(II[I)V"⟩ ∈ lw_tbl := am_m4 (List.mem_of_getElem? (i := 121) rfl)
theorem wd_843 : Cond.instanceMethod ⟨"MapMerger$TextMerger", "pairLines", "(II[I)V"⟩ ∈ lw_tbl := am_m4 (List.mem_of_getElem? (i := 123) rfl)
theorem wd_844 : Cond.code ⟨"MapMerger$TextMerger", "pairLines", "(II[I)V"⟩ prog_11_method_7_code 8 none ∈ lw_tbl := am_m4 (List.mem_of_getElem? (i := 124) rfl)
theorem wd_845 : Cond.methodLink "MapMerger$TextMerger" 71 ⟨"MapMerger$Blobs", "lineCount", "(I)I"⟩ ∈ lw_tbl := am_m4 (List.mem_of_getElem? (i := 125) rfl)
theorem wd_846 : Cond.instanceMethod ⟨"MapMerger$Blobs", "lineCount", "(I)I"⟩ ∈ lw_tbl := am_m4 (List.mem_of_getElem? (i := 126) rfl)
theorem wd_847 : Cond.selects "MapMerger$Blobs" ⟨"MapMerger$Blobs", "lineCount", "(I)I"⟩ ⟨"MapMerger$Blobs", "lineCount", "(I)I"⟩ ∈ lw_tbl := am_m4 (List.mem_of_getElem? (i := 127) rfl)
theorem wd_848 : Cond.code ⟨"MapMerger$Blobs", "lineCount", "(I)I"⟩ prog_2_method_9_code 2 (some FieldType.int) ∈ lw_tbl := am_m4 (List.mem_of_getElem? (i := 128) rfl)
theorem wd_849 : Cond.methodLink "MapMerger$TextMerger" 94 ⟨"MapMerger$TextMerger", "fillLongest", "(II)V"⟩ ∈ lw_tbl := am_m4 (List.mem_of_getElem? (i := 129) rfl)
theorem wd_851 : Cond.instanceMethod ⟨"MapMerger$TextMerger", "fillLongest", "(II)V"⟩ ∈ lw_tbl := am_m4 (List.mem_of_getElem? (i := 131) rfl)
theorem wd_852 : Cond.code ⟨"MapMerger$TextMerger", "fillLongest", "(II)V"⟩ prog_11_method_8_code 9 none ∈ lw_tbl := am_m4 (List.mem_of_getElem? (i := 132) rfl)
theorem wd_853 : Cond.methodLink "MapMerger$TextMerger" 97 ⟨"MapMerger$Blobs", "lineKind", "(II)I"⟩ ∈ lw_tbl := am_m4 (List.mem_of_getElem? (i := 133) rfl)
theorem wd_854 : Cond.methodLink "MapMerger$TextMerger" 101 ⟨"java/lang/Math", "max", "(II)I"⟩ ∈ lw_tbl := am_m4 (List.mem_of_getElem? (i := 134) rfl)
theorem wd_855 : Cond.methodLink "MapMerger$TextMerger" 75 ⟨"MapMerger$TextMerger", "addStableLines", "(I)V"⟩ ∈ lw_tbl := am_m4 (List.mem_of_getElem? (i := 135) rfl)
theorem wd_857 : Cond.instanceMethod ⟨"MapMerger$TextMerger", "addStableLines", "(I)V"⟩ ∈ lw_tbl := am_m4 (List.mem_of_getElem? (i := 137) rfl)
theorem wd_858 : Cond.code ⟨"MapMerger$TextMerger", "addStableLines", "(I)V"⟩ prog_11_method_9_code 3 none ∈ lw_tbl := am_m4 (List.mem_of_getElem? (i := 138) rfl)
theorem wd_859 : Cond.methodLink "MapMerger$TextMerger" 106 ⟨"MapMerger$Part", "reachTo", "(I)V"⟩ ∈ lw_tbl := am_m4 (List.mem_of_getElem? (i := 139) rfl)
theorem wd_860 : Cond.instanceMethod ⟨"MapMerger$Part", "reachTo", "(I)V"⟩ ∈ lw_tbl := am_m4 (List.mem_of_getElem? (i := 140) rfl)
theorem wd_861 : Cond.selects "MapMerger$Part" ⟨"MapMerger$Part", "reachTo", "(I)V"⟩ ⟨"MapMerger$Part", "reachTo", "(I)V"⟩ ∈ lw_tbl := am_m4 (List.mem_of_getElem? (i := 141) rfl)
theorem wd_862 : Cond.code ⟨"MapMerger$Part", "reachTo", "(I)V"⟩ prog_7_method_3_code 2 none ∈ lw_tbl := am_m4 (List.mem_of_getElem? (i := 142) rfl)
theorem wd_863 : Cond.methodLink "MapMerger$TextMerger" 109 ⟨"MapMerger$TextMerger", "addPart", "()V"⟩ ∈ lw_tbl := am_m4 (List.mem_of_getElem? (i := 143) rfl)
theorem wd_865 : Cond.instanceMethod ⟨"MapMerger$TextMerger", "addPart", "()V"⟩ ∈ lw_tbl := am_m4 (List.mem_of_getElem? (i := 145) rfl)
theorem wd_866 : Cond.code ⟨"MapMerger$TextMerger", "addPart", "()V"⟩ prog_11_method_11_code 1 none ∈ lw_tbl := am_m4 (List.mem_of_getElem? (i := 146) rfl)
theorem wd_867 : Cond.methodLink "MapMerger$TextMerger" 125 ⟨"MapMerger$Part", "isAs", "(LMapMerger$Part;)Z"⟩ ∈ lw_tbl := am_m4 (List.mem_of_getElem? (i := 147) rfl)
theorem wd_868 : Cond.instanceMethod ⟨"MapMerger$Part", "isAs", "(LMapMerger$Part;)Z"⟩ ∈ lw_tbl := am_m4 (List.mem_of_getElem? (i := 148) rfl)
theorem wd_869 : Cond.selects "MapMerger$Part" ⟨"MapMerger$Part", "isAs", "(LMapMerger$Part;)Z"⟩ ⟨"MapMerger$Part", "isAs", "(LMapMerger$Part;)Z"⟩ ∈ lw_tbl := am_m4 (List.mem_of_getElem? (i := 149) rfl)
theorem wd_870 : Cond.code ⟨"MapMerger$Part", "isAs", "(LMapMerger$Part;)Z"⟩ prog_7_method_9_code 4 (some FieldType.boolean) ∈ lw_tbl := am_m4 (List.mem_of_getElem? (i := 150) rfl)
theorem wd_871 : Cond.methodLink "MapMerger$Part" 33 ⟨"MapMerger$Blobs", "lineKind", "(II)I"⟩ ∈ lw_tbl := am_m4 (List.mem_of_getElem? (i := 151) rfl)
theorem wd_872 : Cond.methodLink "MapMerger$TextMerger" 129 ⟨"MapMerger$Part", "firstByte", "()I"⟩ ∈ lw_tbl := am_m4 (List.mem_of_getElem? (i := 152) rfl)
theorem wd_873 : Cond.instanceMethod ⟨"MapMerger$Part", "firstByte", "()I"⟩ ∈ lw_tbl := am_m4 (List.mem_of_getElem? (i := 153) rfl)
theorem wd_874 : Cond.selects "MapMerger$Part" ⟨"MapMerger$Part", "firstByte", "()I"⟩ ⟨"MapMerger$Part", "firstByte", "()I"⟩ ∈ lw_tbl := am_m4 (List.mem_of_getElem? (i := 154) rfl)
theorem wd_875 : Cond.code ⟨"MapMerger$Part", "firstByte", "()I"⟩ prog_7_method_6_code 1 (some FieldType.int) ∈ lw_tbl := am_m4 (List.mem_of_getElem? (i := 155) rfl)
theorem wd_876 : Cond.methodLink "MapMerger$Part" 29 ⟨"MapMerger$Blobs", "lineStart", "(II)I"⟩ ∈ lw_tbl := am_m4 (List.mem_of_getElem? (i := 156) rfl)
theorem wd_877 : Cond.instanceMethod ⟨"MapMerger$Blobs", "lineStart", "(II)I"⟩ ∈ lw_tbl := am_m4 (List.mem_of_getElem? (i := 157) rfl)
theorem wd_878 : Cond.selects "MapMerger$Blobs" ⟨"MapMerger$Blobs", "lineStart", "(II)I"⟩ ⟨"MapMerger$Blobs", "lineStart", "(II)I"⟩ ∈ lw_tbl := am_m4 (List.mem_of_getElem? (i := 158) rfl)
theorem wd_879 : Cond.code ⟨"MapMerger$Blobs", "lineStart", "(II)I"⟩ prog_2_method_11_code 3 (some FieldType.int) ∈ lw_tbl := am_m4 (List.mem_of_getElem? (i := 159) rfl)
theorem wd_880 : Cond.methodLink "MapMerger$TextMerger" 112 ⟨"MapMerger$Part", "byteBehind", "()I"⟩ ∈ lw_tbl := am_m4 (List.mem_of_getElem? (i := 160) rfl)
theorem wd_881 : Cond.instanceMethod ⟨"MapMerger$Part", "byteBehind", "()I"⟩ ∈ lw_tbl := am_m4 (List.mem_of_getElem? (i := 161) rfl)
theorem wd_882 : Cond.selects "MapMerger$Part" ⟨"MapMerger$Part", "byteBehind", "()I"⟩ ⟨"MapMerger$Part", "byteBehind", "()I"⟩ ∈ lw_tbl := am_m4 (List.mem_of_getElem? (i := 162) rfl)
theorem wd_883 : Cond.code ⟨"MapMerger$Part", "byteBehind", "()I"⟩ prog_7_method_7_code 1 (some FieldType.int) ∈ lw_tbl := am_m4 (List.mem_of_getElem? (i := 163) rfl)
theorem wd_884 : Cond.methodLink "MapMerger$TextMerger" 90 ⟨"MapMerger$TextMerger", "addBytes", "(II)V"⟩ ∈ lw_tbl := am_m4 (List.mem_of_getElem? (i := 164) rfl)
theorem wd_886 : Cond.instanceMethod ⟨"MapMerger$TextMerger", "addBytes", "(II)V"⟩ ∈ lw_tbl := am_m4 (List.mem_of_getElem? (i := 166) rfl)
theorem wd_887 : Cond.code ⟨"MapMerger$TextMerger", "addBytes", "(II)V"⟩ prog_11_method_15_code 3 none ∈ lw_tbl := am_m4 (List.mem_of_getElem? (i := 167) rfl)
theorem wd_888 : Cond.methodLink "MapMerger$TextMerger" 156 ⟨"MapMerger$Blobs", "bytes", "()[B"⟩ ∈ lw_tbl := am_m4 (List.mem_of_getElem? (i := 168) rfl)
theorem wd_889 : Cond.instanceMethod ⟨"MapMerger$Blobs", "bytes", "()[B"⟩ ∈ lw_tbl := am_m4 (List.mem_of_getElem? (i := 169) rfl)
theorem wd_890 : Cond.selects "MapMerger$Blobs" ⟨"MapMerger$Blobs", "bytes", "()[B"⟩ ⟨"MapMerger$Blobs", "bytes", "()[B"⟩ ∈ lw_tbl := am_m4 (List.mem_of_getElem? (i := 170) rfl)
theorem wd_891 : Cond.code ⟨"MapMerger$Blobs", "bytes", "()[B"⟩ prog_2_method_4_code 1 (some (FieldType.array FieldType.byte)) ∈ lw_tbl := am_m4 (List.mem_of_getElem? (i := 171) rfl)
theorem wd_892 : Cond.methodLink "MapMerger$TextMerger" 160 ⟨"java/lang/System", "arraycopy", "(Ljava/lang/Object;ILjava/lang/Object;II)V"⟩ ∈ lw_tbl := am_m4 (List.mem_of_getElem? (i := 172) rfl)
theorem wd_894 : Cond.methodLink "MapMerger$TextMerger" 134 ⟨"MapMerger$TextMerger", "addMark", "(Ljava/lang/String;)V"⟩ ∈ lw_tbl := am_m4 (List.mem_of_getElem? (i := 174) rfl)
theorem wd_896 : Cond.instanceMethod ⟨"MapMerger$TextMerger", "addMark", "(Ljava/lang/String;)V"⟩ ∈ lw_tbl := am_m4 (List.mem_of_getElem? (i := 176) rfl)
theorem wd_897 : Cond.code ⟨"MapMerger$TextMerger", "addMark", "(Ljava/lang/String;)V"⟩ prog_11_method_13_code 3 none ∈ lw_tbl := am_m4 (List.mem_of_getElem? (i := 177) rfl)
theorem wd_898 : Cond.methodLink "MapMerger$TextMerger" 148 ⟨"java/lang/String", "length", "()I"⟩ ∈ lw_tbl := am_m4 (List.mem_of_getElem? (i := 178) rfl)
theorem wd_899 : Cond.instanceMethod ⟨"java/lang/String", "length", "()I"⟩ ∈ lw_tbl := am_m4 (List.mem_of_getElem? (i := 179) rfl)
theorem wd_900 : Cond.selects "java/lang/String" ⟨"java/lang/String", "length", "()I"⟩ ⟨"java/lang/String", "length", "()I"⟩ ∈ lw_tbl := am_m4 (List.mem_of_getElem? (i := 180) rfl)
theorem wd_901 : Cond.code ⟨"java/lang/String", "length", "()I"⟩ prog_22_method_54_code 1 (some FieldType.int) ∈ lw_tbl := am_m4 (List.mem_of_getElem? (i := 181) rfl)
theorem wd_902 : Cond.methodLink "java/lang/String" 335 ⟨"java/lang/String", "coder", "()B"⟩ ∈ lw_tbl := am_m4 (List.mem_of_getElem? (i := 182) rfl)
theorem wd_903 : Cond.instanceMethod ⟨"java/lang/String", "coder", "()B"⟩ ∈ lw_tbl := am_m4 (List.mem_of_getElem? (i := 183) rfl)
theorem wd_904 : Cond.selects "java/lang/String" ⟨"java/lang/String", "coder", "()B"⟩ ⟨"java/lang/String", "coder", "()B"⟩ ∈ lw_tbl := am_m4 (List.mem_of_getElem? (i := 184) rfl)
theorem wd_905 : Cond.code ⟨"java/lang/String", "coder", "()B"⟩ prog_22_method_152_code 1 (some FieldType.byte) ∈ lw_tbl := am_m4 (List.mem_of_getElem? (i := 185) rfl)
theorem wd_906 : Cond.fieldLink "java/lang/String" 38 "java/lang/String" "COMPACT_STRINGS" "Z" ∈ lw_tbl := am_m4 (List.mem_of_getElem? (i := 186) rfl)
theorem wd_908 : Cond.methodLink "MapMerger$TextMerger" 152 ⟨"java/lang/String", "charAt", "(I)C"⟩ ∈ lw_tbl := am_m4 (List.mem_of_getElem? (i := 188) rfl)
theorem wd_909 : Cond.instanceMethod ⟨"java/lang/String", "charAt", "(I)C"⟩ ∈ lw_tbl := am_m4 (List.mem_of_getElem? (i := 189) rfl)
theorem wd_910 : Cond.selects "java/lang/String" ⟨"java/lang/String", "charAt", "(I)C"⟩ ⟨"java/lang/String", "charAt", "(I)C"⟩ ∈ lw_tbl := am_m4 (List.mem_of_getElem? (i := 190) rfl)
theorem wd_911 : Cond.code ⟨"java/lang/String", "charAt", "(I)C"⟩ prog_22_method_56_code 2 (some FieldType.char) ∈ lw_tbl := am_m4 (List.mem_of_getElem? (i := 191) rfl)
theorem wd_912 : Cond.methodLink "java/lang/String" 492 ⟨"java/lang/String", "isLatin1", "()Z"⟩ ∈ lw_tbl := am_m4 (List.mem_of_getElem? (i := 192) rfl)
theorem wd_913 : Cond.instanceMethod ⟨"java/lang/String", "isLatin1", "()Z"⟩ ∈ lw_tbl := am_m4 (List.mem_of_getElem? (i := 193) rfl)
theorem wd_914 : Cond.selects "java/lang/String" ⟨"java/lang/String", "isLatin1", "()Z"⟩ ⟨"java/lang/String", "isLatin1", "()Z"⟩ ∈ lw_tbl := am_m4 (List.mem_of_getElem? (i := 194) rfl)
theorem wd_915 : Cond.code ⟨"java/lang/String", "isLatin1", "()Z"⟩ prog_22_method_154_code 1 (some FieldType.boolean) ∈ lw_tbl := am_m4 (List.mem_of_getElem? (i := 195) rfl)
theorem wd_916 : Cond.methodLink "java/lang/String" 495 ⟨"java/lang/StringLatin1", "charAt", "([BI)C"⟩ ∈ lw_tbl := am_m4 (List.mem_of_getElem? (i := 196) rfl)
theorem wd_917 : Cond.static ⟨"java/lang/StringLatin1", "charAt", "([BI)C"⟩ ∈ lw_tbl := am_m4 (List.mem_of_getElem? (i := 197) rfl)
theorem wd_918 : Cond.code ⟨"java/lang/StringLatin1", "charAt", "([BI)C"⟩ prog_23_method_2_code 2 (some FieldType.char) ∈ lw_tbl := am_m4 (List.mem_of_getElem? (i := 198) rfl)
theorem wd_919 : Cond.methodLink "java/lang/StringLatin1" 9 ⟨"java/lang/String", "checkIndex", "(II)V"⟩ ∈ lw_tbl := am_m4 (List.mem_of_getElem? (i := 199) rfl)
theorem wd_920 : Cond.static ⟨"java/lang/String", "checkIndex", "(II)V"⟩ ∈ lw_tbl := am_m4 (List.mem_of_getElem? (i := 200) rfl)
theorem wd_921 : Cond.code ⟨"java/lang/String", "checkIndex", "(II)V"⟩ prog_22_method_155_code 2 none ∈ lw_tbl := am_m4 (List.mem_of_getElem? (i := 201) rfl)
theorem wd_922 : Cond.fieldLink "java/lang/String" 1053 "jdk/internal/util/Preconditions" "SIOOBE_FORMATTER" "Ljava/util/function/BiFunction;" ∈ lw_tbl := am_m4 (List.mem_of_getElem? (i := 202) rfl)
theorem wd_924 : Cond.methodLink "java/lang/String" 1059 ⟨"jdk/internal/util/Preconditions", "checkIndex", "(IILjava/util/function/BiFunction;)I"⟩ ∈ lw_tbl := am_m4 (List.mem_of_getElem? (i := 204) rfl)
theorem wd_925 : Cond.static ⟨"jdk/internal/util/Preconditions", "checkIndex", "(IILjava/util/function/BiFunction;)I"⟩ ∈ lw_tbl := am_m4 (List.mem_of_getElem? (i := 205) rfl)
theorem wd_926 : Cond.code ⟨"jdk/internal/util/Preconditions", "checkIndex", "(IILjava/util/function/BiFunction;)I"⟩ prog_28_method_11_code 3 (some FieldType.int) ∈ lw_tbl := am_m4 (List.mem_of_getElem? (i := 206) rfl)
theorem wd_946 : Cond.methodLink "MapMerger$TextMerger" 145 ⟨"MapMerger$TextMerger", "addByte", "(I)V"⟩ ∈ lw_tbl := am_m4 (List.mem_of_getElem? (i := 226) rfl)
theorem wd_948 : Cond.instanceMethod ⟨"MapMerger$TextMerger", "addByte", "(I)V"⟩ ∈ lw_tbl := am_m4 (List.mem_of_getElem? (i := 228) rfl)
theorem wd_949 : Cond.code ⟨"MapMerger$TextMerger", "addByte", "(I)V"⟩ prog_11_method_14_code 2 none ∈ lw_tbl := am_m4 (List.mem_of_getElem? (i := 229) rfl)
theorem wd_950 : Cond.methodLink "MapMerger$TextMerger" 138 ⟨"MapMerger$TextMerger", "endLine", "()V"⟩ ∈ lw_tbl := am_m4 (List.mem_of_getElem? (i := 230) rfl)
theorem wd_952 : Cond.instanceMethod ⟨"MapMerger$TextMerger", "endLine", "()V"⟩ ∈ lw_tbl := am_m4 (List.mem_of_getElem? (i := 232) rfl)
theorem wd_953 : Cond.code ⟨"MapMerger$TextMerger", "endLine", "()V"⟩ prog_11_method_12_code 1 none ∈ lw_tbl := am_m4 (List.mem_of_getElem? (i := 233) rfl)
theorem wd_956 : Cond.methodLink "MapMerger$TextMerger" 116 ⟨"MapMerger$Part", "byteBehindStable", "()I"⟩ ∈ lw_tbl := am_m4 (List.mem_of_getElem? (i := 236) rfl)
theorem wd_957 : Cond.instanceMethod ⟨"MapMerger$Part", "byteBehindStable", "()I"⟩ ∈ lw_tbl := am_m4 (List.mem_of_getElem? (i := 237) rfl)
theorem wd_958 : Cond.selects "MapMerger$Part" ⟨"MapMerger$Part", "byteBehindStable", "()I"⟩ ⟨"MapMerger$Part", "byteBehindStable", "()I"⟩ ∈ lw_tbl := am_m4 (List.mem_of_getElem? (i := 238) rfl)
theorem wd_959 : Cond.code ⟨"MapMerger$Part", "byteBehindStable", "()I"⟩ prog_7_method_8_code 1 (some FieldType.int) ∈ lw_tbl := am_m4 (List.mem_of_getElem? (i := 239) rfl)
theorem wd_960 : Cond.methodLink "MapMerger$TextMerger" 119 ⟨"MapMerger$Part", "goBehindStable", "()V"⟩ ∈ lw_tbl := am_m5 (List.mem_of_getElem? (i := 0) rfl)
theorem wd_961 : Cond.instanceMethod ⟨"MapMerger$Part", "goBehindStable", "()V"⟩ ∈ lw_tbl := am_m5 (List.mem_of_getElem? (i := 1) rfl)
theorem wd_962 : Cond.selects "MapMerger$Part" ⟨"MapMerger$Part", "goBehindStable", "()V"⟩ ⟨"MapMerger$Part", "goBehindStable", "()V"⟩ ∈ lw_tbl := am_m5 (List.mem_of_getElem? (i := 2) rfl)
theorem wd_963 : Cond.code ⟨"MapMerger$Part", "goBehindStable", "()V"⟩ prog_7_method_5_code 1 none ∈ lw_tbl := am_m5 (List.mem_of_getElem? (i := 3) rfl)
theorem wd_964 : Cond.methodLink "MapMerger$TextMerger" 78 ⟨"MapMerger$TextMerger", "addLastPart", "()V"⟩ ∈ lw_tbl := am_m5 (List.mem_of_getElem? (i := 4) rfl)
theorem wd_966 : Cond.instanceMethod ⟨"MapMerger$TextMerger", "addLastPart", "()V"⟩ ∈ lw_tbl := am_m5 (List.mem_of_getElem? (i := 6) rfl)
theorem wd_967 : Cond.code ⟨"MapMerger$TextMerger", "addLastPart", "()V"⟩ prog_11_method_10_code 1 none ∈ lw_tbl := am_m5 (List.mem_of_getElem? (i := 7) rfl)
theorem wd_968 : Cond.methodLink "MapMerger$TextMerger" 122 ⟨"MapMerger$Part", "reachToEnd", "()V"⟩ ∈ lw_tbl := am_m5 (List.mem_of_getElem? (i := 8) rfl)
theorem wd_969 : Cond.instanceMethod ⟨"MapMerger$Part", "reachToEnd", "()V"⟩ ∈ lw_tbl := am_m5 (List.mem_of_getElem? (i := 9) rfl)
theorem wd_970 : Cond.selects "MapMerger$Part" ⟨"MapMerger$Part", "reachToEnd", "()V"⟩ ⟨"MapMerger$Part", "reachToEnd", "()V"⟩ ∈ lw_tbl := am_m5 (List.mem_of_getElem? (i := 10) rfl)
theorem wd_971 : Cond.code ⟨"MapMerger$Part", "reachToEnd", "()V"⟩ prog_7_method_4_code 1 none ∈ lw_tbl := am_m5 (List.mem_of_getElem? (i := 11) rfl)
theorem wd_972 : Cond.methodLink "MapMerger$Part" 23 ⟨"MapMerger$Blobs", "lineCount", "(I)I"⟩ ∈ lw_tbl := am_m5 (List.mem_of_getElem? (i := 12) rfl)
theorem wd_973 : Cond.methodLink "MapMerger$TextMerger" 84 ⟨"MapMerger$Blobs", "startOf", "(I)I"⟩ ∈ lw_tbl := am_m5 (List.mem_of_getElem? (i := 13) rfl)
theorem wd_974 : Cond.instanceMethod ⟨"MapMerger$Blobs", "startOf", "(I)I"⟩ ∈ lw_tbl := am_m5 (List.mem_of_getElem? (i := 14) rfl)
theorem wd_975 : Cond.selects "MapMerger$Blobs" ⟨"MapMerger$Blobs", "startOf", "(I)I"⟩ ⟨"MapMerger$Blobs", "startOf", "(I)I"⟩ ∈ lw_tbl := am_m5 (List.mem_of_getElem? (i := 15) rfl)
theorem wd_976 : Cond.code ⟨"MapMerger$Blobs", "startOf", "(I)I"⟩ prog_2_method_5_code 2 (some FieldType.int) ∈ lw_tbl := am_m5 (List.mem_of_getElem? (i := 16) rfl)
theorem wd_977 : Cond.methodLink "MapMerger$TextMerger" 87 ⟨"MapMerger$Blobs", "lengthOf", "(I)I"⟩ ∈ lw_tbl := am_m5 (List.mem_of_getElem? (i := 17) rfl)
theorem wd_978 : Cond.methodLink "MapMerger$Merging" 152 ⟨"MapMerger$TextMerger", "hasConflict", "()Z"⟩ ∈ lw_tbl := am_m5 (List.mem_of_getElem? (i := 18) rfl)
theorem wd_979 : Cond.instanceMethod ⟨"MapMerger$TextMerger", "hasConflict", "()Z"⟩ ∈ lw_tbl := am_m5 (List.mem_of_getElem? (i := 19) rfl)
theorem wd_980 : Cond.selects "MapMerger$TextMerger" ⟨"MapMerger$TextMerger", "hasConflict", "()Z"⟩ ⟨"MapMerger$TextMerger", "hasConflict", "()Z"⟩ ∈ lw_tbl := am_m5 (List.mem_of_getElem? (i := 20) rfl)
theorem wd_981 : Cond.code ⟨"MapMerger$TextMerger", "hasConflict", "()Z"⟩ prog_11_method_4_code 1 (some FieldType.boolean) ∈ lw_tbl := am_m5 (List.mem_of_getElem? (i := 21) rfl)
theorem wd_982 : Cond.methodLink "MapMerger$Merging" 156 ⟨"MapMerger$Merging", "giveMergedText", "(I)Z"⟩ ∈ lw_tbl := am_m5 (List.mem_of_getElem? (i := 22) rfl)
theorem wd_984 : Cond.instanceMethod ⟨"MapMerger$Merging", "giveMergedText", "(I)Z"⟩ ∈ lw_tbl := am_m5 (List.mem_of_getElem? (i := 24) rfl)
theorem wd_985 : Cond.code ⟨"MapMerger$Merging", "giveMergedText", "(I)Z"⟩ prog_5_method_10_code 3 (some FieldType.boolean) ∈ lw_tbl := am_m5 (List.mem_of_getElem? (i := 25) rfl)
theorem wd_986 : Cond.methodLink "MapMerger$Merging" 159 ⟨"MapMerger$Outcomes", "recordIsUnmerged", "(I)Z"⟩ ∈ lw_tbl := am_m5 (List.mem_of_getElem? (i := 26) rfl)
theorem wd_987 : Cond.instanceMethod ⟨"MapMerger$Outcomes", "recordIsUnmerged", "(I)Z"⟩ ∈ lw_tbl := am_m5 (List.mem_of_getElem? (i := 27) rfl)
theorem wd_988 : Cond.selects "MapMerger$Outcomes" ⟨"MapMerger$Outcomes", "recordIsUnmerged", "(I)Z"⟩ ⟨"MapMerger$Outcomes", "recordIsUnmerged", "(I)Z"⟩ ∈ lw_tbl := am_m5 (List.mem_of_getElem? (i := 28) rfl)
theorem wd_989 : Cond.code ⟨"MapMerger$Outcomes", "recordIsUnmerged", "(I)Z"⟩ prog_6_method_17_code 2 (some FieldType.boolean) ∈ lw_tbl := am_m5 (List.mem_of_getElem? (i := 29) rfl)
theorem wd_990 : Cond.methodLink "MapMerger$Merging" 162 ⟨"MapMerger$TextMerger", "text", "()[B"⟩ ∈ lw_tbl := am_m5 (List.mem_of_getElem? (i := 30) rfl)
theorem wd_991 : Cond.instanceMethod ⟨"MapMerger$TextMerger", "text", "()[B"⟩ ∈ lw_tbl := am_m5 (List.mem_of_getElem? (i := 31) rfl)
theorem wd_992 : Cond.selects "MapMerger$TextMerger" ⟨"MapMerger$TextMerger", "text", "()[B"⟩ ⟨"MapMerger$TextMerger", "text", "()[B"⟩ ∈ lw_tbl := am_m5 (List.mem_of_getElem? (i := 32) rfl)
theorem wd_993 : Cond.code ⟨"MapMerger$TextMerger", "text", "()[B"⟩ prog_11_method_2_code 1 (some (FieldType.array FieldType.byte)) ∈ lw_tbl := am_m5 (List.mem_of_getElem? (i := 33) rfl)
theorem wd_994 : Cond.methodLink "MapMerger$Merging" 166 ⟨"MapMerger$TextMerger", "length", "()I"⟩ ∈ lw_tbl := am_m5 (List.mem_of_getElem? (i := 34) rfl)
theorem wd_995 : Cond.instanceMethod ⟨"MapMerger$TextMerger", "length", "()I"⟩ ∈ lw_tbl := am_m5 (List.mem_of_getElem? (i := 35) rfl)
theorem wd_996 : Cond.selects "MapMerger$TextMerger" ⟨"MapMerger$TextMerger", "length", "()I"⟩ ⟨"MapMerger$TextMerger", "length", "()I"⟩ ∈ lw_tbl := am_m5 (List.mem_of_getElem? (i := 36) rfl)
theorem wd_997 : Cond.code ⟨"MapMerger$TextMerger", "length", "()I"⟩ prog_11_method_3_code 1 (some FieldType.int) ∈ lw_tbl := am_m5 (List.mem_of_getElem? (i := 37) rfl)
theorem wd_998 : Cond.methodLink "MapMerger$Merging" 169 ⟨"MapMerger$Blobs", "find", "([BII)I"⟩ ∈ lw_tbl := am_m5 (List.mem_of_getElem? (i := 38) rfl)
theorem wd_999 : Cond.methodLink "MapMerger$Merging" 175 ⟨"MapMerger$Outcomes", "keepText", "(I[BI)Z"⟩ ∈ lw_tbl := am_m5 (List.mem_of_getElem? (i := 39) rfl)
theorem wd_1000 : Cond.instanceMethod ⟨"MapMerger$Outcomes", "keepText", "(I[BI)Z"⟩ ∈ lw_tbl := am_m5 (List.mem_of_getElem? (i := 40) rfl)
theorem wd_1001 : Cond.selects "MapMerger$Outcomes" ⟨"MapMerger$Outcomes", "keepText", "(I[BI)Z"⟩ ⟨"MapMerger$Outcomes", "keepText", "(I[BI)Z"⟩ ∈ lw_tbl := am_m5 (List.mem_of_getElem? (i := 41) rfl)
theorem wd_1002 : Cond.code ⟨"MapMerger$Outcomes", "keepText", "(I[BI)Z"⟩ prog_6_method_19_code 4 (some FieldType.boolean) ∈ lw_tbl := am_m5 (List.mem_of_getElem? (i := 42) rfl)
theorem wd_1003 : Cond.methodLink "MapMerger$Outcomes" 89 ⟨"java/lang/System", "arraycopy", "(Ljava/lang/Object;ILjava/lang/Object;II)V"⟩ ∈ lw_tbl := am_m5 (List.mem_of_getElem? (i := 43) rfl)
theorem wd_1004 : Cond.methodLink "MapMerger$Merging" 97 ⟨"MapMerger$Outcomes", "unmergedCount", "()I"⟩ ∈ lw_tbl := am_m5 (List.mem_of_getElem? (i := 44) rfl)
theorem wd_1005 : Cond.instanceMethod ⟨"MapMerger$Outcomes", "unmergedCount", "()I"⟩ ∈ lw_tbl := am_m5 (List.mem_of_getElem? (i := 45) rfl)
theorem wd_1006 : Cond.selects "MapMerger$Outcomes" ⟨"MapMerger$Outcomes", "unmergedCount", "()I"⟩ ⟨"MapMerger$Outcomes", "unmergedCount", "()I"⟩ ∈ lw_tbl := am_m5 (List.mem_of_getElem? (i := 46) rfl)
theorem wd_1007 : Cond.code ⟨"MapMerger$Outcomes", "unmergedCount", "()I"⟩ prog_6_method_4_code 1 (some FieldType.int) ∈ lw_tbl := am_m5 (List.mem_of_getElem? (i := 47) rfl)
theorem wd_1010 : Cond.codeWith ⟨"MapMergerLaw", "renamed", "(LMapMerger;IIII[J)I"⟩ method_9_code 7 (some FieldType.int) [(0, 14, 17, 19), (0, 14, 21, 28)] ∈ lw_tbl := am_m5 (List.mem_of_getElem? (i := 50) rfl)
theorem wd_1011 : Cond.methodLink "MapMergerLaw" 38 ⟨"MapMerger", "renamed", "(IIII)I"⟩ ∈ lw_tbl := am_m5 (List.mem_of_getElem? (i := 51) rfl)
theorem wd_1012 : Cond.instanceMethod ⟨"MapMerger", "renamed", "(IIII)I"⟩ ∈ lw_tbl := am_m5 (List.mem_of_getElem? (i := 52) rfl)
theorem wd_1013 : Cond.selects "MapMerger" ⟨"MapMerger", "renamed", "(IIII)I"⟩ ⟨"MapMerger", "renamed", "(IIII)I"⟩ ∈ lw_tbl := am_m5 (List.mem_of_getElem? (i := 53) rfl)
theorem wd_1014 : Cond.code ⟨"MapMerger", "renamed", "(IIII)I"⟩ prog_1_method_8_code 6 (some FieldType.int) ∈ lw_tbl := am_m5 (List.mem_of_getElem? (i := 54) rfl)
theorem wd_1015 : Cond.methodLink "MapMerger" 98 ⟨"MapMerger$Renames", "search", "(LMapMerger$PathMap;LMapMerger$PathMap;)V"⟩ ∈ lw_tbl := am_m5 (List.mem_of_getElem? (i := 55) rfl)
theorem wd_1016 : Cond.methodLink "MapMerger" 102 ⟨"MapMerger$Renames", "goneOfRename", "(I)I"⟩ ∈ lw_tbl := am_m5 (List.mem_of_getElem? (i := 56) rfl)
theorem wd_1017 : Cond.instanceMethod ⟨"MapMerger$Renames", "goneOfRename", "(I)I"⟩ ∈ lw_tbl := am_m5 (List.mem_of_getElem? (i := 57) rfl)
theorem wd_1018 : Cond.selects "MapMerger$Renames" ⟨"MapMerger$Renames", "goneOfRename", "(I)I"⟩ ⟨"MapMerger$Renames", "goneOfRename", "(I)I"⟩ ∈ lw_tbl := am_m5 (List.mem_of_getElem? (i := 58) rfl)
theorem wd_1019 : Cond.code ⟨"MapMerger$Renames", "goneOfRename", "(I)I"⟩ prog_9_method_4_code 4 (some FieldType.int) ∈ lw_tbl := am_m5 (List.mem_of_getElem? (i := 59) rfl)
theorem wd_1020 : Cond.methodLink "MapMerger" 108 ⟨"MapMerger$Renames", "partnerOf", "(I)I"⟩ ∈ lw_tbl := am_m5 (List.mem_of_getElem? (i := 60) rfl)
theorem wd_1021 : Cond.methodLink "MapMerger" 111 ⟨"MapMerger$Renames", "scoreOf", "(I)I"⟩ ∈ lw_tbl := am_m5 (List.mem_of_getElem? (i := 61) rfl)
theorem wd_1022 : Cond.instanceMethod ⟨"MapMerger$Renames", "scoreOf", "(I)I"⟩ ∈ lw_tbl := am_m5 (List.mem_of_getElem? (i := 62) rfl)
theorem wd_1023 : Cond.selects "MapMerger$Renames" ⟨"MapMerger$Renames", "scoreOf", "(I)I"⟩ ⟨"MapMerger$Renames", "scoreOf", "(I)I"⟩ ∈ lw_tbl := am_m5 (List.mem_of_getElem? (i := 63) rfl)
theorem wd_1024 : Cond.code ⟨"MapMerger$Renames", "scoreOf", "(I)I"⟩ prog_9_method_3_code 2 (some FieldType.int) ∈ lw_tbl := am_m5 (List.mem_of_getElem? (i := 64) rfl)
theorem wd_1027 : Cond.codeWith ⟨"MapMergerLaw", "outcome", "(LMapMerger;II[J)I"⟩ method_10_code 5 (some FieldType.int) [(0, 10, 13, 19), (0, 10, 17, 28)] ∈ lw_tbl := am_m5 (List.mem_of_getElem? (i := 67) rfl)
theorem wd_1028 : Cond.methodLink "MapMergerLaw" 42 ⟨"MapMerger", "outcome", "(II)I"⟩ ∈ lw_tbl := am_m5 (List.mem_of_getElem? (i := 68) rfl)
theorem wd_1029 : Cond.instanceMethod ⟨"MapMerger", "outcome", "(II)I"⟩ ∈ lw_tbl := am_m5 (List.mem_of_getElem? (i := 69) rfl)
theorem wd_1030 : Cond.selects "MapMerger" ⟨"MapMerger", "outcome", "(II)I"⟩ ⟨"MapMerger", "outcome", "(II)I"⟩ ∈ lw_tbl := am_m5 (List.mem_of_getElem? (i := 70) rfl)
theorem wd_1031 : Cond.code ⟨"MapMerger", "outcome", "(II)I"⟩ prog_1_method_9_code 4 (some FieldType.int) ∈ lw_tbl := am_m5 (List.mem_of_getElem? (i := 71) rfl)
theorem wd_1032 : Cond.methodLink "MapMerger" 118 ⟨"MapMerger$Outcomes", "has", "(I)Z"⟩ ∈ lw_tbl := am_m5 (List.mem_of_getElem? (i := 72) rfl)
theorem wd_1033 : Cond.instanceMethod ⟨"MapMerger$Outcomes", "has", "(I)Z"⟩ ∈ lw_tbl := am_m5 (List.mem_of_getElem? (i := 73) rfl)
theorem wd_1034 : Cond.selects "MapMerger$Outcomes" ⟨"MapMerger$Outcomes", "has", "(I)Z"⟩ ⟨"MapMerger$Outcomes", "has", "(I)Z"⟩ ∈ lw_tbl := am_m5 (List.mem_of_getElem? (i := 74) rfl)
theorem wd_1035 : Cond.code ⟨"MapMerger$Outcomes", "has", "(I)Z"⟩ prog_6_method_3_code 2 (some FieldType.boolean) ∈ lw_tbl := am_m5 (List.mem_of_getElem? (i := 75) rfl)
theorem wd_1036 : Cond.methodLink "MapMerger$Outcomes" 48 ⟨"MapMerger$PathMap", "has", "(I)Z"⟩ ∈ lw_tbl := am_m5 (List.mem_of_getElem? (i := 76) rfl)
theorem wd_1037 : Cond.instanceMethod ⟨"MapMerger$PathMap", "has", "(I)Z"⟩ ∈ lw_tbl := am_m5 (List.mem_of_getElem? (i := 77) rfl)
theorem wd_1038 : Cond.selects "MapMerger$PathMap" ⟨"MapMerger$PathMap", "has", "(I)Z"⟩ ⟨"MapMerger$PathMap", "has", "(I)Z"⟩ ∈ lw_tbl := am_m5 (List.mem_of_getElem? (i := 78) rfl)
theorem wd_1039 : Cond.code ⟨"MapMerger$PathMap", "has", "(I)Z"⟩ prog_8_method_3_code 2 (some FieldType.boolean) ∈ lw_tbl := am_m5 (List.mem_of_getElem? (i := 79) rfl)
theorem wd_1040 : Cond.methodLink "MapMerger" 123 ⟨"MapMerger$Outcomes", "pathLength", "(I)I"⟩ ∈ lw_tbl := am_m5 (List.mem_of_getElem? (i := 80) rfl)
theorem wd_1041 : Cond.instanceMethod ⟨"MapMerger$Outcomes", "pathLength", "(I)I"⟩ ∈ lw_tbl := am_m5 (List.mem_of_getElem? (i := 81) rfl)
theorem wd_1042 : Cond.selects "MapMerger$Outcomes" ⟨"MapMerger$Outcomes", "pathLength", "(I)I"⟩ ⟨"MapMerger$Outcomes", "pathLength", "(I)I"⟩ ∈ lw_tbl := am_m5 (List.mem_of_getElem? (i := 82) rfl)
theorem wd_1043 : Cond.code ⟨"MapMerger$Outcomes", "pathLength", "(I)I"⟩ prog_6_method_5_code 2 (some FieldType.int) ∈ lw_tbl := am_m5 (List.mem_of_getElem? (i := 83) rfl)
theorem wd_1044 : Cond.methodLink "MapMerger$Outcomes" 56 ⟨"MapMerger$PathMap", "lengthOf", "(I)I"⟩ ∈ lw_tbl := am_m5 (List.mem_of_getElem? (i := 84) rfl)
theorem wd_1045 : Cond.methodLink "MapMerger" 126 ⟨"MapMerger$Outcomes", "isUnmerged", "(I)Z"⟩ ∈ lw_tbl := am_m5 (List.mem_of_getElem? (i := 85) rfl)
theorem wd_1046 : Cond.instanceMethod ⟨"MapMerger$Outcomes", "isUnmerged", "(I)Z"⟩ ∈ lw_tbl := am_m5 (List.mem_of_getElem? (i := 86) rfl)
theorem wd_1047 : Cond.selects "MapMerger$Outcomes" ⟨"MapMerger$Outcomes", "isUnmerged", "(I)Z"⟩ ⟨"MapMerger$Outcomes", "isUnmerged", "(I)Z"⟩ ∈ lw_tbl := am_m5 (List.mem_of_getElem? (i := 87) rfl)
theorem wd_1048 : Cond.code ⟨"MapMerger$Outcomes", "isUnmerged", "(I)Z"⟩ prog_6_method_7_code 2 (some FieldType.boolean) ∈ lw_tbl := am_m5 (List.mem_of_getElem? (i := 88) rfl)
theorem wd_1049 : Cond.methodLink "MapMerger$Outcomes" 64 ⟨"MapMerger$PathMap", "valueAt", "(I)I"⟩ ∈ lw_tbl := am_m5 (List.mem_of_getElem? (i := 89) rfl)
theorem wd_1050 : Cond.methodLink "MapMerger" 129 ⟨"MapMerger$Outcomes", "textLength", "(I)I"⟩ ∈ lw_tbl := am_m5 (List.mem_of_getElem? (i := 90) rfl)
theorem wd_1051 : Cond.instanceMethod ⟨"MapMerger$Outcomes", "textLength", "(I)I"⟩ ∈ lw_tbl := am_m5 (List.mem_of_getElem? (i := 91) rfl)
theorem wd_1052 : Cond.selects "MapMerger$Outcomes" ⟨"MapMerger$Outcomes", "textLength", "(I)I"⟩ ⟨"MapMerger$Outcomes", "textLength", "(I)I"⟩ ∈ lw_tbl := am_m5 (List.mem_of_getElem? (i := 92) rfl)
theorem wd_1053 : Cond.code ⟨"MapMerger$Outcomes", "textLength", "(I)I"⟩ prog_6_method_10_code 3 (some FieldType.int) ∈ lw_tbl := am_m5 (List.mem_of_getElem? (i := 93) rfl)
theorem wd_1054 : Cond.methodLink "MapMerger$Outcomes" 73 ⟨"MapMerger$Blobs", "lengthOf", "(I)I"⟩ ∈ lw_tbl := am_m5 (List.mem_of_getElem? (i := 94) rfl)
theorem wd_1055 : Cond.methodLink "MapMerger" 132 ⟨"MapMerger$Outcomes", "blobOf", "(I)I"⟩ ∈ lw_tbl := am_m5 (List.mem_of_getElem? (i := 95) rfl)
theorem wd_1056 : Cond.instanceMethod ⟨"MapMerger$Outcomes", "blobOf", "(I)I"⟩ ∈ lw_tbl := am_m5 (List.mem_of_getElem? (i := 96) rfl)
theorem wd_1057 : Cond.selects "MapMerger$Outcomes" ⟨"MapMerger$Outcomes", "blobOf", "(I)I"⟩ ⟨"MapMerger$Outcomes", "blobOf", "(I)I"⟩ ∈ lw_tbl := am_m5 (List.mem_of_getElem? (i := 97) rfl)
theorem wd_1058 : Cond.code ⟨"MapMerger$Outcomes", "blobOf", "(I)I"⟩ prog_6_method_9_code 2 (some FieldType.int) ∈ lw_tbl := am_m5 (List.mem_of_getElem? (i := 98) rfl)
theorem wd_1059 : Cond.methodLink "MapMerger" 135 ⟨"MapMerger$Outcomes", "stageOf", "(II)I"⟩ ∈ lw_tbl := am_m5 (List.mem_of_getElem? (i := 99) rfl)
theorem wd_1060 : Cond.instanceMethod ⟨"MapMerger$Outcomes", "stageOf", "(II)I"⟩ ∈ lw_tbl := am_m5 (List.mem_of_getElem? (i := 100) rfl)
theorem wd_1061 : Cond.selects "MapMerger$Outcomes" ⟨"MapMerger$Outcomes", "stageOf", "(II)I"⟩ ⟨"MapMerger$Outcomes", "stageOf", "(II)I"⟩ ∈ lw_tbl := am_m5 (List.mem_of_getElem? (i := 101) rfl)
theorem wd_1062 : Cond.code ⟨"MapMerger$Outcomes", "stageOf", "(II)I"⟩ prog_6_method_8_code 3 (some FieldType.int) ∈ lw_tbl := am_m5 (List.mem_of_getElem? (i := 102) rfl)
theorem wd_1063 : Cond.methodLink "MapMerger$Outcomes" 67 ⟨"MapMerger$Outcomes", "isUnmerged", "(I)Z"⟩ ∈ lw_tbl := am_m5 (List.mem_of_getElem? (i := 103) rfl)
theorem wd_1064 : Cond.methodLink "MapMerger$Outcomes" 70 ⟨"MapMerger$Outcomes", "sourceOf", "(II)I"⟩ ∈ lw_tbl := am_m5 (List.mem_of_getElem? (i := 104) rfl)
theorem wd_1067 : Cond.codeWith ⟨"MapMergerLaw", "letter", "(LMapMerger;III[J)I"⟩ method_11_code 6 (some FieldType.int) [(0, 12, 15, 19), (0, 12, 19, 28)] ∈ lw_tbl := am_m5 (List.mem_of_getElem? (i := 107) rfl)
theorem wd_1068 : Cond.methodLink "MapMergerLaw" 46 ⟨"MapMerger", "letter", "(III)I"⟩ ∈ lw_tbl := am_m5 (List.mem_of_getElem? (i := 108) rfl)
theorem wd_1069 : Cond.instanceMethod ⟨"MapMerger", "letter", "(III)I"⟩ ∈ lw_tbl := am_m5 (List.mem_of_getElem? (i := 109) rfl)
theorem wd_1070 : Cond.selects "MapMerger" ⟨"MapMerger", "letter", "(III)I"⟩ ⟨"MapMerger", "letter", "(III)I"⟩ ∈ lw_tbl := am_m5 (List.mem_of_getElem? (i := 110) rfl)
theorem wd_1071 : Cond.code ⟨"MapMerger", "letter", "(III)I"⟩ prog_1_method_10_code 6 (some FieldType.int) ∈ lw_tbl := am_m5 (List.mem_of_getElem? (i := 111) rfl)
theorem wd_1072 : Cond.methodLink "MapMerger" 139 ⟨"MapMerger$Outcomes", "pathByte", "(II)I"⟩ ∈ lw_tbl := am_m5 (List.mem_of_getElem? (i := 112) rfl)
theorem wd_1073 : Cond.instanceMethod ⟨"MapMerger$Outcomes", "pathByte", "(II)I"⟩ ∈ lw_tbl := am_m5 (List.mem_of_getElem? (i := 113) rfl)
theorem wd_1074 : Cond.selects "MapMerger$Outcomes" ⟨"MapMerger$Outcomes", "pathByte", "(II)I"⟩ ⟨"MapMerger$Outcomes", "pathByte", "(II)I"⟩ ∈ lw_tbl := am_m5 (List.mem_of_getElem? (i := 114) rfl)
theorem wd_1075 : Cond.code ⟨"MapMerger$Outcomes", "pathByte", "(II)I"⟩ prog_6_method_6_code 3 (some FieldType.int) ∈ lw_tbl := am_m5 (List.mem_of_getElem? (i := 115) rfl)
theorem wd_1076 : Cond.methodLink "MapMerger$Outcomes" 60 ⟨"MapMerger$PathMap", "letterAt", "(II)I"⟩ ∈ lw_tbl := am_m5 (List.mem_of_getElem? (i := 116) rfl)
theorem wd_1077 : Cond.methodLink "MapMerger" 142 ⟨"MapMerger$Outcomes", "textByte", "(II)I"⟩ ∈ lw_tbl := am_m5 (List.mem_of_getElem? (i := 117) rfl)
theorem wd_1078 : Cond.instanceMethod ⟨"MapMerger$Outcomes", "textByte", "(II)I"⟩ ∈ lw_tbl := am_m5 (List.mem_of_getElem? (i := 118) rfl)
theorem wd_1079 : Cond.selects "MapMerger$Outcomes" ⟨"MapMerger$Outcomes", "textByte", "(II)I"⟩ ⟨"MapMerger$Outcomes", "textByte", "(II)I"⟩ ∈ lw_tbl := am_m5 (List.mem_of_getElem? (i := 119) rfl)
theorem wd_1080 : Cond.code ⟨"MapMerger$Outcomes", "textByte", "(II)I"⟩ prog_6_method_11_code 4 (some FieldType.int) ∈ lw_tbl := am_m5 (List.mem_of_getElem? (i := 120) rfl)
theorem wd_1081 : Cond.methodLink "MapMerger$Outcomes" 76 ⟨"MapMerger$Blobs", "byteAt", "(II)I"⟩ ∈ lw_tbl := am_m5 (List.mem_of_getElem? (i := 121) rfl)
theorem wd_1082 : Cond.instanceMethod ⟨"MapMerger$Blobs", "byteAt", "(II)I"⟩ ∈ lw_tbl := am_m5 (List.mem_of_getElem? (i := 122) rfl)
theorem wd_1083 : Cond.selects "MapMerger$Blobs" ⟨"MapMerger$Blobs", "byteAt", "(II)I"⟩ ⟨"MapMerger$Blobs", "byteAt", "(II)I"⟩ ∈ lw_tbl := am_m5 (List.mem_of_getElem? (i := 123) rfl)
theorem wd_1084 : Cond.code ⟨"MapMerger$Blobs", "byteAt", "(II)I"⟩ prog_2_method_7_code 3 (some FieldType.int) ∈ lw_tbl := am_m5 (List.mem_of_getElem? (i := 124) rfl)
theorem wd_1087 : Cond.codeWith ⟨"MapMergerLaw", "blob", "(LMapMerger;II[J)I"⟩ method_12_code 5 (some FieldType.int) [(0, 10, 13, 19), (0, 10, 17, 28)] ∈ lw_tbl := am_m5 (List.mem_of_getElem? (i := 127) rfl)
theorem wd_1088 : Cond.methodLink "MapMergerLaw" 50 ⟨"MapMerger", "blob", "(II)I"⟩ ∈ lw_tbl := am_m5 (List.mem_of_getElem? (i := 128) rfl)
theorem wd_1089 : Cond.instanceMethod ⟨"MapMerger", "blob", "(II)I"⟩ ∈ lw_tbl := am_m5 (List.mem_of_getElem? (i := 129) rfl)
theorem wd_1090 : Cond.selects "MapMerger" ⟨"MapMerger", "blob", "(II)I"⟩ ⟨"MapMerger", "blob", "(II)I"⟩ ∈ lw_tbl := am_m5 (List.mem_of_getElem? (i := 130) rfl)
theorem wd_1091 : Cond.code ⟨"MapMerger", "blob", "(II)I"⟩ prog_1_method_11_code 3 (some FieldType.int) ∈ lw_tbl := am_m5 (List.mem_of_getElem? (i := 131) rfl)
theorem wd_1092 : Cond.methodLink "MapMerger" 145 ⟨"MapMerger$PathMap", "has", "(I)Z"⟩ ∈ lw_tbl := am_m5 (List.mem_of_getElem? (i := 132) rfl)
theorem wd_1093 : Cond.methodLink "MapMerger" 146 ⟨"MapMerger$PathMap", "valueAt", "(I)I"⟩ ∈ lw_tbl := am_m5 (List.mem_of_getElem? (i := 133) rfl)
theorem wd_1098 : Cond.code ⟨"MapMergerModel", "<init>", "()V"⟩ prog_13_method_28_code 5 none ∈ lw_tbl := am_m5 (List.mem_of_getElem? (i := 138) rfl)
theorem wd_1099 : Cond.methodLink "MapMergerModel" 272 ⟨"java/lang/Object", "<init>", "()V"⟩ ∈ lw_tbl := am_m5 (List.mem_of_getElem? (i := 139) rfl)
theorem wd_1100 : Cond.classLink "MapMergerModel" 130 "MapMergerModel$Paths" ∈ lw_tbl := am_m5 (List.mem_of_getElem? (i := 140) rfl)
theorem wd_1101 : Cond.arrayOver (FieldType.object "MapMergerModel$Paths") ∈ lw_tbl := am_m5 (List.mem_of_getElem? (i := 141) rfl)
theorem wd_1102 : Cond.instantiable "MapMergerModel$Paths" 5 ∈ lw_tbl := am_m5 (List.mem_of_getElem? (i := 142) rfl)
theorem wd_1103 : Cond.methodLinkNest "MapMergerModel" 277 ⟨"MapMergerModel$Paths", "<init>", "()V"⟩ "MapMergerModel" ∈ lw_tbl := am_m5 (List.mem_of_getElem? (i := 143) rfl)
theorem wd_1104 : Cond.instanceMethod ⟨"MapMergerModel$Paths", "<init>", "()V"⟩ ∈ lw_tbl := am_m5 (List.mem_of_getElem? (i := 144) rfl)
theorem wd_1105 : Cond.code ⟨"MapMergerModel$Paths", "<init>", "()V"⟩ prog_15_method_1_code 1 none ∈ lw_tbl := am_m5 (List.mem_of_getElem? (i := 145) rfl)
theorem wd_1106 : Cond.methodLink "MapMergerModel$Paths" 3 ⟨"java/lang/Object", "<init>", "()V"⟩ ∈ lw_tbl := am_m5 (List.mem_of_getElem? (i := 146) rfl)
theorem wd_1107 : Cond.classLink "MapMergerModel$Paths" 9 "MapMergerModel$Row" ∈ lw_tbl := am_m5 (List.mem_of_getElem? (i := 147) rfl)
theorem wd_1108 : Cond.instantiable "MapMergerModel$Row" 2 ∈ lw_tbl := am_m5 (List.mem_of_getElem? (i := 148) rfl)
theorem wd_1109 : Cond.methodLink "MapMergerModel$Paths" 11 ⟨"MapMergerModel$Row", "<init>", "(I)V"⟩ ∈ lw_tbl := am_m5 (List.mem_of_getElem? (i := 149) rfl)
theorem wd_1110 : Cond.instanceMethod ⟨"MapMergerModel$Row", "<init>", "(I)V"⟩ ∈ lw_tbl := am_m5 (List.mem_of_getElem? (i := 150) rfl)
theorem wd_1111 : Cond.code ⟨"MapMergerModel$Row", "<init>", "(I)V"⟩ prog_16_method_1_code 2 none ∈ lw_tbl := am_m5 (List.mem_of_getElem? (i := 151) rfl)
theorem wd_1112 : Cond.methodLink "MapMergerModel$Row" 1 ⟨"java/lang/Object", "<init>", "()V"⟩ ∈ lw_tbl := am_m5 (List.mem_of_getElem? (i := 152) rfl)
theorem wd_1113 : Cond.fieldLink "MapMergerModel$Row" 7 "MapMergerModel$Row" "at" "[B" ∈ lw_tbl := am_m5 (List.mem_of_getElem? (i := 153) rfl)
theorem wd_1114 : Cond.fieldLink "MapMergerModel" 13 "MapMergerModel$Row" "at" "[B" ∈ lw_tbl := am_m5 (List.mem_of_getElem? (i := 154) rfl)
theorem wd_1115 : Cond.fieldLink "MapMergerModel$Row" 13 "MapMergerModel$Row" "n" "I" ∈ lw_tbl := am_m5 (List.mem_of_getElem? (i := 155) rfl)
theorem wd_1116 : Cond.fieldLink "MapMergerModel" 7 "MapMergerModel$Row" "n" "I" ∈ lw_tbl := am_m5 (List.mem_of_getElem? (i := 156) rfl)
theorem wd_1117 : Cond.fieldLink "MapMergerModel$Paths" 42 "MapMergerModel$Row" "n" "I" ∈ lw_tbl := am_m5 (List.mem_of_getElem? (i := 157) rfl)
theorem wd_1123 : Cond.fieldLink "MapMergerModel$Paths" 14 "MapMergerModel$Paths" "names" "LMapMergerModel$Row;" ∈ lw_tbl := am_m5 (List.mem_of_getElem? (i := 163) rfl)
theorem wd_1124 : Cond.fieldLink "MapMergerModel" 174 "MapMergerModel$Paths" "names" "LMapMergerModel$Row;" ∈ lw_tbl := am_m5 (List.mem_of_getElem? (i := 164) rfl)
theorem wd_1125 : Cond.fieldLink "MapMergerModel$Paths" 20 "MapMergerModel$Paths" "from" "[I" ∈ lw_tbl := am_m5 (List.mem_of_getElem? (i := 165) rfl)
theorem wd_1126 : Cond.fieldLink "MapMergerModel" 177 "MapMergerModel$Paths" "from" "[I" ∈ lw_tbl := am_m5 (List.mem_of_getElem? (i := 166) rfl)
theorem wd_1127 : Cond.fieldLink "MapMergerModel$Paths" 24 "MapMergerModel$Paths" "blobs" "[I" ∈ lw_tbl := am_m5 (List.mem_of_getElem? (i := 167) rfl)
theorem wd_1128 : Cond.fieldLink "MapMergerModel" 142 "MapMergerModel$Paths" "blobs" "[I" ∈ lw_tbl := am_m5 (List.mem_of_getElem? (i := 168) rfl)
theorem wd_1129 : Cond.fieldLink "MapMergerModel$Paths" 27 "MapMergerModel$Paths" "unmerged" "[Z" ∈ lw_tbl := am_m5 (List.mem_of_getElem? (i := 169) rfl)
theorem wd_1130 : Cond.fieldLink "MapMergerModel" 183 "MapMergerModel$Paths" "unmerged" "[Z" ∈ lw_tbl := am_m5 (List.mem_of_getElem? (i := 170) rfl)
theorem wd_1131 : Cond.fieldLink "MapMergerModel$Paths" 31 "MapMergerModel$Paths" "n" "I" ∈ lw_tbl := am_m5 (List.mem_of_getElem? (i := 171) rfl)
theorem wd_1132 : Cond.fieldLink "MapMergerModel" 129 "MapMergerModel$Paths" "n" "I" ∈ lw_tbl := am_m5 (List.mem_of_getElem? (i := 172) rfl)
theorem wd_1144 : Cond.classLink "MapMergerModel" 8 "MapMergerModel$Row" ∈ lw_tbl := am_m5 (List.mem_of_getElem? (i := 184) rfl)
theorem wd_1145 : Cond.methodLink "MapMergerModel" 282 ⟨"MapMergerModel$Row", "<init>", "(I)V"⟩ ∈ lw_tbl := am_m5 (List.mem_of_getElem? (i := 185) rfl)
theorem wd_1146 : Cond.arrayOver (FieldType.object "MapMergerModel$Row") ∈ lw_tbl := am_m5 (List.mem_of_getElem? (i := 186) rfl)
theorem wd_1147 : Cond.methodLink "MapMergerModel" 223 ⟨"MapMergerModel$Paths", "clear", "()V"⟩ ∈ lw_tbl := am_m5 (List.mem_of_getElem? (i := 187) rfl)
theorem wd_1148 : Cond.instanceMethod ⟨"MapMergerModel$Paths", "clear", "()V"⟩ ∈ lw_tbl := am_m5 (List.mem_of_getElem? (i := 188) rfl)
theorem wd_1149 : Cond.selects "MapMergerModel$Paths" ⟨"MapMergerModel$Paths", "clear", "()V"⟩ ⟨"MapMergerModel$Paths", "clear", "()V"⟩ ∈ lw_tbl := am_m5 (List.mem_of_getElem? (i := 189) rfl)
theorem wd_1150 : Cond.code ⟨"MapMergerModel$Paths", "clear", "()V"⟩ prog_15_method_2_code 1 none ∈ lw_tbl := am_m5 (List.mem_of_getElem? (i := 190) rfl)
theorem wd_1151 : Cond.methodLink "MapMergerModel$Paths" 35 ⟨"MapMergerModel$Row", "clear", "()V"⟩ ∈ lw_tbl := am_m5 (List.mem_of_getElem? (i := 191) rfl)
theorem wd_1152 : Cond.instanceMethod ⟨"MapMergerModel$Row", "clear", "()V"⟩ ∈ lw_tbl := am_m5 (List.mem_of_getElem? (i := 192) rfl)
theorem wd_1153 : Cond.selects "MapMergerModel$Row" ⟨"MapMergerModel$Row", "clear", "()V"⟩ ⟨"MapMergerModel$Row", "clear", "()V"⟩ ∈ lw_tbl := am_m5 (List.mem_of_getElem? (i := 193) rfl)
theorem wd_1154 : Cond.code ⟨"MapMergerModel$Row", "clear", "()V"⟩ prog_16_method_2_code 1 none ∈ lw_tbl := am_m5 (List.mem_of_getElem? (i := 194) rfl)
theorem wd_1155 : Cond.fieldLink "MapMergerModel" 269 "MapMergerModel" "thrown" "I" ∈ lw_tbl := am_m5 (List.mem_of_getElem? (i := 195) rfl)
theorem wd_1156 : Cond.fieldLink "MapMergerModel" 278 "MapMergerModel" "maps" "[LMapMergerModel$Paths;" ∈ lw_tbl := am_m5 (List.mem_of_getElem? (i := 196) rfl)
theorem wd_1157 : Cond.fieldLink "MapMergerModel" 20 "MapMergerModel" "blobs" "LMapMergerModel$Row;" ∈ lw_tbl := am_m5 (List.mem_of_getElem? (i := 197) rfl)
theorem wd_1158 : Cond.fieldLink "MapMergerModel" 24 "MapMergerModel" "blobFrom" "[I" ∈ lw_tbl := am_m5 (List.mem_of_getElem? (i := 198) rfl)
theorem wd_1159 : Cond.fieldLink "MapMergerModel" 17 "MapMergerModel" "blobMany" "I" ∈ lw_tbl := am_m5 (List.mem_of_getElem? (i := 199) rfl)
theorem wd_1160 : Cond.fieldLink "MapMergerModel" 284 "MapMergerModel" "input" "LMapMergerModel$Row;" ∈ lw_tbl := am_m5 (List.mem_of_getElem? (i := 200) rfl)
theorem wd_1161 : Cond.fieldLink "MapMergerModel" 287 "MapMergerModel" "arguments" "[LMapMergerModel$Row;" ∈ lw_tbl := am_m5 (List.mem_of_getElem? (i := 201) rfl)
theorem wd_1162 : Cond.fieldLink "MapMergerModel" 266 "MapMergerModel" "given" "I" ∈ lw_tbl := am_m5 (List.mem_of_getElem? (i := 202) rfl)
theorem wd_1163 : Cond.fieldLink "MapMergerModel" 32 "MapMergerModel" "texts" "[LMapMergerModel$Row;" ∈ lw_tbl := am_m5 (List.mem_of_getElem? (i := 203) rfl)
theorem wd_1164 : Cond.fieldLink "MapMergerModel" 36 "MapMergerModel" "starts" "[I" ∈ lw_tbl := am_m5 (List.mem_of_getElem? (i := 204) rfl)
theorem wd_1165 : Cond.fieldLink "MapMergerModel" 57 "MapMergerModel" "kinds" "[I" ∈ lw_tbl := am_m5 (List.mem_of_getElem? (i := 205) rfl)
theorem wd_1166 : Cond.fieldLink "MapMergerModel" 39 "MapMergerModel" "count" "[I" ∈ lw_tbl := am_m5 (List.mem_of_getElem? (i := 206) rfl)
theorem wd_1167 : Cond.fieldLink "MapMergerModel" 66 "MapMergerModel" "partner" "[I" ∈ lw_tbl := am_m5 (List.mem_of_getElem? (i := 207) rfl)
theorem wd_1168 : Cond.fieldLink "MapMergerModel" 63 "MapMergerModel" "above" "[I" ∈ lw_tbl := am_m5 (List.mem_of_getElem? (i := 208) rfl)
theorem wd_1169 : Cond.fieldLink "MapMergerModel" 60 "MapMergerModel" "below" "[I" ∈ lw_tbl := am_m5 (List.mem_of_getElem? (i := 209) rfl)
theorem wd_1170 : Cond.fieldLink "MapMergerModel" 136 "MapMergerModel" "gone" "[I" ∈ lw_tbl := am_m5 (List.mem_of_getElem? (i := 210) rfl)
theorem wd_1171 : Cond.fieldLink "MapMergerModel" 139 "MapMergerModel" "come" "[I" ∈ lw_tbl := am_m5 (List.mem_of_getElem? (i := 211) rfl)
theorem wd_1172 : Cond.fieldLink "MapMergerModel" 144 "MapMergerModel" "scores" "[S" ∈ lw_tbl := am_m5 (List.mem_of_getElem? (i := 212) rfl)
theorem wd_1173 : Cond.fieldLink "MapMergerModel" 123 "MapMergerModel" "goneMany" "I" ∈ lw_tbl := am_m5 (List.mem_of_getElem? (i := 213) rfl)
theorem wd_1174 : Cond.fieldLink "MapMergerModel" 126 "MapMergerModel" "comeMany" "I" ∈ lw_tbl := am_m5 (List.mem_of_getElem? (i := 214) rfl)
theorem wd_1175 : Cond.fieldLink "MapMergerModel" 196 "MapMergerModel" "base" "LMapMergerModel$Paths;" ∈ lw_tbl := am_m5 (List.mem_of_getElem? (i := 215) rfl)
theorem wd_1176 : Cond.fieldLink "MapMergerModel" 199 "MapMergerModel" "mine" "LMapMergerModel$Paths;" ∈ lw_tbl := am_m5 (List.mem_of_getElem? (i := 216) rfl)
theorem wd_1177 : Cond.fieldLink "MapMergerModel" 202 "MapMergerModel" "theirs" "LMapMergerModel$Paths;" ∈ lw_tbl := am_m5 (List.mem_of_getElem? (i := 217) rfl)
theorem wd_1178 : Cond.fieldLink "MapMergerModel" 170 "MapMergerModel" "outcome" "LMapMergerModel$Paths;" ∈ lw_tbl := am_m5 (List.mem_of_getElem? (i := 218) rfl)
theorem wd_1179 : Cond.fieldLink "MapMergerModel" 247 "MapMergerModel" "result" "LMapMergerModel$Paths;" ∈ lw_tbl := am_m5 (List.mem_of_getElem? (i := 219) rfl)
theorem wd_1180 : Cond.fieldLink "MapMergerModel" 224 "MapMergerModel" "toOurs" "[I" ∈ lw_tbl := am_m5 (List.mem_of_getElem? (i := 220) rfl)
theorem wd_1181 : Cond.fieldLink "MapMergerModel" 234 "MapMergerModel" "toTheirs" "[I" ∈ lw_tbl := am_m5 (List.mem_of_getElem? (i := 221) rfl)
theorem wd_1182 : Cond.fieldLink "MapMergerModel" 227 "MapMergerModel" "anyScore" "[I" ∈ lw_tbl := am_m5 (List.mem_of_getElem? (i := 222) rfl)
theorem wd_1183 : Cond.fieldLink "MapMergerModel" 237 "MapMergerModel" "oursDone" "[Z" ∈ lw_tbl := am_m5 (List.mem_of_getElem? (i := 223) rfl)
theorem wd_1184 : Cond.fieldLink "MapMergerModel" 240 "MapMergerModel" "theirsDone" "[Z" ∈ lw_tbl := am_m5 (List.mem_of_getElem? (i := 224) rfl)
theorem wd_1185 : Cond.fieldLink "MapMergerModel" 151 "MapMergerModel" "fresh" "LMapMergerModel$Row;" ∈ lw_tbl := am_m5 (List.mem_of_getElem? (i := 225) rfl)
theorem wd_1186 : Cond.fieldLink "MapMergerModel" 212 "MapMergerModel" "merge" "LMapMergerModel$Row;" ∈ lw_tbl := am_m5 (List.mem_of_getElem? (i := 226) rfl)
theorem wd_1187 : Cond.fieldLink "MapMergerModel" 154 "MapMergerModel" "freshFrom" "[I" ∈ lw_tbl := am_m5 (List.mem_of_getElem? (i := 227) rfl)
theorem wd_1188 : Cond.fieldLink "MapMergerModel" 167 "MapMergerModel" "freshMany" "I" ∈ lw_tbl := am_m5 (List.mem_of_getElem? (i := 228) rfl)
theorem wd_1189 : Cond.fieldLink "MapMergerModel" 193 "MapMergerModel" "baseAt" "[I" ∈ lw_tbl := am_m5 (List.mem_of_getElem? (i := 229) rfl)
theorem wd_1190 : Cond.fieldLink "MapMergerModel" 187 "MapMergerModel" "oursAt" "[I" ∈ lw_tbl := am_m5 (List.mem_of_getElem? (i := 230) rfl)
theorem wd_1191 : Cond.fieldLink "MapMergerModel" 190 "MapMergerModel" "theirsAt" "[I" ∈ lw_tbl := am_m5 (List.mem_of_getElem? (i := 231) rfl)
theorem wd_1192 : Cond.fieldLink "MapMergerModel" 290 "MapMergerModel" "next" "LMapMergerModel$Paths;" ∈ lw_tbl := am_m5 (List.mem_of_getElem? (i := 232) rfl)
theorem wd_1193 : Cond.fieldLink "MapMergerModel" 293 "MapMergerModel" "seen" "LMapMergerModel$Paths;" ∈ lw_tbl := am_m5 (List.mem_of_getElem? (i := 233) rfl)
theorem wd_1194 : Cond.fieldLink "MapMergerModel" 296 "MapMergerModel" "seenTexts" "LMapMergerModel$Row;" ∈ lw_tbl := am_m5 (List.mem_of_getElem? (i := 234) rfl)
theorem wd_1195 : Cond.fieldLink "MapMergerModel" 299 "MapMergerModel" "seenFrom" "[I" ∈ lw_tbl := am_m5 (List.mem_of_getElem? (i := 235) rfl)
theorem wd_1196 : Cond.fieldLink "MapMergerModel" 302 "MapMergerModel" "seenBlob" "[I" ∈ lw_tbl := am_m5 (List.mem_of_getElem? (i := 236) rfl)
theorem wd_1282 : Cond.arrayClass FieldType.short ∈ lw_tbl := am_m6 (List.mem_of_getElem? (i := 82) rfl)
theorem wd_1286 : Cond.code ⟨"MapMergerModel", "thrown", "()I"⟩ prog_13_method_29_code 1 (some FieldType.int) ∈ lw_tbl := am_m6 (List.mem_of_getElem? (i := 86) rfl)
theorem wd_1290 : Cond.code ⟨"MapMergerModel", "feed", "(IIIII)V"⟩ prog_13_method_30_code 8 none ∈ lw_tbl := am_m6 (List.mem_of_getElem? (i := 90) rfl)
theorem wd_1291 : Cond.methodLink "MapMergerModel" 305 ⟨"MapMergerModel", "bad", "()I"⟩ ∈ lw_tbl := am_m6 (List.mem_of_getElem? (i := 91) rfl)
theorem wd_1293 : Cond.instanceMethod ⟨"MapMergerModel", "bad", "()I"⟩ ∈ lw_tbl := am_m6 (List.mem_of_getElem? (i := 93) rfl)
theorem wd_1294 : Cond.code ⟨"MapMergerModel", "bad", "()I"⟩ prog_13_method_26_code 1 (some FieldType.int) ∈ lw_tbl := am_m6 (List.mem_of_getElem? (i := 94) rfl)
theorem wd_1295 : Cond.methodLink "MapMergerModel" 309 ⟨"MapMergerModel$Row", "four", "(I)LMapMergerModel$Row;"⟩ ∈ lw_tbl := am_m6 (List.mem_of_getElem? (i := 95) rfl)
theorem wd_1296 : Cond.instanceMethod ⟨"MapMergerModel$Row", "four", "(I)LMapMergerModel$Row;"⟩ ∈ lw_tbl := am_m6 (List.mem_of_getElem? (i := 96) rfl)
theorem wd_1297 : Cond.selects "MapMergerModel$Row" ⟨"MapMergerModel$Row", "four", "(I)LMapMergerModel$Row;"⟩ ⟨"MapMergerModel$Row", "four", "(I)LMapMergerModel$Row;"⟩ ∈ lw_tbl := am_m6 (List.mem_of_getElem? (i := 97) rfl)
theorem wd_1298 : Cond.code ⟨"MapMergerModel$Row", "four", "(I)LMapMergerModel$Row;"⟩ prog_16_method_9_code 2 (some (FieldType.object "MapMergerModel$Row")) ∈ lw_tbl := am_m6 (List.mem_of_getElem? (i := 98) rfl)
theorem wd_1299 : Cond.methodLink "MapMergerModel$Row" 17 ⟨"MapMergerModel$Row", "add", "(I)LMapMergerModel$Row;"⟩ ∈ lw_tbl := am_m6 (List.mem_of_getElem? (i := 99) rfl)
theorem wd_1300 : Cond.instanceMethod ⟨"MapMergerModel$Row", "add", "(I)LMapMergerModel$Row;"⟩ ∈ lw_tbl := am_m6 (List.mem_of_getElem? (i := 100) rfl)
theorem wd_1301 : Cond.selects "MapMergerModel$Row" ⟨"MapMergerModel$Row", "add", "(I)LMapMergerModel$Row;"⟩ ⟨"MapMergerModel$Row", "add", "(I)LMapMergerModel$Row;"⟩ ∈ lw_tbl := am_m6 (List.mem_of_getElem? (i := 101) rfl)
theorem wd_1302 : Cond.code ⟨"MapMergerModel$Row", "add", "(I)LMapMergerModel$Row;"⟩ prog_16_method_3_code 4 (some (FieldType.object "MapMergerModel$Row")) ∈ lw_tbl := am_m6 (List.mem_of_getElem? (i := 102) rfl)
theorem wd_1306 : Cond.code ⟨"MapMergerModel", "end", "(I)I"⟩ prog_13_method_31_code 4 (some FieldType.int) ∈ lw_tbl := am_m6 (List.mem_of_getElem? (i := 106) rfl)
theorem wd_1307 : Cond.methodLink "MapMergerModel" 112 ⟨"MapMergerModel$Row", "set", "(LMapMergerModel$Row;)LMapMergerModel$Row;"⟩ ∈ lw_tbl := am_m6 (List.mem_of_getElem? (i := 107) rfl)
theorem wd_1308 : Cond.instanceMethod ⟨"MapMergerModel$Row", "set", "(LMapMergerModel$Row;)LMapMergerModel$Row;"⟩ ∈ lw_tbl := am_m6 (List.mem_of_getElem? (i := 108) rfl)
theorem wd_1309 : Cond.selects "MapMergerModel$Row" ⟨"MapMergerModel$Row", "set", "(LMapMergerModel$Row;)LMapMergerModel$Row;"⟩ ⟨"MapMergerModel$Row", "set", "(LMapMergerModel$Row;)LMapMergerModel$Row;"⟩ ∈ lw_tbl := am_m6 (List.mem_of_getElem? (i := 109) rfl)
theorem wd_1310 : Cond.code ⟨"MapMergerModel$Row", "set", "(LMapMergerModel$Row;)LMapMergerModel$Row;"⟩ prog_16_method_7_code 2 (some (FieldType.object "MapMergerModel$Row")) ∈ lw_tbl := am_m6 (List.mem_of_getElem? (i := 110) rfl)
theorem wd_1311 : Cond.methodLink "MapMergerModel$Row" 24 ⟨"MapMergerModel$Row", "clear", "()V"⟩ ∈ lw_tbl := am_m6 (List.mem_of_getElem? (i := 111) rfl)
theorem wd_1312 : Cond.methodLink "MapMergerModel$Row" 27 ⟨"MapMergerModel$Row", "add", "(LMapMergerModel$Row;)LMapMergerModel$Row;"⟩ ∈ lw_tbl := am_m6 (List.mem_of_getElem? (i := 112) rfl)
theorem wd_1313 : Cond.instanceMethod ⟨"MapMergerModel$Row", "add", "(LMapMergerModel$Row;)LMapMergerModel$Row;"⟩ ∈ lw_tbl := am_m6 (List.mem_of_getElem? (i := 113) rfl)
theorem wd_1314 : Cond.selects "MapMergerModel$Row" ⟨"MapMergerModel$Row", "add", "(LMapMergerModel$Row;)LMapMergerModel$Row;"⟩ ⟨"MapMergerModel$Row", "add", "(LMapMergerModel$Row;)LMapMergerModel$Row;"⟩ ∈ lw_tbl := am_m6 (List.mem_of_getElem? (i := 114) rfl)
theorem wd_1315 : Cond.code ⟨"MapMergerModel$Row", "add", "(LMapMergerModel$Row;)LMapMergerModel$Row;"⟩ prog_16_method_6_code 2 (some (FieldType.object "MapMergerModel$Row")) ∈ lw_tbl := am_m6 (List.mem_of_getElem? (i := 115) rfl)
theorem wd_1316 : Cond.methodLink "MapMergerModel$Row" 21 ⟨"MapMergerModel$Row", "add", "(LMapMergerModel$Row;II)LMapMergerModel$Row;"⟩ ∈ lw_tbl := am_m6 (List.mem_of_getElem? (i := 116) rfl)
theorem wd_1317 : Cond.instanceMethod ⟨"MapMergerModel$Row", "add", "(LMapMergerModel$Row;II)LMapMergerModel$Row;"⟩ ∈ lw_tbl := am_m6 (List.mem_of_getElem? (i := 117) rfl)
theorem wd_1318 : Cond.selects "MapMergerModel$Row" ⟨"MapMergerModel$Row", "add", "(LMapMergerModel$Row;II)LMapMergerModel$Row;"⟩ ⟨"MapMergerModel$Row", "add", "(LMapMergerModel$Row;II)LMapMergerModel$Row;"⟩ ∈ lw_tbl := am_m6 (List.mem_of_getElem? (i := 118) rfl)
theorem wd_1319 : Cond.code ⟨"MapMergerModel$Row", "add", "(LMapMergerModel$Row;II)LMapMergerModel$Row;"⟩ prog_16_method_5_code 5 (some (FieldType.object "MapMergerModel$Row")) ∈ lw_tbl := am_m6 (List.mem_of_getElem? (i := 119) rfl)
theorem wd_1320 : Cond.methodLink "MapMergerModel" 93 ⟨"MapMergerModel$Row", "clear", "()V"⟩ ∈ lw_tbl := am_m6 (List.mem_of_getElem? (i := 120) rfl)
theorem wd_1324 : Cond.code ⟨"MapMergerModel", "put", "(I)I"⟩ prog_13_method_33_code 6 (some FieldType.int) ∈ lw_tbl := am_m6 (List.mem_of_getElem? (i := 124) rfl)
theorem wd_1325 : Cond.methodLink "MapMergerModel" 315 ⟨"MapMergerModel", "takeAll", "()I"⟩ ∈ lw_tbl := am_m6 (List.mem_of_getElem? (i := 125) rfl)
theorem wd_1327 : Cond.instanceMethod ⟨"MapMergerModel", "takeAll", "()I"⟩ ∈ lw_tbl := am_m6 (List.mem_of_getElem? (i := 127) rfl)
theorem wd_1328 : Cond.code ⟨"MapMergerModel", "takeAll", "()I"⟩ prog_13_method_25_code 2 (some FieldType.int) ∈ lw_tbl := am_m6 (List.mem_of_getElem? (i := 128) rfl)
theorem wd_1329 : Cond.methodLink "MapMergerModel" 258 ⟨"MapMergerModel", "in", "(III)Z"⟩ ∈ lw_tbl := am_m6 (List.mem_of_getElem? (i := 129) rfl)
theorem wd_1330 : Cond.static ⟨"MapMergerModel", "in", "(III)Z"⟩ ∈ lw_tbl := am_m6 (List.mem_of_getElem? (i := 130) rfl)
theorem wd_1331 : Cond.code ⟨"MapMergerModel", "in", "(III)Z"⟩ prog_13_method_1_code 3 (some FieldType.boolean) ∈ lw_tbl := am_m6 (List.mem_of_getElem? (i := 131) rfl)
theorem wd_1332 : Cond.methodLink "MapMergerModel" 318 ⟨"MapMergerModel", "isPath", "(LMapMergerModel$Row;)Z"⟩ ∈ lw_tbl := am_m6 (List.mem_of_getElem? (i := 132) rfl)
theorem wd_1333 : Cond.static ⟨"MapMergerModel", "isPath", "(LMapMergerModel$Row;)Z"⟩ ∈ lw_tbl := am_m6 (List.mem_of_getElem? (i := 133) rfl)
theorem wd_1334 : Cond.code ⟨"MapMergerModel", "isPath", "(LMapMergerModel$Row;)Z"⟩ prog_13_method_24_code 4 (some FieldType.boolean) ∈ lw_tbl := am_m6 (List.mem_of_getElem? (i := 134) rfl)
theorem wd_1335 : Cond.methodLink "MapMergerModel" 42 ⟨"MapMergerModel$Row", "get", "(I)I"⟩ ∈ lw_tbl := am_m6 (List.mem_of_getElem? (i := 135) rfl)
theorem wd_1336 : Cond.instanceMethod ⟨"MapMergerModel$Row", "get", "(I)I"⟩ ∈ lw_tbl := am_m6 (List.mem_of_getElem? (i := 136) rfl)
theorem wd_1337 : Cond.selects "MapMergerModel$Row" ⟨"MapMergerModel$Row", "get", "(I)I"⟩ ⟨"MapMergerModel$Row", "get", "(I)I"⟩ ∈ lw_tbl := am_m6 (List.mem_of_getElem? (i := 137) rfl)
theorem wd_1338 : Cond.code ⟨"MapMergerModel$Row", "get", "(I)I"⟩ prog_16_method_4_code 2 (some FieldType.int) ∈ lw_tbl := am_m6 (List.mem_of_getElem? (i := 138) rfl)
theorem wd_1339 : Cond.methodLink "MapMergerModel" 262 ⟨"MapMergerModel", "isName", "(LMapMergerModel$Row;II)Z"⟩ ∈ lw_tbl := am_m6 (List.mem_of_getElem? (i := 139) rfl)
theorem wd_1340 : Cond.static ⟨"MapMergerModel", "isName", "(LMapMergerModel$Row;II)Z"⟩ ∈ lw_tbl := am_m6 (List.mem_of_getElem? (i := 140) rfl)
theorem wd_1341 : Cond.code ⟨"MapMergerModel", "isName", "(LMapMergerModel$Row;II)Z"⟩ prog_13_method_23_code 4 (some FieldType.boolean) ∈ lw_tbl := am_m6 (List.mem_of_getElem? (i := 141) rfl)
theorem wd_1342 : Cond.methodLink "MapMergerModel" 157 ⟨"MapMergerModel", "blobOf", "(LMapMergerModel$Row;)I"⟩ ∈ lw_tbl := am_m6 (List.mem_of_getElem? (i := 142) rfl)
theorem wd_1344 : Cond.instanceMethod ⟨"MapMergerModel", "blobOf", "(LMapMergerModel$Row;)I"⟩ ∈ lw_tbl := am_m6 (List.mem_of_getElem? (i := 144) rfl)
theorem wd_1345 : Cond.code ⟨"MapMergerModel", "blobOf", "(LMapMergerModel$Row;)I"⟩ prog_13_method_4_code 3 (some FieldType.int) ∈ lw_tbl := am_m6 (List.mem_of_getElem? (i := 145) rfl)
theorem wd_1346 : Cond.methodLink "MapMergerModel" 28 ⟨"MapMergerModel", "same", "(LMapMergerModel$Row;LMapMergerModel$Row;II)Z"⟩ ∈ lw_tbl := am_m6 (List.mem_of_getElem? (i := 146) rfl)
theorem wd_1347 : Cond.static ⟨"MapMergerModel", "same", "(LMapMergerModel$Row;LMapMergerModel$Row;II)Z"⟩ ∈ lw_tbl := am_m6 (List.mem_of_getElem? (i := 147) rfl)
theorem wd_1348 : Cond.code ⟨"MapMergerModel", "same", "(LMapMergerModel$Row;LMapMergerModel$Row;II)Z"⟩ prog_13_method_3_code 5 (some FieldType.boolean) ∈ lw_tbl := am_m6 (List.mem_of_getElem? (i := 148) rfl)
theorem wd_1349 : Cond.methodLink "MapMergerModel" 321 ⟨"MapMergerModel", "rebuild", "(LMapMergerModel$Paths;LMapMergerModel$Row;I)V"⟩ ∈ lw_tbl := am_m6 (List.mem_of_getElem? (i := 149) rfl)
theorem wd_1351 : Cond.instanceMethod ⟨"MapMergerModel", "rebuild", "(LMapMergerModel$Paths;LMapMergerModel$Row;I)V"⟩ ∈ lw_tbl := am_m6 (List.mem_of_getElem? (i := 151) rfl)
theorem wd_1352 : Cond.code ⟨"MapMergerModel", "rebuild", "(LMapMergerModel$Paths;LMapMergerModel$Row;I)V"⟩ prog_13_method_32_code 5 none ∈ lw_tbl := am_m6 (List.mem_of_getElem? (i := 152) rfl)
theorem wd_1353 : Cond.methodLink "MapMergerModel" 312 ⟨"MapMergerModel$Paths", "compare", "(ILMapMergerModel$Row;)I"⟩ ∈ lw_tbl := am_m6 (List.mem_of_getElem? (i := 153) rfl)
theorem wd_1354 : Cond.instanceMethod ⟨"MapMergerModel$Paths", "compare", "(ILMapMergerModel$Row;)I"⟩ ∈ lw_tbl := am_m6 (List.mem_of_getElem? (i := 154) rfl)
theorem wd_1355 : Cond.selects "MapMergerModel$Paths" ⟨"MapMergerModel$Paths", "compare", "(ILMapMergerModel$Row;)I"⟩ ⟨"MapMergerModel$Paths", "compare", "(ILMapMergerModel$Row;)I"⟩ ∈ lw_tbl := am_m6 (List.mem_of_getElem? (i := 155) rfl)
theorem wd_1356 : Cond.code ⟨"MapMergerModel$Paths", "compare", "(ILMapMergerModel$Row;)I"⟩ prog_15_method_6_code 7 (some FieldType.int) ∈ lw_tbl := am_m6 (List.mem_of_getElem? (i := 156) rfl)
theorem wd_1357 : Cond.methodLink "MapMergerModel$Paths" 43 ⟨"MapMergerModel$Paths", "length", "(I)I"⟩ ∈ lw_tbl := am_m6 (List.mem_of_getElem? (i := 157) rfl)
theorem wd_1358 : Cond.instanceMethod ⟨"MapMergerModel$Paths", "length", "(I)I"⟩ ∈ lw_tbl := am_m6 (List.mem_of_getElem? (i := 158) rfl)
theorem wd_1359 : Cond.selects "MapMergerModel$Paths" ⟨"MapMergerModel$Paths", "length", "(I)I"⟩ ⟨"MapMergerModel$Paths", "length", "(I)I"⟩ ∈ lw_tbl := am_m6 (List.mem_of_getElem? (i := 159) rfl)
theorem wd_1360 : Cond.code ⟨"MapMergerModel$Paths", "length", "(I)I"⟩ prog_15_method_3_code 2 (some FieldType.int) ∈ lw_tbl := am_m6 (List.mem_of_getElem? (i := 160) rfl)
theorem wd_1361 : Cond.methodLink "MapMergerModel$Paths" 47 ⟨"MapMergerModel$Row", "get", "(I)I"⟩ ∈ lw_tbl := am_m6 (List.mem_of_getElem? (i := 161) rfl)
theorem wd_1362 : Cond.methodLink "MapMergerModel" 250 ⟨"MapMergerModel$Paths", "take", "(LMapMergerModel$Paths;I)V"⟩ ∈ lw_tbl := am_m6 (List.mem_of_getElem? (i := 162) rfl)
theorem wd_1363 : Cond.instanceMethod ⟨"MapMergerModel$Paths", "take", "(LMapMergerModel$Paths;I)V"⟩ ∈ lw_tbl := am_m6 (List.mem_of_getElem? (i := 163) rfl)
theorem wd_1364 : Cond.selects "MapMergerModel$Paths" ⟨"MapMergerModel$Paths", "take", "(LMapMergerModel$Paths;I)V"⟩ ⟨"MapMergerModel$Paths", "take", "(LMapMergerModel$Paths;I)V"⟩ ∈ lw_tbl := am_m6 (List.mem_of_getElem? (i := 164) rfl)
theorem wd_1365 : Cond.code ⟨"MapMergerModel$Paths", "take", "(LMapMergerModel$Paths;I)V"⟩ prog_15_method_11_code 5 none ∈ lw_tbl := am_m6 (List.mem_of_getElem? (i := 165) rfl)
theorem wd_1366 : Cond.methodLink "MapMergerModel$Paths" 61 ⟨"MapMergerModel$Paths", "add", "(LMapMergerModel$Row;II)I"⟩ ∈ lw_tbl := am_m6 (List.mem_of_getElem? (i := 166) rfl)
theorem wd_1367 : Cond.instanceMethod ⟨"MapMergerModel$Paths", "add", "(LMapMergerModel$Row;II)I"⟩ ∈ lw_tbl := am_m6 (List.mem_of_getElem? (i := 167) rfl)
theorem wd_1368 : Cond.selects "MapMergerModel$Paths" ⟨"MapMergerModel$Paths", "add", "(LMapMergerModel$Row;II)I"⟩ ⟨"MapMergerModel$Paths", "add", "(LMapMergerModel$Row;II)I"⟩ ∈ lw_tbl := am_m6 (List.mem_of_getElem? (i := 168) rfl)
theorem wd_1369 : Cond.code ⟨"MapMergerModel$Paths", "add", "(LMapMergerModel$Row;II)I"⟩ prog_15_method_4_code 4 (some FieldType.int) ∈ lw_tbl := am_m6 (List.mem_of_getElem? (i := 169) rfl)
theorem wd_1370 : Cond.methodLink "MapMergerModel$Paths" 38 ⟨"MapMergerModel$Row", "add", "(LMapMergerModel$Row;II)LMapMergerModel$Row;"⟩ ∈ lw_tbl := am_m6 (List.mem_of_getElem? (i := 170) rfl)
theorem wd_1371 : Cond.methodLink "MapMergerModel" 180 ⟨"MapMergerModel$Paths", "add", "(LMapMergerModel$Row;II)I"⟩ ∈ lw_tbl := am_m6 (List.mem_of_getElem? (i := 171) rfl)
theorem wd_1372 : Cond.methodLink "MapMergerModel" 254 ⟨"MapMergerModel$Paths", "fits", "()Z"⟩ ∈ lw_tbl := am_m6 (List.mem_of_getElem? (i := 172) rfl)
theorem wd_1373 : Cond.instanceMethod ⟨"MapMergerModel$Paths", "fits", "()Z"⟩ ∈ lw_tbl := am_m6 (List.mem_of_getElem? (i := 173) rfl)
theorem wd_1374 : Cond.selects "MapMergerModel$Paths" ⟨"MapMergerModel$Paths", "fits", "()Z"⟩ ⟨"MapMergerModel$Paths", "fits", "()Z"⟩ ∈ lw_tbl := am_m6 (List.mem_of_getElem? (i := 174) rfl)
theorem wd_1375 : Cond.code ⟨"MapMergerModel$Paths", "fits", "()Z"⟩ prog_15_method_10_code 3 (some FieldType.boolean) ∈ lw_tbl := am_m6 (List.mem_of_getElem? (i := 175) rfl)
theorem wd_1376 : Cond.methodLink "MapMergerModel$Paths" 57 ⟨"MapMergerModel$Paths", "under", "(ILMapMergerModel$Paths;I)Z"⟩ ∈ lw_tbl := am_m6 (List.mem_of_getElem? (i := 176) rfl)
theorem wd_1377 : Cond.instanceMethod ⟨"MapMergerModel$Paths", "under", "(ILMapMergerModel$Paths;I)Z"⟩ ∈ lw_tbl := am_m6 (List.mem_of_getElem? (i := 177) rfl)
theorem wd_1378 : Cond.selects "MapMergerModel$Paths" ⟨"MapMergerModel$Paths", "under", "(ILMapMergerModel$Paths;I)Z"⟩ ⟨"MapMergerModel$Paths", "under", "(ILMapMergerModel$Paths;I)Z"⟩ ∈ lw_tbl := am_m6 (List.mem_of_getElem? (i := 178) rfl)
theorem wd_1379 : Cond.code ⟨"MapMergerModel$Paths", "under", "(ILMapMergerModel$Paths;I)Z"⟩ prog_15_method_9_code 6 (some FieldType.boolean) ∈ lw_tbl := am_m6 (List.mem_of_getElem? (i := 179) rfl)
theorem wd_1380 : Cond.constant "MapMergerModel" 325 32768 ∈ lw_tbl := am_m6 (List.mem_of_getElem? (i := 180) rfl)
theorem wd_1381 : Cond.methodLink "MapMergerModel" 326 ⟨"MapMergerModel", "refused", "()I"⟩ ∈ lw_tbl := am_m6 (List.mem_of_getElem? (i := 181) rfl)
theorem wd_1383 : Cond.instanceMethod ⟨"MapMergerModel", "refused", "()I"⟩ ∈ lw_tbl := am_m6 (List.mem_of_getElem? (i := 183) rfl)
theorem wd_1384 : Cond.code ⟨"MapMergerModel", "refused", "()I"⟩ prog_13_method_27_code 1 (some FieldType.int) ∈ lw_tbl := am_m6 (List.mem_of_getElem? (i := 184) rfl)
theorem wd_1385 : Cond.methodLink "MapMergerModel" 165 ⟨"MapMergerModel$Row", "add", "(LMapMergerModel$Row;)LMapMergerModel$Row;"⟩ ∈ lw_tbl := am_m6 (List.mem_of_getElem? (i := 185) rfl)
theorem wd_1386 : Cond.methodLink "MapMergerModel" 329 ⟨"MapMergerModel$Paths", "set", "(LMapMergerModel$Paths;)V"⟩ ∈ lw_tbl := am_m6 (List.mem_of_getElem? (i := 186) rfl)
theorem wd_1387 : Cond.instanceMethod ⟨"MapMergerModel$Paths", "set", "(LMapMergerModel$Paths;)V"⟩ ∈ lw_tbl := am_m6 (List.mem_of_getElem? (i := 187) rfl)
theorem wd_1388 : Cond.selects "MapMergerModel$Paths" ⟨"MapMergerModel$Paths", "set", "(LMapMergerModel$Paths;)V"⟩ ⟨"MapMergerModel$Paths", "set", "(LMapMergerModel$Paths;)V"⟩ ∈ lw_tbl := am_m6 (List.mem_of_getElem? (i := 188) rfl)
theorem wd_1389 : Cond.code ⟨"MapMergerModel$Paths", "set", "(LMapMergerModel$Paths;)V"⟩ prog_15_method_12_code 3 none ∈ lw_tbl := am_m6 (List.mem_of_getElem? (i := 189) rfl)
theorem wd_1390 : Cond.methodLink "MapMergerModel$Paths" 64 ⟨"MapMergerModel$Paths", "clear", "()V"⟩ ∈ lw_tbl := am_m6 (List.mem_of_getElem? (i := 190) rfl)
theorem wd_1391 : Cond.methodLink "MapMergerModel$Paths" 65 ⟨"MapMergerModel$Paths", "take", "(LMapMergerModel$Paths;I)V"⟩ ∈ lw_tbl := am_m6 (List.mem_of_getElem? (i := 191) rfl)
theorem wd_1395 : Cond.code ⟨"MapMergerModel", "drop", "(I)V"⟩ prog_13_method_34_code 3 none ∈ lw_tbl := am_m6 (List.mem_of_getElem? (i := 195) rfl)
theorem wd_1396 : Cond.methodLink "MapMergerModel" 332 ⟨"MapMergerModel$Paths", "find", "(LMapMergerModel$Row;)I"⟩ ∈ lw_tbl := am_m6 (List.mem_of_getElem? (i := 196) rfl)
theorem wd_1397 : Cond.instanceMethod ⟨"MapMergerModel$Paths", "find", "(LMapMergerModel$Row;)I"⟩ ∈ lw_tbl := am_m6 (List.mem_of_getElem? (i := 197) rfl)
theorem wd_1398 : Cond.selects "MapMergerModel$Paths" ⟨"MapMergerModel$Paths", "find", "(LMapMergerModel$Row;)I"⟩ ⟨"MapMergerModel$Paths", "find", "(LMapMergerModel$Row;)I"⟩ ∈ lw_tbl := am_m6 (List.mem_of_getElem? (i := 198) rfl)
theorem wd_1399 : Cond.code ⟨"MapMergerModel$Paths", "find", "(LMapMergerModel$Row;)I"⟩ prog_15_method_7_code 3 (some FieldType.int) ∈ lw_tbl := am_m6 (List.mem_of_getElem? (i := 199) rfl)
theorem wd_1400 : Cond.methodLink "MapMergerModel$Paths" 50 ⟨"MapMergerModel$Paths", "compare", "(ILMapMergerModel$Row;)I"⟩ ∈ lw_tbl := am_m6 (List.mem_of_getElem? (i := 200) rfl)
theorem wd_1404 : Cond.code ⟨"MapMergerModel", "copy", "(II)V"⟩ prog_13_method_35_code 4 none ∈ lw_tbl := am_m6 (List.mem_of_getElem? (i := 204) rfl)
theorem wd_1408 : Cond.codeWith ⟨"MapMergerModel", "merge", "()I"⟩ prog_13_method_36_code 6 (some FieldType.int) [(17, 21, 24, 337)] ∈ lw_tbl := am_m6 (List.mem_of_getElem? (i := 208) rfl)
theorem wd_1409 : Cond.classLink "MapMergerModel" 337 "MapMergerModel$No" ∈ lw_tbl := am_m6 (List.mem_of_getElem? (i := 209) rfl)
theorem wd_1410 : Cond.methodLink "MapMergerModel" 334 ⟨"MapMergerModel", "mergeMaps", "()V"⟩ ∈ lw_tbl := am_m6 (List.mem_of_getElem? (i := 210) rfl)
theorem wd_1412 : Cond.instanceMethod ⟨"MapMergerModel", "mergeMaps", "()V"⟩ ∈ lw_tbl := am_m6 (List.mem_of_getElem? (i := 212) rfl)
theorem wd_1413 : Cond.code ⟨"MapMergerModel", "mergeMaps", "()V"⟩ prog_13_method_22_code 4 none ∈ lw_tbl := am_m6 (List.mem_of_getElem? (i := 213) rfl)
theorem wd_1414 : Cond.methodLink "MapMergerModel" 230 ⟨"MapMergerModel", "renames", "(LMapMergerModel$Paths;LMapMergerModel$Paths;[I[I)V"⟩ ∈ lw_tbl := am_m6 (List.mem_of_getElem? (i := 214) rfl)
theorem wd_1416 : Cond.instanceMethod ⟨"MapMergerModel", "renames", "(LMapMergerModel$Paths;LMapMergerModel$Paths;[I[I)V"⟩ ∈ lw_tbl := am_m6 (List.mem_of_getElem? (i := 216) rfl)
theorem wd_1417 : Cond.code ⟨"MapMergerModel", "renames", "(LMapMergerModel$Paths;LMapMergerModel$Paths;[I[I)V"⟩ prog_13_method_17_code 14 none ∈ lw_tbl := am_m6 (List.mem_of_getElem? (i := 217) rfl)
theorem wd_1418 : Cond.methodLink "MapMergerModel" 132 ⟨"MapMergerModel$Paths", "find", "(LMapMergerModel$Paths;I)I"⟩ ∈ lw_tbl := am_m6 (List.mem_of_getElem? (i := 218) rfl)
theorem wd_1419 : Cond.instanceMethod ⟨"MapMergerModel$Paths", "find", "(LMapMergerModel$Paths;I)I"⟩ ∈ lw_tbl := am_m6 (List.mem_of_getElem? (i := 219) rfl)
theorem wd_1420 : Cond.selects "MapMergerModel$Paths" ⟨"MapMergerModel$Paths", "find", "(LMapMergerModel$Paths;I)I"⟩ ⟨"MapMergerModel$Paths", "find", "(LMapMergerModel$Paths;I)I"⟩ ∈ lw_tbl := am_m6 (List.mem_of_getElem? (i := 220) rfl)
theorem wd_1421 : Cond.code ⟨"MapMergerModel$Paths", "find", "(LMapMergerModel$Paths;I)I"⟩ prog_15_method_8_code 4 (some FieldType.int) ∈ lw_tbl := am_m6 (List.mem_of_getElem? (i := 221) rfl)
theorem wd_1422 : Cond.methodLink "MapMergerModel$Paths" 54 ⟨"MapMergerModel$Paths", "compare", "(ILMapMergerModel$Paths;I)I"⟩ ∈ lw_tbl := am_m6 (List.mem_of_getElem? (i := 222) rfl)
theorem wd_1423 : Cond.instanceMethod ⟨"MapMergerModel$Paths", "compare", "(ILMapMergerModel$Paths;I)I"⟩ ∈ lw_tbl := am_m6 (List.mem_of_getElem? (i := 223) rfl)
theorem wd_1424 : Cond.selects "MapMergerModel$Paths" ⟨"MapMergerModel$Paths", "compare", "(ILMapMergerModel$Paths;I)I"⟩ ⟨"MapMergerModel$Paths", "compare", "(ILMapMergerModel$Paths;I)I"⟩ ∈ lw_tbl := am_m6 (List.mem_of_getElem? (i := 224) rfl)
theorem wd_1425 : Cond.code ⟨"MapMergerModel$Paths", "compare", "(ILMapMergerModel$Paths;I)I"⟩ prog_15_method_5_code 9 (some FieldType.int) ∈ lw_tbl := am_m6 (List.mem_of_getElem? (i := 225) rfl)
theorem wd_1426 : Cond.methodLink "MapMergerModel" 148 ⟨"MapMergerModel", "score", "(II)I"⟩ ∈ lw_tbl := am_m6 (List.mem_of_getElem? (i := 226) rfl)
theorem wd_1428 : Cond.instanceMethod ⟨"MapMergerModel", "score", "(II)I"⟩ ∈ lw_tbl := am_m6 (List.mem_of_getElem? (i := 228) rfl)
theorem wd_1429 : Cond.code ⟨"MapMergerModel", "score", "(II)I"⟩ prog_13_method_16_code 7 (some FieldType.int) ∈ lw_tbl := am_m6 (List.mem_of_getElem? (i := 229) rfl)
theorem wd_1430 : Cond.methodLink "MapMergerModel" 116 ⟨"MapMergerModel", "blobText", "(ILMapMergerModel$Row;)V"⟩ ∈ lw_tbl := am_m6 (List.mem_of_getElem? (i := 230) rfl)
theorem wd_1432 : Cond.instanceMethod ⟨"MapMergerModel", "blobText", "(ILMapMergerModel$Row;)V"⟩ ∈ lw_tbl := am_m6 (List.mem_of_getElem? (i := 232) rfl)
theorem wd_1433 : Cond.code ⟨"MapMergerModel", "blobText", "(ILMapMergerModel$Row;)V"⟩ prog_13_method_18_code 3 none ∈ lw_tbl := am_m6 (List.mem_of_getElem? (i := 233) rfl)
theorem wd_1434 : Cond.methodLink "MapMergerModel" 73 ⟨"MapMergerModel$Row", "add", "(LMapMergerModel$Row;II)LMapMergerModel$Row;"⟩ ∈ lw_tbl := am_m6 (List.mem_of_getElem? (i := 234) rfl)
theorem wd_1435 : Cond.methodLink "MapMergerModel" 97 ⟨"MapMergerModel", "cut", "(I)V"⟩ ∈ lw_tbl := am_m6 (List.mem_of_getElem? (i := 235) rfl)
theorem wd_1437 : Cond.instanceMethod ⟨"MapMergerModel", "cut", "(I)V"⟩ ∈ lw_tbl := am_m6 (List.mem_of_getElem? (i := 237) rfl)
theorem wd_1438 : Cond.code ⟨"MapMergerModel", "cut", "(I)V"⟩ prog_13_method_5_code 5 none ∈ lw_tbl := am_m6 (List.mem_of_getElem? (i := 238) rfl)
theorem wd_1439 : Cond.methodLink "MapMergerModel" 101 ⟨"MapMergerModel", "sort", "(I)V"⟩ ∈ lw_tbl := am_m6 (List.mem_of_getElem? (i := 239) rfl)
theorem wd_1441 : Cond.instanceMethod ⟨"MapMergerModel", "sort", "(I)V"⟩ ∈ lw_tbl := am_m7 (List.mem_of_getElem? (i := 1) rfl)
theorem wd_1442 : Cond.code ⟨"MapMergerModel", "sort", "(I)V"⟩ prog_13_method_9_code 7 none ∈ lw_tbl := am_m7 (List.mem_of_getElem? (i := 2) rfl)
theorem wd_1443 : Cond.methodLink "MapMergerModel" 53 ⟨"MapMergerModel", "sameLine", "(IIII)Z"⟩ ∈ lw_tbl := am_m7 (List.mem_of_getElem? (i := 3) rfl)
theorem wd_1445 : Cond.instanceMethod ⟨"MapMergerModel", "sameLine", "(IIII)Z"⟩ ∈ lw_tbl := am_m7 (List.mem_of_getElem? (i := 5) rfl)
theorem wd_1446 : Cond.code ⟨"MapMergerModel", "sameLine", "(IIII)Z"⟩ prog_13_method_7_code 5 (some FieldType.boolean) ∈ lw_tbl := am_m7 (List.mem_of_getElem? (i := 6) rfl)
theorem wd_1447 : Cond.methodLink "MapMergerModel" 46 ⟨"MapMergerModel", "start", "(II)I"⟩ ∈ lw_tbl := am_m7 (List.mem_of_getElem? (i := 7) rfl)
theorem wd_1449 : Cond.instanceMethod ⟨"MapMergerModel", "start", "(II)I"⟩ ∈ lw_tbl := am_m7 (List.mem_of_getElem? (i := 9) rfl)
theorem wd_1450 : Cond.code ⟨"MapMergerModel", "start", "(II)I"⟩ prog_13_method_6_code 3 (some FieldType.int) ∈ lw_tbl := am_m7 (List.mem_of_getElem? (i := 10) rfl)
theorem wd_1451 : Cond.methodLink "MapMergerModel" 50 ⟨"MapMergerModel", "same", "(LMapMergerModel$Row;IILMapMergerModel$Row;II)Z"⟩ ∈ lw_tbl := am_m7 (List.mem_of_getElem? (i := 11) rfl)
theorem wd_1452 : Cond.static ⟨"MapMergerModel", "same", "(LMapMergerModel$Row;IILMapMergerModel$Row;II)Z"⟩ ∈ lw_tbl := am_m7 (List.mem_of_getElem? (i := 12) rfl)
theorem wd_1453 : Cond.code ⟨"MapMergerModel", "same", "(LMapMergerModel$Row;IILMapMergerModel$Row;II)Z"⟩ prog_13_method_8_code 7 (some FieldType.boolean) ∈ lw_tbl := am_m7 (List.mem_of_getElem? (i := 13) rfl)
theorem wd_1454 : Cond.methodLink "MapMergerModel" 120 ⟨"MapMergerModel", "many", "(II)I"⟩ ∈ lw_tbl := am_m7 (List.mem_of_getElem? (i := 14) rfl)
theorem wd_1456 : Cond.instanceMethod ⟨"MapMergerModel", "many", "(II)I"⟩ ∈ lw_tbl := am_m7 (List.mem_of_getElem? (i := 16) rfl)
theorem wd_1457 : Cond.code ⟨"MapMergerModel", "many", "(II)I"⟩ prog_13_method_15_code 5 (some FieldType.int) ∈ lw_tbl := am_m7 (List.mem_of_getElem? (i := 17) rfl)
theorem wd_1458 : Cond.methodLink "MapMergerModel" 243 ⟨"MapMergerModel", "decide", "(III)V"⟩ ∈ lw_tbl := am_m7 (List.mem_of_getElem? (i := 18) rfl)
theorem wd_1460 : Cond.instanceMethod ⟨"MapMergerModel", "decide", "(III)V"⟩ ∈ lw_tbl := am_m7 (List.mem_of_getElem? (i := 20) rfl)
theorem wd_1461 : Cond.code ⟨"MapMergerModel", "decide", "(III)V"⟩ prog_13_method_21_code 11 none ∈ lw_tbl := am_m7 (List.mem_of_getElem? (i := 21) rfl)
theorem wd_1462 : Cond.methodLink "MapMergerModel" 205 ⟨"MapMergerModel$Paths", "compare", "(ILMapMergerModel$Paths;I)I"⟩ ∈ lw_tbl := am_m7 (List.mem_of_getElem? (i := 22) rfl)
theorem wd_1463 : Cond.methodLink "MapMergerModel" 209 ⟨"MapMergerModel", "outcome", "(LMapMergerModel$Paths;IIZIII)V"⟩ ∈ lw_tbl := am_m7 (List.mem_of_getElem? (i := 23) rfl)
theorem wd_1465 : Cond.instanceMethod ⟨"MapMergerModel", "outcome", "(LMapMergerModel$Paths;IIZIII)V"⟩ ∈ lw_tbl := am_m7 (List.mem_of_getElem? (i := 25) rfl)
theorem wd_1466 : Cond.code ⟨"MapMergerModel", "outcome", "(LMapMergerModel$Paths;IIZIII)V"⟩ prog_13_method_20_code 9 none ∈ lw_tbl := am_m7 (List.mem_of_getElem? (i := 26) rfl)
theorem wd_1467 : Cond.methodLink "MapMergerModel" 161 ⟨"MapMergerModel", "allow", "(Z)V"⟩ ∈ lw_tbl := am_m7 (List.mem_of_getElem? (i := 27) rfl)
theorem wd_1468 : Cond.static ⟨"MapMergerModel", "allow", "(Z)V"⟩ ∈ lw_tbl := am_m7 (List.mem_of_getElem? (i := 28) rfl)
theorem wd_1469 : Cond.code ⟨"MapMergerModel", "allow", "(Z)V"⟩ prog_13_method_2_code 1 none ∈ lw_tbl := am_m7 (List.mem_of_getElem? (i := 29) rfl)
theorem wd_1470 : Cond.fieldLink "MapMergerModel" 1 "MapMergerModel" "REFUSED" "LMapMergerModel$No;" ∈ lw_tbl := am_m7 (List.mem_of_getElem? (i := 30) rfl)
theorem wd_1472 : Cond.methodLink "MapMergerModel" 215 ⟨"MapMergerModel", "merged", "(LMapMergerModel$Row;)Z"⟩ ∈ lw_tbl := am_m7 (List.mem_of_getElem? (i := 32) rfl)
theorem wd_1474 : Cond.instanceMethod ⟨"MapMergerModel", "merged", "(LMapMergerModel$Row;)Z"⟩ ∈ lw_tbl := am_m7 (List.mem_of_getElem? (i := 34) rfl)
theorem wd_1475 : Cond.code ⟨"MapMergerModel", "merged", "(LMapMergerModel$Row;)Z"⟩ prog_13_method_14_code 10 (some FieldType.boolean) ∈ lw_tbl := am_m7 (List.mem_of_getElem? (i := 35) rfl)
theorem wd_1476 : Cond.methodLink "MapMergerModel" 104 ⟨"MapMergerModel", "pair", "(I)V"⟩ ∈ lw_tbl := am_m7 (List.mem_of_getElem? (i := 36) rfl)
theorem wd_1478 : Cond.instanceMethod ⟨"MapMergerModel", "pair", "(I)V"⟩ ∈ lw_tbl := am_m7 (List.mem_of_getElem? (i := 38) rfl)
theorem wd_1479 : Cond.code ⟨"MapMergerModel", "pair", "(I)V"⟩ prog_13_method_11_code 5 none ∈ lw_tbl := am_m7 (List.mem_of_getElem? (i := 39) rfl)
theorem wd_1480 : Cond.methodLink "MapMergerModel" 69 ⟨"MapMergerModel", "common", "(IIII)I"⟩ ∈ lw_tbl := am_m7 (List.mem_of_getElem? (i := 40) rfl)
theorem wd_1482 : Cond.instanceMethod ⟨"MapMergerModel", "common", "(IIII)I"⟩ ∈ lw_tbl := am_m7 (List.mem_of_getElem? (i := 42) rfl)
theorem wd_1483 : Cond.code ⟨"MapMergerModel", "common", "(IIII)I"⟩ prog_13_method_10_code 7 (some FieldType.int) ∈ lw_tbl := am_m7 (List.mem_of_getElem? (i := 43) rfl)
theorem wd_1484 : Cond.methodLink "MapMergerModel" 107 ⟨"MapMergerModel", "part", "(IIIIIILMapMergerModel$Row;)Z"⟩ ∈ lw_tbl := am_m7 (List.mem_of_getElem? (i := 44) rfl)
theorem wd_1486 : Cond.instanceMethod ⟨"MapMergerModel", "part", "(IIIIIILMapMergerModel$Row;)Z"⟩ ∈ lw_tbl := am_m7 (List.mem_of_getElem? (i := 46) rfl)
theorem wd_1487 : Cond.code ⟨"MapMergerModel", "part", "(IIIIIILMapMergerModel$Row;)Z"⟩ prog_13_method_13_code 14 (some FieldType.boolean) ∈ lw_tbl := am_m7 (List.mem_of_getElem? (i := 47) rfl)
theorem wd_1489 : Cond.methodLink "MapMergerModel" 82 ⟨"MapMergerModel$Row", "add", "(Ljava/lang/String;)LMapMergerModel$Row;"⟩ ∈ lw_tbl := am_m7 (List.mem_of_getElem? (i := 49) rfl)
theorem wd_1490 : Cond.instanceMethod ⟨"MapMergerModel$Row", "add", "(Ljava/lang/String;)LMapMergerModel$Row;"⟩ ∈ lw_tbl := am_m7 (List.mem_of_getElem? (i := 50) rfl)
theorem wd_1491 : Cond.selects "MapMergerModel$Row" ⟨"MapMergerModel$Row", "add", "(Ljava/lang/String;)LMapMergerModel$Row;"⟩ ⟨"MapMergerModel$Row", "add", "(Ljava/lang/String;)LMapMergerModel$Row;"⟩ ∈ lw_tbl := am_m7 (List.mem_of_getElem? (i := 51) rfl)
theorem wd_1492 : Cond.code ⟨"MapMergerModel$Row", "add", "(Ljava/lang/String;)LMapMergerModel$Row;"⟩ prog_16_method_8_code 3 (some (FieldType.object "MapMergerModel$Row")) ∈ lw_tbl := am_m7 (List.mem_of_getElem? (i := 52) rfl)
theorem wd_1493 : Cond.methodLink "MapMergerModel$Row" 30 ⟨"java/lang/String", "length", "()I"⟩ ∈ lw_tbl := am_m7 (List.mem_of_getElem? (i := 53) rfl)
theorem wd_1494 : Cond.methodLink "MapMergerModel$Row" 36 ⟨"java/lang/String", "charAt", "(I)C"⟩ ∈ lw_tbl := am_m7 (List.mem_of_getElem? (i := 54) rfl)
theorem wd_1495 : Cond.methodLink "MapMergerModel" 85 ⟨"MapMergerModel", "ended", "(IIILMapMergerModel$Row;)V"⟩ ∈ lw_tbl := am_m7 (List.mem_of_getElem? (i := 55) rfl)
theorem wd_1497 : Cond.instanceMethod ⟨"MapMergerModel", "ended", "(IIILMapMergerModel$Row;)V"⟩ ∈ lw_tbl := am_m7 (List.mem_of_getElem? (i := 57) rfl)
theorem wd_1498 : Cond.code ⟨"MapMergerModel", "ended", "(IIILMapMergerModel$Row;)V"⟩ prog_13_method_12_code 5 none ∈ lw_tbl := am_m7 (List.mem_of_getElem? (i := 58) rfl)
theorem wd_1499 : Cond.methodLink "MapMergerModel" 77 ⟨"MapMergerModel$Row", "add", "(I)LMapMergerModel$Row;"⟩ ∈ lw_tbl := am_m7 (List.mem_of_getElem? (i := 59) rfl)
theorem wd_1502 : Cond.constant "MapMergerModel" 111 65536 ∈ lw_tbl := am_m7 (List.mem_of_getElem? (i := 62) rfl)
theorem wd_1503 : Cond.methodLink "MapMergerModel" 219 ⟨"MapMergerModel", "freshBlob", "(LMapMergerModel$Row;Z)I"⟩ ∈ lw_tbl := am_m7 (List.mem_of_getElem? (i := 63) rfl)
theorem wd_1505 : Cond.instanceMethod ⟨"MapMergerModel", "freshBlob", "(LMapMergerModel$Row;Z)I"⟩ ∈ lw_tbl := am_m7 (List.mem_of_getElem? (i := 65) rfl)
theorem wd_1506 : Cond.code ⟨"MapMergerModel", "freshBlob", "(LMapMergerModel$Row;Z)I"⟩ prog_13_method_19_code 4 (some FieldType.int) ∈ lw_tbl := am_m7 (List.mem_of_getElem? (i := 66) rfl)
theorem wd_1510 : Cond.code ⟨"MapMergerModel", "renamed", "(IIII)I"⟩ prog_13_method_38_code 7 (some FieldType.int) ∈ lw_tbl := am_m7 (List.mem_of_getElem? (i := 70) rfl)
theorem wd_1514 : Cond.code ⟨"MapMergerModel", "outcome", "(II)I"⟩ prog_13_method_39_code 3 (some FieldType.int) ∈ lw_tbl := am_m7 (List.mem_of_getElem? (i := 74) rfl)
theorem wd_1515 : Cond.methodLink "MapMergerModel" 339 ⟨"MapMergerModel$Paths", "length", "(I)I"⟩ ∈ lw_tbl := am_m7 (List.mem_of_getElem? (i := 75) rfl)
theorem wd_1516 : Cond.methodLink "MapMergerModel" 342 ⟨"MapMergerModel", "seenLength", "(I)I"⟩ ∈ lw_tbl := am_m7 (List.mem_of_getElem? (i := 76) rfl)
theorem wd_1518 : Cond.instanceMethod ⟨"MapMergerModel", "seenLength", "(I)I"⟩ ∈ lw_tbl := am_m7 (List.mem_of_getElem? (i := 78) rfl)
theorem wd_1519 : Cond.code ⟨"MapMergerModel", "seenLength", "(I)I"⟩ prog_13_method_37_code 2 (some FieldType.int) ∈ lw_tbl := am_m7 (List.mem_of_getElem? (i := 79) rfl)
theorem wd_1523 : Cond.code ⟨"MapMergerModel", "letter", "(III)I"⟩ prog_13_method_40_code 4 (some FieldType.int) ∈ lw_tbl := am_m7 (List.mem_of_getElem? (i := 83) rfl)
theorem wd_1527 : Cond.code ⟨"MapMergerModel", "blob", "(II)I"⟩ prog_13_method_41_code 3 (some FieldType.int) ∈ lw_tbl := am_m7 (List.mem_of_getElem? (i := 87) rfl)
theorem wd_1531 : Cond.code ⟨"MapMergerModel", "count", "(I)I"⟩ prog_13_method_42_code 2 (some FieldType.int) ∈ lw_tbl := am_m7 (List.mem_of_getElem? (i := 91) rfl)
theorem wd_1535 : Cond.fieldLink "java/lang/String" 9 "java/lang/String" "value" "[B" ∈ lw_tbl := am_m7 (List.mem_of_getElem? (i := 95) rfl)
theorem wd_1536 : Cond.fieldLink "java/lang/String" 15 "java/lang/String" "coder" "B" ∈ lw_tbl := am_m7 (List.mem_of_getElem? (i := 96) rfl)
theorem ws_1 : Cond.selects "MapMerger$Inbox" ⟨"MapMerger$Inbox", "dropFirstArgument", "()V"⟩ ⟨"MapMerger$Inbox", "dropFirstArgument", "()V"⟩ ∈ lw_tbl := List.mem_append_left _ (List.mem_of_getElem? (i := 1) (by decide +kernel))
theorem ws_2 : Cond.selects "MapMerger$Inbox" ⟨"MapMerger$Inbox", "removeFront", "(I)V"⟩ ⟨"MapMerger$Inbox", "removeFront", "(I)V"⟩ ∈ lw_tbl := List.mem_append_left _ (List.mem_of_getElem? (i := 2) (by decide +kernel))
theorem ws_3 : Cond.selects "MapMerger" ⟨"MapMerger", "putArguments", "(I)I"⟩ ⟨"MapMerger", "putArguments", "(I)I"⟩ ∈ lw_tbl := List.mem_append_left _ (List.mem_of_getElem? (i := 3) (by decide +kernel))
theorem ws_4 : Cond.selects "MapMerger" ⟨"MapMerger", "firstArgumentIsPath", "()Z"⟩ ⟨"MapMerger", "firstArgumentIsPath", "()Z"⟩ ∈ lw_tbl := List.mem_append_left _ (List.mem_of_getElem? (i := 4) (by decide +kernel))
theorem ws_5 : Cond.selects "MapMerger$PathMap" ⟨"MapMerger$PathMap", "placeFor", "([BII)I"⟩ ⟨"MapMerger$PathMap", "placeFor", "([BII)I"⟩ ∈ lw_tbl := List.mem_append_left _ (List.mem_of_getElem? (i := 5) (by decide +kernel))
theorem ws_6 : Cond.selects "MapMerger$PathMap" ⟨"MapMerger$PathMap", "compareAt", "(I[BII)I"⟩ ⟨"MapMerger$PathMap", "compareAt", "(I[BII)I"⟩ ∈ lw_tbl := List.mem_append_left _ (List.mem_of_getElem? (i := 6) (by decide +kernel))
theorem ws_7 : Cond.selects "MapMerger$PathMap" ⟨"MapMerger$PathMap", "isAt", "(I[BII)Z"⟩ ⟨"MapMerger$PathMap", "isAt", "(I[BII)Z"⟩ ∈ lw_tbl := List.mem_append_left _ (List.mem_of_getElem? (i := 7) (by decide +kernel))
theorem ws_8 : Cond.selects "MapMerger$PathMap" ⟨"MapMerger$PathMap", "hasRoomFor", "([BII)Z"⟩ ⟨"MapMerger$PathMap", "hasRoomFor", "([BII)Z"⟩ ∈ lw_tbl := List.mem_append_left _ (List.mem_of_getElem? (i := 8) (by decide +kernel))
theorem ws_9 : Cond.selects "MapMerger$PathMap" ⟨"MapMerger$PathMap", "isBeneathOrAbove", "(I[BII)Z"⟩ ⟨"MapMerger$PathMap", "isBeneathOrAbove", "(I[BII)Z"⟩ ∈ lw_tbl := List.mem_append_left _ (List.mem_of_getElem? (i := 9) (by decide +kernel))
theorem ws_10 : Cond.selects "MapMerger$Blobs" ⟨"MapMerger$Blobs", "addText", "([BII)V"⟩ ⟨"MapMerger$Blobs", "addText", "([BII)V"⟩ ∈ lw_tbl := List.mem_append_left _ (List.mem_of_getElem? (i := 10) (by decide +kernel))
theorem ws_11 : Cond.selects "MapMerger$Blobs" ⟨"MapMerger$Blobs", "looksRough", "(II)Z"⟩ ⟨"MapMerger$Blobs", "looksRough", "(II)Z"⟩ ∈ lw_tbl := List.mem_append_left _ (List.mem_of_getElem? (i := 11) (by decide +kernel))
theorem ws_12 : Cond.selects "MapMerger$Blobs" ⟨"MapMerger$Blobs", "cutLines", "(II)V"⟩ ⟨"MapMerger$Blobs", "cutLines", "(II)V"⟩ ∈ lw_tbl := List.mem_append_left _ (List.mem_of_getElem? (i := 12) (by decide +kernel))
theorem ws_13 : Cond.selects "MapMerger$LineTable" ⟨"MapMerger$LineTable", "bucketOf", "(II)I"⟩ ⟨"MapMerger$LineTable", "bucketOf", "(II)I"⟩ ∈ lw_tbl := List.mem_append_left _ (List.mem_of_getElem? (i := 13) (by decide +kernel))
theorem ws_14 : Cond.selects "MapMerger$LineTable" ⟨"MapMerger$LineTable", "findKind", "(III)I"⟩ ⟨"MapMerger$LineTable", "findKind", "(III)I"⟩ ∈ lw_tbl := List.mem_append_left _ (List.mem_of_getElem? (i := 14) (by decide +kernel))
theorem ws_15 : Cond.selects "MapMerger$PathMap" ⟨"MapMerger$PathMap", "insertAt", "(I[BII)V"⟩ ⟨"MapMerger$PathMap", "insertAt", "(I[BII)V"⟩ ∈ lw_tbl := List.mem_append_left _ (List.mem_of_getElem? (i := 15) (by decide +kernel))
theorem ws_16 : Cond.selects "MapMerger" ⟨"MapMerger", "dropArgument", "(I)I"⟩ ⟨"MapMerger", "dropArgument", "(I)I"⟩ ∈ lw_tbl := List.mem_append_left _ (List.mem_of_getElem? (i := 16) (by decide +kernel))
theorem ws_17 : Cond.selects "MapMerger$Renames" ⟨"MapMerger$Renames", "listChanges", "(LMapMerger$PathMap;LMapMerger$PathMap;)V"⟩ ⟨"MapMerger$Renames", "listChanges", "(LMapMerger$PathMap;LMapMerger$PathMap;)V"⟩ ∈ lw_tbl := List.mem_append_left _ (List.mem_of_getElem? (i := 17) (by decide +kernel))
theorem ws_18 : Cond.selects "MapMerger$Renames" ⟨"MapMerger$Renames", "addGone", "(I)V"⟩ ⟨"MapMerger$Renames", "addGone", "(I)V"⟩ ∈ lw_tbl := List.mem_append_left _ (List.mem_of_getElem? (i := 18) (by decide +kernel))
theorem ws_19 : Cond.selects "MapMerger$Renames" ⟨"MapMerger$Renames", "addCome", "(I)V"⟩ ⟨"MapMerger$Renames", "addCome", "(I)V"⟩ ∈ lw_tbl := List.mem_append_left _ (List.mem_of_getElem? (i := 19) (by decide +kernel))
theorem ws_20 : Cond.selects "MapMerger$Renames" ⟨"MapMerger$Renames", "pairSameBlobs", "(LMapMerger$PathMap;LMapMerger$PathMap;)V"⟩ ⟨"MapMerger$Renames", "pairSameBlobs", "(LMapMerger$PathMap;LMapMerger$PathMap;)V"⟩ ∈ lw_tbl := List.mem_append_left _ (List.mem_of_getElem? (i := 20) (by decide +kernel))
theorem ws_21 : Cond.selects "MapMerger$Renames" ⟨"MapMerger$Renames", "join", "(III)V"⟩ ⟨"MapMerger$Renames", "join", "(III)V"⟩ ∈ lw_tbl := List.mem_append_left _ (List.mem_of_getElem? (i := 21) (by decide +kernel))
theorem ws_22 : Cond.selects "MapMerger$Renames" ⟨"MapMerger$Renames", "scoreAll", "(LMapMerger$PathMap;LMapMerger$PathMap;)V"⟩ ⟨"MapMerger$Renames", "scoreAll", "(LMapMerger$PathMap;LMapMerger$PathMap;)V"⟩ ∈ lw_tbl := List.mem_append_left _ (List.mem_of_getElem? (i := 22) (by decide +kernel))
theorem ws_23 : Cond.selects "MapMerger$Blobs" ⟨"MapMerger$Blobs", "commonLength", "(II)I"⟩ ⟨"MapMerger$Blobs", "commonLength", "(II)I"⟩ ∈ lw_tbl := List.mem_append_left _ (List.mem_of_getElem? (i := 23) (by decide +kernel))
theorem ws_24 : Cond.selects "MapMerger$Renames" ⟨"MapMerger$Renames", "pairByScore", "()V"⟩ ⟨"MapMerger$Renames", "pairByScore", "()V"⟩ ∈ lw_tbl := List.mem_append_left _ (List.mem_of_getElem? (i := 24) (by decide +kernel))
theorem ws_25 : Cond.selects "MapMerger$Renames" ⟨"MapMerger$Renames", "bestFreePair", "()I"⟩ ⟨"MapMerger$Renames", "bestFreePair", "()I"⟩ ∈ lw_tbl := List.mem_append_left _ (List.mem_of_getElem? (i := 25) (by decide +kernel))
theorem ws_26 : Cond.selects "MapMerger$Merging" ⟨"MapMerger$Merging", "listGroups", "()V"⟩ ⟨"MapMerger$Merging", "listGroups", "()V"⟩ ∈ lw_tbl := List.mem_append_left _ (List.mem_of_getElem? (i := 26) (by decide +kernel))
theorem ws_27 : Cond.selects "MapMerger$Merging" ⟨"MapMerger$Merging", "listGroup", "(III)V"⟩ ⟨"MapMerger$Merging", "listGroup", "(III)V"⟩ ∈ lw_tbl := List.mem_append_left _ (List.mem_of_getElem? (i := 27) (by decide +kernel))
theorem ws_28 : Cond.selects "MapMerger$Merging" ⟨"MapMerger$Merging", "addGroup", "(III)Z"⟩ ⟨"MapMerger$Merging", "addGroup", "(III)Z"⟩ ∈ lw_tbl := List.mem_append_left _ (List.mem_of_getElem? (i := 28) (by decide +kernel))
theorem ws_29 : Cond.selects "MapMerger$Merging" ⟨"MapMerger$Merging", "isPathOfBase", "(ILMapMerger$PathMap;I)Z"⟩ ⟨"MapMerger$Merging", "isPathOfBase", "(ILMapMerger$PathMap;I)Z"⟩ ∈ lw_tbl := List.mem_append_left _ (List.mem_of_getElem? (i := 29) (by decide +kernel))
theorem ws_30 : Cond.selects "MapMerger$Merging" ⟨"MapMerger$Merging", "giveText", "(I)Z"⟩ ⟨"MapMerger$Merging", "giveText", "(I)Z"⟩ ∈ lw_tbl := List.mem_append_left _ (List.mem_of_getElem? (i := 30) (by decide +kernel))
theorem ws_31 : Cond.selects "MapMerger$TextMerger" ⟨"MapMerger$TextMerger", "startText", "()V"⟩ ⟨"MapMerger$TextMerger", "startText", "()V"⟩ ∈ lw_tbl := List.mem_append_left _ (List.mem_of_getElem? (i := 31) (by decide +kernel))
theorem ws_32 : Cond.selects "MapMerger$TextMerger" ⟨"MapMerger$TextMerger", "pairLines", "(II[I)V"⟩ ⟨"MapMerger$TextMerger", "pairLines", "(II[I)V"⟩ ∈ lw_tbl := List.mem_append_left _ (List.mem_of_getElem? (i := 32) (by decide +kernel))
theorem ws_33 : Cond.selects "MapMerger$TextMerger" ⟨"MapMerger$TextMerger", "fillLongest", "(II)V"⟩ ⟨"MapMerger$TextMerger", "fillLongest", "(II)V"⟩ ∈ lw_tbl := List.mem_append_left _ (List.mem_of_getElem? (i := 33) (by decide +kernel))
theorem ws_34 : Cond.selects "MapMerger$TextMerger" ⟨"MapMerger$TextMerger", "addStableLines", "(I)V"⟩ ⟨"MapMerger$TextMerger", "addStableLines", "(I)V"⟩ ∈ lw_tbl := List.mem_append_left _ (List.mem_of_getElem? (i := 34) (by decide +kernel))
theorem ws_35 : Cond.selects "MapMerger$TextMerger" ⟨"MapMerger$TextMerger", "addPart", "()V"⟩ ⟨"MapMerger$TextMerger", "addPart", "()V"⟩ ∈ lw_tbl := List.mem_append_left _ (List.mem_of_getElem? (i := 35) (by decide +kernel))
theorem ws_36 : Cond.selects "MapMerger$TextMerger" ⟨"MapMerger$TextMerger", "addBytes", "(II)V"⟩ ⟨"MapMerger$TextMerger", "addBytes", "(II)V"⟩ ∈ lw_tbl := List.mem_append_left _ (List.mem_of_getElem? (i := 36) (by decide +kernel))
theorem ws_37 : Cond.selects "MapMerger$TextMerger" ⟨"MapMerger$TextMerger", "addMark", "(Ljava/lang/String;)V"⟩ ⟨"MapMerger$TextMerger", "addMark", "(Ljava/lang/String;)V"⟩ ∈ lw_tbl := List.mem_append_left _ (List.mem_of_getElem? (i := 37) (by decide +kernel))
theorem ws_38 : Cond.selects "MapMerger$TextMerger" ⟨"MapMerger$TextMerger", "addByte", "(I)V"⟩ ⟨"MapMerger$TextMerger", "addByte", "(I)V"⟩ ∈ lw_tbl := List.mem_append_left _ (List.mem_of_getElem? (i := 38) (by decide +kernel))
theorem ws_39 : Cond.selects "MapMerger$TextMerger" ⟨"MapMerger$TextMerger", "endLine", "()V"⟩ ⟨"MapMerger$TextMerger", "endLine", "()V"⟩ ∈ lw_tbl := List.mem_append_left _ (List.mem_of_getElem? (i := 39) (by decide +kernel))
theorem ws_40 : Cond.selects "MapMerger$TextMerger" ⟨"MapMerger$TextMerger", "addLastPart", "()V"⟩ ⟨"MapMerger$TextMerger", "addLastPart", "()V"⟩ ∈ lw_tbl := List.mem_append_left _ (List.mem_of_getElem? (i := 40) (by decide +kernel))
theorem ws_41 : Cond.selects "MapMerger$Merging" ⟨"MapMerger$Merging", "giveMergedText", "(I)Z"⟩ ⟨"MapMerger$Merging", "giveMergedText", "(I)Z"⟩ ∈ lw_tbl := List.mem_append_left _ (List.mem_of_getElem? (i := 41) (by decide +kernel))
theorem ws_42 : Cond.selects "MapMergerModel" ⟨"MapMergerModel", "bad", "()I"⟩ ⟨"MapMergerModel", "bad", "()I"⟩ ∈ lw_tbl := List.mem_append_left _ (List.mem_of_getElem? (i := 42) (by decide +kernel))
theorem ws_43 : Cond.selects "MapMergerModel" ⟨"MapMergerModel", "takeAll", "()I"⟩ ⟨"MapMergerModel", "takeAll", "()I"⟩ ∈ lw_tbl := List.mem_append_left _ (List.mem_of_getElem? (i := 43) (by decide +kernel))
theorem ws_44 : Cond.selects "MapMergerModel" ⟨"MapMergerModel", "blobOf", "(LMapMergerModel$Row;)I"⟩ ⟨"MapMergerModel", "blobOf", "(LMapMergerModel$Row;)I"⟩ ∈ lw_tbl := List.mem_append_left _ (List.mem_of_getElem? (i := 44) (by decide +kernel))
theorem ws_45 : Cond.selects "MapMergerModel" ⟨"MapMergerModel", "rebuild", "(LMapMergerModel$Paths;LMapMergerModel$Row;I)V"⟩ ⟨"MapMergerModel", "rebuild", "(LMapMergerModel$Paths;LMapMergerModel$Row;I)V"⟩ ∈ lw_tbl := List.mem_append_left _ (List.mem_of_getElem? (i := 45) (by decide +kernel))
theorem ws_46 : Cond.selects "MapMergerModel" ⟨"MapMergerModel", "refused", "()I"⟩ ⟨"MapMergerModel", "refused", "()I"⟩ ∈ lw_tbl := List.mem_append_left _ (List.mem_of_getElem? (i := 46) (by decide +kernel))
theorem ws_47 : Cond.selects "MapMergerModel" ⟨"MapMergerModel", "mergeMaps", "()V"⟩ ⟨"MapMergerModel", "mergeMaps", "()V"⟩ ∈ lw_tbl := List.mem_append_left _ (List.mem_of_getElem? (i := 47) (by decide +kernel))
theorem ws_48 : Cond.selects "MapMergerModel" ⟨"MapMergerModel", "renames", "(LMapMergerModel$Paths;LMapMergerModel$Paths;[I[I)V"⟩ ⟨"MapMergerModel", "renames", "(LMapMergerModel$Paths;LMapMergerModel$Paths;[I[I)V"⟩ ∈ lw_tbl := List.mem_append_left _ (List.mem_of_getElem? (i := 48) (by decide +kernel))
theorem ws_49 : Cond.selects "MapMergerModel" ⟨"MapMergerModel", "score", "(II)I"⟩ ⟨"MapMergerModel", "score", "(II)I"⟩ ∈ lw_tbl := List.mem_append_left _ (List.mem_of_getElem? (i := 49) (by decide +kernel))
theorem ws_50 : Cond.selects "MapMergerModel" ⟨"MapMergerModel", "blobText", "(ILMapMergerModel$Row;)V"⟩ ⟨"MapMergerModel", "blobText", "(ILMapMergerModel$Row;)V"⟩ ∈ lw_tbl := List.mem_append_left _ (List.mem_of_getElem? (i := 50) (by decide +kernel))
theorem ws_51 : Cond.selects "MapMergerModel" ⟨"MapMergerModel", "cut", "(I)V"⟩ ⟨"MapMergerModel", "cut", "(I)V"⟩ ∈ lw_tbl := List.mem_append_left _ (List.mem_of_getElem? (i := 51) (by decide +kernel))
theorem ws_52 : Cond.selects "MapMergerModel" ⟨"MapMergerModel", "sort", "(I)V"⟩ ⟨"MapMergerModel", "sort", "(I)V"⟩ ∈ lw_tbl := List.mem_append_left _ (List.mem_of_getElem? (i := 52) (by decide +kernel))
theorem ws_53 : Cond.selects "MapMergerModel" ⟨"MapMergerModel", "sameLine", "(IIII)Z"⟩ ⟨"MapMergerModel", "sameLine", "(IIII)Z"⟩ ∈ lw_tbl := List.mem_append_left _ (List.mem_of_getElem? (i := 53) (by decide +kernel))
theorem ws_54 : Cond.selects "MapMergerModel" ⟨"MapMergerModel", "start", "(II)I"⟩ ⟨"MapMergerModel", "start", "(II)I"⟩ ∈ lw_tbl := List.mem_append_left _ (List.mem_of_getElem? (i := 54) (by decide +kernel))
theorem ws_55 : Cond.selects "MapMergerModel" ⟨"MapMergerModel", "many", "(II)I"⟩ ⟨"MapMergerModel", "many", "(II)I"⟩ ∈ lw_tbl := List.mem_append_left _ (List.mem_of_getElem? (i := 55) (by decide +kernel))
theorem ws_56 : Cond.selects "MapMergerModel" ⟨"MapMergerModel", "decide", "(III)V"⟩ ⟨"MapMergerModel", "decide", "(III)V"⟩ ∈ lw_tbl := List.mem_append_left _ (List.mem_of_getElem? (i := 56) (by decide +kernel))
theorem ws_57 : Cond.selects "MapMergerModel" ⟨"MapMergerModel", "outcome", "(LMapMergerModel$Paths;IIZIII)V"⟩ ⟨"MapMergerModel", "outcome", "(LMapMergerModel$Paths;IIZIII)V"⟩ ∈ lw_tbl := List.mem_append_left _ (List.mem_of_getElem? (i := 57) (by decide +kernel))
theorem ws_58 : Cond.selects "MapMergerModel" ⟨"MapMergerModel", "merged", "(LMapMergerModel$Row;)Z"⟩ ⟨"MapMergerModel", "merged", "(LMapMergerModel$Row;)Z"⟩ ∈ lw_tbl := List.mem_append_left _ (List.mem_of_getElem? (i := 58) (by decide +kernel))
theorem ws_59 : Cond.selects "MapMergerModel" ⟨"MapMergerModel", "pair", "(I)V"⟩ ⟨"MapMergerModel", "pair", "(I)V"⟩ ∈ lw_tbl := List.mem_append_left _ (List.mem_of_getElem? (i := 59) (by decide +kernel))
theorem ws_60 : Cond.selects "MapMergerModel" ⟨"MapMergerModel", "common", "(IIII)I"⟩ ⟨"MapMergerModel", "common", "(IIII)I"⟩ ∈ lw_tbl := List.mem_append_left _ (List.mem_of_getElem? (i := 60) (by decide +kernel))
theorem ws_61 : Cond.selects "MapMergerModel" ⟨"MapMergerModel", "part", "(IIIIIILMapMergerModel$Row;)Z"⟩ ⟨"MapMergerModel", "part", "(IIIIIILMapMergerModel$Row;)Z"⟩ ∈ lw_tbl := List.mem_append_left _ (List.mem_of_getElem? (i := 61) (by decide +kernel))
theorem ws_62 : Cond.selects "MapMergerModel" ⟨"MapMergerModel", "ended", "(IIILMapMergerModel$Row;)V"⟩ ⟨"MapMergerModel", "ended", "(IIILMapMergerModel$Row;)V"⟩ ∈ lw_tbl := List.mem_append_left _ (List.mem_of_getElem? (i := 62) (by decide +kernel))
theorem ws_63 : Cond.selects "MapMergerModel" ⟨"MapMergerModel", "freshBlob", "(LMapMergerModel$Row;Z)I"⟩ ⟨"MapMergerModel", "freshBlob", "(LMapMergerModel$Row;Z)I"⟩ ∈ lw_tbl := List.mem_append_left _ (List.mem_of_getElem? (i := 63) (by decide +kernel))
theorem ws_64 : Cond.selects "MapMergerModel" ⟨"MapMergerModel", "seenLength", "(I)I"⟩ ⟨"MapMergerModel", "seenLength", "(I)I"⟩ ∈ lw_tbl := List.mem_append_left _ (List.mem_of_getElem? (i := 64) (by decide +kernel))
end
section
/-! ===== printed by wip/gen: the methods ===== -/
abbrev mx_In_init : am_M := (⟨"MapMerger$Inbox", "<init>", "()V"⟩, prog_3_method_1_code, 1, none, [], 1, 20)
abbrev mx_Lt_init : am_M := (⟨"MapMerger$LineTable", "<init>", "([B)V"⟩, prog_4_method_1_code, 2, none, [], 1, 20)
abbrev mx_Bl_init : am_M := (⟨"MapMerger$Blobs", "<init>", "()V"⟩, prog_2_method_1_code, 1, none, [], 2, 41)
abbrev mx_Pm_init : am_M := (⟨"MapMerger$PathMap", "<init>", "()V"⟩, prog_8_method_1_code, 1, none, [], 1, 20)
abbrev mx_Rn_init : am_M := (⟨"MapMerger$Renames", "<init>", "(LMapMerger$Blobs;)V"⟩, prog_9_method_1_code, 2, none, [], 1, 20)
abbrev mx_Pa_init : am_M := (⟨"MapMerger$Part", "<init>", "(LMapMerger$Blobs;)V"⟩, prog_7_method_1_code, 2, none, [], 1, 20)
abbrev mx_Tm_init : am_M := (⟨"MapMerger$TextMerger", "<init>", "(LMapMerger$Blobs;)V"⟩, prog_11_method_1_code, 2, none, [], 2, 41)
abbrev mx_Oc_init : am_M := (⟨"MapMerger$Outcomes", "<init>", "(LMapMerger$Blobs;)V"⟩, prog_6_method_1_code, 2, none, [], 2, 40)
abbrev mx_Mg_init : am_M := (⟨"MapMerger$Merging", "<init>", "(LMapMerger$PathMap;LMapMerger$PathMap;LMapMerger$PathMap;LMapMerger$Blobs;)V"⟩, prog_5_method_1_code, 5, none, [], 3, 62)
abbrev mx_MM_init : am_M := (⟨"MapMerger", "<init>", "()V"⟩, prog_1_method_1_code, 2, none, [], 4, 86)
abbrev mx_In_hasRoomFor : am_M := (⟨"MapMerger$Inbox", "hasRoomFor", "(I)Z"⟩, prog_3_method_7_code, 2, (some FieldType.boolean), [], 0, 0)
abbrev mx_In_addNumber : am_M := (⟨"MapMerger$Inbox", "addNumber", "(I)V"⟩, prog_3_method_8_code, 3, none, [], 0, 0)
abbrev mx_MM_feed : am_M := (⟨"MapMerger", "feed", "(IIIII)V"⟩, prog_1_method_2_code, 6, none, [], 6, 88)
abbrev mx_In_argumentStart : am_M := (⟨"MapMerger$Inbox", "argumentStart", "(I)I"⟩, prog_3_method_4_code, 2, (some FieldType.int), [], 0, 0)
abbrev mx_In_inputLength : am_M := (⟨"MapMerger$Inbox", "inputLength", "()I"⟩, prog_3_method_6_code, 1, (some FieldType.int), [], 1, 21)
abbrev mx_In_cutInput : am_M := (⟨"MapMerger$Inbox", "cutInput", "(I)V"⟩, prog_3_method_9_code, 2, none, [], 0, 0)
abbrev mx_In_removeFront : am_M := (⟨"MapMerger$Inbox", "removeFront", "(I)V"⟩, prog_3_method_13_code, 2, none, [], 1, 26)
abbrev mx_In_dropFirstArgument : am_M := (⟨"MapMerger$Inbox", "dropFirstArgument", "()V"⟩, prog_3_method_12_code, 3, none, [], 2, 47)
abbrev mx_In_makeArgument : am_M := (⟨"MapMerger$Inbox", "makeArgument", "()V"⟩, prog_3_method_10_code, 1, none, [], 3, 69)
abbrev mx_In_argumentCount : am_M := (⟨"MapMerger$Inbox", "argumentCount", "()I"⟩, prog_3_method_3_code, 1, (some FieldType.int), [], 0, 0)
abbrev mx_MM_end : am_M := (⟨"MapMerger", "end", "(I)I"⟩, prog_1_method_3_code, 2, (some FieldType.int), [], 6, 89)
abbrev mx_MM_isMap : am_M := (⟨"MapMerger", "isMap", "(I)Z"⟩, prog_1_method_13_code, 1, (some FieldType.boolean), [], 0, 0)
abbrev mx_In_bytes : am_M := (⟨"MapMerger$Inbox", "bytes", "()[B"⟩, prog_3_method_2_code, 1, (some (FieldType.array FieldType.byte)), [], 0, 0)
abbrev mx_In_argumentLength : am_M := (⟨"MapMerger$Inbox", "argumentLength", "(I)I"⟩, prog_3_method_5_code, 2, (some FieldType.int), [], 1, 21)
abbrev mx_Rw_isDots : am_M := (⟨"MapMerger$Rows", "isDots", "([BII)Z"⟩, prog_10_method_4_code, 3, (some FieldType.boolean), [], 0, 0)
abbrev mx_Rw_isName : am_M := (⟨"MapMerger$Rows", "isName", "([BII)Z"⟩, prog_10_method_3_code, 4, (some FieldType.boolean), [], 1, 22)
abbrev mx_Rw_isPath : am_M := (⟨"MapMerger$Rows", "isPath", "([BII)Z"⟩, prog_10_method_2_code, 7, (some FieldType.boolean), [], 2, 45)
abbrev mx_MM_firstArgumentIsPath : am_M := (⟨"MapMerger", "firstArgumentIsPath", "()Z"⟩, prog_1_method_17_code, 1, (some FieldType.boolean), [], 3, 71)
abbrev mx_Pm_lengthOf : am_M := (⟨"MapMerger$PathMap", "lengthOf", "(I)I"⟩, prog_8_method_5_code, 2, (some FieldType.int), [], 0, 0)
abbrev mx_Rw_commonBeginning : am_M := (⟨"MapMerger$Rows", "commonBeginning", "([BI[BII)I"⟩, prog_10_method_5_code, 6, (some FieldType.int), [], 0, 0)
abbrev mx_Pm_letterAt : am_M := (⟨"MapMerger$PathMap", "letterAt", "(II)I"⟩, prog_8_method_6_code, 3, (some FieldType.int), [], 0, 0)
abbrev mx_Pm_compareAt : am_M := (⟨"MapMerger$PathMap", "compareAt", "(I[BII)I"⟩, prog_8_method_20_code, 8, (some FieldType.int), [], 1, 25)
abbrev mx_Pm_placeFor : am_M := (⟨"MapMerger$PathMap", "placeFor", "([BII)I"⟩, prog_8_method_18_code, 7, (some FieldType.int), [], 2, 52)
abbrev mx_Pm_isAt : am_M := (⟨"MapMerger$PathMap", "isAt", "(I[BII)Z"⟩, prog_8_method_19_code, 5, (some FieldType.boolean), [], 2, 52)
abbrev mx_Pm_find : am_M := (⟨"MapMerger$PathMap", "find", "([BII)I"⟩, prog_8_method_7_code, 5, (some FieldType.int), [], 3, 78)
abbrev mx_Pm_isBeneathOrAbove : am_M := (⟨"MapMerger$PathMap", "isBeneathOrAbove", "(I[BII)Z"⟩, prog_8_method_21_code, 7, (some FieldType.boolean), [], 1, 25)
abbrev mx_Pm_hasRoomFor : am_M := (⟨"MapMerger$PathMap", "hasRoomFor", "([BII)Z"⟩, prog_8_method_16_code, 5, (some FieldType.boolean), [], 2, 51)
abbrev mx_Pm_wouldFit : am_M := (⟨"MapMerger$PathMap", "wouldFit", "([BII)Z"⟩, prog_8_method_10_code, 4, (some FieldType.boolean), [], 4, 102)
abbrev mx_Bl_lengthOf : am_M := (⟨"MapMerger$Blobs", "lengthOf", "(I)I"⟩, prog_2_method_6_code, 2, (some FieldType.int), [], 0, 0)
abbrev mx_Bl_find : am_M := (⟨"MapMerger$Blobs", "find", "([BII)I"⟩, prog_2_method_12_code, 5, (some FieldType.int), [], 1, 25)
abbrev mx_Bl_totalLength : am_M := (⟨"MapMerger$Blobs", "totalLength", "()I"⟩, prog_2_method_3_code, 1, (some FieldType.int), [], 0, 0)
abbrev mx_Bl_looksRough : am_M := (⟨"MapMerger$Blobs", "looksRough", "(II)Z"⟩, prog_2_method_16_code, 5, (some FieldType.boolean), [], 0, 0)
abbrev mx_Lt_bucketOf : am_M := (⟨"MapMerger$LineTable", "bucketOf", "(II)I"⟩, prog_4_method_3_code, 5, (some FieldType.int), [], 0, 0)
abbrev mx_Lt_findKind : am_M := (⟨"MapMerger$LineTable", "findKind", "(III)I"⟩, prog_4_method_4_code, 7, (some FieldType.int), [], 1, 25)
abbrev mx_Lt_addLine : am_M := (⟨"MapMerger$LineTable", "addLine", "(II)V"⟩, prog_4_method_2_code, 5, none, [], 2, 51)
abbrev mx_Bl_cutLines : am_M := (⟨"MapMerger$Blobs", "cutLines", "(II)V"⟩, prog_2_method_17_code, 5, none, [], 3, 75)
abbrev mx_Bl_addText : am_M := (⟨"MapMerger$Blobs", "addText", "([BII)V"⟩, prog_2_method_15_code, 6, none, [], 4, 99)
abbrev mx_Bl_findOrAdd : am_M := (⟨"MapMerger$Blobs", "findOrAdd", "([BII)I"⟩, prog_2_method_13_code, 5, (some FieldType.int), [], 5, 124)
abbrev mx_Pm_insertAt : am_M := (⟨"MapMerger$PathMap", "insertAt", "(I[BII)V"⟩, prog_8_method_17_code, 7, none, [], 1, 26)
abbrev mx_Pm_assign : am_M := (⟨"MapMerger$PathMap", "assign", "([BIII)V"⟩, prog_8_method_11_code, 6, none, [], 3, 78)
abbrev mx_MM_putArguments : am_M := (⟨"MapMerger", "putArguments", "(I)I"⟩, prog_1_method_15_code, 5, (some FieldType.int), [], 6, 148)
abbrev mx_In_takeArguments : am_M := (⟨"MapMerger$Inbox", "takeArguments", "()V"⟩, prog_3_method_11_code, 1, none, [], 2, 47)
abbrev mx_MM_answerOrThrow : am_M := (⟨"MapMerger", "answerOrThrow", "(I)I"⟩, prog_1_method_14_code, 1, (some FieldType.int), [], 6, 88)
abbrev mx_MM_put : am_M := (⟨"MapMerger", "put", "(I)I"⟩, prog_1_method_4_code, 3, (some FieldType.int), [], 7, 172)
abbrev mx_Pm_removeAt : am_M := (⟨"MapMerger$PathMap", "removeAt", "(I)V"⟩, prog_8_method_13_code, 4, none, [], 1, 26)
abbrev mx_MM_dropArgument : am_M := (⟨"MapMerger", "dropArgument", "(I)I"⟩, prog_1_method_16_code, 3, (some FieldType.int), [], 4, 102)
abbrev mx_MM_drop : am_M := (⟨"MapMerger", "drop", "(I)V"⟩, prog_1_method_5_code, 3, none, [], 7, 124)
abbrev mx_Pm_become : am_M := (⟨"MapMerger$PathMap", "become", "(LMapMerger$PathMap;)V"⟩, prog_8_method_14_code, 2, none, [], 1, 26)
abbrev mx_MM_copy : am_M := (⟨"MapMerger", "copy", "(II)V"⟩, prog_1_method_6_code, 4, none, [], 6, 88)
abbrev mx_Pm_size : am_M := (⟨"MapMerger$PathMap", "size", "()I"⟩, prog_8_method_2_code, 1, (some FieldType.int), [], 0, 0)
abbrev mx_Pm_comparePaths : am_M := (⟨"MapMerger$PathMap", "comparePaths", "(ILMapMerger$PathMap;I)I"⟩, prog_8_method_9_code, 4, (some FieldType.int), [], 2, 52)
abbrev mx_Rn_compareNext : am_M := (⟨"MapMerger$Renames", "compareNext", "(LMapMerger$PathMap;ILMapMerger$PathMap;I)I"⟩, prog_9_method_7_code, 4, (some FieldType.int), [], 3, 75)
abbrev mx_Rn_addGone : am_M := (⟨"MapMerger$Renames", "addGone", "(I)V"⟩, prog_9_method_8_code, 2, none, [], 0, 0)
abbrev mx_Rn_addCome : am_M := (⟨"MapMerger$Renames", "addCome", "(I)V"⟩, prog_9_method_9_code, 2, none, [], 0, 0)
abbrev mx_Rn_listChanges : am_M := (⟨"MapMerger$Renames", "listChanges", "(LMapMerger$PathMap;LMapMerger$PathMap;)V"⟩, prog_9_method_6_code, 6, none, [], 4, 98)
abbrev mx_Pm_valueAt : am_M := (⟨"MapMerger$PathMap", "valueAt", "(I)I"⟩, prog_8_method_4_code, 2, (some FieldType.int), [], 0, 0)
abbrev mx_Rn_join : am_M := (⟨"MapMerger$Renames", "join", "(III)V"⟩, prog_9_method_14_code, 4, none, [], 0, 0)
abbrev mx_Rn_pairSameBlobs : am_M := (⟨"MapMerger$Renames", "pairSameBlobs", "(LMapMerger$PathMap;LMapMerger$PathMap;)V"⟩, prog_9_method_10_code, 7, none, [], 1, 23)
abbrev mx_Bl_lineKind : am_M := (⟨"MapMerger$Blobs", "lineKind", "(II)I"⟩, prog_2_method_10_code, 3, (some FieldType.int), [], 0, 0)
abbrev mx_Bl_commonLength : am_M := (⟨"MapMerger$Blobs", "commonLength", "(II)I"⟩, prog_2_method_18_code, 6, (some FieldType.int), [], 1, 22)
abbrev mx_Bl_score : am_M := (⟨"MapMerger$Blobs", "score", "(II)I"⟩, prog_2_method_14_code, 4, (some FieldType.int), [], 2, 47)
abbrev mx_Rn_scoreAll : am_M := (⟨"MapMerger$Renames", "scoreAll", "(LMapMerger$PathMap;LMapMerger$PathMap;)V"⟩, prog_9_method_11_code, 8, none, [], 3, 70)
abbrev mx_Rn_bestFreePair : am_M := (⟨"MapMerger$Renames", "bestFreePair", "()I"⟩, prog_9_method_13_code, 7, (some FieldType.int), [], 0, 0)
abbrev mx_Rn_pairByScore : am_M := (⟨"MapMerger$Renames", "pairByScore", "()V"⟩, prog_9_method_12_code, 3, none, [], 1, 26)
abbrev mx_Rn_search : am_M := (⟨"MapMerger$Renames", "search", "(LMapMerger$PathMap;LMapMerger$PathMap;)V"⟩, prog_9_method_5_code, 3, none, [], 5, 123)
abbrev mx_Rn_partnerOf : am_M := (⟨"MapMerger$Renames", "partnerOf", "(I)I"⟩, prog_9_method_2_code, 2, (some FieldType.int), [], 0, 0)
abbrev mx_Mg_listGroup : am_M := (⟨"MapMerger$Merging", "listGroup", "(III)V"⟩, prog_5_method_5_code, 4, none, [], 0, 0)
abbrev mx_Pm_findPathOf : am_M := (⟨"MapMerger$PathMap", "findPathOf", "(LMapMerger$PathMap;I)I"⟩, prog_8_method_8_code, 3, (some FieldType.int), [], 4, 102)
abbrev mx_Mg_listGroups : am_M := (⟨"MapMerger$Merging", "listGroups", "()V"⟩, prog_5_method_4_code, 3, none, [], 5, 124)
abbrev mx_Pm_clear : am_M := (⟨"MapMerger$PathMap", "clear", "()V"⟩, prog_8_method_15_code, 1, none, [], 0, 0)
abbrev mx_Oc_clear : am_M := (⟨"MapMerger$Outcomes", "clear", "()V"⟩, prog_6_method_12_code, 1, none, [], 1, 20)
abbrev mx_Mg_isPathOfBase : am_M := (⟨"MapMerger$Merging", "isPathOfBase", "(ILMapMerger$PathMap;I)Z"⟩, prog_5_method_7_code, 4, (some FieldType.boolean), [], 3, 75)
abbrev mx_Pm_addPathOf : am_M := (⟨"MapMerger$PathMap", "addPathOf", "(LMapMerger$PathMap;II)Z"⟩, prog_8_method_12_code, 7, (some FieldType.boolean), [], 3, 78)
abbrev mx_Oc_open : am_M := (⟨"MapMerger$Outcomes", "open", "(LMapMerger$PathMap;I)I"⟩, prog_6_method_13_code, 4, (some FieldType.int), [], 4, 104)
abbrev mx_Oc_setSources : am_M := (⟨"MapMerger$Outcomes", "setSources", "(IIII)V"⟩, prog_6_method_14_code, 5, none, [], 0, 0)
abbrev mx_Oc_setUnmerged : am_M := (⟨"MapMerger$Outcomes", "setUnmerged", "(I)V"⟩, prog_6_method_16_code, 2, none, [], 0, 0)
abbrev mx_Mg_addGroup : am_M := (⟨"MapMerger$Merging", "addGroup", "(III)Z"⟩, prog_5_method_6_code, 15, (some FieldType.boolean), [], 5, 127)
abbrev mx_Oc_size : am_M := (⟨"MapMerger$Outcomes", "size", "()I"⟩, prog_6_method_2_code, 1, (some FieldType.int), [], 1, 20)
abbrev mx_Oc_sourceOf : am_M := (⟨"MapMerger$Outcomes", "sourceOf", "(II)I"⟩, prog_6_method_15_code, 3, (some FieldType.int), [], 0, 0)
abbrev mx_Mg_chooseBlob : am_M := (⟨"MapMerger$Merging", "chooseBlob", "(III)I"⟩, prog_5_method_9_code, 3, (some FieldType.int), [], 0, 0)
abbrev mx_Oc_setBlob : am_M := (⟨"MapMerger$Outcomes", "setBlob", "(II)V"⟩, prog_6_method_18_code, 3, none, [], 0, 0)
abbrev mx_Tm_startText : am_M := (⟨"MapMerger$TextMerger", "startText", "()V"⟩, prog_11_method_6_code, 1, none, [], 0, 0)
abbrev mx_Bl_isRough : am_M := (⟨"MapMerger$Blobs", "isRough", "(I)Z"⟩, prog_2_method_8_code, 2, (some FieldType.boolean), [], 0, 0)
abbrev mx_Pa_begin : am_M := (⟨"MapMerger$Part", "begin", "(I)V"⟩, prog_7_method_2_code, 2, none, [], 0, 0)
abbrev mx_Bl_lineCount : am_M := (⟨"MapMerger$Blobs", "lineCount", "(I)I"⟩, prog_2_method_9_code, 2, (some FieldType.int), [], 0, 0)
abbrev mx_Tm_fillLongest : am_M := (⟨"MapMerger$TextMerger", "fillLongest", "(II)V"⟩, prog_11_method_8_code, 9, none, [], 1, 22)
abbrev mx_Tm_pairLines : am_M := (⟨"MapMerger$TextMerger", "pairLines", "(II[I)V"⟩, prog_11_method_7_code, 8, none, [], 2, 50)
abbrev mx_Pa_reachTo : am_M := (⟨"MapMerger$Part", "reachTo", "(I)V"⟩, prog_7_method_3_code, 2, none, [], 0, 0)
abbrev mx_Pa_isAs : am_M := (⟨"MapMerger$Part", "isAs", "(LMapMerger$Part;)Z"⟩, prog_7_method_9_code, 4, (some FieldType.boolean), [], 1, 22)
abbrev mx_Bl_lineStart : am_M := (⟨"MapMerger$Blobs", "lineStart", "(II)I"⟩, prog_2_method_11_code, 3, (some FieldType.int), [], 0, 0)
abbrev mx_Pa_firstByte : am_M := (⟨"MapMerger$Part", "firstByte", "()I"⟩, prog_7_method_6_code, 1, (some FieldType.int), [], 1, 22)
abbrev mx_Pa_byteBehind : am_M := (⟨"MapMerger$Part", "byteBehind", "()I"⟩, prog_7_method_7_code, 1, (some FieldType.int), [], 1, 22)
abbrev mx_Bl_bytes : am_M := (⟨"MapMerger$Blobs", "bytes", "()[B"⟩, prog_2_method_4_code, 1, (some (FieldType.array FieldType.byte)), [], 0, 0)
abbrev mx_Tm_addBytes : am_M := (⟨"MapMerger$TextMerger", "addBytes", "(II)V"⟩, prog_11_method_15_code, 3, none, [], 1, 26)
abbrev mx_Tm_addByte : am_M := (⟨"MapMerger$TextMerger", "addByte", "(I)V"⟩, prog_11_method_14_code, 2, none, [], 0, 0)
abbrev mx_Tm_addMark : am_M := (⟨"MapMerger$TextMerger", "addMark", "(Ljava/lang/String;)V"⟩, prog_11_method_13_code, 3, none, [], 4, 85)
abbrev mx_Tm_endLine : am_M := (⟨"MapMerger$TextMerger", "endLine", "()V"⟩, prog_11_method_12_code, 1, none, [], 1, 21)
abbrev mx_Tm_addPart : am_M := (⟨"MapMerger$TextMerger", "addPart", "()V"⟩, prog_11_method_11_code, 1, none, [], 5, 107)
abbrev mx_Pa_byteBehindStable : am_M := (⟨"MapMerger$Part", "byteBehindStable", "()I"⟩, prog_7_method_8_code, 1, (some FieldType.int), [], 1, 22)
abbrev mx_Pa_goBehindStable : am_M := (⟨"MapMerger$Part", "goBehindStable", "()V"⟩, prog_7_method_5_code, 1, none, [], 0, 0)
abbrev mx_Tm_addStableLines : am_M := (⟨"MapMerger$TextMerger", "addStableLines", "(I)V"⟩, prog_11_method_9_code, 3, none, [], 6, 127)
abbrev mx_Pa_reachToEnd : am_M := (⟨"MapMerger$Part", "reachToEnd", "()V"⟩, prog_7_method_4_code, 1, none, [], 1, 21)
abbrev mx_Tm_addLastPart : am_M := (⟨"MapMerger$TextMerger", "addLastPart", "()V"⟩, prog_11_method_10_code, 1, none, [], 6, 127)
abbrev mx_Bl_startOf : am_M := (⟨"MapMerger$Blobs", "startOf", "(I)I"⟩, prog_2_method_5_code, 2, (some FieldType.int), [], 0, 0)
abbrev mx_Tm_mergeTexts : am_M := (⟨"MapMerger$TextMerger", "mergeTexts", "(III)V"⟩, prog_11_method_5_code, 5, none, [], 7, 149)
abbrev mx_Tm_hasConflict : am_M := (⟨"MapMerger$TextMerger", "hasConflict", "()Z"⟩, prog_11_method_4_code, 1, (some FieldType.boolean), [], 0, 0)
abbrev mx_Oc_recordIsUnmerged : am_M := (⟨"MapMerger$Outcomes", "recordIsUnmerged", "(I)Z"⟩, prog_6_method_17_code, 2, (some FieldType.boolean), [], 0, 0)
abbrev mx_Tm_text : am_M := (⟨"MapMerger$TextMerger", "text", "()[B"⟩, prog_11_method_2_code, 1, (some (FieldType.array FieldType.byte)), [], 0, 0)
abbrev mx_Tm_length : am_M := (⟨"MapMerger$TextMerger", "length", "()I"⟩, prog_11_method_3_code, 1, (some FieldType.int), [], 0, 0)
abbrev mx_Oc_keepText : am_M := (⟨"MapMerger$Outcomes", "keepText", "(I[BI)Z"⟩, prog_6_method_19_code, 4, (some FieldType.boolean), [], 1, 26)
abbrev mx_Mg_giveMergedText : am_M := (⟨"MapMerger$Merging", "giveMergedText", "(I)Z"⟩, prog_5_method_10_code, 3, (some FieldType.boolean), [], 2, 49)
abbrev mx_Mg_giveText : am_M := (⟨"MapMerger$Merging", "giveText", "(I)Z"⟩, prog_5_method_8_code, 6, (some FieldType.boolean), [], 8, 173)
abbrev mx_Oc_unmergedCount : am_M := (⟨"MapMerger$Outcomes", "unmergedCount", "()I"⟩, prog_6_method_4_code, 1, (some FieldType.int), [], 0, 0)
abbrev mx_Mg_mergeMaps : am_M := (⟨"MapMerger$Merging", "mergeMaps", "()I"⟩, prog_5_method_3_code, 3, (some FieldType.int), [], 9, 198)
abbrev mx_MM_merge : am_M := (⟨"MapMerger", "merge", "()I"⟩, prog_1_method_7_code, 2, (some FieldType.int), [], 10, 220)
abbrev mx_Rn_goneOfRename : am_M := (⟨"MapMerger$Renames", "goneOfRename", "(I)I"⟩, prog_9_method_4_code, 4, (some FieldType.int), [], 0, 0)
abbrev mx_Rn_scoreOf : am_M := (⟨"MapMerger$Renames", "scoreOf", "(I)I"⟩, prog_9_method_3_code, 2, (some FieldType.int), [], 0, 0)
abbrev mx_MM_renamed : am_M := (⟨"MapMerger", "renamed", "(IIII)I"⟩, prog_1_method_8_code, 6, (some FieldType.int), [], 6, 145)
abbrev mx_Mg_latestOutcomes : am_M := (⟨"MapMerger$Merging", "latestOutcomes", "()LMapMerger$Outcomes;"⟩, prog_5_method_2_code, 1, (some (FieldType.object "MapMerger$Outcomes")), [], 0, 0)
abbrev mx_Pm_has : am_M := (⟨"MapMerger$PathMap", "has", "(I)Z"⟩, prog_8_method_3_code, 2, (some FieldType.boolean), [], 0, 0)
abbrev mx_Oc_has : am_M := (⟨"MapMerger$Outcomes", "has", "(I)Z"⟩, prog_6_method_3_code, 2, (some FieldType.boolean), [], 1, 21)
abbrev mx_Oc_pathLength : am_M := (⟨"MapMerger$Outcomes", "pathLength", "(I)I"⟩, prog_6_method_5_code, 2, (some FieldType.int), [], 1, 21)
abbrev mx_Oc_isUnmerged : am_M := (⟨"MapMerger$Outcomes", "isUnmerged", "(I)Z"⟩, prog_6_method_7_code, 2, (some FieldType.boolean), [], 1, 21)
abbrev mx_Oc_textLength : am_M := (⟨"MapMerger$Outcomes", "textLength", "(I)I"⟩, prog_6_method_10_code, 3, (some FieldType.int), [], 1, 21)
abbrev mx_Oc_blobOf : am_M := (⟨"MapMerger$Outcomes", "blobOf", "(I)I"⟩, prog_6_method_9_code, 2, (some FieldType.int), [], 1, 21)
abbrev mx_Oc_stageOf : am_M := (⟨"MapMerger$Outcomes", "stageOf", "(II)I"⟩, prog_6_method_8_code, 3, (some FieldType.int), [], 2, 42)
abbrev mx_MM_outcome : am_M := (⟨"MapMerger", "outcome", "(II)I"⟩, prog_1_method_9_code, 4, (some FieldType.int), [], 6, 88)
abbrev mx_Oc_pathByte : am_M := (⟨"MapMerger$Outcomes", "pathByte", "(II)I"⟩, prog_6_method_6_code, 3, (some FieldType.int), [], 1, 22)
abbrev mx_Bl_byteAt : am_M := (⟨"MapMerger$Blobs", "byteAt", "(II)I"⟩, prog_2_method_7_code, 3, (some FieldType.int), [], 0, 0)
abbrev mx_Oc_textByte : am_M := (⟨"MapMerger$Outcomes", "textByte", "(II)I"⟩, prog_6_method_11_code, 4, (some FieldType.int), [], 1, 22)
abbrev mx_MM_letter : am_M := (⟨"MapMerger", "letter", "(III)I"⟩, prog_1_method_10_code, 6, (some FieldType.int), [], 6, 88)
abbrev mx_MM_blob : am_M := (⟨"MapMerger", "blob", "(II)I"⟩, prog_1_method_11_code, 3, (some FieldType.int), [], 6, 88)
abbrev mx_Bl_size : am_M := (⟨"MapMerger$Blobs", "size", "()I"⟩, prog_2_method_2_code, 1, (some FieldType.int), [], 0, 0)
abbrev mx_MM_count : am_M := (⟨"MapMerger", "count", "(I)I"⟩, prog_1_method_12_code, 2, (some FieldType.int), [], 2, 41)
abbrev mx_Md_in : am_M := (⟨"MapMergerModel", "in", "(III)Z"⟩, prog_13_method_1_code, 3, (some FieldType.boolean), [], 0, 0)
abbrev mx_Md_allow : am_M := (⟨"MapMergerModel", "allow", "(Z)V"⟩, prog_13_method_2_code, 1, none, [], 0, 0)
abbrev mx_Md_samea : am_M := (⟨"MapMergerModel", "same", "(LMapMergerModel$Row;LMapMergerModel$Row;II)Z"⟩, prog_13_method_3_code, 5, (some FieldType.boolean), [], 0, 0)
abbrev mx_Md_blobOf : am_M := (⟨"MapMergerModel", "blobOf", "(LMapMergerModel$Row;)I"⟩, prog_13_method_4_code, 3, (some FieldType.int), [], 1, 24)
abbrev mx_Ro_get : am_M := (⟨"MapMergerModel$Row", "get", "(I)I"⟩, prog_16_method_4_code, 2, (some FieldType.int), [], 0, 0)
abbrev mx_Md_cut : am_M := (⟨"MapMergerModel", "cut", "(I)V"⟩, prog_13_method_5_code, 5, none, [], 1, 21)
abbrev mx_Md_start : am_M := (⟨"MapMergerModel", "start", "(II)I"⟩, prog_13_method_6_code, 3, (some FieldType.int), [], 0, 0)
abbrev mx_Md_sameb : am_M := (⟨"MapMergerModel", "same", "(LMapMergerModel$Row;IILMapMergerModel$Row;II)Z"⟩, prog_13_method_8_code, 7, (some FieldType.boolean), [], 0, 0)
abbrev mx_Md_sameLine : am_M := (⟨"MapMergerModel", "sameLine", "(IIII)Z"⟩, prog_13_method_7_code, 5, (some FieldType.boolean), [], 1, 26)
abbrev mx_Md_sort : am_M := (⟨"MapMergerModel", "sort", "(I)V"⟩, prog_13_method_9_code, 7, none, [], 2, 50)
abbrev mx_Md_common : am_M := (⟨"MapMergerModel", "common", "(IIII)I"⟩, prog_13_method_10_code, 7, (some FieldType.int), [], 0, 0)
abbrev mx_Md_pair : am_M := (⟨"MapMergerModel", "pair", "(I)V"⟩, prog_13_method_11_code, 5, none, [], 1, 26)
abbrev mx_Ro_adda : am_M := (⟨"MapMergerModel$Row", "add", "(I)LMapMergerModel$Row;"⟩, prog_16_method_3_code, 4, (some (FieldType.object "MapMergerModel$Row")), [], 0, 0)
abbrev mx_Ro_addb : am_M := (⟨"MapMergerModel$Row", "add", "(LMapMergerModel$Row;II)LMapMergerModel$Row;"⟩, prog_16_method_5_code, 5, (some (FieldType.object "MapMergerModel$Row")), [], 1, 23)
abbrev mx_Md_ended : am_M := (⟨"MapMergerModel", "ended", "(IIILMapMergerModel$Row;)V"⟩, prog_13_method_12_code, 5, none, [], 2, 47)
abbrev mx_Ro_addd : am_M := (⟨"MapMergerModel$Row", "add", "(Ljava/lang/String;)LMapMergerModel$Row;"⟩, prog_16_method_8_code, 3, (some (FieldType.object "MapMergerModel$Row")), [], 4, 85)
abbrev mx_Md_part : am_M := (⟨"MapMergerModel", "part", "(IIIIIILMapMergerModel$Row;)Z"⟩, prog_13_method_13_code, 14, (some FieldType.boolean), [], 5, 107)
abbrev mx_Ro_clear : am_M := (⟨"MapMergerModel$Row", "clear", "()V"⟩, prog_16_method_2_code, 1, none, [], 0, 0)
abbrev mx_Ro_addc : am_M := (⟨"MapMergerModel$Row", "add", "(LMapMergerModel$Row;)LMapMergerModel$Row;"⟩, prog_16_method_6_code, 2, (some (FieldType.object "MapMergerModel$Row")), [], 2, 47)
abbrev mx_Ro_set : am_M := (⟨"MapMergerModel$Row", "set", "(LMapMergerModel$Row;)LMapMergerModel$Row;"⟩, prog_16_method_7_code, 2, (some (FieldType.object "MapMergerModel$Row")), [], 3, 68)
abbrev mx_Md_merged : am_M := (⟨"MapMergerModel", "merged", "(LMapMergerModel$Row;)Z"⟩, prog_13_method_14_code, 10, (some FieldType.boolean), [], 6, 140)
abbrev mx_Md_many : am_M := (⟨"MapMergerModel", "many", "(II)I"⟩, prog_13_method_15_code, 5, (some FieldType.int), [], 0, 0)
abbrev mx_Md_blobText : am_M := (⟨"MapMergerModel", "blobText", "(ILMapMergerModel$Row;)V"⟩, prog_13_method_18_code, 3, none, [], 2, 47)
abbrev mx_Md_score : am_M := (⟨"MapMergerModel", "score", "(II)I"⟩, prog_13_method_16_code, 7, (some FieldType.int), [], 3, 76)
abbrev mx_Ps_length : am_M := (⟨"MapMergerModel$Paths", "length", "(I)I"⟩, prog_15_method_3_code, 2, (some FieldType.int), [], 0, 0)
abbrev mx_Ps_comparea : am_M := (⟨"MapMergerModel$Paths", "compare", "(ILMapMergerModel$Paths;I)I"⟩, prog_15_method_5_code, 9, (some FieldType.int), [], 1, 21)
abbrev mx_Ps_findb : am_M := (⟨"MapMergerModel$Paths", "find", "(LMapMergerModel$Paths;I)I"⟩, prog_15_method_8_code, 4, (some FieldType.int), [], 2, 49)
abbrev mx_Md_renames : am_M := (⟨"MapMergerModel", "renames", "(LMapMergerModel$Paths;LMapMergerModel$Paths;[I[I)V"⟩, prog_13_method_17_code, 14, none, [], 4, 102)
abbrev mx_Md_freshBlob : am_M := (⟨"MapMergerModel", "freshBlob", "(LMapMergerModel$Row;Z)I"⟩, prog_13_method_19_code, 4, (some FieldType.int), [], 3, 68)
abbrev mx_Ps_add : am_M := (⟨"MapMergerModel$Paths", "add", "(LMapMergerModel$Row;II)I"⟩, prog_15_method_4_code, 4, (some FieldType.int), [], 2, 47)
abbrev mx_Md_outcomea : am_M := (⟨"MapMergerModel", "outcome", "(LMapMergerModel$Paths;IIZIII)V"⟩, prog_13_method_20_code, 9, none, [], 3, 70)
abbrev mx_Md_decide : am_M := (⟨"MapMergerModel", "decide", "(III)V"⟩, prog_13_method_21_code, 11, none, [], 7, 169)
abbrev mx_Ps_clear : am_M := (⟨"MapMergerModel$Paths", "clear", "()V"⟩, prog_15_method_2_code, 1, none, [], 1, 20)
abbrev mx_Ps_take : am_M := (⟨"MapMergerModel$Paths", "take", "(LMapMergerModel$Paths;I)V"⟩, prog_15_method_11_code, 5, none, [], 3, 70)
abbrev mx_Ps_under : am_M := (⟨"MapMergerModel$Paths", "under", "(ILMapMergerModel$Paths;I)Z"⟩, prog_15_method_9_code, 6, (some FieldType.boolean), [], 1, 21)
abbrev mx_Ps_fits : am_M := (⟨"MapMergerModel$Paths", "fits", "()Z"⟩, prog_15_method_10_code, 3, (some FieldType.boolean), [], 2, 46)
abbrev mx_Md_mergeMaps : am_M := (⟨"MapMergerModel", "mergeMaps", "()V"⟩, prog_13_method_22_code, 4, none, [], 8, 199)
abbrev mx_Md_isName : am_M := (⟨"MapMergerModel", "isName", "(LMapMergerModel$Row;II)Z"⟩, prog_13_method_23_code, 4, (some FieldType.boolean), [], 1, 22)
abbrev mx_Md_isPath : am_M := (⟨"MapMergerModel", "isPath", "(LMapMergerModel$Row;)Z"⟩, prog_13_method_24_code, 4, (some FieldType.boolean), [], 2, 45)
abbrev mx_Md_takeAll : am_M := (⟨"MapMergerModel", "takeAll", "()I"⟩, prog_13_method_25_code, 2, (some FieldType.int), [], 0, 0)
abbrev mx_Md_bad : am_M := (⟨"MapMergerModel", "bad", "()I"⟩, prog_13_method_26_code, 1, (some FieldType.int), [], 0, 0)
abbrev mx_Md_refused : am_M := (⟨"MapMergerModel", "refused", "()I"⟩, prog_13_method_27_code, 1, (some FieldType.int), [], 0, 0)
abbrev mx_Ro_init : am_M := (⟨"MapMergerModel$Row", "<init>", "(I)V"⟩, prog_16_method_1_code, 2, none, [], 1, 20)
abbrev mx_Ps_init : am_M := (⟨"MapMergerModel$Paths", "<init>", "()V"⟩, prog_15_method_1_code, 1, none, [], 2, 41)
abbrev mx_Md_init : am_M := (⟨"MapMergerModel", "<init>", "()V"⟩, prog_13_method_28_code, 5, none, [], 3, 61)
abbrev mx_Md_thrown : am_M := (⟨"MapMergerModel", "thrown", "()I"⟩, prog_13_method_29_code, 1, (some FieldType.int), [], 0, 0)
abbrev mx_Ro_four : am_M := (⟨"MapMergerModel$Row", "four", "(I)LMapMergerModel$Row;"⟩, prog_16_method_9_code, 2, (some (FieldType.object "MapMergerModel$Row")), [], 1, 23)
abbrev mx_Md_feed : am_M := (⟨"MapMergerModel", "feed", "(IIIII)V"⟩, prog_13_method_30_code, 8, none, [], 2, 44)
abbrev mx_Md_end : am_M := (⟨"MapMergerModel", "end", "(I)I"⟩, prog_13_method_31_code, 4, (some FieldType.int), [], 4, 89)
abbrev mx_Ps_compareb : am_M := (⟨"MapMergerModel$Paths", "compare", "(ILMapMergerModel$Row;)I"⟩, prog_15_method_6_code, 7, (some FieldType.int), [], 1, 21)
abbrev mx_Md_rebuild : am_M := (⟨"MapMergerModel", "rebuild", "(LMapMergerModel$Paths;LMapMergerModel$Row;I)V"⟩, prog_13_method_32_code, 5, none, [], 4, 94)
abbrev mx_Ps_set : am_M := (⟨"MapMergerModel$Paths", "set", "(LMapMergerModel$Paths;)V"⟩, prog_15_method_12_code, 3, none, [], 4, 94)
abbrev mx_Md_put : am_M := (⟨"MapMergerModel", "put", "(I)I"⟩, prog_13_method_33_code, 6, (some FieldType.int), [], 5, 118)
abbrev mx_Ps_finda : am_M := (⟨"MapMergerModel$Paths", "find", "(LMapMergerModel$Row;)I"⟩, prog_15_method_7_code, 3, (some FieldType.int), [], 2, 47)
abbrev mx_Md_drop : am_M := (⟨"MapMergerModel", "drop", "(I)V"⟩, prog_13_method_34_code, 3, none, [], 5, 118)
abbrev mx_Md_copy : am_M := (⟨"MapMergerModel", "copy", "(II)V"⟩, prog_13_method_35_code, 4, none, [], 5, 116)
abbrev mx_Md_merge : am_M := (⟨"MapMergerModel", "merge", "()I"⟩, prog_13_method_36_code, 6, (some FieldType.int), [(17, 21, 24, 337)], 9, 222)
abbrev mx_Md_seenLength : am_M := (⟨"MapMergerModel", "seenLength", "(I)I"⟩, prog_13_method_37_code, 2, (some FieldType.int), [], 0, 0)
abbrev mx_Md_renamed : am_M := (⟨"MapMergerModel", "renamed", "(IIII)I"⟩, prog_13_method_38_code, 7, (some FieldType.int), [], 5, 135)
abbrev mx_Md_outcomeb : am_M := (⟨"MapMergerModel", "outcome", "(II)I"⟩, prog_13_method_39_code, 3, (some FieldType.int), [], 1, 22)
abbrev mx_Md_letter : am_M := (⟨"MapMergerModel", "letter", "(III)I"⟩, prog_13_method_40_code, 4, (some FieldType.int), [], 1, 22)
abbrev mx_Md_blob : am_M := (⟨"MapMergerModel", "blob", "(II)I"⟩, prog_13_method_41_code, 3, (some FieldType.int), [], 1, 22)
abbrev mx_Md_count : am_M := (⟨"MapMergerModel", "count", "(I)I"⟩, prog_13_method_42_code, 2, (some FieldType.int), [], 1, 22)
abbrev mx_Lw_feed : am_M := (⟨"MapMergerLaw", "feed", "(LMapMerger;IIIII)I"⟩, method_3_code, 7, (some FieldType.int), [(0, 11, 14, 13)], 7, 113)
abbrev mx_Lw_end : am_M := (⟨"MapMergerLaw", "end", "(LMapMerger;I[J)I"⟩, method_4_code, 4, (some FieldType.int), [(0, 9, 12, 19)], 7, 110)
abbrev mx_Lw_put : am_M := (⟨"MapMergerLaw", "put", "(LMapMerger;I[J)I"⟩, method_5_code, 4, (some FieldType.int), [(0, 9, 12, 19), (0, 9, 15, 13)], 8, 194)
abbrev mx_Lw_drop : am_M := (⟨"MapMergerLaw", "drop", "(LMapMerger;I)I"⟩, method_6_code, 3, (some FieldType.int), [(0, 5, 8, 19), (0, 5, 11, 28)], 8, 146)
abbrev mx_Lw_copy : am_M := (⟨"MapMergerLaw", "copy", "(LMapMerger;II)I"⟩, method_7_code, 4, (some FieldType.int), [(0, 6, 9, 19)], 7, 111)
abbrev mx_Lw_merge : am_M := (⟨"MapMergerLaw", "merge", "(LMapMerger;[J)I"⟩, method_8_code, 3, (some FieldType.int), [(0, 8, 11, 19), (0, 8, 14, 13)], 11, 241)
abbrev mx_Lw_renamed : am_M := (⟨"MapMergerLaw", "renamed", "(LMapMerger;IIII[J)I"⟩, method_9_code, 7, (some FieldType.int), [(0, 14, 17, 19), (0, 14, 21, 28)], 7, 170)
abbrev mx_Lw_outcome : am_M := (⟨"MapMergerLaw", "outcome", "(LMapMerger;II[J)I"⟩, method_10_code, 5, (some FieldType.int), [(0, 10, 13, 19), (0, 10, 17, 28)], 7, 111)
abbrev mx_Lw_letter : am_M := (⟨"MapMergerLaw", "letter", "(LMapMerger;III[J)I"⟩, method_11_code, 6, (some FieldType.int), [(0, 12, 15, 19), (0, 12, 19, 28)], 7, 113)
abbrev mx_Lw_blob : am_M := (⟨"MapMergerLaw", "blob", "(LMapMerger;II[J)I"⟩, method_12_code, 5, (some FieldType.int), [(0, 10, 13, 19), (0, 10, 17, 28)], 7, 110)
theorem cal_In_init : am_cal mx_In_init 0 := ⟨wd_39, wd_2, ⟨by decide, by decide⟩, by decide +kernel⟩
theorem cal_Lt_init : am_cal mx_Lt_init 1 := ⟨wd_67, wd_4, ⟨by decide, by decide⟩, by decide +kernel⟩
theorem cal_Bl_init : am_cal mx_Bl_init 0 := ⟨wd_60, wd_3, ⟨by decide, by decide⟩, by decide +kernel⟩
theorem cal_Pm_init : am_cal mx_Pm_init 0 := ⟨wd_127, wd_5, ⟨by decide, by decide⟩, by decide +kernel⟩
theorem cal_Rn_init : am_cal mx_Rn_init 1 := ⟨wd_146, wd_6, ⟨by decide, by decide⟩, by decide +kernel⟩
theorem cal_Pa_init : am_cal mx_Pa_init 1 := ⟨wd_196, wd_9, ⟨by decide, by decide⟩, by decide +kernel⟩
theorem cal_Tm_init : am_cal mx_Tm_init 1 := ⟨wd_188, wd_8, ⟨by decide, by decide⟩, by decide +kernel⟩
theorem cal_Oc_init : am_cal mx_Oc_init 1 := ⟨wd_249, wd_10, ⟨by decide, by decide⟩, by decide +kernel⟩
theorem cal_Mg_init : am_cal mx_Mg_init 4 := ⟨wd_180, wd_7, ⟨by decide, by decide⟩, by decide +kernel⟩
theorem cal_MM_init : am_cal mx_MM_init 0 := ⟨wd_31, wd_1, ⟨by decide, by decide⟩, by decide +kernel⟩
theorem cal_In_hasRoomFor : am_cal mx_In_hasRoomFor 1 := ⟨wd_395, wd_2, ⟨by decide, by decide⟩, by decide +kernel⟩
theorem cal_In_addNumber : am_cal mx_In_addNumber 1 := ⟨wd_463, wd_2, ⟨by decide, by decide⟩, by decide +kernel⟩
theorem cal_MM_feed : am_cal mx_MM_feed 5 := ⟨wd_391, wd_1, ⟨by decide, by decide⟩, by decide +kernel⟩
theorem cal_In_argumentStart : am_cal mx_In_argumentStart 1 := ⟨wd_379, wd_2, ⟨by decide, by decide⟩, by decide +kernel⟩
theorem cal_In_inputLength : am_cal mx_In_inputLength 0 := ⟨wd_375, wd_2, ⟨by decide, by decide⟩, by decide +kernel⟩
theorem cal_In_cutInput : am_cal mx_In_cutInput 1 := ⟨wd_490, wd_2, ⟨by decide, by decide⟩, by decide +kernel⟩
theorem cal_In_removeFront : am_cal mx_In_removeFront 1 := ⟨wd_502, wd_2, ⟨by decide, by decide⟩, by decide +kernel⟩
theorem cal_In_dropFirstArgument : am_cal mx_In_dropFirstArgument 0 := ⟨wd_498, wd_2, ⟨by decide, by decide⟩, by decide +kernel⟩
theorem cal_In_makeArgument : am_cal mx_In_makeArgument 0 := ⟨wd_494, wd_2, ⟨by decide, by decide⟩, by decide +kernel⟩
theorem cal_In_argumentCount : am_cal mx_In_argumentCount 0 := ⟨wd_383, wd_2, ⟨by decide, by decide⟩, by decide +kernel⟩
theorem cal_MM_end : am_cal mx_MM_end 1 := ⟨wd_471, wd_1, ⟨by decide, by decide⟩, by decide +kernel⟩
theorem cal_MM_isMap : am_cal mx_MM_isMap 1 := ⟨wd_519, wd_1, ⟨by decide, by decide⟩, by decide +kernel⟩
theorem cal_In_bytes : am_cal mx_In_bytes 0 := ⟨wd_527, wd_2, ⟨by decide, by decide⟩, by decide +kernel⟩
theorem cal_In_argumentLength : am_cal mx_In_argumentLength 1 := ⟨wd_531, wd_2, ⟨by decide, by decide⟩, by decide +kernel⟩
theorem cal_Rw_isDots : am_cal mx_Rw_isDots 3 := ⟨wd_540, wd_20, ⟨by decide, by decide⟩, by decide +kernel⟩
theorem cal_Rw_isName : am_cal mx_Rw_isName 3 := ⟨wd_537, wd_20, ⟨by decide, by decide⟩, by decide +kernel⟩
theorem cal_Rw_isPath : am_cal mx_Rw_isPath 3 := ⟨wd_534, wd_20, ⟨by decide, by decide⟩, by decide +kernel⟩
theorem cal_MM_firstArgumentIsPath : am_cal mx_MM_firstArgumentIsPath 0 := ⟨wd_523, wd_1, ⟨by decide, by decide⟩, by decide +kernel⟩
theorem cal_Pm_lengthOf : am_cal mx_Pm_lengthOf 1 := ⟨wd_560, wd_5, ⟨by decide, by decide⟩, by decide +kernel⟩
theorem cal_Rw_commonBeginning : am_cal mx_Rw_commonBeginning 5 := ⟨wd_566, wd_20, ⟨by decide, by decide⟩, by decide +kernel⟩
theorem cal_Pm_letterAt : am_cal mx_Pm_letterAt 2 := ⟨wd_570, wd_5, ⟨by decide, by decide⟩, by decide +kernel⟩
theorem cal_Pm_compareAt : am_cal mx_Pm_compareAt 4 := ⟨wd_556, wd_5, ⟨by decide, by decide⟩, by decide +kernel⟩
theorem cal_Pm_placeFor : am_cal mx_Pm_placeFor 3 := ⟨wd_552, wd_5, ⟨by decide, by decide⟩, by decide +kernel⟩
theorem cal_Pm_isAt : am_cal mx_Pm_isAt 4 := ⟨wd_574, wd_5, ⟨by decide, by decide⟩, by decide +kernel⟩
theorem cal_Pm_find : am_cal mx_Pm_find 3 := ⟨wd_548, wd_5, ⟨by decide, by decide⟩, by decide +kernel⟩
theorem cal_Pm_isBeneathOrAbove : am_cal mx_Pm_isBeneathOrAbove 4 := ⟨wd_582, wd_5, ⟨by decide, by decide⟩, by decide +kernel⟩
theorem cal_Pm_hasRoomFor : am_cal mx_Pm_hasRoomFor 3 := ⟨wd_578, wd_5, ⟨by decide, by decide⟩, by decide +kernel⟩
theorem cal_Pm_wouldFit : am_cal mx_Pm_wouldFit 3 := ⟨wd_544, wd_5, ⟨by decide, by decide⟩, by decide +kernel⟩
theorem cal_Bl_lengthOf : am_cal mx_Bl_lengthOf 1 := ⟨wd_595, wd_3, ⟨by decide, by decide⟩, by decide +kernel⟩
theorem cal_Bl_find : am_cal mx_Bl_find 3 := ⟨wd_591, wd_3, ⟨by decide, by decide⟩, by decide +kernel⟩
theorem cal_Bl_totalLength : am_cal mx_Bl_totalLength 0 := ⟨wd_362, wd_3, ⟨by decide, by decide⟩, by decide +kernel⟩
theorem cal_Bl_looksRough : am_cal mx_Bl_looksRough 2 := ⟨wd_606, wd_3, ⟨by decide, by decide⟩, by decide +kernel⟩
theorem cal_Lt_bucketOf : am_cal mx_Lt_bucketOf 2 := ⟨wd_618, wd_4, ⟨by decide, by decide⟩, by decide +kernel⟩
theorem cal_Lt_findKind : am_cal mx_Lt_findKind 3 := ⟨wd_622, wd_4, ⟨by decide, by decide⟩, by decide +kernel⟩
theorem cal_Lt_addLine : am_cal mx_Lt_addLine 2 := ⟨wd_614, wd_4, ⟨by decide, by decide⟩, by decide +kernel⟩
theorem cal_Bl_cutLines : am_cal mx_Bl_cutLines 2 := ⟨wd_610, wd_3, ⟨by decide, by decide⟩, by decide +kernel⟩
theorem cal_Bl_addText : am_cal mx_Bl_addText 3 := ⟨wd_601, wd_3, ⟨by decide, by decide⟩, by decide +kernel⟩
theorem cal_Bl_findOrAdd : am_cal mx_Bl_findOrAdd 3 := ⟨wd_587, wd_3, ⟨by decide, by decide⟩, by decide +kernel⟩
theorem cal_Pm_insertAt : am_cal mx_Pm_insertAt 4 := ⟨wd_631, wd_5, ⟨by decide, by decide⟩, by decide +kernel⟩
theorem cal_Pm_assign : am_cal mx_Pm_assign 4 := ⟨wd_627, wd_5, ⟨by decide, by decide⟩, by decide +kernel⟩
theorem cal_MM_putArguments : am_cal mx_MM_putArguments 1 := ⟨wd_516, wd_1, ⟨by decide, by decide⟩, by decide +kernel⟩
theorem cal_In_takeArguments : am_cal mx_In_takeArguments 0 := ⟨wd_636, wd_2, ⟨by decide, by decide⟩, by decide +kernel⟩
theorem cal_MM_answerOrThrow : am_cal mx_MM_answerOrThrow 1 := ⟨wd_639, wd_1, ⟨by decide, by decide⟩, by decide +kernel⟩
theorem cal_MM_put : am_cal mx_MM_put 1 := ⟨wd_512, wd_1, ⟨by decide, by decide⟩, by decide +kernel⟩
theorem cal_Pm_removeAt : am_cal mx_Pm_removeAt 1 := ⟨wd_671, wd_5, ⟨by decide, by decide⟩, by decide +kernel⟩
theorem cal_MM_dropArgument : am_cal mx_MM_dropArgument 1 := ⟨wd_666, wd_1, ⟨by decide, by decide⟩, by decide +kernel⟩
theorem cal_MM_drop : am_cal mx_MM_drop 1 := ⟨wd_662, wd_1, ⟨by decide, by decide⟩, by decide +kernel⟩
theorem cal_Pm_become : am_cal mx_Pm_become 1 := ⟨wd_682, wd_5, ⟨by decide, by decide⟩, by decide +kernel⟩
theorem cal_MM_copy : am_cal mx_MM_copy 2 := ⟨wd_678, wd_1, ⟨by decide, by decide⟩, by decide +kernel⟩
theorem cal_Pm_size : am_cal mx_Pm_size 0 := ⟨wd_354, wd_5, ⟨by decide, by decide⟩, by decide +kernel⟩
theorem cal_Pm_comparePaths : am_cal mx_Pm_comparePaths 3 := ⟨wd_709, wd_5, ⟨by decide, by decide⟩, by decide +kernel⟩
theorem cal_Rn_compareNext : am_cal mx_Rn_compareNext 4 := ⟨wd_705, wd_6, ⟨by decide, by decide⟩, by decide +kernel⟩
theorem cal_Rn_addGone : am_cal mx_Rn_addGone 1 := ⟨wd_713, wd_6, ⟨by decide, by decide⟩, by decide +kernel⟩
theorem cal_Rn_addCome : am_cal mx_Rn_addCome 1 := ⟨wd_717, wd_6, ⟨by decide, by decide⟩, by decide +kernel⟩
theorem cal_Rn_listChanges : am_cal mx_Rn_listChanges 2 := ⟨wd_701, wd_6, ⟨by decide, by decide⟩, by decide +kernel⟩
theorem cal_Pm_valueAt : am_cal mx_Pm_valueAt 1 := ⟨wd_725, wd_5, ⟨by decide, by decide⟩, by decide +kernel⟩
theorem cal_Rn_join : am_cal mx_Rn_join 3 := ⟨wd_730, wd_6, ⟨by decide, by decide⟩, by decide +kernel⟩
theorem cal_Rn_pairSameBlobs : am_cal mx_Rn_pairSameBlobs 2 := ⟨wd_721, wd_6, ⟨by decide, by decide⟩, by decide +kernel⟩
theorem cal_Bl_lineKind : am_cal mx_Bl_lineKind 2 := ⟨wd_749, wd_3, ⟨by decide, by decide⟩, by decide +kernel⟩
theorem cal_Bl_commonLength : am_cal mx_Bl_commonLength 2 := ⟨wd_745, wd_3, ⟨by decide, by decide⟩, by decide +kernel⟩
theorem cal_Bl_score : am_cal mx_Bl_score 2 := ⟨wd_738, wd_3, ⟨by decide, by decide⟩, by decide +kernel⟩
theorem cal_Rn_scoreAll : am_cal mx_Rn_scoreAll 2 := ⟨wd_734, wd_6, ⟨by decide, by decide⟩, by decide +kernel⟩
theorem cal_Rn_bestFreePair : am_cal mx_Rn_bestFreePair 0 := ⟨wd_757, wd_6, ⟨by decide, by decide⟩, by decide +kernel⟩
theorem cal_Rn_pairByScore : am_cal mx_Rn_pairByScore 0 := ⟨wd_753, wd_6, ⟨by decide, by decide⟩, by decide +kernel⟩
theorem cal_Rn_search : am_cal mx_Rn_search 2 := ⟨wd_697, wd_6, ⟨by decide, by decide⟩, by decide +kernel⟩
theorem cal_Rn_partnerOf : am_cal mx_Rn_partnerOf 1 := ⟨wd_766, wd_6, ⟨by decide, by decide⟩, by decide +kernel⟩
theorem cal_Mg_listGroup : am_cal mx_Mg_listGroup 3 := ⟨wd_770, wd_7, ⟨by decide, by decide⟩, by decide +kernel⟩
theorem cal_Pm_findPathOf : am_cal mx_Pm_findPathOf 2 := ⟨wd_774, wd_5, ⟨by decide, by decide⟩, by decide +kernel⟩
theorem cal_Mg_listGroups : am_cal mx_Mg_listGroups 0 := ⟨wd_761, wd_7, ⟨by decide, by decide⟩, by decide +kernel⟩
theorem cal_Pm_clear : am_cal mx_Pm_clear 0 := ⟨wd_782, wd_5, ⟨by decide, by decide⟩, by decide +kernel⟩
theorem cal_Oc_clear : am_cal mx_Oc_clear 0 := ⟨wd_778, wd_10, ⟨by decide, by decide⟩, by decide +kernel⟩
theorem cal_Mg_isPathOfBase : am_cal mx_Mg_isPathOfBase 3 := ⟨wd_791, wd_7, ⟨by decide, by decide⟩, by decide +kernel⟩
theorem cal_Pm_addPathOf : am_cal mx_Pm_addPathOf 3 := ⟨wd_800, wd_5, ⟨by decide, by decide⟩, by decide +kernel⟩
theorem cal_Oc_open : am_cal mx_Oc_open 2 := ⟨wd_796, wd_10, ⟨by decide, by decide⟩, by decide +kernel⟩
theorem cal_Oc_setSources : am_cal mx_Oc_setSources 4 := ⟨wd_804, wd_10, ⟨by decide, by decide⟩, by decide +kernel⟩
theorem cal_Oc_setUnmerged : am_cal mx_Oc_setUnmerged 1 := ⟨wd_808, wd_10, ⟨by decide, by decide⟩, by decide +kernel⟩
theorem cal_Mg_addGroup : am_cal mx_Mg_addGroup 3 := ⟨wd_786, wd_7, ⟨by decide, by decide⟩, by decide +kernel⟩
theorem cal_Oc_size : am_cal mx_Oc_size 0 := ⟨wd_370, wd_10, ⟨by decide, by decide⟩, by decide +kernel⟩
theorem cal_Oc_sourceOf : am_cal mx_Oc_sourceOf 2 := ⟨wd_817, wd_10, ⟨by decide, by decide⟩, by decide +kernel⟩
theorem cal_Mg_chooseBlob : am_cal mx_Mg_chooseBlob 3 := ⟨wd_820, wd_7, ⟨by decide, by decide⟩, by decide +kernel⟩
theorem cal_Oc_setBlob : am_cal mx_Oc_setBlob 2 := ⟨wd_824, wd_10, ⟨by decide, by decide⟩, by decide +kernel⟩
theorem cal_Tm_startText : am_cal mx_Tm_startText 0 := ⟨wd_832, wd_8, ⟨by decide, by decide⟩, by decide +kernel⟩
theorem cal_Bl_isRough : am_cal mx_Bl_isRough 1 := ⟨wd_836, wd_3, ⟨by decide, by decide⟩, by decide +kernel⟩
theorem cal_Pa_begin : am_cal mx_Pa_begin 1 := ⟨wd_840, wd_9, ⟨by decide, by decide⟩, by decide +kernel⟩
theorem cal_Bl_lineCount : am_cal mx_Bl_lineCount 1 := ⟨wd_848, wd_3, ⟨by decide, by decide⟩, by decide +kernel⟩
theorem cal_Tm_fillLongest : am_cal mx_Tm_fillLongest 2 := ⟨wd_852, wd_8, ⟨by decide, by decide⟩, by decide +kernel⟩
theorem cal_Tm_pairLines : am_cal mx_Tm_pairLines 3 := ⟨wd_844, wd_8, ⟨by decide, by decide⟩, by decide +kernel⟩
theorem cal_Pa_reachTo : am_cal mx_Pa_reachTo 1 := ⟨wd_862, wd_9, ⟨by decide, by decide⟩, by decide +kernel⟩
theorem cal_Pa_isAs : am_cal mx_Pa_isAs 1 := ⟨wd_870, wd_9, ⟨by decide, by decide⟩, by decide +kernel⟩
theorem cal_Bl_lineStart : am_cal mx_Bl_lineStart 2 := ⟨wd_879, wd_3, ⟨by decide, by decide⟩, by decide +kernel⟩
theorem cal_Pa_firstByte : am_cal mx_Pa_firstByte 0 := ⟨wd_875, wd_9, ⟨by decide, by decide⟩, by decide +kernel⟩
theorem cal_Pa_byteBehind : am_cal mx_Pa_byteBehind 0 := ⟨wd_883, wd_9, ⟨by decide, by decide⟩, by decide +kernel⟩
theorem cal_Bl_bytes : am_cal mx_Bl_bytes 0 := ⟨wd_891, wd_3, ⟨by decide, by decide⟩, by decide +kernel⟩
theorem cal_Tm_addBytes : am_cal mx_Tm_addBytes 2 := ⟨wd_887, wd_8, ⟨by decide, by decide⟩, by decide +kernel⟩
theorem cal_Tm_addByte : am_cal mx_Tm_addByte 1 := ⟨wd_949, wd_8, ⟨by decide, by decide⟩, by decide +kernel⟩
theorem cal_Tm_addMark : am_cal mx_Tm_addMark 1 := ⟨wd_897, wd_8, ⟨by decide, by decide⟩, by decide +kernel⟩
theorem cal_Tm_endLine : am_cal mx_Tm_endLine 0 := ⟨wd_953, wd_8, ⟨by decide, by decide⟩, by decide +kernel⟩
theorem cal_Tm_addPart : am_cal mx_Tm_addPart 0 := ⟨wd_866, wd_8, ⟨by decide, by decide⟩, by decide +kernel⟩
theorem cal_Pa_byteBehindStable : am_cal mx_Pa_byteBehindStable 0 := ⟨wd_959, wd_9, ⟨by decide, by decide⟩, by decide +kernel⟩
theorem cal_Pa_goBehindStable : am_cal mx_Pa_goBehindStable 0 := ⟨wd_963, wd_9, ⟨by decide, by decide⟩, by decide +kernel⟩
theorem cal_Tm_addStableLines : am_cal mx_Tm_addStableLines 1 := ⟨wd_858, wd_8, ⟨by decide, by decide⟩, by decide +kernel⟩
theorem cal_Pa_reachToEnd : am_cal mx_Pa_reachToEnd 0 := ⟨wd_971, wd_9, ⟨by decide, by decide⟩, by decide +kernel⟩
theorem cal_Tm_addLastPart : am_cal mx_Tm_addLastPart 0 := ⟨wd_967, wd_8, ⟨by decide, by decide⟩, by decide +kernel⟩
theorem cal_Bl_startOf : am_cal mx_Bl_startOf 1 := ⟨wd_976, wd_3, ⟨by decide, by decide⟩, by decide +kernel⟩
theorem cal_Tm_mergeTexts : am_cal mx_Tm_mergeTexts 3 := ⟨wd_828, wd_8, ⟨by decide, by decide⟩, by decide +kernel⟩
theorem cal_Tm_hasConflict : am_cal mx_Tm_hasConflict 0 := ⟨wd_981, wd_8, ⟨by decide, by decide⟩, by decide +kernel⟩
theorem cal_Oc_recordIsUnmerged : am_cal mx_Oc_recordIsUnmerged 1 := ⟨wd_989, wd_10, ⟨by decide, by decide⟩, by decide +kernel⟩
theorem cal_Tm_text : am_cal mx_Tm_text 0 := ⟨wd_993, wd_8, ⟨by decide, by decide⟩, by decide +kernel⟩
theorem cal_Tm_length : am_cal mx_Tm_length 0 := ⟨wd_997, wd_8, ⟨by decide, by decide⟩, by decide +kernel⟩
theorem cal_Oc_keepText : am_cal mx_Oc_keepText 3 := ⟨wd_1002, wd_10, ⟨by decide, by decide⟩, by decide +kernel⟩
theorem cal_Mg_giveMergedText : am_cal mx_Mg_giveMergedText 1 := ⟨wd_985, wd_7, ⟨by decide, by decide⟩, by decide +kernel⟩
theorem cal_Mg_giveText : am_cal mx_Mg_giveText 1 := ⟨wd_813, wd_7, ⟨by decide, by decide⟩, by decide +kernel⟩
theorem cal_Oc_unmergedCount : am_cal mx_Oc_unmergedCount 0 := ⟨wd_1007, wd_10, ⟨by decide, by decide⟩, by decide +kernel⟩
theorem cal_Mg_mergeMaps : am_cal mx_Mg_mergeMaps 0 := ⟨wd_693, wd_7, ⟨by decide, by decide⟩, by decide +kernel⟩
theorem cal_MM_merge : am_cal mx_MM_merge 0 := ⟨wd_689, wd_1, ⟨by decide, by decide⟩, by decide +kernel⟩
theorem cal_Rn_goneOfRename : am_cal mx_Rn_goneOfRename 1 := ⟨wd_1019, wd_6, ⟨by decide, by decide⟩, by decide +kernel⟩
theorem cal_Rn_scoreOf : am_cal mx_Rn_scoreOf 1 := ⟨wd_1024, wd_6, ⟨by decide, by decide⟩, by decide +kernel⟩
theorem cal_MM_renamed : am_cal mx_MM_renamed 4 := ⟨wd_1014, wd_1, ⟨by decide, by decide⟩, by decide +kernel⟩
theorem cal_Mg_latestOutcomes : am_cal mx_Mg_latestOutcomes 0 := ⟨wd_366, wd_7, ⟨by decide, by decide⟩, by decide +kernel⟩
theorem cal_Pm_has : am_cal mx_Pm_has 1 := ⟨wd_1039, wd_5, ⟨by decide, by decide⟩, by decide +kernel⟩
theorem cal_Oc_has : am_cal mx_Oc_has 1 := ⟨wd_1035, wd_10, ⟨by decide, by decide⟩, by decide +kernel⟩
theorem cal_Oc_pathLength : am_cal mx_Oc_pathLength 1 := ⟨wd_1043, wd_10, ⟨by decide, by decide⟩, by decide +kernel⟩
theorem cal_Oc_isUnmerged : am_cal mx_Oc_isUnmerged 1 := ⟨wd_1048, wd_10, ⟨by decide, by decide⟩, by decide +kernel⟩
theorem cal_Oc_textLength : am_cal mx_Oc_textLength 1 := ⟨wd_1053, wd_10, ⟨by decide, by decide⟩, by decide +kernel⟩
theorem cal_Oc_blobOf : am_cal mx_Oc_blobOf 1 := ⟨wd_1058, wd_10, ⟨by decide, by decide⟩, by decide +kernel⟩
theorem cal_Oc_stageOf : am_cal mx_Oc_stageOf 2 := ⟨wd_1062, wd_10, ⟨by decide, by decide⟩, by decide +kernel⟩
theorem cal_MM_outcome : am_cal mx_MM_outcome 2 := ⟨wd_1031, wd_1, ⟨by decide, by decide⟩, by decide +kernel⟩
theorem cal_Oc_pathByte : am_cal mx_Oc_pathByte 2 := ⟨wd_1075, wd_10, ⟨by decide, by decide⟩, by decide +kernel⟩
theorem cal_Bl_byteAt : am_cal mx_Bl_byteAt 2 := ⟨wd_1084, wd_3, ⟨by decide, by decide⟩, by decide +kernel⟩
theorem cal_Oc_textByte : am_cal mx_Oc_textByte 2 := ⟨wd_1080, wd_10, ⟨by decide, by decide⟩, by decide +kernel⟩
theorem cal_MM_letter : am_cal mx_MM_letter 3 := ⟨wd_1071, wd_1, ⟨by decide, by decide⟩, by decide +kernel⟩
theorem cal_MM_blob : am_cal mx_MM_blob 2 := ⟨wd_1091, wd_1, ⟨by decide, by decide⟩, by decide +kernel⟩
theorem cal_Bl_size : am_cal mx_Bl_size 0 := ⟨wd_358, wd_3, ⟨by decide, by decide⟩, by decide +kernel⟩
theorem cal_MM_count : am_cal mx_MM_count 1 := ⟨wd_350, wd_1, ⟨by decide, by decide⟩, by decide +kernel⟩
theorem cal_Md_in : am_cal mx_Md_in 3 := ⟨wd_1331, wd_11, ⟨by decide, by decide⟩, by decide +kernel⟩
theorem cal_Md_allow : am_cal mx_Md_allow 1 := ⟨wd_1469, wd_11, ⟨by decide, by decide⟩, by decide +kernel⟩
theorem cal_Md_samea : am_cal mx_Md_samea 4 := ⟨wd_1348, wd_11, ⟨by decide, by decide⟩, by decide +kernel⟩
theorem cal_Md_blobOf : am_cal mx_Md_blobOf 1 := ⟨wd_1345, wd_11, ⟨by decide, by decide⟩, by decide +kernel⟩
theorem cal_Ro_get : am_cal mx_Ro_get 1 := ⟨wd_1338, wd_13, ⟨by decide, by decide⟩, by decide +kernel⟩
theorem cal_Md_cut : am_cal mx_Md_cut 1 := ⟨wd_1438, wd_11, ⟨by decide, by decide⟩, by decide +kernel⟩
theorem cal_Md_start : am_cal mx_Md_start 2 := ⟨wd_1450, wd_11, ⟨by decide, by decide⟩, by decide +kernel⟩
theorem cal_Md_sameb : am_cal mx_Md_sameb 6 := ⟨wd_1453, wd_11, ⟨by decide, by decide⟩, by decide +kernel⟩
theorem cal_Md_sameLine : am_cal mx_Md_sameLine 4 := ⟨wd_1446, wd_11, ⟨by decide, by decide⟩, by decide +kernel⟩
theorem cal_Md_sort : am_cal mx_Md_sort 1 := ⟨wd_1442, wd_11, ⟨by decide, by decide⟩, by decide +kernel⟩
theorem cal_Md_common : am_cal mx_Md_common 4 := ⟨wd_1483, wd_11, ⟨by decide, by decide⟩, by decide +kernel⟩
theorem cal_Md_pair : am_cal mx_Md_pair 1 := ⟨wd_1479, wd_11, ⟨by decide, by decide⟩, by decide +kernel⟩
theorem cal_Ro_adda : am_cal mx_Ro_adda 1 := ⟨wd_1302, wd_13, ⟨by decide, by decide⟩, by decide +kernel⟩
theorem cal_Ro_addb : am_cal mx_Ro_addb 3 := ⟨wd_1319, wd_13, ⟨by decide, by decide⟩, by decide +kernel⟩
theorem cal_Md_ended : am_cal mx_Md_ended 4 := ⟨wd_1498, wd_11, ⟨by decide, by decide⟩, by decide +kernel⟩
theorem cal_Ro_addd : am_cal mx_Ro_addd 1 := ⟨wd_1492, wd_13, ⟨by decide, by decide⟩, by decide +kernel⟩
theorem cal_Md_part : am_cal mx_Md_part 7 := ⟨wd_1487, wd_11, ⟨by decide, by decide⟩, by decide +kernel⟩
theorem cal_Ro_clear : am_cal mx_Ro_clear 0 := ⟨wd_1154, wd_13, ⟨by decide, by decide⟩, by decide +kernel⟩
theorem cal_Ro_addc : am_cal mx_Ro_addc 1 := ⟨wd_1315, wd_13, ⟨by decide, by decide⟩, by decide +kernel⟩
theorem cal_Ro_set : am_cal mx_Ro_set 1 := ⟨wd_1310, wd_13, ⟨by decide, by decide⟩, by decide +kernel⟩
theorem cal_Md_merged : am_cal mx_Md_merged 1 := ⟨wd_1475, wd_11, ⟨by decide, by decide⟩, by decide +kernel⟩
theorem cal_Md_many : am_cal mx_Md_many 2 := ⟨wd_1457, wd_11, ⟨by decide, by decide⟩, by decide +kernel⟩
theorem cal_Md_blobText : am_cal mx_Md_blobText 2 := ⟨wd_1433, wd_11, ⟨by decide, by decide⟩, by decide +kernel⟩
theorem cal_Md_score : am_cal mx_Md_score 2 := ⟨wd_1429, wd_11, ⟨by decide, by decide⟩, by decide +kernel⟩
theorem cal_Ps_length : am_cal mx_Ps_length 1 := ⟨wd_1360, wd_12, ⟨by decide, by decide⟩, by decide +kernel⟩
theorem cal_Ps_comparea : am_cal mx_Ps_comparea 3 := ⟨wd_1425, wd_12, ⟨by decide, by decide⟩, by decide +kernel⟩
theorem cal_Ps_findb : am_cal mx_Ps_findb 2 := ⟨wd_1421, wd_12, ⟨by decide, by decide⟩, by decide +kernel⟩
theorem cal_Md_renames : am_cal mx_Md_renames 4 := ⟨wd_1417, wd_11, ⟨by decide, by decide⟩, by decide +kernel⟩
theorem cal_Md_freshBlob : am_cal mx_Md_freshBlob 2 := ⟨wd_1506, wd_11, ⟨by decide, by decide⟩, by decide +kernel⟩
theorem cal_Ps_add : am_cal mx_Ps_add 3 := ⟨wd_1369, wd_12, ⟨by decide, by decide⟩, by decide +kernel⟩
theorem cal_Md_outcomea : am_cal mx_Md_outcomea 7 := ⟨wd_1466, wd_11, ⟨by decide, by decide⟩, by decide +kernel⟩
theorem cal_Md_decide : am_cal mx_Md_decide 3 := ⟨wd_1461, wd_11, ⟨by decide, by decide⟩, by decide +kernel⟩
theorem cal_Ps_clear : am_cal mx_Ps_clear 0 := ⟨wd_1150, wd_12, ⟨by decide, by decide⟩, by decide +kernel⟩
theorem cal_Ps_take : am_cal mx_Ps_take 2 := ⟨wd_1365, wd_12, ⟨by decide, by decide⟩, by decide +kernel⟩
theorem cal_Ps_under : am_cal mx_Ps_under 3 := ⟨wd_1379, wd_12, ⟨by decide, by decide⟩, by decide +kernel⟩
theorem cal_Ps_fits : am_cal mx_Ps_fits 0 := ⟨wd_1375, wd_12, ⟨by decide, by decide⟩, by decide +kernel⟩
theorem cal_Md_mergeMaps : am_cal mx_Md_mergeMaps 0 := ⟨wd_1413, wd_11, ⟨by decide, by decide⟩, by decide +kernel⟩
theorem cal_Md_isName : am_cal mx_Md_isName 3 := ⟨wd_1341, wd_11, ⟨by decide, by decide⟩, by decide +kernel⟩
theorem cal_Md_isPath : am_cal mx_Md_isPath 1 := ⟨wd_1334, wd_11, ⟨by decide, by decide⟩, by decide +kernel⟩
theorem cal_Md_takeAll : am_cal mx_Md_takeAll 0 := ⟨wd_1328, wd_11, ⟨by decide, by decide⟩, by decide +kernel⟩
theorem cal_Md_bad : am_cal mx_Md_bad 0 := ⟨wd_1294, wd_11, ⟨by decide, by decide⟩, by decide +kernel⟩
theorem cal_Md_refused : am_cal mx_Md_refused 0 := ⟨wd_1384, wd_11, ⟨by decide, by decide⟩, by decide +kernel⟩
theorem cal_Ro_init : am_cal mx_Ro_init 1 := ⟨wd_1111, wd_13, ⟨by decide, by decide⟩, by decide +kernel⟩
theorem cal_Ps_init : am_cal mx_Ps_init 0 := ⟨wd_1105, wd_12, ⟨by decide, by decide⟩, by decide +kernel⟩
theorem cal_Md_init : am_cal mx_Md_init 0 := ⟨wd_1098, wd_11, ⟨by decide, by decide⟩, by decide +kernel⟩
theorem cal_Md_thrown : am_cal mx_Md_thrown 0 := ⟨wd_1286, wd_11, ⟨by decide, by decide⟩, by decide +kernel⟩
theorem cal_Ro_four : am_cal mx_Ro_four 1 := ⟨wd_1298, wd_13, ⟨by decide, by decide⟩, by decide +kernel⟩
theorem cal_Md_feed : am_cal mx_Md_feed 5 := ⟨wd_1290, wd_11, ⟨by decide, by decide⟩, by decide +kernel⟩
theorem cal_Md_end : am_cal mx_Md_end 1 := ⟨wd_1306, wd_11, ⟨by decide, by decide⟩, by decide +kernel⟩
theorem cal_Ps_compareb : am_cal mx_Ps_compareb 2 := ⟨wd_1356, wd_12, ⟨by decide, by decide⟩, by decide +kernel⟩
theorem cal_Md_rebuild : am_cal mx_Md_rebuild 3 := ⟨wd_1352, wd_11, ⟨by decide, by decide⟩, by decide +kernel⟩
theorem cal_Ps_set : am_cal mx_Ps_set 1 := ⟨wd_1389, wd_12, ⟨by decide, by decide⟩, by decide +kernel⟩
theorem cal_Md_put : am_cal mx_Md_put 1 := ⟨wd_1324, wd_11, ⟨by decide, by decide⟩, by decide +kernel⟩
theorem cal_Ps_finda : am_cal mx_Ps_finda 1 := ⟨wd_1399, wd_12, ⟨by decide, by decide⟩, by decide +kernel⟩
theorem cal_Md_drop : am_cal mx_Md_drop 1 := ⟨wd_1395, wd_11, ⟨by decide, by decide⟩, by decide +kernel⟩
theorem cal_Md_copy : am_cal mx_Md_copy 2 := ⟨wd_1404, wd_11, ⟨by decide, by decide⟩, by decide +kernel⟩
theorem cal_Md_merge : am_cal mx_Md_merge 0 := ⟨wd_1408, wd_11, ⟨by decide, by decide⟩, by decide +kernel⟩
theorem cal_Md_seenLength : am_cal mx_Md_seenLength 1 := ⟨wd_1519, wd_11, ⟨by decide, by decide⟩, by decide +kernel⟩
theorem cal_Md_renamed : am_cal mx_Md_renamed 4 := ⟨wd_1510, wd_11, ⟨by decide, by decide⟩, by decide +kernel⟩
theorem cal_Md_outcomeb : am_cal mx_Md_outcomeb 2 := ⟨wd_1514, wd_11, ⟨by decide, by decide⟩, by decide +kernel⟩
theorem cal_Md_letter : am_cal mx_Md_letter 3 := ⟨wd_1523, wd_11, ⟨by decide, by decide⟩, by decide +kernel⟩
theorem cal_Md_blob : am_cal mx_Md_blob 2 := ⟨wd_1527, wd_11, ⟨by decide, by decide⟩, by decide +kernel⟩
theorem cal_Md_count : am_cal mx_Md_count 1 := ⟨wd_1531, wd_11, ⟨by decide, by decide⟩, by decide +kernel⟩
theorem cal_Lw_feed : am_cal mx_Lw_feed 6 := ⟨wd_386, wd_0, ⟨by decide, by decide⟩, by decide +kernel⟩
theorem cal_Lw_end : am_cal mx_Lw_end 3 := ⟨wd_466, wd_0, ⟨by decide, by decide⟩, by decide +kernel⟩
theorem cal_Lw_put : am_cal mx_Lw_put 3 := ⟨wd_508, wd_0, ⟨by decide, by decide⟩, by decide +kernel⟩
theorem cal_Lw_drop : am_cal mx_Lw_drop 2 := ⟨wd_657, wd_0, ⟨by decide, by decide⟩, by decide +kernel⟩
theorem cal_Lw_copy : am_cal mx_Lw_copy 3 := ⟨wd_674, wd_0, ⟨by decide, by decide⟩, by decide +kernel⟩
theorem cal_Lw_merge : am_cal mx_Lw_merge 2 := ⟨wd_685, wd_0, ⟨by decide, by decide⟩, by decide +kernel⟩
theorem cal_Lw_renamed : am_cal mx_Lw_renamed 6 := ⟨wd_1010, wd_0, ⟨by decide, by decide⟩, by decide +kernel⟩
theorem cal_Lw_outcome : am_cal mx_Lw_outcome 4 := ⟨wd_1027, wd_0, ⟨by decide, by decide⟩, by decide +kernel⟩
theorem cal_Lw_letter : am_cal mx_Lw_letter 5 := ⟨wd_1067, wd_0, ⟨by decide, by decide⟩, by decide +kernel⟩
theorem cal_Lw_blob : am_cal mx_Lw_blob 4 := ⟨wd_1087, wd_0, ⟨by decide, by decide⟩, by decide +kernel⟩
end
section
/-! ===== String's members over the three marks ===== -/
abbrev mx_St_coder : am_M := (⟨"java/lang/String", "coder", "()B"⟩, prog_22_method_152_code, 1, some .byte, [], 0, 0)
abbrev mx_St_isLatin1 : am_M := (⟨"java/lang/String", "isLatin1", "()Z"⟩, prog_22_method_154_code, 1, some .boolean, [], 0, 0)
abbrev mx_St_length : am_M := (⟨"java/lang/String", "length", "()I"⟩, prog_22_method_54_code, 1, some .int, [], 1, 20)
abbrev mx_St_check : am_M := (⟨"java/lang/String", "checkIndex", "(II)V"⟩, prog_22_method_155_code, 2, none, [], 1, 22)
abbrev mx_St_lat : am_M := (⟨"java/lang/StringLatin1", "charAt", "([BI)C"⟩, prog_23_method_2_code, 2, some .char, [], 2, 43)
abbrev mx_St_charAt : am_M := (⟨"java/lang/String", "charAt", "(I)C"⟩, prog_22_method_56_code, 2, some .char, [], 3, 64)
theorem cal_St_coder : am_cal mx_St_coder 0 := ⟨wd_905, wd_23, ⟨by decide, by decide⟩, by decide +kernel⟩
theorem cal_St_isLatin1 : am_cal mx_St_isLatin1 0 := ⟨wd_915, wd_23, ⟨by decide, by decide⟩, by decide +kernel⟩
theorem cal_St_length : am_cal mx_St_length 0 := ⟨wd_901, wd_23, ⟨by decide, by decide⟩, by decide +kernel⟩
theorem cal_St_check : am_cal mx_St_check 2 := ⟨wd_921, wd_23, ⟨by decide, by decide⟩, by decide +kernel⟩
theorem cal_St_lat : am_cal mx_St_lat 2 := ⟨wd_918, wd_24, ⟨by decide, by decide⟩, by decide +kernel⟩
theorem cal_St_charAt : am_cal mx_St_charAt 1 := ⟨wd_911, wd_23, ⟨by decide, by decide⟩, by decide +kernel⟩
/-- a mark -/
def am_mk (i : Nat) : Prop := 2 ≤ i ∧ i < 5
theorem m_St_coder (g : am_G) (σ : am_S) (i : Nat) (h : am_mk i) : am_Met g mx_St_coder [.ref i] σ ((some (0 : Int32)).bind (am_kPI σ)) := by
  refine am_Met.of (lv := [some (.ref i)]) (am_cc rfl am_c0) (Nat.le_of_ble_eq_true rfl) rfl (by decide) ?_
  refine aw_compact 38 (hw := wd_906) (kk := ?_)
  rw [show (some (0 : Int32)) = (if (1 : Int32) = 0 then none else some 0) from rfl]
  refine aw_if_eq 10 13 (kt := fun _ => am_W.none) (kf := fun _ => ?_)
  refine aw_aload_n 0 (kk := ?_)
  refine aw_scod 15 i h.1 h.2 (hw := wd_1536) (kk := ?_)
  refine aw_goto 4 14 (kk := ?_)
  exact aw_nretP (v := 0) (t := .byte)
theorem m_St_isLatin1 (g : am_G) (σ : am_S) (i : Nat) (h : am_mk i) : am_Met g mx_St_isLatin1 [.ref i] σ ((some (1 : Int32)).bind (am_kPI σ)) := by
  refine am_Met.of (lv := [some (.ref i)]) (am_cc rfl am_c0) (Nat.le_of_ble_eq_true rfl) rfl (by decide) ?_
  refine aw_compact 38 (hw := wd_906) (kk := ?_)
  rw [show (some (1 : Int32)) = (if (1 : Int32) = 0 then none else some 1) from rfl]
  refine aw_if_eq 14 17 (kt := fun _ => am_W.none) (kf := fun _ => ?_)
  refine aw_aload_n 0 (kk := ?_)
  refine aw_scod 15 i h.1 h.2 (hw := wd_1536) (kk := ?_)
  rw [show (some (1 : Int32)) = (if (0 : Int32) = 0 then some 1 else none) from rfl]
  refine aw_if_ne 7 17 (kt := fun _ => am_W.none) (kf := fun _ => ?_)
  refine aw_iconst 1 (v := 1) (kk := ?_)
  refine aw_goto 4 18 (kk := ?_)
  exact aw_zretPL (by decide)
def f_St_length (σ : am_S) (i : Nat) : Option Int32 := if 2 ≤ i ∧ i < 5 then (am_len σ (i + 3)).bind fun n => some (n >>> (0 &&& 31)) else none
theorem am_mk_len {σ : am_S} {i : Nat} (h : (f_St_length σ i).isSome = true) : am_mk i := by
  unfold f_St_length at h
  split at h
  · rename_i h1; exact h1
  · cases h
theorem m_St_length (g : am_G) (σ : am_S) (i : Nat) : am_Met g mx_St_length [.ref i] σ ((f_St_length σ i).bind (am_kPI σ)) := by
  refine am_Met.of (lv := [some (.ref i)]) (am_cc rfl am_c0) (Nat.le_of_ble_eq_true rfl) rfl (by decide) ?_
  unfold f_St_length
  refine am_W.ite (fun h => ?_) (fun _ => am_W.none)
  refine aw_aload_n 0 (kk := ?_)
  refine aw_sval 9 i h.1 h.2 (hw := wd_1535) (kk := ?_)
  refine aw_len (kk := fun n => ?_)
  refine aw_aload_n 0 (kk := ?_)
  rw [show (some (n >>> (0 &&& 31)) : Option Int32) = (some (0 : Int32)).bind (fun c => some (n >>> (c &&& 31))) from rfl]
  refine ac_PI (st := [.int n]) [.ref i] (fun _ => am_goVS 335 i h.1 h.2 (by decide +kernel) wd_902 cal_St_coder wd_903 wd_904) cal_St_coder ⟨by decide, by decide⟩ (Nat.le_of_ble_eq_true rfl) (m_St_coder g σ i h) (fun c => ?_)
  refine aw_ishr (kk := ?_)
  exact aw_iretP
theorem ag_St_length {g : am_G} {M : am_M} {σ : am_S} {pc : Nat} {st : List Value} (idx : Nat) {i : Nat} (hw : Cond.methodLink (am_name M).cls idx (am_name mx_St_length) ∈ lw_tbl) (hd : decode (am_code M) pc = .ok (.invokevirtual idx, 3) := by decide +kernel) : (f_St_length σ i).isSome = true → am_go g M mx_St_length σ pc [.ref i] st :=
  fun h => am_goVS (As := []) idx i (am_mk_len h).1 (am_mk_len h).2 hd hw cal_St_length wd_899 wd_900
/-! charAt: Preconditions.checkIndex takes a third thing that it doesn't look at -/
def yPre : MethodName := ⟨"jdk/internal/util/Preconditions", "checkIndex", "(IILjava/util/function/BiFunction;)I"⟩
theorem dPre0 : decode prog_28_method_11_code 0 = .ok (.iload_n 0, 1) := by decide +kernel
theorem dPre1 : decode prog_28_method_11_code 1 = .ok (.ifCond .lt 8, 3) := by decide +kernel
theorem dPre4 : decode prog_28_method_11_code 4 = .ok (.iload_n 0, 1) := by decide +kernel
theorem dPre5 : decode prog_28_method_11_code 5 = .ok (.iload_n 1, 1) := by decide +kernel
theorem dPre6 : decode prog_28_method_11_code 6 = .ok (.if_icmp .lt 10, 3) := by decide +kernel
theorem dPre16 : decode prog_28_method_11_code 16 = .ok (.iload_n 0, 1) := by decide +kernel
theorem dPre17 : decode prog_28_method_11_code 17 = .ok (.ireturn, 1) := by decide +kernel
theorem pre_met (l : Launch) (i n : Int32) (v : Value) (hv : v.category = 1) (h0 : ¬ i < 0) (h1 : i < n) : Met l yPre [Cond.code yPre prog_28_method_11_code 3 (some .int)] rm0 (fun a _ => a = ([.int i, .int n, v] : List Value).toArray) (QcRead i) 0 0 (fun _ => False) := by
  refine Met.ofW (cc := prog_28_method_11_code) (maxL := 3) (ret := some .int) (by decide) rfl ?_
  intro p e s m args below meth c s₁ B hml hP
  subst hP
  rw [entry_eq m _ (am_cc rfl (am_cc rfl (am_cc hv am_c0))) 3]
  have hx := B.exec
  have hb := B.bytes
  have hr := B.returns
  refine lv_iload_n (i := 0) (x := i) hx hb dPre0 rfl rfl ?_
  refine lv_if_lt hx hb (tgt := 9) dPre1 rfl (fun h => absurd h h0) fun _ => ?_
  refine lv_iload_n (i := 0) (x := i) hx hb dPre4 rfl rfl ?_
  refine lv_iload_n (i := 1) (x := n) hx hb dPre5 rfl rfl ?_
  refine lv_icmp_lt hx hb (tgt := 16) dPre6 rfl (fun _ => ?_) fun h => absurd h1 h
  refine lv_iload_n (i := 0) (x := i) hx hb dPre16 rfl rfl ?_
  exact W.iret hx hb hr (fun t ht _ => ⟨rfl, ht⟩) (fun q hq => by cases hq) dPre17 B.notSynchronized
theorem dChk5 : decode (am_code mx_St_check) 5 = .ok (.invokestatic 1059, 3) := by decide +kernel
theorem dChk8 : decode (am_code mx_St_check) 8 = .ok (.pop, 1) := by decide +kernel
section CHK
variable {g : am_G} {σ0 σ : am_S} {lv : List (Option Value)} {β : Type} {E : Option β} {k : β → Option (Outcome × am_S)}
theorem aw_chk {i n : Int32} (h0 : ¬ i < 0) (h1 : i < n) (kk : am_W g mx_St_check σ0 9 lv [] σ E k) : am_W g mx_St_check σ0 2 lv [.int n, .int i] σ E k := by
  intro res σ' hE
  obtain ⟨a1, b1, j⟩ := kk res σ' hE
  refine ⟨a1, b1, fun p l e R s m args below meth c H locs ls C hc hs r1 r2 hR hL hll => ?_⟩
  have w := j p l e R s m args below meth c H locs ls C hc hs r1 r2 hR hL hll
  obtain ⟨c1, c2, c3, c4, c5, c6, c7, c8, c9, c10, c11, hW, hK⟩ := C
  obtain ⟨v, hv, hz⟩ := hK.2.2.2.2.2.2.2.2.2.2
  have c9' : 1 ≤ R.frames := c9
  have c10' : 22 ≤ R.locals := c10
  refine am_gstat c1 c2 (am_Zs hW hR hz) c4 (am_word hK hW wd_922 rfl) (by decide +kernel) ?_
  have hcode : (Cond.code yPre prog_28_method_11_code 3 (some .int)).before args s = true := am_word hK hW wd_926 rfl
  have run := W.runS (p := p) (l := l) (e := e) (R := R) (s := s) (m := m) (args := args) (below := below) (meth := meth) (c := c) (H := H) (locs := locs) (cells := σ.1 - σ0.1) (slots := σ.2.1 - σ0.2.1) (Ts := []) (cc := am_code mx_St_check) (nL := 2) (own := "java/lang/String") (index := 1059) (n := 3) (bytes := prog_28_method_11_code) (maxL := 3) (ret := some .int)
    ⟨c1, c2, c3, c4, fun w hw => by cases hw⟩ (pre_met l i n v hv h0 h1)
    ⟨⟨rfl, rfl, by show 0 + 1 ≤ R.frames; omega, by show 8 + (3 + 11) + 0 ≤ R.locals; omega, fun w hw a' U hU => by rw [List.mem_singleton.mp hw]; exact word_at hU (good_of_word rfl) hcode, List.mem_singleton.mpr rfl, hcode, am_word hK hW wd_25 rfl, ⟨by decide, by decide⟩, fun sig h => by
      have h2 : (parseMethodDescriptor yPre.desc).map (fun d => d.parameters.length) = some 3 := by decide +kernel
      rw [h] at h2
      exact (Option.some.inj h2).symm, am_word hK hW wd_924 rfl⟩, am_word hK hW wd_925 rfl⟩
    (As := [.int i, .int n, v]) ⟨fun _ _ _ _ q => q, fun _ _ _ => rfl⟩ (g := F0 m 5 ls [v, .int n, .int i]) (rest := []) rfl rfl (hL.size) rfl (by show 2 * 0 + 0 ≤ 8; omega) dChk5 ⟨by omega, by omega⟩
  refine W.callR (r := i) run ?_
  exact lv_pop (va := .int i) c1 c2 dChk8 rfl w
end CHK
def am_sc (i n : Int32) (σ : am_S) : Option am_S := if ¬ i < 0 ∧ i < n then some σ else none
theorem m_St_check (g : am_G) (σ : am_S) (i n : Int32) : am_Met g mx_St_check [.int i, .int n] σ ((am_sc i n σ).bind am_kV) := by
  refine am_Met.of (lv := [some (.int i), some (.int n)]) (am_cc rfl (am_cc rfl am_c0)) (Nat.le_of_ble_eq_true rfl) rfl (by decide) ?_
  unfold am_sc
  refine am_W.ite (fun h => ?_) (fun _ => am_W.none)
  refine aw_iload_n 0 (kk := ?_)
  refine aw_iload_n 1 (kk := ?_)
  refine aw_chk h.1 h.2 ?_
  exact aw_vret
def am_chr (b : Int32) : Int32 := ((b &&& 255).toUInt32 % 65536).toInt32
def am_chr' (b : Int32) : Option Int32 := if narrow .char (.int (am_chr b)) = .int (am_chr b) then some (am_chr b) else none
def f_St_lat (σ : am_S) (a : Nat) (i : Int32) : Option Int32 := (am_len σ a).bind fun n => if ¬ i < 0 ∧ i < n then (am_lI σ .byte a i).bind am_chr' else none
theorem m_St_lat (g : am_G) (σ : am_S) (a : Nat) (i : Int32) : am_Met g mx_St_lat [.ref a, .int i] σ ((f_St_lat σ a i).bind (am_kPI σ)) := by
  refine am_Met.of (lv := [some (.ref a), some (.int i)]) (am_cc rfl (am_cc rfl am_c0)) (Nat.le_of_ble_eq_true rfl) rfl (by decide) ?_
  unfold f_St_lat
  refine aw_iload_n 1 (kk := ?_)
  refine aw_aload_n 0 (kk := ?_)
  refine aw_len (kk := fun n => ?_)
  refine am_W.ite (fun h => ?_) (fun _ => am_W.none)
  obtain ⟨m1, m2, mt⟩ := m_St_check g σ i n (.returned none) σ (by unfold am_sc; rw [if_pos h]; rfl)
  refine am_W.ret1 (as := [.int i, .int n]) (st := []) (am_goS 9 (by decide +kernel) wd_919 cal_St_check wd_920) cal_St_check ⟨by decide, by decide⟩ (Nat.le_of_ble_eq_true rfl) m1 m2 mt ?_
  refine aw_aload_n 0 (kk := ?_)
  refine aw_iload_n 1 (kk := ?_)
  refine aw_lB (kk := fun b => ?_)
  refine aw_sipush 255 (v := 255) (kk := ?_)
  refine aw_iand (kk := ?_)
  refine aw_i2c (kk := ?_)
  exact aw_nretP
def f_St_charAt (σ : am_S) (i : Nat) (j : Int32) : Option Int32 := if 2 ≤ i ∧ i < 5 then (f_St_lat σ (i + 3) j).bind fun v => if narrow .char (.int v) = .int v then some v else none else none
theorem am_mk_chr {σ : am_S} {i : Nat} {j : Int32} (h : (f_St_charAt σ i j).isSome = true) : am_mk i := by
  unfold f_St_charAt at h
  split at h
  · rename_i h1; exact h1
  · cases h
theorem m_St_charAt (g : am_G) (σ : am_S) (i : Nat) (j : Int32) : am_Met g mx_St_charAt [.ref i, .int j] σ ((f_St_charAt σ i j).bind (am_kPI σ)) := by
  refine am_Met.of (lv := [some (.ref i), some (.int j)]) (am_cc rfl (am_cc rfl am_c0)) (Nat.le_of_ble_eq_true rfl) rfl (by decide) ?_
  unfold f_St_charAt
  refine am_W.ite (fun h => ?_) (fun _ => am_W.none)
  refine aw_aload_n 0 (kk := ?_)
  rw [show ((f_St_lat σ (i + 3) j).bind fun v => if narrow .char (.int v) = .int v then some v else none) = (some (1 : Int32)).bind (fun c => if c = 0 then none else (f_St_lat σ (i + 3) j).bind fun v => if narrow .char (.int v) = .int v then some v else none) from rfl]
  refine ac_PI (st := []) [.ref i] (fun _ => am_goVS 492 i h.1 h.2 (by decide +kernel) wd_912 cal_St_isLatin1 wd_913 wd_914) cal_St_isLatin1 ⟨by decide, by decide⟩ (Nat.le_of_ble_eq_true rfl) (m_St_isLatin1 g σ i h) (fun c => ?_)
  refine aw_if_eq 12 16 (kt := fun _ => am_W.none) (kf := fun _ => ?_)
  refine aw_aload_n 0 (kk := ?_)
  refine aw_sval 9 i h.1 h.2 (hw := wd_1535) (kk := ?_)
  refine aw_iload_n 1 (kk := ?_)
  refine ac_PI (st := []) [.ref (i + 3), .int j] (ag_S 495 wd_916 cal_St_lat wd_917) cal_St_lat ⟨by decide, by decide⟩ (Nat.le_of_ble_eq_true rfl) (m_St_lat g σ (i + 3) j) (fun v => ?_)
  exact aw_nretP
theorem ag_St_charAt {g : am_G} {M : am_M} {σ : am_S} {pc : Nat} {st : List Value} (idx : Nat) {i : Nat} {j : Int32} (hw : Cond.methodLink (am_name M).cls idx (am_name mx_St_charAt) ∈ lw_tbl) (hd : decode (am_code M) pc = .ok (.invokevirtual idx, 3) := by decide +kernel) : (f_St_charAt σ i j).isSome = true → am_go g M mx_St_charAt σ pc [.ref i, .int j] st :=
  fun h => am_goVS (As := [.int j]) idx i (am_mk_chr h).1 (am_mk_chr h).2 hd hw cal_St_charAt wd_909 wd_910
end
